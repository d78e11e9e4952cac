/-! FunctionRows: the small methods -/
def uC (g : cG) (x : Int32 × Int32) : cG := (g.1, g.2.1, g.2.2.1, x, g.2.2.2.2)
def uT (g : cG) (f : Nat → Int32) : cG := (g.1, g.2.1, g.2.2.1, g.2.2.2.1, f, g.2.2.2.2.2)
def isEx (g : cG) (e : Int32) : Prop := ¬ e < 0 ∧ ¬ g.2.2.2.1.1 ≤ e
theorem xR_isEx {E : cEnv} (hE : cOk E) (g : cG) (x : Int32) : (isEx g x → cSd E mR_isExpression [qR 0 0, qI x] g (some (qI 1)) g) ∧ (¬ isEx g x → cSd E mR_isExpression [qR 0 0, qI x] g (some (qI 0)) g) := by
  constructor
  · intro h
    refine qm_meth hE (by decide) rfl rfl (Nat.le_of_ble_eq_true rfl) ?_
    intro p e st mm args below meth c Q C _ _
    exact qm_step (sR_isExpression hE) C 0 9999 100 ([0, 0], [], []) ⟨h.1, h.2, Or.inr rfl, rfl, rfl⟩
  · intro h
    refine qm_meth hE (by decide) rfl rfl (Nat.le_of_ble_eq_true rfl) ?_
    intro p e st mm args below meth c Q C _ _
    by_cases h1 : x < 0
    · exact qm_step (sR_isExpression hE) C 0 9999 100 ([1], [], []) ⟨h1, Or.inl rfl, rfl, rfl⟩
    · have h2 : g.2.2.2.1.1 ≤ x := Classical.not_not.mp fun q => h ⟨h1, q⟩
      exact qm_step (sR_isExpression hE) C 0 9999 100 ([0, 1], [], []) ⟨h1, h2, Or.inl rfl, rfl, rfl⟩
theorem xR_isVar {E : cEnv} (hE : cOk E) (g : cG) (x : Int32) : (∀ v : Nat, v < 8 → x = nI v → cSd E mR_isVariable [qI x] g (some (qI 1)) g) ∧ (x < 0 ∨ 8 ≤ x → cSd E mR_isVariable [qI x] g (some (qI 0)) g) := by
  constructor
  · intro v hv hx
    subst hx
    refine qm_meth hE (by decide) rfl rfl (Nat.le_of_ble_eq_true rfl) ?_
    intro p e st mm args below meth c Q C _ _
    exact qm_step (sR_isVariable hE) C 0 9999 100 ([0, 0], [], []) ⟨nI_pos (by omega), nI_ge (b := 8) hv (by decide), Or.inr rfl, rfl, rfl⟩
  · intro h
    refine qm_meth hE (by decide) rfl rfl (Nat.le_of_ble_eq_true rfl) ?_
    intro p e st mm args below meth c Q C _ _
    by_cases h1 : x < 0
    · exact qm_step (sR_isVariable hE) C 0 9999 100 ([1], [], []) ⟨h1, Or.inl rfl, rfl, rfl⟩
    · exact qm_step (sR_isVariable hE) C 0 9999 100 ([0, 1], [], []) ⟨h1, h.resolve_left h1, Or.inl rfl, rfl, rfl⟩
def byI (x : Int64) (k : Int32) : Int32 := (x.toUInt64 >>> ((8 * k).toInt64.toUInt64 &&& Int64.toUInt64 63)).toInt64.toInt32 &&& 255
theorem xR_byteOf {E : cEnv} (hE : cOk E) (g : cG) (x : Int64) (k : Int32) : cSd E mR_byteOf [qL x, qI k] g (some (qI (byI x k))) g := by
  refine qm_meth hE (by decide) rfl rfl (Nat.le_of_ble_eq_true rfl) ?_
  intro p e st mm args below meth c Q C _ _
  exact qm_step (sR_byteOf hE) C 0 9999 100 ([], [], []) ⟨rfl, rfl⟩
def laI (k : Int32) : Int32 := if k = 0 then 7 else if k = 1 then 1 else if k = 4 then 999 else -1
theorem xR_lastLeaf {E : cEnv} (hE : cOk E) (g : cG) (k : Int32) : cSd E mR_lastLeaf [qI k] g (some (qI (laI k))) g := by
  refine qm_meth hE (by decide) rfl rfl (Nat.le_of_ble_eq_true rfl) ?_
  intro p e st mm args below meth c Q C _ _
  unfold laI at C
  by_cases h1 : k = 0
  · rw [if_pos h1] at C
    exact qm_step (sR_lastLeaf hE) C 0 9999 100 ([0], [], []) ⟨h1, rfl, rfl⟩
  rw [if_neg h1] at C
  by_cases h2 : k = 1
  · rw [if_pos h2] at C
    exact qm_step (sR_lastLeaf hE) C 0 9999 100 ([1, 0], [], []) ⟨h1, h2, rfl, rfl⟩
  rw [if_neg h2] at C
  by_cases h3 : k = 4
  · rw [if_pos h3] at C
    exact qm_step (sR_lastLeaf hE) C 0 9999 100 ([1, 1, 0], [], []) ⟨h1, h2, h3, rfl, rfl⟩
  · rw [if_neg h3] at C
    exact qm_step (sR_lastLeaf hE) C 0 9999 100 ([1, 1, 1], [], []) ⟨h1, h2, h3, rfl, rfl⟩
def nuI (g : cG) : Int64 := if (g.1 88).1 = 0 then -2 else if (g.1 88).1 = 3 then (g.1 88).2.2.2.toInt64 else (g.1 88).2.1
theorem xR_number {E : cEnv} (hE : cOk E) (g : cG) : cSd E mR_number [qR 0 0] g (some (qL (nuI g))) g := by
  refine qm_meth hE (by decide) rfl rfl (Nat.le_of_ble_eq_true rfl) ?_
  intro p e st mm args below meth c Q C _ _
  unfold nuI at C
  by_cases h1 : (g.1 88).1 = 0
  · rw [if_pos h1] at C
    exact qm_step (sR_number hE) C 0 9999 100 ([0], [], []) ⟨h1, rfl, rfl⟩
  rw [if_neg h1] at C
  by_cases h2 : (g.1 88).1 = 3
  · rw [if_pos h2] at C
    exact qm_step (sR_number hE) C 0 9999 100 ([1, 0], [], []) ⟨h1, h2, rfl, rfl⟩
  · rw [if_neg h2] at C
    exact qm_step (sR_number hE) C 0 9999 100 ([1, 1], [], []) ⟨h1, h2, rfl, rfl⟩
theorem xR_tag {E : cEnv} (hE : cOk E) (g : cG) : cSd E mR_tag [qR 0 0] g (some (qI (if (g.1 88).1 = 3 then (g.1 88).2.2.1 else -2))) g := by
  refine qm_meth hE (by decide) rfl rfl (Nat.le_of_ble_eq_true rfl) ?_
  intro p e st mm args below meth c Q C _ _
  by_cases h1 : (g.1 88).1 = 3
  · rw [if_pos h1] at C
    exact qm_step (sR_tag hE) C 0 9999 100 ([0], [], []) ⟨h1, rfl, rfl⟩
  · rw [if_neg h1] at C
    exact qm_step (sR_tag hE) C 0 9999 100 ([1], [], []) ⟨h1, rfl, rfl⟩
theorem xR_letter_no {E : cEnv} (hE : cOk E) (g : cG) (x : Int32) (h : ¬ (g.1 88).1 = 3 ∨ x < 0 ∨ ¬ x < (g.1 88).2.2.2) : cSd E mR_letter [qR 0 0, qI x] g (some (qI (-2))) g := by
  refine qm_meth hE (by decide) rfl rfl (Nat.le_of_ble_eq_true rfl) ?_
  intro p e st mm args below meth c Q C _ _
  by_cases h1 : (g.1 88).1 = 3
  · have h := h.resolve_left (fun z => z h1)
    by_cases h2 : x < 0
    · exact qm_step (sR_letter hE) C 0 9999 100 ([0, 1], [], []) ⟨h1, h2, rfl, rfl⟩
    · exact qm_step (sR_letter hE) C 0 9999 100 ([0, 0, 0], [], []) ⟨h1, h2, h.resolve_left h2, rfl, rfl⟩
  · exact qm_step (sR_letter hE) C 0 9999 100 ([1], [], []) ⟨h1, rfl, rfl⟩
theorem xR_letter_yes {E : cEnv} (hE : cOk E) (g : cG) (k n : Nat) (h1 : (g.1 88).1 = 3) (hn : n ≤ 24) (hl : (g.1 88).2.2.2 = nI n) (hk : k < n) : cSd E mR_letter [qR 0 0, qI (nI k)] g (some (qI (g.2.1 88 k))) g := by
  refine qm_meth hE (by decide) rfl rfl (Nat.le_of_ble_eq_true rfl) ?_
  intro p e st mm args below meth c Q C _ _
  exact qm_step (sR_letter hE) C 0 9999 100 ([0, 0, 1], [], [(_, g)]) ⟨h1, nI_pos (by omega), by rw [hl]; exact nI_lt hk (by omega), xV_at_yes hE g 88 k n hk hn hl, rfl, rfl⟩
theorem xR_give_bad {E : cEnv} (hE : cOk E) (g : cG) (x : Int32) (h : x < 0 ∨ 8 ≤ x) : cSd E mR_give [qR 0 0, qI x] g (some (qI (-1))) g := by
  refine qm_meth hE (by decide) rfl rfl (Nat.le_of_ble_eq_true rfl) ?_
  intro p e st mm args below meth c Q C _ _
  exact qm_step (sR_give hE) C 0 9999 100 ([0], [], [(some (qI 0), g)]) ⟨(xR_isVar hE g x).2 h, rfl, rfl, rfl⟩
theorem xR_give_no {E : cEnv} (hE : cOk E) (g : cG) (v : Nat) (hv : v < 8) (h : (g.1 88).1 = 0) : cSd E mR_give [qR 0 0, qI (nI v)] g (some (qI (-2))) g := by
  refine qm_meth hE (by decide) rfl rfl (Nat.le_of_ble_eq_true rfl) ?_
  intro p e st mm args below meth c Q C _ _
  exact qm_step (sR_give hE) C 0 9999 100 ([1, 0], [], [(some (qI 1), g)]) ⟨(xR_isVar hE g _).1 v hv rfl, by decide, h, rfl, rfl⟩
theorem xR_give_yes {E : cEnv} (hE : cOk E) (g : cG) (v n : Nat) (hv : v < 8) (h : ¬ (g.1 88).1 = 0) (hn : n ≤ 24) (hl : (g.1 88).1 = 3 → (g.1 88).2.2.2 = nI n) : cSd E mR_give [qR 0 0, qI (nI v)] g (some (qI 1)) (cpS g (80 + v) 88 n) := by
  refine qm_meth hE (by decide) rfl rfl (Nat.le_of_ble_eq_true rfl) ?_
  intro p e st mm args below meth c Q C _ _
  have hin : vp_in (nI v) 8 := vp_in_nI hv (by decide)
  have hcp := xV_copy hE g (80 + v) 88 n (by omega) hn hl
  have hcl : (nI v).toNatClampNeg = v := nI_clamp (by omega)
  rw [← hcl] at hcp
  have e1 : cpS g (80 + (nI v).toNatClampNeg) 88 n = cpS g (80 + v) 88 n := by rw [hcl]
  exact qm_step (sR_give hE) C 0 9999 100 ([1, 1], [], [(some (qI 1), g), (none, cpS g (80 + (nI v).toNatClampNeg) 88 n)]) ⟨(xR_isVar hE g _).1 v hv rfl, by decide, h, hin, hcp, rfl, e1⟩
theorem xR_drop_bad {E : cEnv} (hE : cOk E) (g : cG) (x : Int32) (h : x < 0 ∨ 8 ≤ x) : cSd E mR_drop [qR 0 0, qI x] g (some (qI (-1))) g := by
  refine qm_meth hE (by decide) rfl rfl (Nat.le_of_ble_eq_true rfl) ?_
  intro p e st mm args below meth c Q C _ _
  exact qm_step (sR_drop hE) C 0 9999 100 ([0], [], [(some (qI 0), g)]) ⟨(xR_isVar hE g x).2 h, rfl, rfl, rfl⟩
theorem xR_drop {E : cEnv} (hE : cOk E) (g : cG) (v : Nat) (hv : v < 8) : ((g.1 (80 + v)).1 = 0 → cSd E mR_drop [qR 0 0, qI (nI v)] g (some (qI 0)) g) ∧ (¬ (g.1 (80 + v)).1 = 0 → cSd E mR_drop [qR 0 0, qI (nI v)] g (some (qI 1)) (seS g (80 + v))) := by
  have hin : vp_in (nI v) 8 := vp_in_nI hv (by decide)
  have hcl : (nI v).toNatClampNeg = v := nI_clamp (by omega)
  constructor
  · intro h
    refine qm_meth hE (by decide) rfl rfl (Nat.le_of_ble_eq_true rfl) ?_
    intro p e st mm args below meth c Q C _ _
    rw [← hcl] at h
    exact qm_step (sR_drop hE) C 0 9999 100 ([1, 0], [], [(some (qI 1), g)]) ⟨(xR_isVar hE g _).1 v hv rfl, by decide, hin, h, rfl, rfl⟩
  · intro h
    refine qm_meth hE (by decide) rfl rfl (Nat.le_of_ble_eq_true rfl) ?_
    intro p e st mm args below meth c Q C _ _
    have e1 : seS g (80 + (nI v).toNatClampNeg) = seS g (80 + v) := by rw [hcl]
    rw [← hcl] at h
    exact qm_step (sR_drop hE) C 0 9999 100 ([1, 1], [], [(some (qI 1), g), (none, _)]) ⟨(xR_isVar hE g _).1 v hv rfl, by decide, hin, h, hin, xV_setError hE g _, rfl, e1⟩
theorem xR_uses {E : cEnv} (hE : cOk E) (g : cG) : (∀ x, ¬ isEx g x → cSd E mR_uses [qR 0 0, qI x] g (some (qI (-1))) g) ∧ (∀ k, k < 80 → isEx g (nI k) → cSd E mR_uses [qR 0 0, qI (nI k)] g (some (qI (g.2.2.1 k).2.2.2.2.2.2.1)) g) := by
  constructor
  · intro x h
    refine qm_meth hE (by decide) rfl rfl (Nat.le_of_ble_eq_true rfl) ?_
    intro p e st mm args below meth c Q C _ _
    exact qm_step (sR_uses hE) C 0 9999 100 ([1], [], [(some (qI 0), g)]) ⟨(xR_isEx hE g x).2 h, rfl, rfl, rfl⟩
  · intro k hk h
    refine qm_meth hE (by decide) rfl rfl (Nat.le_of_ble_eq_true rfl) ?_
    intro p e st mm args below meth c Q C _ _
    have e1 : (some (qI (g.2.2.1 (nI k).toNatClampNeg).2.2.2.2.2.2.1) : Option qm_v) = some (qI (g.2.2.1 k).2.2.2.2.2.2.1) := by rw [nI_clamp (by omega)]
    have hin : vp_in (nI k) 80 := vp_in_nI hk (by decide)
    exact qm_step (sR_uses hE) C 0 9999 100 ([0], [], [(some (qI 1), g)]) ⟨(xR_isEx hE g _).1 h, by decide, hin, e1, rfl⟩
theorem xR_depth {E : cEnv} (hE : cOk E) (g : cG) : (∀ x, ¬ isEx g x → cSd E mR_depth [qR 0 0, qI x] g (some (qI (-1))) g) ∧ (∀ k, k < 80 → isEx g (nI k) → cSd E mR_depth [qR 0 0, qI (nI k)] g (some (qI (g.2.2.1 k).2.2.2.2.2.2.2.1)) g) := by
  constructor
  · intro x h
    refine qm_meth hE (by decide) rfl rfl (Nat.le_of_ble_eq_true rfl) ?_
    intro p e st mm args below meth c Q C _ _
    exact qm_step (sR_depth hE) C 0 9999 100 ([1], [], [(some (qI 0), g)]) ⟨(xR_isEx hE g x).2 h, rfl, rfl, rfl⟩
  · intro k hk h
    refine qm_meth hE (by decide) rfl rfl (Nat.le_of_ble_eq_true rfl) ?_
    intro p e st mm args below meth c Q C _ _
    have e1 : (some (qI (g.2.2.1 (nI k).toNatClampNeg).2.2.2.2.2.2.2.1) : Option qm_v) = some (qI (g.2.2.1 k).2.2.2.2.2.2.2.1) := by rw [nI_clamp (by omega)]
    have hin : vp_in (nI k) 80 := vp_in_nI hk (by decide)
    exact qm_step (sR_depth hE) C 0 9999 100 ([0], [], [(some (qI 1), g)]) ⟨(xR_isEx hE g _).1 h, by decide, hin, e1, rfl⟩
theorem xR_clear {E : cEnv} (hE : cOk E) (g : cG) : cSd E mR_clear [qR 0 0] g (some (qI g.2.2.2.1.1)) (uC g (0, g.2.2.2.1.2)) := by
  refine qm_meth hE (by decide) rfl rfl (Nat.le_of_ble_eq_true rfl) ?_
  intro p e st mm args below meth c Q C _ _
  exact qm_step (sR_clear hE) C 0 9999 100 ([], [], []) ⟨rfl, rfl⟩
theorem xR_size {E : cEnv} (hE : cOk E) (g : cG) : cSd E mR_size [qR 0 0] g (some (qI g.2.2.2.1.1)) g := by
  refine qm_meth hE (by decide) rfl rfl (Nat.le_of_ble_eq_true rfl) ?_
  intro p e st mm args below meth c Q C _ _
  exact qm_step (sR_size hE) C 0 9999 100 ([], [], []) ⟨rfl, rfl⟩
