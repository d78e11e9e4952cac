/-! THE CLASS'S VALUES: contracts of Value's methods -/
def uV (g : cG) (i : Nat) (x : cVR) : cG := (va_up g.1 i x, g.2)
def uB (g : cG) (i : Nat) (f : Nat → Int32) : cG := (g.1, va_up g.2.1 i f, g.2.2)
theorem uV_at (g : cG) (i : Nat) (x : cVR) : (uV g i x).1 i = x := va_up_self _ _ _
theorem uV_ne (g : cG) {i j : Nat} (x : cVR) (h : j ≠ i) : (uV g i x).1 j = g.1 j := va_up_ne _ _ h
theorem uV_B (g : cG) (i : Nat) (x : cVR) : (uV g i x).2.1 = g.2.1 := rfl
theorem uV_r (g : cG) (i : Nat) (x : cVR) : (uV g i x).2.2 = g.2.2 := rfl
theorem uV_uV (g : cG) (i : Nat) (x y : cVR) : uV (uV g i x) i y = uV g i y := by unfold uV; rw [bx_uu]
theorem uV_id (g : cG) (i : Nat) : uV g i (g.1 i) = g := by
  unfold uV
  have : va_up g.1 i (g.1 i) = g.1 := by
    funext j
    by_cases h : j = i
    · rw [h, va_up_self]
    · rw [va_up_ne _ _ h]
  rw [this]
theorem uB_at (g : cG) (i : Nat) (f : Nat → Int32) : (uB g i f).2.1 i = f := va_up_self _ _ _
theorem uB_ne (g : cG) {i j : Nat} (f : Nat → Int32) (h : j ≠ i) : (uB g i f).2.1 j = g.2.1 j := va_up_ne _ _ h
theorem uB_V (g : cG) (i : Nat) (f : Nat → Int32) : (uB g i f).1 = g.1 := rfl
theorem uB_r (g : cG) (i : Nat) (f : Nat → Int32) : (uB g i f).2.2 = g.2.2 := rfl
theorem uB_uB (g : cG) (i : Nat) (f h : Nat → Int32) : uB (uB g i f) i h = uB g i h := by unfold uB; rw [bx_uu]
theorem uB_uV (g : cG) (i j : Nat) (x : cVR) (f : Nat → Int32) : uB (uV g i x) j f = uV (uB g j f) i x := rfl
theorem uB_id (g : cG) (i : Nat) : uB g i (g.2.1 i) = g := by
  unfold uB
  have : va_up g.2.1 i (g.2.1 i) = g.2.1 := by
    funext j
    by_cases h : j = i
    · rw [h, va_up_self]
    · rw [va_up_ne _ _ h]
  rw [this]
/-- value and bytes together -/
def uVB (g : cG) (i : Nat) (x : cVR) (f : Nat → Int32) : cG := uV (uB g i f) i x
theorem xV_setError {E : cEnv} (hE : cOk E) (g : cG) (i : Nat) : cSd E mV_setError [qR 1 i] g none (uV g i (0, (g.1 i).2)) := by
  refine qm_meth hE (by decide) rfl rfl (Nat.le_of_ble_eq_true rfl) ?_
  intro p e s m args below meth c Q C _ _
  exact qm_step (sV_setError hE) C 0 9999 100 ([], [], []) ⟨rfl, rfl⟩
theorem xV_setTruth {E : cEnv} (hE : cOk E) (g : cG) (i : Nat) (t : Int32) : cSd E mV_setTruth [qR 1 i, qI t] g none (uV g i (if t = -1 then 0 else 1, t.toInt64, (g.1 i).2.2)) := by
  refine qm_meth hE (by decide) rfl rfl (Nat.le_of_ble_eq_true rfl) ?_
  intro p e s m args below meth c Q C _ _
  by_cases h : t = -1
  · have e1 : uV (uV g i (0, (g.1 i).2)) i (((uV g i (0, (g.1 i).2)).1 i).1, t.toInt64, ((uV g i (0, (g.1 i).2)).1 i).2.2) = uV g i (if t = -1 then 0 else 1, t.toInt64, (g.1 i).2.2) := by rw [uV_uV, uV_at, if_pos h]
    exact qm_step (sV_setTruth hE) C 0 9999 100 ([0], [], []) ⟨h, rfl, e1⟩
  · have e1 : uV (uV g i (1, (g.1 i).2)) i (((uV g i (1, (g.1 i).2)).1 i).1, t.toInt64, ((uV g i (1, (g.1 i).2)).1 i).2.2) = uV g i (if t = -1 then 0 else 1, t.toInt64, (g.1 i).2.2) := by rw [uV_uV, uV_at, if_neg h]
    exact qm_step (sV_setTruth hE) C 0 9999 100 ([1], [], []) ⟨h, rfl, e1⟩
def isW (v : Int64) : Prop := ¬ v < -1000000000000000 ∧ ¬ 1000000000000000 < v
theorem xR_isWhole {E : cEnv} (hE : cOk E) (g : cG) (v : Int64) : (isW v → cSd E mR_isWhole [qL v] g (some (qI 1)) g) ∧ (¬ isW v → cSd E mR_isWhole [qL v] g (some (qI 0)) g) := by
  constructor
  · intro h
    refine qm_meth hE (by decide) rfl rfl (Nat.le_of_ble_eq_true rfl) ?_
    intro p e s m args below meth c Q C _ _
    exact qm_step (sR_isWhole hE) C 0 9999 100 ([0, 0], [], []) ⟨h.1, h.2, Or.inr rfl, rfl, rfl⟩
  · intro h
    refine qm_meth hE (by decide) rfl rfl (Nat.le_of_ble_eq_true rfl) ?_
    intro p e s m args below meth c Q C _ _
    by_cases h1 : v < -1000000000000000
    · exact qm_step (sR_isWhole hE) C 0 9999 100 ([1], [], []) ⟨h1, Or.inl rfl, rfl, rfl⟩
    · have h2 : 1000000000000000 < v := Classical.not_not.mp fun q => h ⟨h1, q⟩
      exact qm_step (sR_isWhole hE) C 0 9999 100 ([0, 1], [], []) ⟨h1, h2, Or.inl rfl, rfl, rfl⟩
theorem xV_setWhole {E : cEnv} (hE : cOk E) (hX : qm_Nx E) (g : cG) (i : Nat) (v : Int64) : (isW v → cSd E mV_setWhole [qR 1 i, qL v] g none (uV g i (2, v, (g.1 i).2.2))) ∧ (¬ isW v → cSd E mV_setWhole [qR 1 i, qL v] g none (uV g i (0, v, (g.1 i).2.2))) := by
  constructor
  · intro h
    refine qm_meth hE (by decide) rfl rfl (Nat.le_of_ble_eq_true rfl) ?_
    intro p e s m args below meth c Q C _ _
    have e1 : uV (uV g i (2, (g.1 i).2)) i (((uV g i (2, (g.1 i).2)).1 i).1, v, ((uV g i (2, (g.1 i).2)).1 i).2.2) = uV g i (2, v, (g.1 i).2.2) := by rw [uV_uV, uV_at]
    exact qm_step (sV_setWhole hE hX) C 0 9999 100 ([0], [], [(some (qI 1), g)]) ⟨(xR_isWhole hE g v).1 h, by decide, rfl, e1⟩
  · intro h
    refine qm_meth hE (by decide) rfl rfl (Nat.le_of_ble_eq_true rfl) ?_
    intro p e s m args below meth c Q C _ _
    have e1 : uV (uV g i (0, (g.1 i).2)) i (((uV g i (0, (g.1 i).2)).1 i).1, v, ((uV g i (0, (g.1 i).2)).1 i).2.2) = uV g i (0, v, (g.1 i).2.2) := by rw [uV_uV, uV_at]
    exact qm_step (sV_setWhole hE hX) C 0 9999 100 ([1], [], [(some (qI 0), g)]) ⟨(xR_isWhole hE g v).2 h, rfl, rfl, e1⟩
theorem xV_setNode {E : cEnv} (hE : cOk E) (g : cG) (i : Nat) (v : Int32) : cSd E mV_setNode [qR 1 i, qI v] g none (uV g i (4, v.toInt64, (g.1 i).2.2)) := by
  refine qm_meth hE (by decide) rfl rfl (Nat.le_of_ble_eq_true rfl) ?_
  intro p e s m args below meth c Q C _ _
  have e1 : uV (uV g i (4, (g.1 i).2)) i (((uV g i (4, (g.1 i).2)).1 i).1, v.toInt64, ((uV g i (4, (g.1 i).2)).1 i).2.2) = uV g i (4, v.toInt64, (g.1 i).2.2) := by rw [uV_uV, uV_at]
  exact qm_step (sV_setNode hE) C 0 9999 100 ([], [], []) ⟨rfl, e1⟩
theorem xV_startText {E : cEnv} (hE : cOk E) (g : cG) (i : Nat) (t : Int32) : cSd E mV_startText [qR 1 i, qI t] g none (uV g i (3, (g.1 i).2.1, t, 0)) := by
  refine qm_meth hE (by decide) rfl rfl (Nat.le_of_ble_eq_true rfl) ?_
  intro p e s m args below meth c Q C _ _
  have e1 : uV (uV (uV g i (3, (g.1 i).2)) i (3, (g.1 i).2.1, t, (g.1 i).2.2.2)) i (3, (g.1 i).2.1, t, 0) = uV g i (3, (g.1 i).2.1, t, 0) := by rw [uV_uV, uV_uV]
  have e2 : uV (uV g i (3, (g.1 i).2)) i (((uV g i (3, (g.1 i).2)).1 i).1, ((uV g i (3, (g.1 i).2)).1 i).2.1, t, ((uV g i (3, (g.1 i).2)).1 i).2.2.2) = uV (uV g i (3, (g.1 i).2)) i (3, (g.1 i).2.1, t, (g.1 i).2.2.2) := by rw [uV_at]
  generalize hz : uV (uV g i (3, (g.1 i).2)) i (3, (g.1 i).2.1, t, (g.1 i).2.2.2) = z at e1 e2
  have e3 : z.1 i = (3, (g.1 i).2.1, t, (g.1 i).2.2.2) := by rw [← hz, uV_at]
  have e4 : uV z i ((z.1 i).1, (z.1 i).2.1, (z.1 i).2.2.1, 0) = uV g i (3, (g.1 i).2.1, t, 0) := by rw [e3]; exact e1
  rw [← e2] at e4
  exact qm_step (sV_startText hE) C 0 9999 100 ([], [], []) ⟨rfl, e4⟩
theorem xV_append_no {E : cEnv} (hE : cOk E) (g : cG) (i : Nat) (b : Int32) (h : ¬ (g.1 i).1 = 3) : cSd E mV_append [qR 1 i, qI b] g none g := by
  refine qm_meth hE (by decide) rfl rfl (Nat.le_of_ble_eq_true rfl) ?_
  intro p e s m args below meth c Q C _ _
  exact qm_step (sV_append hE) C 0 9999 100 ([0], [], []) ⟨h, rfl, rfl⟩
theorem xV_append_full {E : cEnv} (hE : cOk E) (g : cG) (i : Nat) (b : Int32) (h : (g.1 i).1 = 3) (h2 : ¬ (g.1 i).2.2.2 < 24) : cSd E mV_append [qR 1 i, qI b] g none (uV g i (0, (g.1 i).2)) := by
  refine qm_meth hE (by decide) rfl rfl (Nat.le_of_ble_eq_true rfl) ?_
  intro p e s m args below meth c Q C _ _
  exact qm_step (sV_append hE) C 0 9999 100 ([1, 0], [], []) ⟨h, h2, rfl, rfl⟩
theorem xV_append_yes {E : cEnv} (hE : cOk E) (g : cG) (i : Nat) (b : Int32) (n : Nat) (hn : n < 24) (h : (g.1 i).1 = 3) (h2 : (g.1 i).2.2.2 = nI n) : cSd E mV_append [qR 1 i, qI b] g none (uVB g i (3, (g.1 i).2.1, (g.1 i).2.2.1, nI (n + 1)) (upd (g.2.1 i) n b.toInt8.toInt32)) := by
  refine qm_meth hE (by decide) rfl rfl (Nat.le_of_ble_eq_true rfl) ?_
  intro p e s m args below meth c Q C _ _
  have hlt : (g.1 i).2.2.2 < 24 := by rw [h2]; exact nI_lt hn (by decide)
  have hin : vp_in (g.1 i).2.2.2 24 := by rw [h2]; exact vp_in_nI hn (by decide)
  have hb : b.toInt8.toInt32.toInt8.toInt32 = b.toInt8.toInt32 := pk_vb b
  have e1 : uV (uB g i (upd (g.2.1 i) (g.1 i).2.2.2.toNatClampNeg b.toInt8.toInt32.toInt8.toInt32)) i ((g.1 i).1, (g.1 i).2.1, (g.1 i).2.2.1, (g.1 i).2.2.2 + 1) = uVB g i (3, (g.1 i).2.1, (g.1 i).2.2.1, nI (n + 1)) (upd (g.2.1 i) n b.toInt8.toInt32) := by
    rw [hb, h2, nI_clamp (by omega), nI_1, h]; rfl
  exact qm_step (sV_append hE) C 0 9999 100 ([1, 1], [], []) ⟨h, hlt, hin, rfl, e1⟩
theorem xV_at_no {E : cEnv} (hE : cOk E) (g : cG) (i : Nat) (k : Int32) (h : k < 0 ∨ (g.1 i).2.2.2 ≤ k) : cSd E mV_at [qR 1 i, qI k] g (some (qI 0)) g := by
  refine qm_meth hE (by decide) rfl rfl (Nat.le_of_ble_eq_true rfl) ?_
  intro p e s m args below meth c Q C _ _
  by_cases h1 : k < 0
  · exact qm_step (sV_at hE) C 0 9999 100 ([1], [], []) ⟨h1, rfl, rfl⟩
  · exact qm_step (sV_at hE) C 0 9999 100 ([0, 1], [], []) ⟨h1, h.resolve_left h1, rfl, rfl⟩
theorem xV_at_yes {E : cEnv} (hE : cOk E) (g : cG) (i k n : Nat) (hk : k < n) (hn : n ≤ 24) (h2 : (g.1 i).2.2.2 = nI n) : cSd E mV_at [qR 1 i, qI (nI k)] g (some (qI (g.2.1 i k))) g := by
  refine qm_meth hE (by decide) rfl rfl (Nat.le_of_ble_eq_true rfl) ?_
  intro p e s m args below meth c Q C _ _
  have h1 : ¬ nI k < 0 := nI_pos (by omega)
  have h3 : ¬ (g.1 i).2.2.2 ≤ nI k := by rw [h2]; exact nI_ge hk (by omega)
  have h4 : ¬ (24 : Int32) ≤ nI k := nI_ge (b := 24) (by omega) (by decide)
  have h5 : vp_in (nI k) 24 := vp_in_nI (by omega) (by decide)
  have e1 : (some (qI (g.2.1 i (nI k).toNatClampNeg)) : Option qm_v) = some (qI (g.2.1 i k)) := by rw [nI_clamp (by omega)]
  exact qm_step (sV_at hE) C 0 9999 100 ([0, 0, 0], [], []) ⟨h1, h3, h4, h5, e1, rfl⟩
