/-! Expression: becomeCall, isCall, wantOperands, given -/
def lvC (g : cG) (a b d : Nat) : Int32 := 1 + (if (g.2.2.1 a).2.2.2.2.2.2.2.1 < (if (g.2.2.1 b).2.2.2.2.2.2.2.1 < (g.2.2.1 d).2.2.2.2.2.2.2.1 then (g.2.2.1 d).2.2.2.2.2.2.2.1 else (g.2.2.1 b).2.2.2.2.2.2.2.1) then (if (g.2.2.1 b).2.2.2.2.2.2.2.1 < (g.2.2.1 d).2.2.2.2.2.2.2.1 then (g.2.2.1 d).2.2.2.2.2.2.2.1 else (g.2.2.1 b).2.2.2.2.2.2.2.1) else (g.2.2.1 a).2.2.2.2.2.2.2.1)
theorem xE_becomeCall {E : cEnv} (hE : cOk E) (g : cG) (i a b d : Nat) (op : Int32) (hai : a ≠ i) (hbi : b ≠ i) (hdi : d ≠ i) : cSd E mE_becomeCall [qR 3 i, qI op, qR 3 a, qR 3 b, qR 3 d] g none (uE g i (2, i, op, some a, some b, some d, (g.2.2.1 a).2.2.2.2.2.2.1 ||| (g.2.2.1 b).2.2.2.2.2.2.1 ||| (g.2.2.1 d).2.2.2.2.2.2.1, lvC g a b d, (g.2.2.1 i).2.2.2.2.2.2.2.2)) := by
  refine qm_meth hE (by decide) rfl rfl (Nat.le_of_ble_eq_true rfl) ?_
  intro p e st mm args below meth c Q C _ _
  have e1 : ∀ z : cG, z = uE g i (2, (g.2.2.1 i).2) → uE z i ((z.2.2.1 i).1, i, (z.2.2.1 i).2.2) = uE g i (2, i, (g.2.2.1 i).2.2) := by
    intro z hz; subst hz; rw [uE_uE, uE_at]
  have e2 : ∀ z : cG, z = uE g i (2, i, (g.2.2.1 i).2.2) → uE z i ((z.2.2.1 i).1, (z.2.2.1 i).2.1, op, (z.2.2.1 i).2.2.2) = uE g i (2, i, op, (g.2.2.1 i).2.2.2) := by
    intro z hz; subst hz; rw [uE_uE, uE_at]
  have e3 : ∀ z : cG, z = uE g i (2, i, op, (g.2.2.1 i).2.2.2) → uE z i ((z.2.2.1 i).1, (z.2.2.1 i).2.1, (z.2.2.1 i).2.2.1, some a, (z.2.2.1 i).2.2.2.2) = uE g i (2, i, op, some a, (g.2.2.1 i).2.2.2.2) := by
    intro z hz; subst hz; rw [uE_uE, uE_at]
  have e4 : ∀ z : cG, z = uE g i (2, i, op, some a, (g.2.2.1 i).2.2.2.2) → uE z i ((z.2.2.1 i).1, (z.2.2.1 i).2.1, (z.2.2.1 i).2.2.1, (z.2.2.1 i).2.2.2.1, some b, (z.2.2.1 i).2.2.2.2.2) = uE g i (2, i, op, some a, some b, (g.2.2.1 i).2.2.2.2.2) := by
    intro z hz; subst hz; rw [uE_uE, uE_at]
  have e5 : ∀ z : cG, z = uE g i (2, i, op, some a, some b, (g.2.2.1 i).2.2.2.2.2) → uE z i ((z.2.2.1 i).1, (z.2.2.1 i).2.1, (z.2.2.1 i).2.2.1, (z.2.2.1 i).2.2.2.1, (z.2.2.1 i).2.2.2.2.1, some d, (z.2.2.1 i).2.2.2.2.2.2) = uE g i (2, i, op, some a, some b, some d, (g.2.2.1 i).2.2.2.2.2.2) := by
    intro z hz; subst hz; rw [uE_uE, uE_at]
  have e6 : ∀ z : cG, z = uE g i (2, i, op, some a, some b, some d, (g.2.2.1 i).2.2.2.2.2.2) → uE z i ((z.2.2.1 i).1, (z.2.2.1 i).2.1, (z.2.2.1 i).2.2.1, (z.2.2.1 i).2.2.2.1, (z.2.2.1 i).2.2.2.2.1, (z.2.2.1 i).2.2.2.2.2.1, (z.2.2.1 a).2.2.2.2.2.2.1 ||| (z.2.2.1 b).2.2.2.2.2.2.1 ||| (z.2.2.1 d).2.2.2.2.2.2.1, (z.2.2.1 i).2.2.2.2.2.2.2) = uE g i (2, i, op, some a, some b, some d, (g.2.2.1 a).2.2.2.2.2.2.1 ||| (g.2.2.1 b).2.2.2.2.2.2.1 ||| (g.2.2.1 d).2.2.2.2.2.2.1, (g.2.2.1 i).2.2.2.2.2.2.2) := by
    intro z hz; subst hz; rw [uE_uE, uE_at, uE_ne _ _ hai, uE_ne _ _ hbi, uE_ne _ _ hdi]
  have e7 : ∀ z : cG, z = uE g i (2, i, op, some a, some b, some d, (g.2.2.1 a).2.2.2.2.2.2.1 ||| (g.2.2.1 b).2.2.2.2.2.2.1 ||| (g.2.2.1 d).2.2.2.2.2.2.1, (g.2.2.1 i).2.2.2.2.2.2.2) → uE z i ((z.2.2.1 i).1, (z.2.2.1 i).2.1, (z.2.2.1 i).2.2.1, (z.2.2.1 i).2.2.2.1, (z.2.2.1 i).2.2.2.2.1, (z.2.2.1 i).2.2.2.2.2.1, (z.2.2.1 i).2.2.2.2.2.2.1, 1 + (if (z.2.2.1 a).2.2.2.2.2.2.2.1 < (if (z.2.2.1 b).2.2.2.2.2.2.2.1 < (z.2.2.1 d).2.2.2.2.2.2.2.1 then (z.2.2.1 d).2.2.2.2.2.2.2.1 else (z.2.2.1 b).2.2.2.2.2.2.2.1) then (if (z.2.2.1 b).2.2.2.2.2.2.2.1 < (z.2.2.1 d).2.2.2.2.2.2.2.1 then (z.2.2.1 d).2.2.2.2.2.2.2.1 else (z.2.2.1 b).2.2.2.2.2.2.2.1) else (z.2.2.1 a).2.2.2.2.2.2.2.1), (z.2.2.1 i).2.2.2.2.2.2.2.2) = uE g i (2, i, op, some a, some b, some d, (g.2.2.1 a).2.2.2.2.2.2.1 ||| (g.2.2.1 b).2.2.2.2.2.2.1 ||| (g.2.2.1 d).2.2.2.2.2.2.1, 1 + (if (g.2.2.1 a).2.2.2.2.2.2.2.1 < (if (g.2.2.1 b).2.2.2.2.2.2.2.1 < (g.2.2.1 d).2.2.2.2.2.2.2.1 then (g.2.2.1 d).2.2.2.2.2.2.2.1 else (g.2.2.1 b).2.2.2.2.2.2.2.1) then (if (g.2.2.1 b).2.2.2.2.2.2.2.1 < (g.2.2.1 d).2.2.2.2.2.2.2.1 then (g.2.2.1 d).2.2.2.2.2.2.2.1 else (g.2.2.1 b).2.2.2.2.2.2.2.1) else (g.2.2.1 a).2.2.2.2.2.2.2.1), (g.2.2.1 i).2.2.2.2.2.2.2.2) := by
    intro z hz; subst hz; rw [uE_uE, uE_at, uE_ne _ _ hai, uE_ne _ _ hbi, uE_ne _ _ hdi]
  exact qm_step (sE_becomeCall hE) C 0 9999 100 ([], [], []) ⟨rfl, (e7 _ (e6 _ (e5 _ (e4 _ (e3 _ (e2 _ (e1 _ rfl)))))))⟩
theorem xE_isCall {E : cEnv} (hE : cOk E) (g : cG) (i : Nat) : ((g.2.2.1 i).1 = 2 → ∀ a b d : Nat, (g.2.2.1 i).2.2.2.1 = some a → (g.2.2.1 i).2.2.2.2.1 = some b → (g.2.2.1 i).2.2.2.2.2.1 = some d → cSd E mE_isCall [qR 3 i] g (some (qI 1)) g) ∧ (¬ (g.2.2.1 i).1 = 2 → cSd E mE_isCall [qR 3 i] g (some (qI 0)) g) := by
  constructor
  · intro h a b d ha hb hd
    refine qm_meth hE (by decide) rfl rfl (Nat.le_of_ble_eq_true rfl) ?_
    intro p e st mm args below meth c Q C _ _
    have h4 : rdE4 g i = some (3, a) := by unfold rdE4 cRf; rw [ha]; rfl
    have h5 : rdE5 g i = some (3, b) := by unfold rdE5 cRf; rw [hb]; rfl
    have h6 : rdE6 g i = some (3, d) := by unfold rdE6 cRf; rw [hd]; rfl
    exact qm_step (sE_isCall hE) C 0 9999 100 ([0, 0, 0, 0], [some (3, a), some (3, b), some (3, d)], []) ⟨h, h4, trivial, h5, trivial, h6, trivial, Or.inr rfl, rfl, rfl⟩
  · intro h
    refine qm_meth hE (by decide) rfl rfl (Nat.le_of_ble_eq_true rfl) ?_
    intro p e st mm args below meth c Q C _ _
    exact qm_step (sE_isCall hE) C 0 9999 100 ([1], [], []) ⟨h, Or.inl rfl, rfl, rfl⟩
/-- expression k is wanted -/
def wnE (g : cG) (k : Nat) (x : Int32) : cG := uE g k ((g.2.2.1 k).1, (g.2.2.1 k).2.1, (g.2.2.1 k).2.2.1, (g.2.2.1 k).2.2.2.1, (g.2.2.1 k).2.2.2.2.1, (g.2.2.1 k).2.2.2.2.2.1, (g.2.2.1 k).2.2.2.2.2.2.1, (g.2.2.1 k).2.2.2.2.2.2.2.1, x)
theorem wnE_ne (g : cG) {k j : Nat} (x : Int32) (h : j ≠ k) : (wnE g k x).2.2.1 j = g.2.2.1 j := uE_ne _ _ h
theorem xE_want_no {E : cEnv} (hE : cOk E) (g : cG) (i : Nat) (h : ¬ (g.2.2.1 i).1 = 2) : cSd E mE_wantOperands [qR 3 i] g none g := by
  refine qm_meth hE (by decide) rfl rfl (Nat.le_of_ble_eq_true rfl) ?_
  intro p e st mm args below meth c Q C _ _
  exact qm_step (sE_wantOperands hE) C 0 9999 100 ([1], [], [(some (qI 0), g)]) ⟨(xE_isCall hE g i).2 h, rfl, rfl, rfl⟩
theorem xE_want_yes {E : cEnv} (hE : cOk E) (g : cG) (i a b d : Nat) (h : (g.2.2.1 i).1 = 2) (ha : (g.2.2.1 i).2.2.2.1 = some a) (hb : (g.2.2.1 i).2.2.2.2.1 = some b) (hd : (g.2.2.1 i).2.2.2.2.2.1 = some d) (hai : i ≠ a) (hbi : i ≠ b) : cSd E mE_wantOperands [qR 3 i] g none (wnE (wnE (wnE g a 1) b 1) d 1) := by
  refine qm_meth hE (by decide) rfl rfl (Nat.le_of_ble_eq_true rfl) ?_
  intro p e st mm args below meth c Q C _ _
  have h4 : rdE4 g i = some (3, a) := by unfold rdE4 cRf; rw [ha]; rfl
  have h5 : rdE5 (wnE g a 1) i = some (3, b) := by unfold rdE5 cRf; rw [wnE_ne _ _ hai, hb]; rfl
  have h6 : rdE6 (wnE (wnE g a 1) b 1) i = some (3, d) := by unfold rdE6 cRf; rw [wnE_ne _ _ hbi, wnE_ne _ _ hai, hd]; rfl
  exact qm_step (sE_wantOperands hE) C 0 9999 100 ([0], [some (3, a), some (3, b), some (3, d)], [(some (qI 1), g)]) ⟨(xE_isCall hE g i).1 h a b d ha hb hd, by decide, h4, Or.inr rfl, h5, Or.inr rfl, h6, Or.inr rfl, rfl, rfl⟩
def gvI (g : cG) (i : Nat) : Int32 := if (g.2.2.1 i).1 = 1 then (if (g.1 (g.2.2.1 i).2.1).1 = 0 then 0 else 1) else -1
theorem xE_given {E : cEnv} (hE : cOk E) (g : cG) (i : Nat) : cSd E mE_given [qR 3 i] g (some (qI (gvI g i))) g := by
  refine qm_meth hE (by decide) rfl rfl (Nat.le_of_ble_eq_true rfl) ?_
  intro p e st mm args below meth c Q C _ _
  have t1 := xU_truth hE g 1
  have t0 := xU_truth hE g 0
  rw [show tB 1 = 1 from by decide] at t1
  rw [show tB 0 = 0 from by decide] at t0
  unfold gvI at C
  by_cases h1 : (g.2.2.1 i).1 = 1
  · rw [if_pos h1] at C
    by_cases h2 : (g.1 (g.2.2.1 i).2.1).1 = 0
    · rw [if_pos h2] at C
      exact qm_step (sE_given hE) C 0 9999 100 ([0, 1], [], [(some (qI 0), g)]) ⟨h1, h2, t0, rfl, rfl⟩
    · rw [if_neg h2] at C
      exact qm_step (sE_given hE) C 0 9999 100 ([0, 0], [], [(some (qI 1), g)]) ⟨h1, h2, t1, rfl, rfl⟩
  · rw [if_neg h1] at C
    exact qm_step (sE_given hE) C 0 9999 100 ([1], [], []) ⟨h1, rfl, rfl⟩
