/-! Truths, Wholes, isPlain -/
def tB (x : Int32) : Int32 := if x = 0 then 0 else 1
theorem xU_truth {E : cEnv} (hE : cOk E) (g : cG) (x : Int32) : cSd E mU_truth [qI x] g (some (qI (tB x))) g := by
  refine qm_meth hE (by decide) rfl rfl (Nat.le_of_ble_eq_true rfl) ?_
  intro p e st mm args below meth c Q C _ _
  unfold tB at C
  by_cases h : x = 0
  · rw [if_pos h] at C
    exact qm_step (sU_truth hE) C 0 9999 100 ([1], [], []) ⟨h, rfl, rfl⟩
  · rw [if_neg h] at C
    exact qm_step (sU_truth hE) C 0 9999 100 ([0], [], []) ⟨h, rfl, rfl⟩
def tOf (x : cVR) : Int32 := if x.1 = 1 ∨ x.1 = 2 then (if x.2.1 = 0 then 0 else 1) else if x.1 = 3 then (if x.2.2.2 ≤ 0 then 0 else 1) else -1
theorem xU_of {E : cEnv} (hE : cOk E) (g : cG) (i : Nat) : cSd E mU_of [qR 1 i] g (some (qI (tOf (g.1 i)))) g := by
  refine qm_meth hE (by decide) rfl rfl (Nat.le_of_ble_eq_true rfl) ?_
  intro p e st mm args below meth c Q C _ _
  have t1 := xU_truth hE g 1
  have t0 := xU_truth hE g 0
  rw [show tB 1 = 1 from by decide] at t1
  rw [show tB 0 = 0 from by decide] at t0
  unfold tOf at C
  by_cases h1 : (g.1 i).1 = 1
  · rw [if_pos (Or.inl h1)] at C
    by_cases h : (g.1 i).2.1 = 0
    · rw [if_pos h] at C
      exact qm_step (sU_of hE) C 0 9999 100 ([1, 1], [], [(some (qI 0), g)]) ⟨h1, h, t0, rfl, rfl⟩
    · rw [if_neg h] at C
      exact qm_step (sU_of hE) C 0 9999 100 ([1, 0], [], [(some (qI 1), g)]) ⟨h1, h, t1, rfl, rfl⟩
  · by_cases h2 : (g.1 i).1 = 2
    · rw [if_pos (Or.inr h2)] at C
      by_cases h : (g.1 i).2.1 = 0
      · rw [if_pos h] at C
        exact qm_step (sU_of hE) C 0 9999 100 ([2, 1], [], [(some (qI 0), g)]) ⟨h2, h, t0, rfl, rfl⟩
      · rw [if_neg h] at C
        exact qm_step (sU_of hE) C 0 9999 100 ([2, 0], [], [(some (qI 1), g)]) ⟨h2, h, t1, rfl, rfl⟩
    · rw [if_neg (fun q => q.elim h1 h2)] at C
      by_cases h3 : (g.1 i).1 = 3
      · rw [if_pos h3] at C
        by_cases h : (g.1 i).2.2.2 ≤ 0
        · rw [if_pos h] at C
          exact qm_step (sU_of hE) C 0 9999 100 ([3, 1], [], [(some (qI 0), g)]) ⟨h3, h, t0, rfl, rfl⟩
        · rw [if_neg h] at C
          exact qm_step (sU_of hE) C 0 9999 100 ([3, 0], [], [(some (qI 1), g)]) ⟨h3, h, t1, rfl, rfl⟩
      · rw [if_neg h3] at C
        have hd : ∀ q ∈ ([(1, 32), (2, 32), (3, 50)] : List (Int32 × Nat)), ¬ (g.1 i).1 = q.1 := by
          intro q hq
          simp only [List.mem_cons, List.mem_nil_iff, or_false] at hq
          rcases hq with rfl | rfl | rfl
          · exact h1
          · exact h2
          · exact h3
        exact qm_step (sU_of hE) C 0 9999 100 ([0], [], []) ⟨hd, rfl, rfl⟩
def tNot (x : Int32) : Int32 := if x = -1 then -1 else 1 - x
def tAnd (x y : Int32) : Int32 := if x = 0 ∨ y = 0 then 0 else if x = 1 ∧ y = 1 then 1 else -1
def tOr (x y : Int32) : Int32 := if x = 1 ∨ y = 1 then 1 else if x = 0 ∧ y = 0 then 0 else -1
theorem xU_other {E : cEnv} (hE : cOk E) (g : cG) (x : Int32) : cSd E mU_other [qI x] g (some (qI (tNot x))) g := by
  refine qm_meth hE (by decide) rfl rfl (Nat.le_of_ble_eq_true rfl) ?_
  intro p e st mm args below meth c Q C _ _
  unfold tNot at C
  by_cases h : x = -1
  · rw [if_pos h] at C
    exact qm_step (sU_other hE) C 0 9999 100 ([0], [], []) ⟨h, rfl, rfl⟩
  · rw [if_neg h] at C
    exact qm_step (sU_other hE) C 0 9999 100 ([1], [], []) ⟨h, rfl, rfl⟩
theorem xU_both {E : cEnv} (hE : cOk E) (g : cG) (x y : Int32) : cSd E mU_both [qI x, qI y] g (some (qI (tAnd x y))) g := by
  refine qm_meth hE (by decide) rfl rfl (Nat.le_of_ble_eq_true rfl) ?_
  intro p e st mm args below meth c Q C _ _
  unfold tAnd at C
  by_cases h1 : x = 0
  · rw [if_pos (Or.inl h1)] at C
    exact qm_step (sU_both hE) C 0 9999 100 ([1], [], []) ⟨h1, rfl, rfl⟩
  · by_cases h2 : y = 0
    · rw [if_pos (Or.inr h2)] at C
      exact qm_step (sU_both hE) C 0 9999 100 ([0, 0], [], []) ⟨h1, h2, rfl, rfl⟩
    · rw [if_neg (fun q => q.elim h1 h2)] at C
      by_cases h3 : x = 1
      · by_cases h4 : y = 1
        · rw [if_pos ⟨h3, h4⟩] at C
          exact qm_step (sU_both hE) C 0 9999 100 ([0, 1, 0, 0], [], []) ⟨h1, h2, h3, h4, rfl, rfl⟩
        · rw [if_neg (fun q => h4 q.2)] at C
          exact qm_step (sU_both hE) C 0 9999 100 ([0, 1, 0, 1], [], []) ⟨h1, h2, h3, h4, rfl, rfl⟩
      · rw [if_neg (fun q => h3 q.1)] at C
        exact qm_step (sU_both hE) C 0 9999 100 ([0, 1, 1], [], []) ⟨h1, h2, h3, rfl, rfl⟩
theorem xU_either {E : cEnv} (hE : cOk E) (g : cG) (x y : Int32) : cSd E mU_either [qI x, qI y] g (some (qI (tOr x y))) g := by
  refine qm_meth hE (by decide) rfl rfl (Nat.le_of_ble_eq_true rfl) ?_
  intro p e st mm args below meth c Q C _ _
  unfold tOr at C
  by_cases h1 : x = 1
  · rw [if_pos (Or.inl h1)] at C
    exact qm_step (sU_either hE) C 0 9999 100 ([1], [], []) ⟨h1, rfl, rfl⟩
  · by_cases h2 : y = 1
    · rw [if_pos (Or.inr h2)] at C
      exact qm_step (sU_either hE) C 0 9999 100 ([0, 0], [], []) ⟨h1, h2, rfl, rfl⟩
    · rw [if_neg (fun q => q.elim h1 h2)] at C
      by_cases h3 : x = 0
      · by_cases h4 : y = 0
        · rw [if_pos ⟨h3, h4⟩] at C
          exact qm_step (sU_either hE) C 0 9999 100 ([0, 1, 0, 0], [], []) ⟨h1, h2, h3, h4, rfl, rfl⟩
        · rw [if_neg (fun q => h4 q.2)] at C
          exact qm_step (sU_either hE) C 0 9999 100 ([0, 1, 0, 1], [], []) ⟨h1, h2, h3, h4, rfl, rfl⟩
      · rw [if_neg (fun q => h3 q.1)] at C
        exact qm_step (sU_either hE) C 0 9999 100 ([0, 1, 1], [], []) ⟨h1, h2, h3, rfl, rfl⟩
/-- SAME of values i, j: -1 unknown; n the length of j, if both are TEXTS of one length -/
def tSame (g : cG) (i j n : Nat) : Int32 :=
  if (g.1 i).1 = 0 ∨ (g.1 j).1 = 0 then -1
  else if ¬ (g.1 i).1 = (g.1 j).1 then (if (g.1 i).1 = 4 ∨ (g.1 j).1 = 4 then 0 else -1)
  else if (g.1 i).1 = 3 then (if (g.1 i).2.2.1 = (g.1 j).2.2.1 ∧ (g.1 i).2.2.2 = (g.1 j).2.2.2 ∧ hbA g i 0 j n = true then 1 else 0)
  else (if (g.1 i).2.1 = (g.1 j).2.1 then 1 else 0)
theorem xU_same {E : cEnv} (hE : cOk E) (g : cG) (i j n : Nat) (hn : n ≤ 24) (hj : (g.1 j).1 = 3 → (g.1 j).2.2.2 = nI n) : cSd E mU_same [qR 1 i, qR 1 j] g (some (qI (tSame g i j n))) g := by
  refine qm_meth hE (by decide) rfl rfl (Nat.le_of_ble_eq_true rfl) ?_
  intro p e st mm args below meth c Q C _ _
  have t1 := xU_truth hE g 1
  have t0 := xU_truth hE g 0
  rw [show tB 1 = 1 from by decide] at t1
  rw [show tB 0 = 0 from by decide] at t0
  unfold tSame at C
  by_cases h1 : (g.1 i).1 = 0
  · rw [if_pos (Or.inl h1)] at C
    exact qm_step (sU_same hE) C 0 9999 100 ([1], [], []) ⟨h1, rfl, rfl⟩
  by_cases h2 : (g.1 j).1 = 0
  · rw [if_pos (Or.inr h2)] at C
    exact qm_step (sU_same hE) C 0 9999 100 ([0, 0], [], []) ⟨h1, h2, rfl, rfl⟩
  rw [if_neg (fun q => q.elim h1 h2)] at C
  by_cases h3 : (g.1 i).1 = (g.1 j).1
  · rw [if_neg (fun q => q h3)] at C
    by_cases h4 : (g.1 i).1 = 3
    · rw [if_pos h4] at C
      by_cases h5 : (g.1 i).2.2.1 = (g.1 j).2.2.1
      · by_cases h6 : (g.1 i).2.2.2 = (g.1 j).2.2.2
        · have hjn := hj (h3.symm.trans h4)
          have hh := xV_hasAt_in hE g i j 0 n n (h6.trans hjn) hjn hn (by omega)
          by_cases h7 : hbA g i 0 j n = true
          · rw [if_pos h7] at hh
            rw [if_pos ⟨h5, h6, h7⟩] at C
            exact qm_step (sU_same hE) C 0 9999 100 ([0, 1, 1, 0, 0, 0, 0], [], [(some (qI 1), g), (some (qI 1), g)]) ⟨h1, h2, h3, h4, h5, h6, hh, by decide, t1, rfl, rfl⟩
          · rw [if_neg h7] at hh
            rw [if_neg (fun q => h7 q.2.2)] at C
            exact qm_step (sU_same hE) C 0 9999 100 ([0, 1, 1, 0, 0, 0, 1], [], [(some (qI 0), g), (some (qI 0), g)]) ⟨h1, h2, h3, h4, h5, h6, hh, rfl, t0, rfl, rfl⟩
        · rw [if_neg (fun q => h6 q.2.1)] at C
          exact qm_step (sU_same hE) C 0 9999 100 ([0, 1, 1, 0, 0, 1], [], [(some (qI 0), g)]) ⟨h1, h2, h3, h4, h5, h6, t0, rfl, rfl⟩
      · rw [if_neg (fun q => h5 q.1)] at C
        exact qm_step (sU_same hE) C 0 9999 100 ([0, 1, 1, 0, 1], [], [(some (qI 0), g)]) ⟨h1, h2, h3, h4, h5, t0, rfl, rfl⟩
    · rw [if_neg h4] at C
      by_cases h5 : (g.1 i).2.1 = (g.1 j).2.1
      · rw [if_pos h5] at C
        exact qm_step (sU_same hE) C 0 9999 100 ([0, 1, 1, 1, 0], [], [(some (qI 1), g)]) ⟨h1, h2, h3, h4, h5, t1, rfl, rfl⟩
      · rw [if_neg h5] at C
        exact qm_step (sU_same hE) C 0 9999 100 ([0, 1, 1, 1, 1], [], [(some (qI 0), g)]) ⟨h1, h2, h3, h4, h5, t0, rfl, rfl⟩
  · rw [if_pos h3] at C
    by_cases h4 : (g.1 i).1 = 4
    · rw [if_pos (Or.inl h4)] at C
      exact qm_step (sU_same hE) C 0 9999 100 ([0, 1, 0, 1], [], []) ⟨h1, h2, h3, h4, rfl, rfl⟩
    · by_cases h5 : (g.1 j).1 = 4
      · rw [if_pos (Or.inr h5)] at C
        exact qm_step (sU_same hE) C 0 9999 100 ([0, 1, 0, 0, 0], [], []) ⟨h1, h2, h3, h4, h5, rfl, rfl⟩
      · rw [if_neg (fun q => q.elim h4 h5)] at C
        exact qm_step (sU_same hE) C 0 9999 100 ([0, 1, 0, 0, 1], [], []) ⟨h1, h2, h3, h4, h5, rfl, rfl⟩
theorem xT_isPlain {E : cEnv} (hE : cOk E) (g : cG) (i : Nat) : cSd E mT_isPlain [qR 1 i] g (some (qI (if (g.1 i).1 = 3 ∧ (g.1 i).2.2.1 = 0 then 1 else 0))) g := by
  refine qm_meth hE (by decide) rfl rfl (Nat.le_of_ble_eq_true rfl) ?_
  intro p e st mm args below meth c Q C _ _
  by_cases h1 : (g.1 i).1 = 3
  · by_cases h2 : (g.1 i).2.2.1 = 0
    · rw [if_pos ⟨h1, h2⟩] at C
      exact qm_step (sT_isPlain hE) C 0 9999 100 ([0, 0], [], []) ⟨h1, h2, Or.inr rfl, rfl, rfl⟩
    · rw [if_neg (fun q => h2 q.2)] at C
      exact qm_step (sT_isPlain hE) C 0 9999 100 ([0, 1], [], []) ⟨h1, h2, Or.inl rfl, rfl, rfl⟩
  · rw [if_neg (fun q => h1 q.1)] at C
    exact qm_step (sT_isPlain hE) C 0 9999 100 ([1], [], []) ⟨h1, Or.inl rfl, rfl, rfl⟩
