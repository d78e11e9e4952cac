/-! isBefore, less, Truths.reckon, Wholes -/
def atV (g : cG) (i n k : Nat) : Int32 := if k < n then g.2.1 i k else 0
theorem xV_atG {E : cEnv} (hE : cOk E) (g : cG) (i n k : Nat) (hn : n ≤ 24) (hk : k ≤ 24) (h2 : (g.1 i).2.2.2 = nI n) : cSd E mV_at [qR 1 i, qI (nI k)] g (some (qI (atV g i n k))) g := by
  unfold atV
  split
  · rename_i h
    exact xV_at_yes hE g i k n h hn h2
  · rename_i h
    exact xV_at_no hE g i (nI k) (Or.inr (by rw [h2]; exact nI_le (by omega) (by omega)))
/-- TEXT i (of length a) stands before TEXT j (of length b) -/
def bfB (g : cG) (i a j b : Nat) : Bool := match (List.range b).find? (fun k => !(atV g i a k == atV g j b k)) with
  | some k => decide (atV g i a k < atV g j b k)
  | none => false
theorem xU_isBefore {E : cEnv} (hE : cOk E) (g : cG) (i j a b : Nat) (ha : a ≤ 24) (hb : b ≤ 24) (hia : (g.1 i).2.2.2 = nI a) (hjb : (g.1 j).2.2.2 = nI b) : cSd E mU_isBefore [qR 1 i, qR 1 j] g (some (qI (if bfB g i a j b then 1 else 0))) g := by
  refine qm_meth hE (by decide) rfl rfl (Nat.le_of_ble_eq_true rfl) ?_
  intro p e st mm args below meth c Q C _ _
  have loop : ∀ (n k : Nat) (w : Int32), k + n = b → w = nI k → (∀ x, x < k → atV g i a x = atV g j b x) → qm_W (cLa E.2.2.2.1) cV (cHold E) (cA E.2.2.2.1) 3 p E.1 e (rmL 2) st mm args below meth c Q 2 ([some (qR 1 i), some (qR 1 j), some (qI w)], [], g) := by
    intro n
    induction n with
    | zero =>
      intro k w hk hw hx
      subst hw
      have hc : (g.1 j).2.2.2 ≤ nI k := by rw [hjb]; exact nI_le (by omega) (by omega)
      have hr : (some (qI 0) : Option qm_v) = some (qI (if bfB g i a j b then 1 else 0)) := by
        have : (List.range b).find? (fun k => !(atV g i a k == atV g j b k)) = none := by
          rw [List.find?_eq_none]
          intro x hx2
          have := hx x (by have := List.mem_range.mp hx2; omega)
          simp [this]
        unfold bfB
        rw [this]
        rfl
      exact qm_step (sU_isBefore hE) C 2 9999 100 ([1], [], []) ⟨hc, Or.inl rfl, hr, rfl⟩
    | succ n ih =>
      intro k w hk hw hx
      subst hw
      have hc : ¬ (g.1 j).2.2.2 ≤ nI k := by rw [hjb]; exact nI_ge (by omega) (by omega)
      have h1 := xV_atG hE g i a k ha (by omega) hia
      have h2 := xV_atG hE g j b k hb (by omega) hjb
      by_cases he : atV g i a k = atV g j b k
      · refine qm_step (sU_isBefore hE) C 2 2 100 ([0, 1], [], [(some (qI (atV g i a k)), g), (some (qI (atV g j b k)), g)]) ⟨hc, h1, h2, he, ?_⟩
        refine ih (k + 1) _ (by omega) (by rw [nI_1]) (fun x hx2 => ?_)
        rcases Nat.lt_or_ge x k with z | z
        · exact hx x z
        · have : x = k := by omega
          subst this
          exact he
      · have hf : (List.range b).find? (fun k => !(atV g i a k == atV g j b k)) = some k := by
          rw [List.find?_range_eq_some]
          exact ⟨by simp [he], by rw [List.mem_range]; omega, fun x hx2 => by simp [hx x hx2]⟩
        by_cases hl : atV g j b k ≤ atV g i a k
        · have hr : (some (qI 0) : Option qm_v) = some (qI (if bfB g i a j b then 1 else 0)) := by
            unfold bfB
            rw [hf]
            simp [Int32.not_lt.mpr hl]
          exact qm_step (sU_isBefore hE) C 2 9999 100 ([0, 0, 1], [], [(some (qI (atV g i a k)), g), (some (qI (atV g j b k)), g), (some (qI (atV g i a k)), g), (some (qI (atV g j b k)), g)]) ⟨hc, h1, h2, he, h1, h2, hl, Or.inl rfl, hr, rfl⟩
        · have hr : (some (qI 1) : Option qm_v) = some (qI (if bfB g i a j b then 1 else 0)) := by
            unfold bfB
            rw [hf]
            simp [Int32.not_le.mp hl]
          exact qm_step (sU_isBefore hE) C 2 9999 100 ([0, 0, 0], [], [(some (qI (atV g i a k)), g), (some (qI (atV g j b k)), g), (some (qI (atV g i a k)), g), (some (qI (atV g j b k)), g)]) ⟨hc, h1, h2, he, h1, h2, hl, Or.inr rfl, hr, rfl⟩
  exact qm_step (sU_isBefore hE) C 0 2 100 ([], [], []) (loop b 0 _ (by omega) rfl (fun x hx => by omega))
def tLess (g : cG) (i a j b : Nat) : Int32 :=
  if ¬ (g.1 i).1 = (g.1 j).1 then -1
  else if (g.1 i).1 = 2 ∨ (g.1 i).1 = 1 then (if (g.1 i).2.1 < (g.1 j).2.1 then 1 else 0)
  else if (g.1 i).1 = 3 ∧ (g.1 i).2.2.1 = (g.1 j).2.2.1 then (if bfB g i a j b then 1 else 0) else -1
theorem xU_less {E : cEnv} (hE : cOk E) (g : cG) (i j a b : Nat) (ha : a ≤ 24) (hb : b ≤ 24) (hia : (g.1 i).1 = 3 → (g.1 i).2.2.2 = nI a) (hjb : (g.1 j).1 = 3 → (g.1 j).2.2.2 = nI b) : cSd E mU_less [qR 1 i, qR 1 j] g (some (qI (tLess g i a j b))) g := by
  refine qm_meth hE (by decide) rfl rfl (Nat.le_of_ble_eq_true rfl) ?_
  intro p e st mm args below meth c Q C _ _
  have t1 := xU_truth hE g 1
  have t0 := xU_truth hE g 0
  rw [show tB 1 = 1 from by decide] at t1
  rw [show tB 0 = 0 from by decide] at t0
  unfold tLess at C
  by_cases h1 : (g.1 i).1 = (g.1 j).1
  · rw [if_neg (fun q => q h1)] at C
    by_cases h2 : (g.1 i).1 = 2
    · rw [if_pos (Or.inl h2)] at C
      by_cases h3 : (g.1 i).2.1 < (g.1 j).2.1
      · rw [if_pos h3] at C
        exact qm_step (sU_less hE) C 0 9999 100 ([1, 1, 0], [], [(some (qI 1), g)]) ⟨h1, h2, Int64.not_le.mpr h3, t1, rfl, rfl⟩
      · rw [if_neg h3] at C
        exact qm_step (sU_less hE) C 0 9999 100 ([1, 1, 1], [], [(some (qI 0), g)]) ⟨h1, h2, Int64.not_lt.mp h3, t0, rfl, rfl⟩
    · by_cases h3 : (g.1 i).1 = 1
      · rw [if_pos (Or.inr h3)] at C
        by_cases h4 : (g.1 i).2.1 < (g.1 j).2.1
        · rw [if_pos h4] at C
          exact qm_step (sU_less hE) C 0 9999 100 ([1, 0, 0, 0], [], [(some (qI 1), g)]) ⟨h1, h2, h3, Int64.not_le.mpr h4, t1, rfl, rfl⟩
        · rw [if_neg h4] at C
          exact qm_step (sU_less hE) C 0 9999 100 ([1, 0, 0, 1], [], [(some (qI 0), g)]) ⟨h1, h2, h3, Int64.not_lt.mp h4, t0, rfl, rfl⟩
      · rw [if_neg (fun q => q.elim h2 h3)] at C
        by_cases h4 : (g.1 i).1 = 3
        · by_cases h5 : (g.1 i).2.2.1 = (g.1 j).2.2.1
          · rw [if_pos ⟨h4, h5⟩] at C
            have hb2 := xU_isBefore hE g i j a b ha hb (hia h4) (hjb (h1.symm.trans h4))
            by_cases h6 : bfB g i a j b = true
            · rw [if_pos h6] at C hb2
              exact qm_step (sU_less hE) C 0 9999 100 ([1, 0, 1, 0, 0], [], [(some (qI 1), g), (some (qI 1), g)]) ⟨h1, h2, h3, h4, h5, hb2, t1, rfl, rfl⟩
            · rw [if_neg h6] at C hb2
              exact qm_step (sU_less hE) C 0 9999 100 ([1, 0, 1, 0, 0], [], [(some (qI 0), g), (some (qI 0), g)]) ⟨h1, h2, h3, h4, h5, hb2, t0, rfl, rfl⟩
          · rw [if_neg (fun q => h5 q.2)] at C
            exact qm_step (sU_less hE) C 0 9999 100 ([1, 0, 1, 0, 1], [], []) ⟨h1, h2, h3, h4, h5, rfl, rfl⟩
        · rw [if_neg (fun q => h4 q.1)] at C
          exact qm_step (sU_less hE) C 0 9999 100 ([1, 0, 1, 1], [], []) ⟨h1, h2, h3, h4, rfl, rfl⟩
  · rw [if_pos h1] at C
    exact qm_step (sU_less hE) C 0 9999 100 ([0], [], []) ⟨h1, rfl, rfl⟩
/-- the truths' operations; a, b, d the lengths of values i, j, k -/
def tRk (op : Int32) (g : cG) (i a j b k d : Nat) : Int32 :=
  if op = 0 then tNot (tOf (g.1 i)) else if op = 1 then tAnd (tOf (g.1 i)) (tOf (g.1 j)) else if op = 2 then tOr (tOf (g.1 i)) (tOf (g.1 j))
  else if op = 3 then tSame g i j b else if op = 4 then tLess g i a j b else if op = 29 then tOr (tSame g i j b) (tSame g i k d) else -1
theorem xU_reckon {E : cEnv} (hE : cOk E) (op : Int32) (g : cG) (i j k a b d : Nat) (ha : a ≤ 24) (hb : b ≤ 24) (hd : d ≤ 24) (hia : (g.1 i).1 = 3 → (g.1 i).2.2.2 = nI a) (hjb : (g.1 j).1 = 3 → (g.1 j).2.2.2 = nI b) (hkd : (g.1 k).1 = 3 → (g.1 k).2.2.2 = nI d) : cSd E mU_reckon [qI op, qR 1 i, qR 1 j, qR 1 k] g (some (qI (tRk op g i a j b k d))) g := by
  refine qm_meth hE (by decide) rfl rfl (Nat.le_of_ble_eq_true rfl) ?_
  intro p e st mm args below meth c Q C _ _
  have o1 := xU_of hE g i
  have o2 := xU_of hE g j
  unfold tRk at C
  by_cases h0 : op = 0
  · rw [if_pos h0] at C
    exact qm_step (sU_reckon hE) C 0 9999 100 ([1], [], [(_, g), (_, g)]) ⟨h0, o1, xU_other hE g _, rfl, rfl⟩
  rw [if_neg h0] at C
  by_cases h1 : op = 1
  · rw [if_pos h1] at C
    exact qm_step (sU_reckon hE) C 0 9999 100 ([2], [], [(_, g), (_, g), (_, g)]) ⟨h1, o1, o2, xU_both hE g _ _, rfl, rfl⟩
  rw [if_neg h1] at C
  by_cases h2 : op = 2
  · rw [if_pos h2] at C
    exact qm_step (sU_reckon hE) C 0 9999 100 ([3], [], [(_, g), (_, g), (_, g)]) ⟨h2, o1, o2, xU_either hE g _ _, rfl, rfl⟩
  rw [if_neg h2] at C
  by_cases h3 : op = 3
  · rw [if_pos h3] at C
    exact qm_step (sU_reckon hE) C 0 9999 100 ([4], [], [(_, g)]) ⟨h3, xU_same hE g i j b hb hjb, rfl, rfl⟩
  rw [if_neg h3] at C
  by_cases h4 : op = 4
  · rw [if_pos h4] at C
    exact qm_step (sU_reckon hE) C 0 9999 100 ([5], [], [(_, g)]) ⟨h4, xU_less hE g i j a b ha hb hia hjb, rfl, rfl⟩
  rw [if_neg h4] at C
  by_cases h5 : op = 29
  · rw [if_pos h5] at C
    exact qm_step (sU_reckon hE) C 0 9999 100 ([6], [], [(_, g), (_, g), (_, g)]) ⟨h5, xU_same hE g i j b hb hjb, xU_same hE g i k d hd hkd, xU_either hE g _ _, rfl, rfl⟩
  rw [if_neg h5] at C
  have hdf : ∀ q ∈ ([(0, 60), (1, 68), (2, 80), (3, 92), (4, 98), (29, 104)] : List (Int32 × Nat)), ¬ op = q.1 := by
    intro q hq
    simp only [List.mem_cons, List.mem_nil_iff, or_false] at hq
    rcases hq with rfl | rfl | rfl | rfl | rfl | rfl
    · exact h0
    · exact h1
    · exact h2
    · exact h3
    · exact h4
    · exact h5
  exact qm_step (sU_reckon hE) C 0 9999 100 ([0], [], []) ⟨hdf, rfl, rfl⟩
-- wholes
def swS (g : cG) (i : Nat) (v : Int64) : cG := uV g i (if ¬ v < -1000000000000000 ∧ ¬ 1000000000000000 < v then 2 else 0, v, (g.1 i).2.2)
theorem xV_setW {E : cEnv} (hE : cOk E) (hX : qm_Nx E) (g : cG) (i : Nat) (v : Int64) : cSd E mV_setWhole [qR 1 i, qL v] g none (swS g i v) := by
  unfold swS
  split
  · rename_i h
    exact (xV_setWhole hE hX g i v).1 h
  · rename_i h
    exact (xV_setWhole hE hX g i v).2 h
def seS (g : cG) (i : Nat) : cG := uV g i (0, (g.1 i).2)
def lAbs (x : Int64) : Int64 := if 0 < x then x else -x
def mulS (g : cG) (i : Nat) (a b : Int64) : cG := if lAbs a = 0 ∨ lAbs b ≤ 1000000000000000 / lAbs a then swS g i (a * b) else seS g i
theorem xH_multiply {E : cEnv} (hE : cOk E) (hX : qm_Nx E) (g : cG) (i : Nat) (a b : Int64) : cSd E mH_multiply [qR 1 i, qL a, qL b] g none (mulS g i a b) := by
  refine qm_meth hE (by decide) rfl rfl (Nat.le_of_ble_eq_true rfl) ?_
  intro p e st mm args below meth c Q C _ _
  unfold mulS at C
  by_cases h1 : lAbs a = 0
  · rw [if_pos (Or.inl h1)] at C
    exact qm_step (sH_multiply hE) C 0 9999 100 ([1], [], [(none, _)]) ⟨h1, xV_setW hE hX g i _, rfl, rfl⟩
  · by_cases h2 : lAbs b ≤ 1000000000000000 / lAbs a
    · rw [if_pos (Or.inr h2)] at C
      exact qm_step (sH_multiply hE) C 0 9999 100 ([0, 1], [], [(none, _)]) ⟨h1, h1, h2, xV_setW hE hX g i _, rfl, rfl⟩
    · rw [if_neg (fun q => q.elim h1 h2)] at C
      exact qm_step (sH_multiply hE) C 0 9999 100 ([0, 0], [], [(none, _)]) ⟨h1, h1, h2, xV_setError hE g i, rfl, rfl⟩
def divS (op : Int32) (g : cG) (i : Nat) (a b : Int64) : cG := if b = 0 then seS g i else if op = 8 then swS g i (a / b) else swS g i (a - a / b * b)
theorem xH_divide {E : cEnv} (hE : cOk E) (hX : qm_Nx E) (op : Int32) (g : cG) (i : Nat) (a b : Int64) : cSd E mH_divide [qI op, qR 1 i, qL a, qL b] g none (divS op g i a b) := by
  refine qm_meth hE (by decide) rfl rfl (Nat.le_of_ble_eq_true rfl) ?_
  intro p e st mm args below meth c Q C _ _
  unfold divS at C
  by_cases h1 : b = 0
  · rw [if_pos h1] at C
    exact qm_step (sH_divide hE) C 0 9999 100 ([0], [], [(none, _)]) ⟨h1, xV_setError hE g i, rfl, rfl⟩
  · rw [if_neg h1] at C
    by_cases h2 : op = 8
    · rw [if_pos h2] at C
      exact qm_step (sH_divide hE) C 0 9999 100 ([1, 0], [], [(none, _)]) ⟨h1, h2, h1, xV_setW hE hX g i _, rfl, rfl⟩
    · rw [if_neg h2] at C
      exact qm_step (sH_divide hE) C 0 9999 100 ([1, 1], [], [(none, _)]) ⟨h1, h2, h1, xV_setW hE hX g i _, rfl, rfl⟩
def whS (op : Int32) (g : cG) (i j k : Nat) : cG :=
  if ¬ (g.1 j).1 = 2 ∨ ¬ (g.1 k).1 = 2 then seS g i
  else if op = 5 then swS g i ((g.1 j).2.1 + (g.1 k).2.1) else if op = 6 then swS g i ((g.1 j).2.1 - (g.1 k).2.1)
  else if op = 7 then mulS g i (g.1 j).2.1 (g.1 k).2.1 else divS op g i (g.1 j).2.1 (g.1 k).2.1
theorem xH_reckon {E : cEnv} (hE : cOk E) (hX : qm_Nx E) (op : Int32) (g : cG) (i j k : Nat) : cSd E mH_reckon [qI op, qR 1 i, qR 1 j, qR 1 k] g none (whS op g i j k) := by
  refine qm_meth hE (by decide) rfl rfl (Nat.le_of_ble_eq_true rfl) ?_
  intro p e st mm args below meth c Q C _ _
  unfold whS at C
  by_cases h1 : (g.1 j).1 = 2
  · by_cases h2 : (g.1 k).1 = 2
    · rw [if_neg (fun q => q.elim (fun z => z h1) (fun z => z h2))] at C
      by_cases h5 : op = 5
      · rw [if_pos h5] at C
        exact qm_step (sH_reckon hE) C 0 9999 100 ([0, 1, 1], [], [(none, _)]) ⟨h1, h2, h5, xV_setW hE hX g i _, rfl, rfl⟩
      rw [if_neg h5] at C
      by_cases h6 : op = 6
      · rw [if_pos h6] at C
        exact qm_step (sH_reckon hE) C 0 9999 100 ([0, 1, 2], [], [(none, _)]) ⟨h1, h2, h6, xV_setW hE hX g i _, rfl, rfl⟩
      rw [if_neg h6] at C
      by_cases h7 : op = 7
      · rw [if_pos h7] at C
        exact qm_step (sH_reckon hE) C 0 9999 100 ([0, 1, 3], [], [(none, _)]) ⟨h1, h2, h7, xH_multiply hE hX g i _ _, rfl, rfl⟩
      rw [if_neg h7] at C
      have hdf : ∀ q ∈ ([(5, 48), (6, 64), (7, 80)] : List (Int32 × Nat)), ¬ op = q.1 := by
        intro q hq
        simp only [List.mem_cons, List.mem_nil_iff, or_false] at hq
        rcases hq with rfl | rfl | rfl
        · exact h5
        · exact h6
        · exact h7
      exact qm_step (sH_reckon hE) C 0 9999 100 ([0, 1, 0], [], [(none, _)]) ⟨h1, h2, hdf, xH_divide hE hX op g i _ _, rfl, rfl⟩
    · rw [if_pos (Or.inr h2)] at C
      exact qm_step (sH_reckon hE) C 0 9999 100 ([0, 0], [], [(none, _)]) ⟨h1, h2, xV_setError hE g i, rfl, rfl⟩
  · rw [if_pos (Or.inl h1)] at C
    exact qm_step (sH_reckon hE) C 0 9999 100 ([1], [], [(none, _)]) ⟨h1, xV_setError hE g i, rfl, rfl⟩
