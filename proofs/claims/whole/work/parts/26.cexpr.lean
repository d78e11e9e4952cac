/-! Casts.toNumber, reckon; Expression's methods -/
def tnS (g : cG) (i a n : Nat) : cG := if (g.1 a).1 = 2 ∨ (g.1 a).1 = 1 then swS g i (g.1 a).2.1 else if (g.1 a).1 = 3 ∧ (g.1 a).2.2.1 = 0 then rdS g i a n else seS g i
theorem xC_toNumber {E : cEnv} (hE : cOk E) (hX : qm_Nx E) (g : cG) (i a n : Nat) (hn : n ≤ 24) (ha : (g.1 a).1 = 3 → (g.1 a).2.2.2 = nI n) : cSd E mC_toNumber [qR 1 i, qR 1 a] g none (tnS g i a n) := by
  refine qm_meth hE (by decide) rfl rfl (Nat.le_of_ble_eq_true rfl) ?_
  intro p e st mm args below meth c Q C _ _
  unfold tnS at C
  have pl := xT_isPlain hE g a
  by_cases h1 : (g.1 a).1 = 2
  · rw [if_pos (Or.inl h1)] at C
    exact qm_step (sC_toNumber hE) C 0 9999 100 ([1], [], [(none, _)]) ⟨h1, xV_setW hE hX g i _, rfl, rfl⟩
  by_cases h2 : (g.1 a).1 = 1
  · rw [if_pos (Or.inr h2)] at C
    exact qm_step (sC_toNumber hE) C 0 9999 100 ([0, 0], [], [(none, _)]) ⟨h1, h2, xV_setW hE hX g i _, rfl, rfl⟩
  rw [if_neg (fun q => q.elim h1 h2)] at C
  by_cases h3 : (g.1 a).1 = 3 ∧ (g.1 a).2.2.1 = 0
  · rw [if_pos h3] at C pl
    exact qm_step (sC_toNumber hE) C 0 9999 100 ([0, 1, 0], [], [(_, g), (none, _)]) ⟨h1, h2, pl, by decide, xC_readDigits hE hX g i a n hn (ha h3.1), rfl, rfl⟩
  · rw [if_neg h3] at C pl
    exact qm_step (sC_toNumber hE) C 0 9999 100 ([0, 1, 1], [], [(_, g), (none, _)]) ⟨h1, h2, pl, rfl, xV_setError hE g i, rfl, rfl⟩
/-- WORDS -/
def twS (g : cG) (i a n : Nat) : cG :=
  if (g.1 a).1 = 3 then apN (stS g i 0) i (bsl g a 0 n)
  else if (g.1 a).1 = 1 then apN (stS g i 0) i (if (g.1 a).2.1 = 1 then [116, 114, 117, 101] else [102, 97, 108, 115, 101])
  else if (g.1 a).1 = 4 then apN (apS (stS g i 0) i 35) i (dgL (lAbs (g.1 a).2.1))
  else if (g.1 a).2.1 < 0 then apN (apS (stS g i 0) i 45) i (dgL (lAbs (g.1 a).2.1)) else apN (stS g i 0) i (dgL (lAbs (g.1 a).2.1))
def caS (op : Int32) (g : cG) (i a n b k d m : Nat) : cG :=
  if op = 23 then (if (g.1 a).1 = 0 then cpS g i b k else cpS g i a n)
  else if op = 22 then chS g i (tOf (g.1 a)) b k d m
  else if (g.1 a).1 = 0 then seS g i
  else if op = 21 then swS g i (g.1 a).1.toInt64 else if op = 25 then tnS g i a n else twS g i a n
theorem xC_reckon_open {E : cEnv} (hE : cOk E) (hX : qm_Nx E) (hW : ∀ (g : cG) (i a n : Nat), a ≠ i → n ≤ 24 → ((g.1 a).1 = 3 → (g.1 a).2.2.2 = nI n) → cSd E mC_toWords [qR 1 i, qR 1 a] g none (twS g i a n)) (op : Int32) (g : cG) (i a n b k d m : Nat) (hai : a ≠ i) (hbi : b ≠ i) (hdi : d ≠ i) (hn : n ≤ 24) (hk : k ≤ 24) (hm : m ≤ 24) (ha : (g.1 a).1 = 3 → (g.1 a).2.2.2 = nI n) (hb : (g.1 b).1 = 3 → (g.1 b).2.2.2 = nI k) (hd : (g.1 d).1 = 3 → (g.1 d).2.2.2 = nI m) : cSd E mC_reckon [qI op, qR 1 i, qR 1 a, qR 1 b, qR 1 d] g none (caS op g i a n b k d m) := by
  refine qm_meth hE (by decide) rfl rfl (Nat.le_of_ble_eq_true rfl) ?_
  intro p e st mm args below meth c Q C _ _
  unfold caS at C
  by_cases h1 : op = 23
  · rw [if_pos h1] at C
    by_cases h2 : (g.1 a).1 = 0
    · rw [if_pos h2] at C
      exact qm_step (sC_reckon hE) C 0 9999 100 ([0, 1], [], [(none, _)]) ⟨h1, h2, xV_copy hE g i b k hbi hk hb, rfl, rfl⟩
    · rw [if_neg h2] at C
      exact qm_step (sC_reckon hE) C 0 9999 100 ([0, 0], [], [(none, _)]) ⟨h1, h2, xV_copy hE g i a n hai hn ha, rfl, rfl⟩
  rw [if_neg h1] at C
  by_cases h2 : op = 22
  · rw [if_pos h2] at C
    exact qm_step (sC_reckon hE) C 0 9999 100 ([1, 0], [], [(_, g), (none, _)]) ⟨h1, h2, xU_of hE g a, xC_choose hE g i _ b k d m hbi hdi hk hm hb hd, rfl, rfl⟩
  rw [if_neg h2] at C
  by_cases h3 : (g.1 a).1 = 0
  · rw [if_pos h3] at C
    exact qm_step (sC_reckon hE) C 0 9999 100 ([1, 1, 0], [], [(none, _)]) ⟨h1, h2, h3, xV_setError hE g i, rfl, rfl⟩
  rw [if_neg h3] at C
  by_cases h4 : op = 21
  · rw [if_pos h4] at C
    exact qm_step (sC_reckon hE) C 0 9999 100 ([1, 1, 1, 0], [], [(none, _)]) ⟨h1, h2, h3, h4, xV_setW hE hX g i _, rfl, rfl⟩
  rw [if_neg h4] at C
  by_cases h5 : op = 25
  · rw [if_pos h5] at C
    exact qm_step (sC_reckon hE) C 0 9999 100 ([1, 1, 1, 1, 0], [], [(none, _)]) ⟨h1, h2, h3, h4, h5, xC_toNumber hE hX g i a n hn ha, rfl, rfl⟩
  · rw [if_neg h5] at C
    exact qm_step (sC_reckon hE) C 0 9999 100 ([1, 1, 1, 1, 1], [], [(none, _)]) ⟨h1, h2, h3, h4, h5, hW g i a n hai hn ha, rfl, rfl⟩
-- expressions
def uE (g : cG) (i : Nat) (x : cER) : cG := (g.1, g.2.1, va_up g.2.2.1 i x, g.2.2.2)
theorem uE_at (g : cG) (i : Nat) (x : cER) : (uE g i x).2.2.1 i = x := va_up_self _ _ _
theorem uE_ne (g : cG) {i j : Nat} (x : cER) (h : j ≠ i) : (uE g i x).2.2.1 j = g.2.2.1 j := va_up_ne _ _ h
theorem uE_uE (g : cG) (i : Nat) (x y : cER) : uE (uE g i x) i y = uE g i y := by unfold uE; rw [bx_uu]
theorem xE_becomeValue {E : cEnv} (hE : cOk E) (g : cG) (i : Nat) : cSd E mE_becomeValue [qR 3 i] g (some (qR 1 i)) (uE g i (0, i, (g.2.2.1 i).2.2.1, (g.2.2.1 i).2.2.2.1, (g.2.2.1 i).2.2.2.2.1, (g.2.2.1 i).2.2.2.2.2.1, 0, 0, (g.2.2.1 i).2.2.2.2.2.2.2.2)) := by
  refine qm_meth hE (by decide) rfl rfl (Nat.le_of_ble_eq_true rfl) ?_
  intro p e st mm args below meth c Q C _ _
  have e1 : ∀ z : cG, z = uE g i (0, (g.2.2.1 i).2) → uE z i ((z.2.2.1 i).1, i, (z.2.2.1 i).2.2) = uE g i (0, i, (g.2.2.1 i).2.2) := by
    intro z hz; subst hz; rw [uE_uE, uE_at]
  have e2 : ∀ z : cG, z = uE g i (0, i, (g.2.2.1 i).2.2) → uE z i ((z.2.2.1 i).1, (z.2.2.1 i).2.1, (z.2.2.1 i).2.2.1, (z.2.2.1 i).2.2.2.1, (z.2.2.1 i).2.2.2.2.1, (z.2.2.1 i).2.2.2.2.2.1, 0, (z.2.2.1 i).2.2.2.2.2.2.2) = uE g i (0, i, (g.2.2.1 i).2.2.1, (g.2.2.1 i).2.2.2.1, (g.2.2.1 i).2.2.2.2.1, (g.2.2.1 i).2.2.2.2.2.1, 0, (g.2.2.1 i).2.2.2.2.2.2.2) := by
    intro z hz; subst hz; rw [uE_uE, uE_at]
  have e3 : ∀ z : cG, z = uE g i (0, i, (g.2.2.1 i).2.2.1, (g.2.2.1 i).2.2.2.1, (g.2.2.1 i).2.2.2.2.1, (g.2.2.1 i).2.2.2.2.2.1, 0, (g.2.2.1 i).2.2.2.2.2.2.2) → uE z i ((z.2.2.1 i).1, (z.2.2.1 i).2.1, (z.2.2.1 i).2.2.1, (z.2.2.1 i).2.2.2.1, (z.2.2.1 i).2.2.2.2.1, (z.2.2.1 i).2.2.2.2.2.1, (z.2.2.1 i).2.2.2.2.2.2.1, 0, (z.2.2.1 i).2.2.2.2.2.2.2.2) = uE g i (0, i, (g.2.2.1 i).2.2.1, (g.2.2.1 i).2.2.2.1, (g.2.2.1 i).2.2.2.2.1, (g.2.2.1 i).2.2.2.2.2.1, 0, 0, (g.2.2.1 i).2.2.2.2.2.2.2.2) := by
    intro z hz; subst hz; rw [uE_uE, uE_at]
  exact qm_step (sE_becomeValue hE) C 0 9999 100 ([], [], []) ⟨rfl, e3 _ (e2 _ (e1 _ rfl))⟩
theorem xE_becomeVariable {E : cEnv} (hE : cOk E) (g : cG) (i j : Nat) (v : Int32) : cSd E mE_becomeVariable [qR 3 i, qI v, qR 1 j] g none (uE g i (1, j, (g.2.2.1 i).2.2.1, (g.2.2.1 i).2.2.2.1, (g.2.2.1 i).2.2.2.2.1, (g.2.2.1 i).2.2.2.2.2.1, 1 <<< (v &&& 31), 0, (g.2.2.1 i).2.2.2.2.2.2.2.2)) := by
  refine qm_meth hE (by decide) rfl rfl (Nat.le_of_ble_eq_true rfl) ?_
  intro p e st mm args below meth c Q C _ _
  have e1 : ∀ z : cG, z = uE g i (1, (g.2.2.1 i).2) → uE z i ((z.2.2.1 i).1, j, (z.2.2.1 i).2.2) = uE g i (1, j, (g.2.2.1 i).2.2) := by
    intro z hz; subst hz; rw [uE_uE, uE_at]
  have e2 : ∀ z : cG, z = uE g i (1, j, (g.2.2.1 i).2.2) → uE z i ((z.2.2.1 i).1, (z.2.2.1 i).2.1, (z.2.2.1 i).2.2.1, (z.2.2.1 i).2.2.2.1, (z.2.2.1 i).2.2.2.2.1, (z.2.2.1 i).2.2.2.2.2.1, 1 <<< (v &&& 31), (z.2.2.1 i).2.2.2.2.2.2.2) = uE g i (1, j, (g.2.2.1 i).2.2.1, (g.2.2.1 i).2.2.2.1, (g.2.2.1 i).2.2.2.2.1, (g.2.2.1 i).2.2.2.2.2.1, 1 <<< (v &&& 31), (g.2.2.1 i).2.2.2.2.2.2.2) := by
    intro z hz; subst hz; rw [uE_uE, uE_at]
  have e3 : ∀ z : cG, z = uE g i (1, j, (g.2.2.1 i).2.2.1, (g.2.2.1 i).2.2.2.1, (g.2.2.1 i).2.2.2.2.1, (g.2.2.1 i).2.2.2.2.2.1, 1 <<< (v &&& 31), (g.2.2.1 i).2.2.2.2.2.2.2) → uE z i ((z.2.2.1 i).1, (z.2.2.1 i).2.1, (z.2.2.1 i).2.2.1, (z.2.2.1 i).2.2.2.1, (z.2.2.1 i).2.2.2.2.1, (z.2.2.1 i).2.2.2.2.2.1, (z.2.2.1 i).2.2.2.2.2.2.1, 0, (z.2.2.1 i).2.2.2.2.2.2.2.2) = uE g i (1, j, (g.2.2.1 i).2.2.1, (g.2.2.1 i).2.2.2.1, (g.2.2.1 i).2.2.2.2.1, (g.2.2.1 i).2.2.2.2.2.1, 1 <<< (v &&& 31), 0, (g.2.2.1 i).2.2.2.2.2.2.2.2) := by
    intro z hz; subst hz; rw [uE_uE, uE_at]
  exact qm_step (sE_becomeVariable hE) C 0 9999 100 ([], [], []) ⟨rfl, e3 _ (e2 _ (e1 _ rfl))⟩
