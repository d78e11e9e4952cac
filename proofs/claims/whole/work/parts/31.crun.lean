/-! FunctionRows.reckon, run: over contracts of goes and toWords that stand open -/
def lnN (g : cG) (j : Nat) : Nat := (g.1 j).2.2.2.toNatClampNeg
/-- a value as operations may meet it -/
def vOk (g : cG) (j : Nat) : Prop := ((g.1 j).1 = 3 → ∃ n : Nat, n ≤ 24 ∧ (g.1 j).2.2.2 = nI n) ∧ ((g.1 j).1 = 2 → -1000000000000000 ≤ (g.1 j).2.1.toInt ∧ (g.1 j).2.1.toInt ≤ 1000000000000000)
theorem vOk_len {g : cG} {j : Nat} (h : vOk g j) : ∃ n : Nat, n ≤ 24 ∧ ((g.1 j).1 = 3 → (g.1 j).2.2.2 = nI n ∧ lnN g j = n) := by
  by_cases h3 : (g.1 j).1 = 3
  · obtain ⟨n, hn, he⟩ := h.1 h3
    exact ⟨n, hn, fun _ => ⟨he, by unfold lnN; rw [he]; exact nI_clamp (by omega)⟩⟩
  · exact ⟨0, by omega, fun q => absurd q h3⟩
/-- what the contracts that stand open say -/
def goOpen (E : cEnv) (gI : cG → Nat → Nat → Int32) (gG : cG → Nat → Nat → cG) : Prop := ∀ (g : cG) (x y : Nat), vOk g x → vOk g y → cSd E mS_goes [qR 7 0, qR 1 x, qR 1 y] g (some (qI (gI g x y))) (gG g x y)
def woOpen (E : cEnv) : Prop := ∀ (g : cG) (i a n : Nat), a ≠ i → n ≤ 24 → ((g.1 a).1 = 3 → (g.1 a).2.2.2 = nI n) → cSd E mC_toWords [qR 1 i, qR 1 a] g none (twS g i a n)
def rkS (gI : cG → Nat → Nat → Int32) (gG : cG → Nat → Nat → cG) (op : Int32) (g : cG) (i a x n y k z m : Nat) : cG :=
  if op = 24 then sTr g i (gvI g a) else if op = 27 then sTr (gG g x y) i (gI g x y)
  else if ¬ op < 5 ∧ ¬ 9 < op then whS op g i x y
  else if (¬ op < 10 ∧ op ≤ 20) ∨ op = 28 then txS op g i x n y k z m
  else if ¬ op < 21 ∧ ¬ 26 < op then caS op g i x n y k z m else sTr g i (tRk op g x n y k z m)
theorem xR_reckon_open {E : cEnv} (hE : cOk E) (hX : qm_Nx E) {gI : cG → Nat → Nat → Int32} {gG : cG → Nat → Nat → cG} (hG : goOpen E gI gG) (hW : woOpen E) (g : cG) (i a b d x n y k z m : Nat) (op : Int32)
    (hv : (g.2.2.1 i).2.1 = i) (hop : (g.2.2.1 i).2.2.1 = op) (ha : (g.2.2.1 i).2.2.2.1 = some a) (hb : (g.2.2.1 i).2.2.2.2.1 = some b) (hd : (g.2.2.1 i).2.2.2.2.2.1 = some d)
    (hx : (g.2.2.1 a).2.1 = x) (hy : (g.2.2.1 b).2.1 = y) (hz : (g.2.2.1 d).2.1 = z) (hxi : x ≠ i) (hyi : y ≠ i) (hzi : z ≠ i) (ox : vOk g x) (oy : vOk g y) (oz : vOk g z)
    (hn : n ≤ 24) (hk : k ≤ 24) (hm : m ≤ 24) (lx : (g.1 x).1 = 3 → (g.1 x).2.2.2 = nI n) (ly : (g.1 y).1 = 3 → (g.1 y).2.2.2 = nI k) (lz : (g.1 z).1 = 3 → (g.1 z).2.2.2 = nI m) :
    cSd E mR_reckon [qR 0 0, qR 3 i] g none (rkS gI gG op g i a x n y k z m) := by
  refine qm_meth hE (by decide) rfl rfl (Nat.le_of_ble_eq_true rfl) ?_
  intro p e st mm args below meth c Q C _ _
  have h4 : rdE4 g i = some (3, a) := by unfold rdE4 cRf; rw [ha]; rfl
  have h5 : rdE5 g i = some (3, b) := by unfold rdE5 cRf; rw [hb]; rfl
  have h6 : rdE6 g i = some (3, d) := by unfold rdE6 cRf; rw [hd]; rfl
  subst hx hy hz hop
  unfold rkS at C
  have W0 : ∀ (K : qm_W (cLa E.2.2.2.1) cV (cHold E) (cA E.2.2.2.1) 5 p E.1 e (rmL 8) st mm args below meth c Q 25 ([some (qR 0 0), some (qR 3 i), some (qR 1 (g.2.2.1 a).2.1), some (qR 1 (g.2.2.1 b).2.1), some (qR 1 (g.2.2.1 d).2.1)], [], g)), qm_W (cLa E.2.2.2.1) cV (cHold E) (cA E.2.2.2.1) 5 p E.1 e (rmL 8) st mm args below meth c Q 0 (qm_ent 5 [qR 0 0, qR 3 i], [], g) := fun K => qm_step (sR_reckon hE) C 0 25 100 ([], [some (3, a), some (3, b), some (3, d)], []) ⟨h4, h5, h6, K⟩
  refine W0 ?_
  clear W0
  have vi : ∀ (P : Nat → Prop), P i → P (g.2.2.1 i).2.1 := fun P h => by rw [hv]; exact h
  by_cases c1 : (g.2.2.1 i).2.2.1 = 24
  · rw [if_pos c1] at C
    have hs := vi (fun w => cSd E mV_setTruth [qR 1 w, qI (gvI g a)] g none (sTr g i (gvI g a))) (xV_setTruth hE g i (gvI g a))
    exact qm_step (sR_reckon hE) C 25 9999 100 ([0], [some (3, a)], [(_, g), (none, _)]) ⟨c1, h4, xE_given hE g a, hs, rfl, rfl⟩
  rw [if_neg c1] at C
  by_cases c2 : (g.2.2.1 i).2.2.1 = 27
  · rw [if_pos c2] at C
    have hs := vi (fun w => cSd E mV_setTruth [qR 1 w, qI (gI g (g.2.2.1 a).2.1 (g.2.2.1 b).2.1)] (gG g (g.2.2.1 a).2.1 (g.2.2.1 b).2.1) none (sTr (gG g (g.2.2.1 a).2.1 (g.2.2.1 b).2.1) i (gI g (g.2.2.1 a).2.1 (g.2.2.1 b).2.1))) (xV_setTruth hE _ i _)
    exact qm_step (sR_reckon hE) C 25 9999 100 ([1, 0], [], [(_, gG g (g.2.2.1 a).2.1 (g.2.2.1 b).2.1), (none, _)]) ⟨c1, c2, hG g _ _ ox oy, hs, rfl, rfl⟩
  rw [if_neg c2] at C
  by_cases c3 : ¬ (g.2.2.1 i).2.2.1 < 5 ∧ ¬ 9 < (g.2.2.1 i).2.2.1
  · rw [if_pos c3] at C
    have hs := vi (fun w => cSd E mH_reckon [qI (g.2.2.1 i).2.2.1, qR 1 w, qR 1 (g.2.2.1 a).2.1, qR 1 (g.2.2.1 b).2.1] g none (whS (g.2.2.1 i).2.2.1 g i (g.2.2.1 a).2.1 (g.2.2.1 b).2.1)) (xH_reckon hE hX _ g i _ _)
    exact qm_step (sR_reckon hE) C 25 9999 100 ([1, 1, 0, 0], [], [(none, _)]) ⟨c1, c2, c3.1, c3.2, hs, rfl, rfl⟩
  rw [if_neg c3] at C
  have K112 : ∀ (K : qm_W (cLa E.2.2.2.1) cV (cHold E) (cA E.2.2.2.1) 5 p E.1 e (rmL 8) st mm args below meth c Q 112 ([some (qR 0 0), some (qR 3 i), some (qR 1 (g.2.2.1 a).2.1), some (qR 1 (g.2.2.1 b).2.1), some (qR 1 (g.2.2.1 d).2.1)], [], g)), qm_W (cLa E.2.2.2.1) cV (cHold E) (cA E.2.2.2.1) 5 p E.1 e (rmL 8) st mm args below meth c Q 25 ([some (qR 0 0), some (qR 3 i), some (qR 1 (g.2.2.1 a).2.1), some (qR 1 (g.2.2.1 b).2.1), some (qR 1 (g.2.2.1 d).2.1)], [], g) := by
    intro K
    by_cases c4 : (g.2.2.1 i).2.2.1 < 5
    · exact qm_step (sR_reckon hE) C 25 112 100 ([1, 1, 1], [], []) ⟨c1, c2, c4, K⟩
    · have c5 : 9 < (g.2.2.1 i).2.2.1 := Classical.not_not.mp fun q => c3 ⟨c4, q⟩
      exact qm_step (sR_reckon hE) C 25 112 100 ([1, 1, 0, 1], [], []) ⟨c1, c2, c4, c5, K⟩
  refine K112 ?_
  clear K112
  by_cases c6 : (¬ (g.2.2.1 i).2.2.1 < 10 ∧ (g.2.2.1 i).2.2.1 ≤ 20) ∨ (g.2.2.1 i).2.2.1 = 28
  · rw [if_pos c6] at C
    have hs := vi (fun w => cSd E mT_reckon [qI (g.2.2.1 i).2.2.1, qR 1 w, qR 1 (g.2.2.1 a).2.1, qR 1 (g.2.2.1 b).2.1, qR 1 (g.2.2.1 d).2.1] g none (txS (g.2.2.1 i).2.2.1 g i (g.2.2.1 a).2.1 n (g.2.2.1 b).2.1 k (g.2.2.1 d).2.1 m)) (xT_reckon hE hX _ g i _ n _ k _ m hxi hyi hzi hn hk hm lx ly lz oy.2 oz.2)
    by_cases c7 : (g.2.2.1 i).2.2.1 < 10
    · have c8 : (g.2.2.1 i).2.2.1 = 28 := c6.resolve_left (fun q => q.1 c7)
      exact qm_step (sR_reckon hE) C 112 9999 100 ([1, 0], [], [(none, _)]) ⟨c7, c8, hs, rfl, rfl⟩
    · by_cases c8 : (g.2.2.1 i).2.2.1 ≤ 20
      · exact qm_step (sR_reckon hE) C 112 9999 100 ([0, 1], [], [(none, _)]) ⟨c7, c8, hs, rfl, rfl⟩
      · have c9 : (g.2.2.1 i).2.2.1 = 28 := c6.resolve_left (fun q => c8 q.2)
        exact qm_step (sR_reckon hE) C 112 9999 100 ([0, 0, 0], [], [(none, _)]) ⟨c7, c8, c9, hs, rfl, rfl⟩
  rw [if_neg c6] at C
  have c28 : ¬ (g.2.2.1 i).2.2.1 = 28 := fun q => c6 (Or.inr q)
  have K157 : ∀ (K : qm_W (cLa E.2.2.2.1) cV (cHold E) (cA E.2.2.2.1) 5 p E.1 e (rmL 8) st mm args below meth c Q 157 ([some (qR 0 0), some (qR 3 i), some (qR 1 (g.2.2.1 a).2.1), some (qR 1 (g.2.2.1 b).2.1), some (qR 1 (g.2.2.1 d).2.1)], [], g)), qm_W (cLa E.2.2.2.1) cV (cHold E) (cA E.2.2.2.1) 5 p E.1 e (rmL 8) st mm args below meth c Q 112 ([some (qR 0 0), some (qR 3 i), some (qR 1 (g.2.2.1 a).2.1), some (qR 1 (g.2.2.1 b).2.1), some (qR 1 (g.2.2.1 d).2.1)], [], g) := by
    intro K
    by_cases c7 : (g.2.2.1 i).2.2.1 < 10
    · exact qm_step (sR_reckon hE) C 112 157 100 ([1, 1], [], []) ⟨c7, c28, K⟩
    · have c8 : ¬ (g.2.2.1 i).2.2.1 ≤ 20 := fun q => c6 (Or.inl ⟨c7, q⟩)
      exact qm_step (sR_reckon hE) C 112 157 100 ([0, 0, 1], [], []) ⟨c7, c8, c28, K⟩
  refine K157 ?_
  clear K157
  by_cases c7 : ¬ (g.2.2.1 i).2.2.1 < 21 ∧ ¬ 26 < (g.2.2.1 i).2.2.1
  · rw [if_pos c7] at C
    have hs := vi (fun w => cSd E mC_reckon [qI (g.2.2.1 i).2.2.1, qR 1 w, qR 1 (g.2.2.1 a).2.1, qR 1 (g.2.2.1 b).2.1, qR 1 (g.2.2.1 d).2.1] g none (caS (g.2.2.1 i).2.2.1 g i (g.2.2.1 a).2.1 n (g.2.2.1 b).2.1 k (g.2.2.1 d).2.1 m)) (xC_reckon_open hE hX hW _ g i _ n _ k _ m hxi hyi hzi hn hk hm lx ly lz)
    exact qm_step (sR_reckon hE) C 157 9999 100 ([0, 0], [], [(none, _)]) ⟨c7.1, c7.2, hs, rfl, rfl⟩
  · rw [if_neg c7] at C
    have hu := xU_reckon hE (g.2.2.1 i).2.2.1 g (g.2.2.1 a).2.1 (g.2.2.1 b).2.1 (g.2.2.1 d).2.1 n k m hn hk hm lx ly lz
    have hs := vi (fun w => cSd E mV_setTruth [qR 1 w, qI (tRk (g.2.2.1 i).2.2.1 g (g.2.2.1 a).2.1 n (g.2.2.1 b).2.1 k (g.2.2.1 d).2.1 m)] g none (sTr g i (tRk (g.2.2.1 i).2.2.1 g (g.2.2.1 a).2.1 n (g.2.2.1 b).2.1 k (g.2.2.1 d).2.1 m))) (xV_setTruth hE g i _)
    by_cases c8 : (g.2.2.1 i).2.2.1 < 21
    · exact qm_step (sR_reckon hE) C 157 9999 100 ([1], [], [(_, g), (none, _)]) ⟨c8, hu, hs, rfl, rfl⟩
    · have c9 : 26 < (g.2.2.1 i).2.2.1 := Classical.not_not.mp fun q => c7 ⟨c8, q⟩
      exact qm_step (sR_reckon hE) C 157 9999 100 ([0, 1], [], [(_, g), (none, _)]) ⟨c8, c9, hu, hs, rfl, rfl⟩
