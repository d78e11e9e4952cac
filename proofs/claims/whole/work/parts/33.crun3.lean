def rnS (gI : cG → Nat → Nat → Int32) (gG : cG → Nat → Nat → cG) (g : cG) (k : Nat) : cG := cpS (rC gI gG (gWt g k) (k + 1)) 88 ((rC gI gG (gWt g k) (k + 1)).2.2.1 k).2.1 (lnT (rC gI gG (gWt g k) (k + 1)) ((rC gI gG (gWt g k) (k + 1)).2.2.1 k).2.1)
set_option maxHeartbeats 400000 in
theorem xR_run_open {E : cEnv} (hE : cOk E) (hX : qm_Nx E) {gI : cG → Nat → Nat → Int32} {gG : cG → Nat → Nat → cG} (hG : goOpen E gI gG) (hW : woOpen E) (g : cG) (k : Nat) (hk : k < 80) (hex : isEx g (nI k)) (hwf : wfE g k) (hval : ∀ i, i ≤ k → (g.2.2.1 i).1 = 2 → (g.2.2.1 i).2.1 = i) (hne : ∀ i, i ≤ k → ∀ a, a < i → (g.2.2.1 a).2.1 ≠ i) (hlt : ∀ i, i ≤ k → (g.2.2.1 i).2.1 < 88)
    (hS : ∀ i, i ≤ k + 1 → (rC gI gG (gWt g k) i).2.2.1 = (gWt g k).2.2.1) (hV : ∀ i, i ≤ k + 1 → ∀ x, x < 88 → vOk (rC gI gG (gWt g k) i) x) :
    cSd E mR_run [qR 0 0, qI (nI k)] g (some (qI ((rnS gI gG g k).1 88).1)) (rnS gI gG g k) := by
  refine qm_meth hE (by decide) rfl rfl (Nat.le_of_ble_eq_true rfl) ?_
  intro p e st mm args below meth c Q C _ _
  have cl : ∀ i, i < 80 → (nI i).toNatClampNeg = i := fun i hi => nI_clamp (by omega)
  have sW : ∀ j, stE (gWt g k) j = stE g j := fun j => (stE_wB _ _ _ _).trans ((stE_wnE _ _ _ _).trans (stE_wA _ _ _))
  have sC : ∀ i, i ≤ k + 1 → ∀ j, stE (rC gI gG (gWt g k) i) j = stE g j := by
    intro i hi j
    rw [← sW j]
    unfold stE
    rw [hS i hi]
  have sv : ∀ {h : cG} {j : Nat}, stE h j = stE g j → (h.2.2.1 j).1 = (g.2.2.1 j).1 ∧ (h.2.2.1 j).2.1 = (g.2.2.1 j).2.1 := by
    intro h j q
    unfold stE at q
    simp only [Prod.mk.injEq] at q
    exact ⟨q.1, q.2.1⟩
  -- the end
  have ends : ∀ w : Int32, qm_W (cLa E.2.2.2.1) cV (cHold E) (cA E.2.2.2.1) 3 p E.1 e (rmL 9) st mm args below meth c Q 123 ([some (qR 0 0), some (qI (nI k)), some (qI w)], [], rC gI gG (gWt g k) (k + 1)) := by
    intro w
    have hin : vp_in (nI k) 80 := vp_in_nI hk (by decide)
    have hvk := (sv (sC (k + 1) (by omega) k)).2
    have hl := hlt k (by omega)
    obtain ⟨l1, l2⟩ := lnT_of (hV (k + 1) (by omega) ((rC gI gG (gWt g k) (k + 1)).2.2.1 k).2.1 (by rw [hvk]; exact hl))
    have hcp := xV_copy hE (rC gI gG (gWt g k) (k + 1)) 88 ((rC gI gG (gWt g k) (k + 1)).2.2.1 k).2.1 _ (by rw [hvk]; omega) l1 l2
    have hcp2 : cSd E mV_copy [qR 1 88, qR 1 ((rC gI gG (gWt g k) (k + 1)).2.2.1 (nI k).toNatClampNeg).2.1] (rC gI gG (gWt g k) (k + 1)) none (rnS gI gG g k) := by rw [cl k hk]; exact hcp
    exact qm_step (sR_run hE) C 123 9999 100 ([], [], [(none, rnS gI gG g k)]) ⟨hin, hcp2, rfl, rfl⟩
  -- reckoning
  have loopC : ∀ (r i : Nat) (w : Int32), i + r = k + 1 → w = nI i → qm_W (cLa E.2.2.2.1) cV (cHold E) (cA E.2.2.2.1) 3 p E.1 e (rmL 9) st mm args below meth c Q 78 ([some (qR 0 0), some (qI (nI k)), some (qI w)], [], rC gI gG (gWt g k) i) := by
    intro r
    induction r with
    | zero =>
      intro i w hi hw
      subst hw
      have hc : nI k < nI i := nI_lt (by omega) (by omega)
      have hi2 : i = k + 1 := by omega
      subst hi2
      exact qm_step (sR_run hE) C 78 123 100 ([1], [], []) ⟨hc, ends _⟩
    | succ r ih =>
      intro i w hi hw
      subst hw
      have hc : ¬ nI k < nI i := nI_nlt (by omega) (by omega)
      have hin : vp_in (nI i) 80 := vp_in_nI (by omega) (by decide)
      have ci := cl i (by omega)
      have fin := ih (i + 1) (nI i + 1) (by omega) (nI_1 i)
      have hs : rC gI gG (gWt g k) (i + 1) = rcW gI gG (rC gI gG (gWt g k) i) i := rfl
      rw [hs] at fin
      have sCi := sC i (by omega)
      have hVi := hV i (by omega)
      generalize rC gI gG (gWt g k) i = g1 at fin sCi hVi ⊢
      unfold rcW at fin
      by_cases h0 : waI g1 i = 0
      · rw [if_pos h0] at fin
        have h0' : (g1.2.2.1 (nI i).toNatClampNeg).2.2.2.2.2.2.2.2 = 0 := by rw [ci]; exact h0
        exact qm_step (sR_run hE) C 78 78 100 ([0, 1], [], []) ⟨hc, hin, h0', fin⟩
      · rw [if_neg h0] at fin
        have h0' : ¬ (g1.2.2.1 (nI i).toNatClampNeg).2.2.2.2.2.2.2.2 = 0 := by rw [ci]; exact h0
        by_cases h2 : (g1.2.2.1 i).1 = 2
        · rw [if_pos h2] at fin
          have hwf1 := wfE_of sCi hwf
          obtain ⟨a, b, d, ha, hb, hd, la, lb, ld⟩ := hwf1 i (by omega) h2
          have hic : cSd E mE_isCall [qR 3 (nI i).toNatClampNeg] g1 (some (qI 1)) g1 := by rw [ci]; exact (xE_isCall hE g1 i).1 h2 a b d ha hb hd
          have ea : opA g1 i = a := by unfold opA; rw [ha]; rfl
          have eb : opB g1 i = b := by unfold opB; rw [hb]; rfl
          have ed : opD g1 i = d := by unfold opD; rw [hd]; rfl
          rw [ea, eb, ed] at fin
          have hf2 := (sv (sCi i)).1
          have hv1 : (g1.2.2.1 i).2.1 = i := (sv (sCi i)).2.trans (hval i (by omega) (hf2.symm.trans h2))
          have hx := (sv (sCi a)).2
          have hy := (sv (sCi b)).2
          have hz := (sv (sCi d)).2
          have ox := hVi (g1.2.2.1 a).2.1 (by rw [hx]; exact hlt a (by omega))
          have oy := hVi (g1.2.2.1 b).2.1 (by rw [hy]; exact hlt b (by omega))
          have oz := hVi (g1.2.2.1 d).2.1 (by rw [hz]; exact hlt d (by omega))
          have hrk := xR_reckon_open hE hX hG hW g1 i a b d (g1.2.2.1 a).2.1 (lnT g1 (g1.2.2.1 a).2.1) (g1.2.2.1 b).2.1 (lnT g1 (g1.2.2.1 b).2.1) (g1.2.2.1 d).2.1 (lnT g1 (g1.2.2.1 d).2.1) (g1.2.2.1 i).2.2.1 hv1 rfl ha hb hd rfl rfl rfl (by rw [hx]; exact hne i (by omega) a la) (by rw [hy]; exact hne i (by omega) b lb) (by rw [hz]; exact hne i (by omega) d ld) ox oy oz (lnT_of ox).1 (lnT_of oy).1 (lnT_of oz).1 (lnT_of ox).2 (lnT_of oy).2 (lnT_of oz).2
          generalize rkS gI gG (g1.2.2.1 i).2.2.1 g1 i a (g1.2.2.1 a).2.1 (lnT g1 (g1.2.2.1 a).2.1) (g1.2.2.1 b).2.1 (lnT g1 (g1.2.2.1 b).2.1) (g1.2.2.1 d).2.1 (lnT g1 (g1.2.2.1 d).2.1) = g2 at fin hrk
          have hrk2 : cSd E mR_reckon [qR 0 0, qR 3 (nI i).toNatClampNeg] g1 none g2 := by rw [ci]; exact hrk
          exact qm_step (sR_run hE) C 78 78 100 ([0, 0, 0], [], [(some (qI 1), g1), (none, g2)]) ⟨hc, hin, h0', hin, hic, by decide, hin, hrk2, fin⟩
        · rw [if_neg h2] at fin
          have hic : cSd E mE_isCall [qR 3 (nI i).toNatClampNeg] g1 (some (qI 0)) g1 := by rw [ci]; exact (xE_isCall hE g1 i).2 h2
          exact qm_step (sR_run hE) C 78 78 100 ([0, 0, 1], [], [(some (qI 0), g1)]) ⟨hc, hin, h0', hin, hic, rfl, fin⟩
  -- wanting
  have loopB : ∀ (r j : Nat) (w : Int32), j + r = k + 1 → w = nI r - 1 → qm_W (cLa E.2.2.2.1) cV (cHold E) (cA E.2.2.2.1) 3 p E.1 e (rmL 9) st mm args below meth c Q 45 ([some (qR 0 0), some (qI (nI k)), some (qI w)], [], wB (wnE (wA g k) k 1) k j) := by
    intro r
    induction r with
    | zero =>
      intro j w hj hw
      subst hw
      have hj2 : j = k + 1 := by omega
      subst hj2
      exact qm_step (sR_run hE) C 45 78 100 ([1], [], []) ⟨show nI 0 - 1 < 0 by decide, loopC (k + 1) 0 _ (by omega) rfl⟩
    | succ r ih =>
      intro j w hj hw
      rw [nI_pred] at hw
      subst hw
      have hc : ¬ nI r < 0 := nI_pos (by omega)
      have hin : vp_in (nI r) 80 := vp_in_nI (by omega) (by decide)
      have ci := cl r (by omega)
      have fin := ih (j + 1) (nI r + -1) (by omega) (Int32.sub_eq_add_neg _ _).symm
      have hs : wB (wnE (wA g k) k 1) k (j + 1) = woS (wB (wnE (wA g k) k 1) k j) (k - j) := rfl
      rw [hs, show k - j = r by omega] at fin
      have sBj : ∀ x, stE (wB (wnE (wA g k) k 1) k j) x = stE g x := fun x => (stE_wB _ _ _ _).trans ((stE_wnE _ _ _ _).trans (stE_wA _ _ _))
      generalize wB (wnE (wA g k) k 1) k j = g1 at fin sBj ⊢
      unfold woS at fin
      by_cases h0 : waI g1 r = 0
      · rw [if_pos h0] at fin
        have h0' : (g1.2.2.1 (nI r).toNatClampNeg).2.2.2.2.2.2.2.2 = 0 := by rw [ci]; exact h0
        exact qm_step (sR_run hE) C 45 45 100 ([0, 1], [], []) ⟨hc, hin, h0', fin⟩
      · rw [if_neg h0] at fin
        have h0' : ¬ (g1.2.2.1 (nI r).toNatClampNeg).2.2.2.2.2.2.2.2 = 0 := by rw [ci]; exact h0
        by_cases h2 : (g1.2.2.1 r).1 = 2
        · rw [if_pos h2] at fin
          obtain ⟨a, b, d, ha, hb, hd, la, lb, ld⟩ := wfE_of sBj hwf r (by omega) h2
          have ea : opA g1 r = a := by unfold opA; rw [ha]; rfl
          have eb : opB g1 r = b := by unfold opB; rw [hb]; rfl
          have ed : opD g1 r = d := by unfold opD; rw [hd]; rfl
          rw [ea, eb, ed] at fin
          have hw2 : cSd E mE_wantOperands [qR 3 (nI r).toNatClampNeg] g1 none (wnE (wnE (wnE g1 a 1) b 1) d 1) := by rw [ci]; exact xE_want_yes hE g1 r a b d h2 ha hb hd (by omega) (by omega)
          exact qm_step (sR_run hE) C 45 45 100 ([0, 0], [], [(none, wnE (wnE (wnE g1 a 1) b 1) d 1)]) ⟨hc, hin, h0', hin, hw2, fin⟩
        · rw [if_neg h2] at fin
          have hw2 : cSd E mE_wantOperands [qR 3 (nI r).toNatClampNeg] g1 none g1 := by rw [ci]; exact xE_want_no hE g1 r h2
          exact qm_step (sR_run hE) C 45 45 100 ([0, 0], [], [(none, g1)]) ⟨hc, hin, h0', hin, hw2, fin⟩
  -- nothing is wanted
  have loopA : ∀ (r i : Nat) (w : Int32), i + r = k → w = nI i → qm_W (cLa E.2.2.2.1) cV (cHold E) (cA E.2.2.2.1) 3 p E.1 e (rmL 9) st mm args below meth c Q 12 ([some (qR 0 0), some (qI (nI k)), some (qI w)], [], wA g i) := by
    intro r
    induction r with
    | zero =>
      intro i w hi hw
      subst hw
      have hi2 : i = k := by omega
      subst hi2
      have hin : vp_in (nI i) 80 := vp_in_nI hk (by decide)
      have fin := loopB (i + 1) 0 (nI i) (by omega) (nI_pred i).symm
      have e1 : wB (wnE (wA g i) i 1) i 0 = wnE (wA g i) (nI i).toNatClampNeg 1 := by rw [cl i hk]; rfl
      rw [e1] at fin
      exact qm_step (sR_run hE) C 12 45 100 ([1], [], []) ⟨Int32.le_refl _, hin, Or.inr rfl, fin⟩
    | succ r ih =>
      intro i w hi hw
      subst hw
      have hc : ¬ nI k ≤ nI i := nI_ge (by omega) (by omega)
      have hin : vp_in (nI i) 80 := vp_in_nI (by omega) (by decide)
      have fin := ih (i + 1) (nI i + 1) (by omega) (nI_1 i)
      have e1 : wA g (i + 1) = wnE (wA g i) (nI i).toNatClampNeg 0 := by rw [cl i (by omega)]; rfl
      rw [e1] at fin
      exact qm_step (sR_run hE) C 12 12 100 ([0], [], []) ⟨hc, hin, Or.inl rfl, fin⟩
  exact qm_step (sR_run hE) C 0 12 100 ([1], [], [(some (qI 1), g)]) ⟨(xR_isEx hE g _).1 hex, by decide, loopA k 0 _ (by omega) rfl⟩
