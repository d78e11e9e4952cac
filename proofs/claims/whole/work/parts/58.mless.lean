/-! less, stands, placeOf, sayNumber of the reference -/
theorem aBef_nil (l : List Int32) : aBef [] l = decide (0 < l.length) := by cases l <;> simp [aBef]
theorem aBef_r (a : Int32) (l : List Int32) : aBef (a :: l) [] = false := rfl
set_option maxHeartbeats 1000000 in
theorem xM_less (E : mEnv) (m : mG) (x y : Int32) (hx : vp_in x 90) (hy : vp_in y 90) (gx : mGd m (J x)) (gy : mGd m (J y)) : mSd E mM_less [qR 0 0, qI x, qI y] m (some (qI (aLess (mVA m (J x)) (mVA m (J y))))) m := by
  refine qm_meth (mOk E) (by decide) rfl rfl (Nat.le_of_ble_eq_true rfl) ?_
  intro p e st mm args below meth c Q C _ _
  unfold aLess at C
  rw [mVA_k, mVA_k] at C
  by_cases h1 : mk m (J x) = mk m (J y)
  · rw [if_neg (show ¬ ¬ mk m (J x) = mk m (J y) from fun q => q h1)] at C
    by_cases h2 : mk m (J x) = 2
    · rw [if_pos (Or.inl h2), mVA_am (by rw [h2]; decide) (by rw [h2]; decide), mVA_am (by rw [← h1, h2]; decide) (by rw [← h1, h2]; decide)] at C
      have n3 : ¬ mk m (J x) = 3 := by rw [h2]; decide
      by_cases h3 : mn m (J x) < mn m (J y)
      · rw [if_pos h3] at C
        have h3' : ¬ mn m (J y) ≤ mn m (J x) := Int64.not_le.mpr h3
        exact qm_step (sM_less E) C 0 9999 100 ([0, 1, 1, 0, 0], [], []) ⟨hx, hy, h1, hx, h2, by decide, hx, n3, hx, hy, h3', rfl, rfl⟩
      · rw [if_neg h3] at C
        have h3' : mn m (J y) ≤ mn m (J x) := Int64.not_lt.mp h3
        exact qm_step (sM_less E) C 0 9999 100 ([0, 1, 1, 0, 1], [], []) ⟨hx, hy, h1, hx, h2, by decide, hx, n3, hx, hy, h3', rfl, rfl⟩
    · by_cases h2' : mk m (J x) = 1
      · rw [if_pos (Or.inr h2'), mVA_am (by rw [h2']; decide) (by rw [h2']; decide), mVA_am (by rw [← h1, h2']; decide) (by rw [← h1, h2']; decide)] at C
        have n3 : ¬ mk m (J x) = 3 := by rw [h2']; decide
        by_cases h3 : mn m (J x) < mn m (J y)
        · rw [if_pos h3] at C
          have h3' : ¬ mn m (J y) ≤ mn m (J x) := Int64.not_le.mpr h3
          exact qm_step (sM_less E) C 0 9999 100 ([0, 0, 1, 1, 0, 0], [], []) ⟨hx, hy, h1, hx, h2, hx, h2', by decide, hx, n3, hx, hy, h3', rfl, rfl⟩
        · rw [if_neg h3] at C
          have h3' : mn m (J y) ≤ mn m (J x) := Int64.not_lt.mp h3
          exact qm_step (sM_less E) C 0 9999 100 ([0, 0, 1, 1, 0, 1], [], []) ⟨hx, hy, h1, hx, h2, hx, h2', by decide, hx, n3, hx, hy, h3', rfl, rfl⟩
      · rw [if_neg (not_or.mpr ⟨h2, h2'⟩)] at C
        by_cases h3 : mk m (J x) = 3
        · have h3y : mk m (J y) = 3 := h1 ▸ h3
          obtain ⟨a1, a2, a3, a4, a5, a6⟩ := mVA_tx h3 gx
          obtain ⟨b1, b2, b3, b4, b5, b6⟩ := mVA_tx h3y gy
          rw [a3, b3] at C
          by_cases h4 : mtg m (J x) = mtg m (J y)
          · rw [if_pos ⟨h3, h4⟩] at C
            have lx := xM_lengthT E m x hx h3 gx
            have ly := xM_lengthT E m y hy h3y gy
            have loop : ∀ (r k : Nat) (w : Int32), k + r = lA (mVA m (J x)) → k ≤ lA (mVA m (J y)) → w = nI k → aBef (aPart (mVA m (J x)) k r) (aPart (mVA m (J y)) k (lA (mVA m (J y)) - k)) = aBef (mVA m (J x)).2.2.2 (mVA m (J y)).2.2.2 → qm_W (mLa E.2.2.2) mV (mHold E) (mA E.2.2.2) 6 p E.1 e (rmL 2) st mm args below meth c Q 107 ([some (qR 0 0), some (qI x), some (qI y), some (qI 1), some (qI w), none], [], m) := by
              intro r
              induction r with
              | zero =>
                intro k w hk hky hw hB
                subst hw
                rw [← hB, show aPart (mVA m (J x)) k 0 = [] from rfl, aBef_nil] at C
                have eL : (aPart (mVA m (J y)) k (lA (mVA m (J y)) - k)).length = lA (mVA m (J y)) - k := by unfold aPart; simp
                rw [eL] at C
                have hc : nI (lA (mVA m (J x))) ≤ nI k := nI_le (by omega) (by omega)
                by_cases h5 : lA (mVA m (J x)) < lA (mVA m (J y))
                · rw [if_pos (decide_eq_true (by omega))] at C
                  have h6 : ¬ nI (lA (mVA m (J y))) ≤ nI (lA (mVA m (J x))) := nI_ge h5 (by omega)
                  exact qm_step (sM_less E) C 107 9999 100 ([1, 1, 0, 0], [], [(some (qI (nI (lA (mVA m (J x))))), m), (some (qI (nI (lA (mVA m (J x))))), m), (some (qI (nI (lA (mVA m (J x))))), m), (some (qI (nI (lA (mVA m (J y))))), m)]) ⟨lx, hc, lx, hc, lx, ly, h6, by decide, rfl, rfl⟩
                · rw [if_neg (by rw [decide_eq_true_eq]; omega)] at C
                  have h6 : nI (lA (mVA m (J y))) ≤ nI (lA (mVA m (J x))) := nI_le (by omega) (by omega)
                  exact qm_step (sM_less E) C 107 9999 100 ([1, 1, 1, 1], [], [(some (qI (nI (lA (mVA m (J x))))), m), (some (qI (nI (lA (mVA m (J x))))), m), (some (qI (nI (lA (mVA m (J x))))), m), (some (qI (nI (lA (mVA m (J y))))), m)]) ⟨lx, hc, lx, hc, lx, ly, h6, rfl, rfl, rfl⟩
              | succ r ih =>
                intro k w hk hky hw hB
                subst hw
                have hc : ¬ nI (lA (mVA m (J x))) ≤ nI k := nI_ge (by omega) (by omega)
                by_cases h5 : k < lA (mVA m (J y))
                · have hc2 : ¬ nI (lA (mVA m (J y))) ≤ nI k := nI_ge h5 (by omega)
                  have bx := xM_byteT E m x k hx h3 gx (by omega)
                  have bY := xM_byteT E m y k hy h3y gy h5
                  rw [show lA (mVA m (J y)) - k = (lA (mVA m (J y)) - (k + 1)) + 1 by omega, aPart_s, aPart_s, aBef] at hB
                  by_cases hb : bA (mVA m (J x)) k = bA (mVA m (J y)) k
                  · rw [if_pos hb] at hB
                    refine qm_step (sM_less E) C 107 107 100 ([0, 0, 0], [], [(some (qI (nI (lA (mVA m (J x))))), m), (some (qI (nI (lA (mVA m (J y))))), m), (some (qI (bA (mVA m (J x)) k)), m), (some (qI (bA (mVA m (J y)) k)), m)]) ⟨lx, hc, ly, hc2, bx, bY, hb, ?_⟩
                    exact ih (k + 1) _ (by omega) (by omega) (nI_1 k) hB
                  · rw [if_neg hb] at hB
                    rw [← hB] at C
                    by_cases h7 : bA (mVA m (J x)) k < bA (mVA m (J y)) k
                    · rw [if_pos (decide_eq_true h7)] at C
                      have h7' : ¬ bA (mVA m (J y)) k ≤ bA (mVA m (J x)) k := Int32.not_le.mpr h7
                      exact qm_step (sM_less E) C 107 9999 100 ([0, 0, 1, 0, 0, 0, 0], [], [(some (qI (nI (lA (mVA m (J x))))), m), (some (qI (nI (lA (mVA m (J y))))), m), (some (qI (bA (mVA m (J x)) k)), m), (some (qI (bA (mVA m (J y)) k)), m), (some (qI (nI (lA (mVA m (J x))))), m), (some (qI (nI (lA (mVA m (J y))))), m), (some (qI (bA (mVA m (J x)) k)), m), (some (qI (bA (mVA m (J y)) k)), m)]) ⟨lx, hc, ly, hc2, bx, bY, hb, lx, hc, ly, hc2, bx, bY, h7', by decide, rfl, rfl⟩
                    · rw [if_neg (by rw [decide_eq_true_eq]; exact h7)] at C
                      have h7' : bA (mVA m (J y)) k ≤ bA (mVA m (J x)) k := Int32.not_lt.mp h7
                      exact qm_step (sM_less E) C 107 9999 100 ([0, 0, 1, 0, 0, 1, 1], [], [(some (qI (nI (lA (mVA m (J x))))), m), (some (qI (nI (lA (mVA m (J y))))), m), (some (qI (bA (mVA m (J x)) k)), m), (some (qI (bA (mVA m (J y)) k)), m), (some (qI (nI (lA (mVA m (J x))))), m), (some (qI (nI (lA (mVA m (J y))))), m), (some (qI (bA (mVA m (J x)) k)), m), (some (qI (bA (mVA m (J y)) k)), m)]) ⟨lx, hc, ly, hc2, bx, bY, hb, lx, hc, ly, hc2, bx, bY, h7', rfl, rfl, rfl⟩
                · have hc2 : nI (lA (mVA m (J y))) ≤ nI k := nI_le (by omega) (by omega)
                  have h6 : nI (lA (mVA m (J y))) ≤ nI (lA (mVA m (J x))) := nI_le (by omega) (by omega)
                  rw [show lA (mVA m (J y)) - k = 0 by omega, aPart_s, show aPart (mVA m (J y)) k 0 = [] from rfl, aBef_r] at hB
                  rw [← hB, if_neg (by decide)] at C
                  exact qm_step (sM_less E) C 107 9999 100 ([0, 1, 0, 1, 1, 1], [], [(some (qI (nI (lA (mVA m (J x))))), m), (some (qI (nI (lA (mVA m (J y))))), m), (some (qI (nI (lA (mVA m (J x))))), m), (some (qI (nI (lA (mVA m (J y))))), m), (some (qI (nI (lA (mVA m (J x))))), m), (some (qI (nI (lA (mVA m (J y))))), m)]) ⟨lx, hc, ly, hc2, lx, hc, ly, hc2, lx, ly, h6, rfl, rfl, rfl⟩
            exact qm_step (sM_less E) C 0 107 100 ([0, 0, 0, 0, 0, 1, 1], [], []) ⟨hx, hy, h1, hx, h2, hx, h2', hx, h3, hx, hy, h4, by decide, hx, h3, loop (lA (mVA m (J x))) 0 0 (by omega) (by omega) rfl (by rw [Nat.sub_zero, aPart_all, aPart_all])⟩
          · rw [if_neg (fun q => h4 q.2)] at C
            exact qm_step (sM_less E) C 0 9999 100 ([0, 0, 0, 0, 1, 0], [], []) ⟨hx, hy, h1, hx, h2, hx, h2', hx, h3, hx, hy, h4, rfl, rfl, rfl⟩
        · rw [if_neg (fun q => h3 q.1)] at C
          exact qm_step (sM_less E) C 0 9999 100 ([0, 0, 0, 1, 0], [], []) ⟨hx, hy, h1, hx, h2, hx, h2', hx, h3, rfl, rfl, rfl⟩
  · rw [if_pos h1] at C
    exact qm_step (sM_less E) C 0 9999 100 ([1, 0], [], []) ⟨hx, hy, h1, rfl, rfl, rfl⟩
theorem xM_stands_neg (E : mEnv) (m : mG) (x y z : Int32) (h : z < 0) : mSd E mM_stands [qR 0 0, qI x, qI y, qI z] m (some (qI 0)) m := by
  refine qm_meth (mOk E) (by decide) rfl rfl (Nat.le_of_ble_eq_true rfl) ?_
  intro p e st mm args below meth c Q C _ _
  exact qm_step (sM_stands E) C 0 9999 100 ([1, 1], [], []) ⟨h, rfl, Or.inl rfl, rfl, rfl⟩
theorem xM_stands (E : mEnv) (m : mG) (x y : Int32) (q : Nat) (hx : vp_in x 90) (hy : vp_in y 90) (h3 : mk m (J x) = 3) (h3y : mk m (J y) = 3) (gx : mGd m (J x)) (gy : mGd m (J y)) (hq : q ≤ 24) : mSd E mM_stands [qR 0 0, qI x, qI y, qI (nI q)] m (some (qI (if aHas (mVA m (J x)) q (mVA m (J y)) then 1 else 0))) m := by
  refine qm_meth (mOk E) (by decide) rfl rfl (Nat.le_of_ble_eq_true rfl) ?_
  intro p e st mm args below meth c Q C _ _
  obtain ⟨a1, a2, a3, a4, a5, a6⟩ := mVA_tx h3 gx
  obtain ⟨b1, b2, b3, b4, b5, b6⟩ := mVA_tx h3y gy
  have lx := xM_lengthT E m x hx h3 gx
  have ly := xM_lengthT E m y hy h3y gy
  have h0 : ¬ nI q < 0 := nI_pos (by omega)
  unfold aHas at C
  by_cases h : q + lA (mVA m (J y)) ≤ lA (mVA m (J x))
  · have hc : ¬ nI (lA (mVA m (J x))) < nI q + nI (lA (mVA m (J y))) := by rw [nI_add]; exact nI_nlt h (by omega)
    rw [decide_eq_true h, Bool.true_and] at C
    have loop : ∀ (r k : Nat) (w : Int32), k + r = lA (mVA m (J y)) → w = nI k → ((List.range' k r).all fun k => bA (mVA m (J x)) (q + k) == bA (mVA m (J y)) k) = ((List.range (lA (mVA m (J y)))).all fun k => bA (mVA m (J x)) (q + k) == bA (mVA m (J y)) k) → qm_W (mLa E.2.2.2) mV (mHold E) (mA E.2.2.2) 6 p E.1 e (rmL 2) st mm args below meth c Q 29 ([some (qR 0 0), some (qI x), some (qI y), some (qI (nI q)), some (qI 1), some (qI w)], [], m) := by
      intro r
      induction r with
      | zero =>
        intro k w hk hw hB
        subst hw
        have hc2 : nI (lA (mVA m (J y))) ≤ nI k := nI_le (by omega) (by omega)
        rw [← hB, if_pos (show ((List.range' k 0).all fun k => bA (mVA m (J x)) (q + k) == bA (mVA m (J y)) k) = true from rfl)] at C
        exact qm_step (sM_stands E) C 29 9999 100 ([0, 1], [], [(some (qI (nI (lA (mVA m (J y))))), m)]) ⟨by decide, ly, hc2, Or.inr rfl, rfl, rfl⟩
      | succ r ih =>
        intro k w hk hw hB
        subst hw
        have hc2 : ¬ nI (lA (mVA m (J y))) ≤ nI k := nI_ge (by omega) (by omega)
        have bx := xM_byteT E m x (q + k) hx h3 gx (by omega)
        have bY := xM_byteT E m y k hy h3y gy (by omega)
        rw [← nI_add] at bx
        rw [List.range'_succ, List.all_cons] at hB
        by_cases hb : bA (mVA m (J x)) (q + k) = bA (mVA m (J y)) k
        · rw [hb, beq_self_eq_true, Bool.true_and] at hB
          refine qm_step (sM_stands E) C 29 29 100 ([0, 0, 0], [], [(some (qI (nI (lA (mVA m (J y))))), m), (some (qI (bA (mVA m (J x)) (q + k))), m), (some (qI (bA (mVA m (J y)) k)), m)]) ⟨by decide, ly, hc2, bx, bY, hb, ?_⟩
          exact ih (k + 1) _ (by omega) (nI_1 k) hB
        · have hf : (bA (mVA m (J x)) (q + k) == bA (mVA m (J y)) k) = false := by simp [hb]
          rw [hf, Bool.false_and] at hB
          rw [← hB, if_neg (by decide)] at C
          exact qm_step (sM_stands E) C 29 9999 100 ([0, 0, 1, 1], [], [(some (qI (nI (lA (mVA m (J y))))), m), (some (qI (bA (mVA m (J x)) (q + k))), m), (some (qI (bA (mVA m (J y)) k)), m)]) ⟨by decide, ly, hc2, bx, bY, hb, rfl, Or.inl rfl, rfl, rfl⟩
    exact qm_step (sM_stands E) C 0 29 100 ([0, 0], [], [(some (qI (nI (lA (mVA m (J y))))), m), (some (qI (nI (lA (mVA m (J x))))), m)]) ⟨h0, ly, lx, hc, loop (lA (mVA m (J y))) 0 0 (by omega) rfl (by rw [List.range_eq_range'])⟩
  · have hc : nI (lA (mVA m (J x))) < nI q + nI (lA (mVA m (J y))) := by rw [nI_add]; exact nI_lt (by omega) (by omega)
    rw [decide_eq_false h, Bool.false_and, if_neg (by decide)] at C
    exact qm_step (sM_stands E) C 0 9999 100 ([0, 1, 1], [], [(some (qI (nI (lA (mVA m (J y))))), m), (some (qI (nI (lA (mVA m (J x))))), m)]) ⟨h0, ly, lx, hc, rfl, Or.inl rfl, rfl, rfl⟩
theorem xM_placeOf (E : mEnv) (m : mG) (x y : Int32) (hx : vp_in x 90) (hy : vp_in y 90) (h3 : mk m (J x) = 3) (h3y : mk m (J y) = 3) (gx : mGd m (J x)) (gy : mGd m (J y)) : mSd E mM_placeOf [qR 0 0, qI x, qI y, qI 0] m (some (qI (fdI (aFind (mVA m (J x)) (mVA m (J y)))))) m := by
  refine qm_meth (mOk E) (by decide) rfl rfl (Nat.le_of_ble_eq_true rfl) ?_
  intro p e st mm args below meth c Q C _ _
  obtain ⟨a1, a2, a3, a4, a5, a6⟩ := mVA_tx h3 gx
  have lx := xM_lengthT E m x hx h3 gx
  have loop : ∀ (r k : Nat) (w : Int32), k + r = lA (mVA m (J x)) + 1 → w = nI k → ((List.range' k r).find? fun p => aHas (mVA m (J x)) p (mVA m (J y))) = aFind (mVA m (J x)) (mVA m (J y)) → qm_W (mLa E.2.2.2) mV (mHold E) (mA E.2.2.2) 5 p E.1 e (rmL 3) st mm args below meth c Q 3 ([some (qR 0 0), some (qI x), some (qI y), some (qI 0), some (qI w)], [], m) := by
    intro r
    induction r with
    | zero =>
      intro k w hk hw hB
      subst hw
      rw [← hB] at C
      have hc : nI (lA (mVA m (J x))) < nI k := nI_lt (by omega) (by omega)
      exact qm_step (sM_placeOf E) C 3 9999 100 ([1], [], [(some (qI (nI (lA (mVA m (J x))))), m)]) ⟨lx, hc, rfl, rfl⟩
    | succ r ih =>
      intro k w hk hw hB
      subst hw
      have hc : ¬ nI (lA (mVA m (J x))) < nI k := nI_nlt (by omega) (by omega)
      have hs := xM_stands E m x y k hx hy h3 h3y gx gy (by omega)
      rw [List.range'_succ, List.find?_cons] at hB
      cases hh : aHas (mVA m (J x)) k (mVA m (J y)) with
      | false =>
        rw [hh] at hB hs
        rw [if_neg (by decide)] at hs
        refine qm_step (sM_placeOf E) C 3 3 100 ([0, 1], [], [(some (qI (nI (lA (mVA m (J x))))), m), (some (qI 0), m)]) ⟨lx, hc, hs, rfl, ?_⟩
        exact ih (k + 1) _ (by omega) (nI_1 k) hB
      | true =>
        rw [hh] at hB hs
        rw [if_pos rfl] at hs
        rw [← hB] at C
        exact qm_step (sM_placeOf E) C 3 9999 100 ([0, 0], [], [(some (qI (nI (lA (mVA m (J x))))), m), (some (qI 1), m)]) ⟨lx, hc, hs, by decide, rfl, rfl⟩
  exact qm_step (sM_placeOf E) C 0 3 100 ([], [], []) (loop (lA (mVA m (J x)) + 1) 0 0 (by omega) rfl (by unfold aFind; rw [List.range_eq_range']))
