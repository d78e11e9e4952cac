/-! last of the reference -/
theorem aTu_be (x y z : AV) : ∀ r q b1 b2, b1 ≤ q → b2 ≤ q → aTu x y z r q b1 = aTu x y z r q b2
  | 0, _, _, _, _, _ => rfl
  | r + 1, q, b1, b2, h1, h2 => by
    rw [aTu, aTu, if_neg (show ¬ q < b1 by omega), if_neg (show ¬ q < b2 by omega), aTu_be x y z r (q + 1) b1 b2 (by omega) (by omega)]
theorem aTu_sk (x y z : AV) : ∀ j r q be, q + j = be → aTu x y z (r + j) q be = aTu x y z r be be
  | 0, r, q, be, h => by
    have : q = be := by omega
    rw [this]
    rfl
  | j + 1, r, q, be, h => by
    rw [show r + (j + 1) = (r + j) + 1 by omega, aTu, if_pos (by omega)]
    exact aTu_sk x y z j r (q + 1) be (by omega)
set_option maxHeartbeats 4000000 in
theorem xM_turn (E : mEnv) (m : mG) (x a b c : Int32) (hx : vp_in x 90) (ha : vp_in a 90) (hb : vp_in b 90) (hc : vp_in c 90) (hax : J a ≠ J x) (hbx : J b ≠ J x) (hcx : J c ≠ J x) (h3 : mk m (J a) = 3) (k3 : mk m (J b) = 3) (c3 : mk m (J c) = 3) (g : mGd m (J a)) (gb : mGd m (J b)) (gc : mGd m (J c)) (tb : mtg m (J b) = 0) (tc : mtg m (J c) = 0) (hl : ¬ lA (mVA m (J b)) = 0) : mDo E mM_last [qR 0 0, qI x, qI 28, qI a, qI b, qI c] m (J x) (aTx (mtg m (J a)) (aTu (mVA m (J a)) (mVA m (J b)) (mVA m (J c)) (lA (mVA m (J a))) 0 0)) := by
  obtain ⟨X, hX⟩ : ∃ X, X = mVA m (J a) := ⟨_, rfl⟩
  obtain ⟨Y, hY⟩ : ∃ Y, Y = mVA m (J b) := ⟨_, rfl⟩
  obtain ⟨Z, hZ⟩ : ∃ Z, Z = mVA m (J c) := ⟨_, rfl⟩
  have tX := av_tx g.1 (by rw [mVA_k]; exact h3)
  have tY := av_tx gb.1 (by rw [mVA_k]; exact k3)
  have lb := xM_lengthT E m b hb k3 gb
  rw [← hX, ← hY, ← hZ]
  rw [← hX] at tX
  rw [← hY] at tY hl lb
  obtain ⟨z0, hz0⟩ : ∃ z0, z0 = setS m (J x) 3 0 := ⟨_, rfl⟩
  have t0 : mTx z0 (J x) := by rw [hz0]; exact mTx_set _ _
  have f0 : mFr (J x) m z0 := by rw [hz0]; exact mFr_set _ _ _ _
  obtain ⟨i1, i2⟩ := mIs_sa m (J x) (aTu X Y Z (lA X) 0 0) (mtg m (J a))
  rw [← hz0] at i1 i2
  refine ⟨_, ?_, i2, i1⟩
  refine qm_meth (mOk E) (by decide) rfl rfl (Nat.le_of_ble_eq_true rfl) ?_
  intro p e st mm args below meth cc Q C _ _
  have loop : ∀ (n k : Nat) (w : Int32) (m1 : mG), lA X - k ≤ n → k ≤ lA X → w = nI k → mTx m1 (J x) → mFr (J x) m m1 → saN m1 (J x) (aTu X Y Z (lA X - k) k k) = saN z0 (J x) (aTu X Y Z (lA X) 0 0) → qm_W (mLa E.2.2.2) mV (mHold E) (mA E.2.2.2) 8 p E.1 e (rmL 110) st mm args below meth cc Q 149 ([some (qR 0 0), some (qI x), some (qI 28), some (qI a), some (qI b), some (qI c), some (qI w), none], [], m1) := by
    intro n
    induction n with
    | zero =>
      intro k w m1 hn hk hw t1 fr hS
      subst hw
      have hlx := xM_lengthT E m1 a ha ((fr.2.1 4 _ (Or.inr hax)).trans h3) (mFr_g fr hax g)
      rw [mFr_v fr hax, ← hX] at hlx
      have c1 : nI (lA X) ≤ nI k := nI_le (by omega) (by omega)
      have ta : mtg m1 (J a) = mtg m (J a) := fr.2.1 5 _ (Or.inr hax)
      rw [show lA X - k = 0 by omega] at hS
      have hS : m1 = saN z0 (J x) (aTu X Y Z (lA X) 0 0) := hS
      have fin : miW m1 5 (J x) (mtg m1 (J a)) = miW (saN z0 (J x) (aTu X Y Z (lA X) 0 0)) 5 (J x) (mtg m (J a)) := by rw [ta, ← hS]
      exact qm_step (sM_last E) C 149 9999 100 ([1], [], [(some (qI (nI (lA X))), m1)]) ⟨hlx, c1, ha, hx, rfl, fin⟩
    | succ n ih =>
      intro k w m1 hn hk hw t1 fr hS
      subst hw
      have kA := (fr.2.1 4 _ (Or.inr hax)).trans h3
      have kB := (fr.2.1 4 _ (Or.inr hbx)).trans k3
      have kC := (fr.2.1 4 _ (Or.inr hcx)).trans c3
      have gA := mFr_g fr hax g
      have gB := mFr_g fr hbx gb
      have gC := mFr_g fr hcx gc
      have hlx := xM_lengthT E m1 a ha kA gA
      rw [mFr_v fr hax, ← hX] at hlx
      by_cases hkl : k = lA X
      · exact ih k _ m1 (by omega) hk rfl t1 fr hS
      · have c1 : ¬ nI (lA X) ≤ nI k := nI_ge (by omega) (by omega)
        have hst := xM_stands E m1 a b k ha hb kA kB gA gB (by omega)
        rw [mFr_v fr hax, mFr_v fr hbx, ← hX, ← hY] at hst
        obtain ⟨r, hr⟩ : ∃ r, lA X - k = r + 1 := ⟨lA X - k - 1, by omega⟩
        rw [hr, aTu, if_neg (by omega)] at hS
        cases hh : aHas X k Y with
        | true =>
          rw [hh, if_pos rfl] at hS hst
          have hle : k + lA Y ≤ lA X := by
            unfold aHas at hh
            rw [Bool.and_eq_true] at hh
            exact of_decide_eq_true hh.1
          have hsa := xM_sayAll E m1 x c hx hc hcx t1 kC gC
          rw [mFr_v fr hcx, ← hZ] at hsa
          obtain ⟨f2, t2⟩ := saN_fr (J x) Z.2.2.2 t1
          obtain ⟨m2, hm2⟩ : ∃ m2, m2 = saN m1 (J x) Z.2.2.2 := ⟨_, rfl⟩
          rw [← hm2] at hsa f2 t2
          have fr2 := mFr_tr fr f2
          have hlb := xM_lengthT E m2 b hb ((fr2.2.1 4 _ (Or.inr hbx)).trans k3) (mFr_g fr2 hbx gb)
          rw [mFr_v fr2 hbx, ← hY] at hlb
          refine qm_step (sM_last E) C 149 149 100 ([0, 0], [], [(some (qI (nI (lA X))), m1), (some (qI 1), m1), (none, m2), (some (qI (nI (lA Y))), m2)]) ⟨hlx, c1, hst, by decide, hsa, hlb, ?_⟩
          refine ih (k + lA Y) _ m2 (by omega) hle (nI_add k (lA Y)) t2 fr2 ?_
          refine Eq.trans ?_ hS
          rw [saN_app, ← hm2]
          congr 1
          have := aTu_sk X Y Z (lA Y - 1) (lA X - (k + lA Y)) (k + 1) (k + lA Y) (by omega)
          rw [show lA X - (k + lA Y) + (lA Y - 1) = r by omega] at this
          exact this.symm
        | false =>
          rw [hh, if_neg (by decide)] at hS hst
          have hby := xM_byteT E m1 a k ha kA gA (by rw [mFr_v fr hax, ← hX]; omega)
          rw [mFr_v fr hax, ← hX] at hby
          have hsy := xM_say E m1 x (bA X k) hx t1
          refine qm_step (sM_last E) C 149 149 100 ([0, 1], [], [(some (qI (nI (lA X))), m1), (some (qI 0), m1), (some (qI (bA X k)), m1), (none, saS m1 (J x) (bA X k))]) ⟨hlx, c1, hst, rfl, hby, hsy, ?_⟩
          refine ih (k + 1) _ _ (by omega) (by omega) (nI_1 k) (saS_tx t1 _) (mFr_tr fr (saS_fr t1 _)) ?_
          have eL : aTu X Y Z (lA X - (k + 1)) (k + 1) (k + 1) = aTu X Y Z r (k + 1) k := by rw [show lA X - (k + 1) = r by omega]; exact aTu_be X Y Z r (k + 1) (k + 1) k (by omega) (by omega)
          refine Eq.trans ?_ hS
          rw [eL]
          exact (saN_1 m1 (J x) (bA X k) (aTu X Y Z r (k + 1) k)).symm
  have hl0 : ¬ nI (lA Y) = 0 := nI_ne0 (by omega) (by omega)
  have hs0 := xM_set E m x 3 0 hx
  rw [← hz0] at hs0
  exact qm_step (sM_last E) C 0 149 100 ([1, 0, 0, 1, 1, 0, 0, 1], [], [(some (qI (nI (lA Y))), m), (none, z0)]) ⟨by decide, ha, h3, hb, k3, hb, tb, by decide, hc, c3, hc, tc, lb, hl0, hs0, loop (lA X) 0 0 z0 (by omega) (by omega) rfl t0 f0 (by rw [Nat.sub_zero])⟩
set_option maxHeartbeats 2000000 in
theorem xM_last (E : mEnv) (m : mG) (x op a b c : Int32) (Z : AV) (hx : vp_in x 90) (ha : vp_in a 90) (hb : vp_in b 90) (hc : ¬ op = 27 → vp_in c 90) (hax : J a ≠ J x) (hbx : J b ≠ J x) (hcx : ¬ op = 27 → J c ≠ J x) (h0 : mk m (J x) = 0) (g : mGd m (J a)) (gb : mGd m (J b)) (gc : ¬ op = 27 → mGd m (J c)) (hZ : ¬ op = 27 → Z = mVA m (J c)) (hop : op = 27 ∨ op = 28 ∨ op = 29) (gv : Int32) : mDo E mM_last [qR 0 0, qI x, qI op, qI a, qI b, qI c] m (J x) (opV op (mVA m (J a)) (mVA m (J b)) Z gv) := by
  unfold opV
  -- where a or b is no such TEXT
  have no : ¬ op = 29 → ¬ (mk m (J a) = 3 ∧ mk m (J b) = 3 ∧ mtg m (J b) = 0) → mDo E mM_last [qR 0 0, qI x, qI op, qI a, qI b, qI c] m (J x) aErr := by
    intro n29 hn
    refine ⟨m, ?_, mFr_rfl _ _, mIs_0 h0⟩
    refine qm_meth (mOk E) (by decide) rfl rfl (Nat.le_of_ble_eq_true rfl) ?_
    intro p e st mm args below meth cc Q C _ _
    by_cases w1 : mk m (J a) = 3
    · by_cases w2 : mk m (J b) = 3
      · have w3 : ¬ mtg m (J b) = 0 := fun w => hn ⟨w1, w2, w⟩
        exact qm_step (sM_last E) C 0 9999 100 ([1, 0, 0, 0], [], []) ⟨n29, ha, w1, hb, w2, hb, w3, rfl, rfl⟩
      · exact qm_step (sM_last E) C 0 9999 100 ([1, 0, 1], [], []) ⟨n29, ha, w1, hb, w2, rfl, rfl⟩
    · exact qm_step (sM_last E) C 0 9999 100 ([1, 1], [], []) ⟨n29, ha, w1, rfl, rfl⟩
  rcases hop with h | h | h
  · subst h
    rw [if_neg (by decide), if_pos rfl]
    by_cases hn : mk m (J a) = 3 ∧ mk m (J b) = 3 ∧ mtg m (J b) = 0
    · obtain ⟨w1, w2, w3⟩ := hn
      obtain ⟨z, z1, z2, z3⟩ := xM_goes E m x a b hx ha hb h0 w1 w2 g gb w3
      refine ⟨z, ?_, z2, z3⟩
      refine qm_meth (mOk E) (by decide) rfl rfl (Nat.le_of_ble_eq_true rfl) ?_
      intro p e st mm args below meth cc Q C _ _
      exact qm_step (sM_last E) C 0 9999 100 ([1, 0, 0, 1, 0], [], [(none, z)]) ⟨by decide, ha, w1, hb, w2, hb, w3, rfl, z1, rfl, rfl⟩
    · have e : aGo (mVA m (J a)) (mVA m (J b)) = -1 := by
        unfold aGo
        rw [mVA_k, mVA_k, if_neg]
        rintro ⟨w1, w2, w3⟩
        rw [(mVA_tx w2 gb).2.2.1] at w3
        exact hn ⟨w1, w2, w3⟩
      rw [e]
      exact no (by decide) hn
  · subst h
    have hc := hc (by decide)
    have hcx := hcx (by decide)
    have gc := gc (by decide)
    have hZ := hZ (by decide)
    rw [if_neg (by decide), if_neg (by decide), if_neg (by decide), if_pos (by decide)]
    unfold aTxs
    rw [mVA_k, mVA_k]
    by_cases w1 : mk m (J a) = 3
    · rw [if_neg (show ¬ ¬ mk m (J a) = 3 from fun q => q w1), if_neg (by decide), if_neg (by decide), if_neg (by decide), if_neg (by decide), if_neg (by decide), if_neg (by decide), if_pos rfl, hZ, mVA_k]
      by_cases w2 : mk m (J b) = 3
      · rw [(mVA_tx w2 gb).2.2.1]
        by_cases w3 : mtg m (J b) = 0
        · have lb := xM_lengthT E m b hb w2 gb
          by_cases w4 : mk m (J c) = 3
          · rw [(mVA_tx w4 gc).2.2.1]
            by_cases w5 : mtg m (J c) = 0
            · by_cases w6 : lA (mVA m (J b)) = 0
              · rw [if_pos (Or.inr (Or.inr w6))]
                refine ⟨m, ?_, mFr_rfl _ _, mIs_0 h0⟩
                refine qm_meth (mOk E) (by decide) rfl rfl (Nat.le_of_ble_eq_true rfl) ?_
                intro p e st mm args below meth cc Q C _ _
                have w6' : nI (lA (mVA m (J b))) = 0 := by rw [w6]; rfl
                exact qm_step (sM_last E) C 0 9999 100 ([1, 0, 0, 1, 1, 0, 0, 0], [], [(some (qI (nI (lA (mVA m (J b))))), m)]) ⟨by decide, ha, w1, hb, w2, hb, w3, by decide, hc, w4, hc, w5, lb, w6', rfl, rfl⟩
              · rw [if_neg (by rintro (w | w | w); exact w ⟨w2, w3⟩; exact w ⟨w4, w5⟩; exact w6 w), (mVA_tx w1 g).2.2.1]
                exact xM_turn E m x a b c hx ha hb hc hax hbx hcx w1 w2 w4 g gb gc w3 w5 w6
            · rw [if_pos (Or.inr (Or.inl (fun w => w5 w.2)))]
              refine ⟨m, ?_, mFr_rfl _ _, mIs_0 h0⟩
              refine qm_meth (mOk E) (by decide) rfl rfl (Nat.le_of_ble_eq_true rfl) ?_
              intro p e st mm args below meth cc Q C _ _
              exact qm_step (sM_last E) C 0 9999 100 ([1, 0, 0, 1, 1, 0, 1], [], []) ⟨by decide, ha, w1, hb, w2, hb, w3, by decide, hc, w4, hc, w5, rfl, rfl⟩
          · rw [if_pos (Or.inr (Or.inl (fun w => w4 w.1)))]
            refine ⟨m, ?_, mFr_rfl _ _, mIs_0 h0⟩
            refine qm_meth (mOk E) (by decide) rfl rfl (Nat.le_of_ble_eq_true rfl) ?_
            intro p e st mm args below meth cc Q C _ _
            exact qm_step (sM_last E) C 0 9999 100 ([1, 0, 0, 1, 1, 1], [], []) ⟨by decide, ha, w1, hb, w2, hb, w3, by decide, hc, w4, rfl, rfl⟩
        · rw [if_pos (Or.inl (fun w => w3 w.2))]
          exact no (by decide) (fun w => w3 w.2.2)
      · rw [if_pos (Or.inl (fun w => w2 w.1))]
        exact no (by decide) (fun w => w2 w.2.1)
    · rw [if_pos w1]
      exact no (by decide) (fun w => w1 w.1)
  · subst h
    have hc := hc (by decide)
    have gc := gc (by decide)
    have hZ := hZ (by decide)
    rw [if_neg (by decide), if_neg (by decide), if_neg (by decide), if_neg (by decide), if_neg (by decide), hZ]
    unfold aTrs
    rw [if_neg (by decide), if_neg (by decide), if_neg (by decide), if_neg (by decide), if_neg (by decide), if_pos rfl]
    have s1 := xM_same E m a b ha hb g gb
    have s2 := xM_same E m a c ha hc g gc
    have u3 := t3_same (mVA m (J a)) (mVA m (J b))
    have v3 := t3_same (mVA m (J a)) (mVA m (J c))
    refine ⟨stT m (J x) (tOr (aSame (mVA m (J a)) (mVA m (J b))) (aSame (mVA m (J a)) (mVA m (J c)))), ?_, mFr_stT _ _ _, mIs_tr _ _ (t3_or _ _)⟩
    refine qm_meth (mOk E) (by decide) rfl rfl (Nat.le_of_ble_eq_true rfl) ?_
    intro p e st mm args below meth cc Q C _ _
    have hs : ∀ t, mSd E mM_setTruth [qR 0 0, qI x, qI t] m none (stT m (J x) t) := fun t => xM_setTruth E m x t hx
    generalize aSame (mVA m (J a)) (mVA m (J b)) = u at *
    generalize aSame (mVA m (J a)) (mVA m (J c)) = v at *
    by_cases q1 : u = 1
    · rw [show tOr u v = 1 by unfold tOr; rw [if_pos (Or.inl q1)]] at C
      exact qm_step (sM_last E) C 0 9999 100 ([0, 1], [], [(some (qI u), m), (some (qI v), m), (none, stT m (J x) 1)]) ⟨rfl, s1, s2, q1, hs 1, rfl, rfl⟩
    by_cases q2 : v = 1
    · rw [show tOr u v = 1 by unfold tOr; rw [if_pos (Or.inr q2)]] at C
      exact qm_step (sM_last E) C 0 9999 100 ([0, 0, 0], [], [(some (qI u), m), (some (qI v), m), (none, stT m (J x) 1)]) ⟨rfl, s1, s2, q1, q2, hs 1, rfl, rfl⟩
    by_cases q3 : u < 0
    · have e : tOr u v = -1 := by
        unfold tOr
        rw [if_neg (not_or.mpr ⟨q1, q2⟩), if_neg (fun w => by rw [w.1] at q3; exact absurd q3 (by decide))]
      rw [e] at C
      exact qm_step (sM_last E) C 0 9999 100 ([0, 0, 1, 1], [], [(some (qI u), m), (some (qI v), m), (none, stT m (J x) (-1))]) ⟨rfl, s1, s2, q1, q2, q3, hs (-1), rfl, rfl⟩
    by_cases q4 : v < 0
    · have e : tOr u v = -1 := by
        unfold tOr
        rw [if_neg (not_or.mpr ⟨q1, q2⟩), if_neg (fun w => by rw [w.2] at q4; exact absurd q4 (by decide))]
      rw [e] at C
      have q4' : ¬ 0 ≤ v := Int32.not_le.mpr q4
      exact qm_step (sM_last E) C 0 9999 100 ([0, 0, 1, 0, 0], [], [(some (qI u), m), (some (qI v), m), (none, stT m (J x) (-1))]) ⟨rfl, s1, s2, q1, q2, q3, q4', hs (-1), rfl, rfl⟩
    · have eu : u = 0 := by
        rcases u3 with w | w | w
        · rw [w] at q3; exact absurd (by decide) q3
        · exact w
        · exact absurd w q1
      have ev : v = 0 := by
        rcases v3 with w | w | w
        · rw [w] at q4; exact absurd (by decide) q4
        · exact w
        · exact absurd w q2
      have e : tOr u v = 0 := by rw [eu, ev]; rfl
      rw [e] at C
      have q4' : 0 ≤ v := Int32.not_lt.mp q4
      exact qm_step (sM_last E) C 0 9999 100 ([0, 0, 1, 0, 1], [], [(some (qI u), m), (some (qI v), m), (none, stT m (J x) 0)]) ⟨rfl, s1, s2, q1, q2, q3, q4', hs 0, rfl, rfl⟩
