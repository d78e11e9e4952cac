/-! texts and places of the reference, as abstract operations -/
theorem aWh_len {n : Nat} (h : n ≤ 24) : aWh (lN n) = (2, lN n, 0, []) := by
  unfold aWh
  rw [if_pos]
  have e1 : (-1000000000000000 : Int64).toInt = -1000000000000000 := by decide
  have e2 : (1000000000000000 : Int64).toInt = 1000000000000000 := by decide
  constructor
  · intro q
    have := Int64.lt_iff_toInt_lt.mp q
    rw [lN_toInt (by omega), e1] at this
    omega
  · intro q
    have := Int64.lt_iff_toInt_lt.mp q
    rw [lN_toInt (by omega), e2] at this
    omega
theorem xM_texts (E : mEnv) (m : mG) (x op a b c : Int32) (Z : AV) (hx : vp_in x 90) (ha : vp_in a 90) (hb : op = 11 ∨ op = 14 → vp_in b 90) (hc : op = 11 → vp_in c 90) (hax : J a ≠ J x) (hbx : op = 14 → J b ≠ J x) (h0 : mk m (J x) = 0) (g : mGd m (J a)) (gb : op = 11 ∨ op = 14 → mGd m (J b)) (gc : op = 11 → mGd m (J c)) (hop : op = 10 ∨ op = 11 ∨ op = 12 ∨ op = 13 ∨ op = 14) (hZ : op = 11 → Z = mVA m (J c)) : mDo E mM_texts [qR 0 0, qI x, qI op, qI a, qI b, qI c] m (J x) (aTxs op (mVA m (J a)) (mVA m (J b)) Z) := by
  unfold aTxs
  rw [mVA_k, mVA_k]
  by_cases h3 : mk m (J a) = 3
  · rw [if_neg (show ¬ ¬ mk m (J a) = 3 from fun q => q h3)]
    obtain ⟨o1, o2, o3, o4, o5, o6⟩ := mVA_tx h3 g
    have hl := xM_lengthT E m a ha h3 g
    rw [o2] at hl
    rcases hop with h | h | h | h | h
    · subst h
      rw [if_pos rfl, o2, aWh_len o1]
      refine ⟨setS m (J x) 2 (lN (mN m (J a))), ?_, mFr_set _ _ _ _, mIs_set _ _ _ (by decide) (by decide)⟩
      refine qm_meth (mOk E) (by decide) rfl rfl (Nat.le_of_ble_eq_true rfl) ?_
      intro p e st mm args below meth cc Q C _ _
      have hs := xM_set E m x 2 (nI (mN m (J a))).toInt64 hx
      have fin : setS m (J x) 2 (nI (mN m (J a))).toInt64 = setS m (J x) 2 (lN (mN m (J a))) := by rw [nI_l (by omega)]
      exact qm_step (sM_texts E) C 0 9999 100 ([1, 0], [], [(some (qI (nI (mN m (J a)))), m), (none, setS m (J x) 2 (nI (mN m (J a))).toInt64)]) ⟨ha, h3, rfl, hl, hs, rfl, fin⟩
    · subst h
      have hb := hb (Or.inl rfl)
      have hc := hc rfl
      have gb := gb (Or.inl rfl)
      have gc := gc rfl
      rw [if_neg (by decide), if_pos rfl, hZ rfl, mVA_k]
      by_cases kb : mk m (J b) = 2
      · by_cases kc : mk m (J c) = 2
        · rw [if_neg (by simp [kb, kc])]
          obtain ⟨s, r, hs, e1, e2⟩ := tx_part E m x a b c hx ha hb hc h3 g kb kc gb gc
          refine ⟨_, e2, prM_fr _ _ _ _ _ _ (by omega), ?_⟩
          rw [← e1, o3]
          exact mIs_pr hax h3 g hs
        · rw [if_pos (Or.inr kc)]
          refine ⟨m, ?_, mFr_rfl _ _, mIs_0 h0⟩
          refine qm_meth (mOk E) (by decide) rfl rfl (Nat.le_of_ble_eq_true rfl) ?_
          intro p e st mm args below meth cc Q C _ _
          exact qm_step (sM_texts E) C 0 9999 100 ([1, 1, 0, 0, 1], [], []) ⟨ha, h3, by decide, rfl, hb, kb, hc, kc, rfl, rfl⟩
      · rw [if_pos (Or.inl kb)]
        refine ⟨m, ?_, mFr_rfl _ _, mIs_0 h0⟩
        refine qm_meth (mOk E) (by decide) rfl rfl (Nat.le_of_ble_eq_true rfl) ?_
        intro p e st mm args below meth cc Q C _ _
        exact qm_step (sM_texts E) C 0 9999 100 ([1, 1, 0, 1], [], []) ⟨ha, h3, by decide, rfl, hb, kb, rfl, rfl⟩
    · subst h
      rw [if_neg (by decide), if_neg (by decide), if_pos rfl, o3]
      have e : (mVA m (J a)).2.2.2.map (rsF 97 (-32)) = (mVA m (J a)).2.2.2.map (upF 97 122) := by
        apply List.map_congr_left
        intro k hk
        obtain ⟨n, n1, n2, rfl⟩ := okB_n ((av_tx g.1 (by rw [mVA_k]; exact h3)).2.2.2 k hk)
        exact ((up1 n n2 n1).1).symm
      rw [e]
      exact ⟨_, tx_resize E m x 12 a b c 97 122 (Or.inl ⟨rfl, rfl, rfl⟩) hx ha hax h3 g, mFr_tr (prM_fr _ _ _ _ _ _ o1) (rz_fr _ _ _ _ o1), mIs_rz _ hax h3 g⟩
    · subst h
      rw [if_neg (by decide), if_neg (by decide), if_neg (by decide), if_pos rfl, o3]
      have e : (mVA m (J a)).2.2.2.map (rsF 65 32) = (mVA m (J a)).2.2.2.map (upF 65 90) := by
        apply List.map_congr_left
        intro k hk
        obtain ⟨n, n1, n2, rfl⟩ := okB_n ((av_tx g.1 (by rw [mVA_k]; exact h3)).2.2.2 k hk)
        exact ((up1 n n2 n1).2).symm
      rw [e]
      exact ⟨_, tx_resize E m x 13 a b c 65 90 (Or.inr ⟨rfl, rfl, rfl⟩) hx ha hax h3 g, mFr_tr (prM_fr _ _ _ _ _ _ o1) (rz_fr _ _ _ _ o1), mIs_rz _ hax h3 g⟩
    · subst h
      have hb := hb (Or.inr rfl)
      have gb := gb (Or.inr rfl)
      have hbx := hbx rfl
      rw [if_neg (by decide), if_neg (by decide), if_neg (by decide), if_neg (by decide), if_pos rfl]
      by_cases kb : mk m (J b) = 3
      · rw [if_pos kb, o3, (mVA_tx kb gb).2.2.1]
        obtain ⟨z1, hz1⟩ : ∃ z1, z1 = setS m (J x) 3 0 := ⟨_, rfl⟩
        have t1 : mTx z1 (J x) := by rw [hz1]; exact mTx_set _ _
        have f1 : mFr (J x) m z1 := by rw [hz1]; exact mFr_set _ _ _ _
        obtain ⟨f2, t2⟩ := saN_fr (J x) (mVA m (J a)).2.2.2 t1
        have f12 := mFr_tr f1 f2
        obtain ⟨f3, t3'⟩ := saN_fr (J x) (mVA m (J b)).2.2.2 t2
        have f13 := mFr_tr f12 f3
        have s1 := xM_sayAll E z1 x a hx ha hax t1 ((f1.2.1 4 _ (Or.inr hax)).trans h3) (mFr_g f1 hax g)
        rw [mFr_v f1 hax] at s1
        obtain ⟨z2, hz2⟩ : ∃ z2, z2 = saN z1 (J x) (mVA m (J a)).2.2.2 := ⟨_, rfl⟩
        rw [← hz2] at s1 f2 t2 f12 f3 t3' f13
        have s2 := xM_sayAll E z2 x b hx hb hbx t2 ((f12.2.1 4 _ (Or.inr hbx)).trans kb) (mFr_g f12 hbx gb)
        rw [mFr_v f12 hbx] at s2
        obtain ⟨z3, hz3⟩ : ∃ z3, z3 = saN z2 (J x) (mVA m (J b)).2.2.2 := ⟨_, rfl⟩
        rw [← hz3] at s2 f3 t3' f13
        have ta : mtg z3 (J a) = mtg m (J a) := f13.2.1 5 _ (Or.inr hax)
        have tb : mtg z3 (J b) = mtg m (J b) := f13.2.1 5 _ (Or.inr hbx)
        have e3 : z3 = saN (setS m (J x) 3 0) (J x) ((mVA m (J a)).2.2.2 ++ (mVA m (J b)).2.2.2) := by rw [hz3, hz2, hz1, saN_app]
        have hs0 := xM_set E m x 3 0 hx
        rw [← hz1] at hs0
        by_cases ht : mtg m (J a) = mtg m (J b)
        · rw [if_pos ht]
          have hI := mIs_sa m (J x) ((mVA m (J a)).2.2.2 ++ (mVA m (J b)).2.2.2) (mtg m (J a))
          rw [← e3] at hI
          refine ⟨miW z3 5 (J x) (mtg m (J a)), ?_, hI.2, hI.1⟩
          refine qm_meth (mOk E) (by decide) rfl rfl (Nat.le_of_ble_eq_true rfl) ?_
          intro p e st mm args below meth cc Q C _ _
          have ht' : mtg z3 (J a) = mtg z3 (J b) := by rw [ta, tb]; exact ht
          have fin : miW z3 5 (J x) (mtg z3 (J a)) = miW z3 5 (J x) (mtg m (J a)) := by rw [ta]
          exact qm_step (sM_texts E) C 0 9999 200 ([1, 1, 1, 0, 0, 0], [], [(none, z1), (none, z2), (none, z3)]) ⟨ha, h3, by decide, by decide, rfl, hb, kb, hs0, s1, s2, ha, hb, ht', ha, hx, rfl, fin⟩
        · rw [if_neg ht]
          have hI := mIs_sa m (J x) ((mVA m (J a)).2.2.2 ++ (mVA m (J b)).2.2.2) 0
          rw [← e3] at hI
          refine ⟨miW z3 5 (J x) 0, ?_, hI.2, hI.1⟩
          refine qm_meth (mOk E) (by decide) rfl rfl (Nat.le_of_ble_eq_true rfl) ?_
          intro p e st mm args below meth cc Q C _ _
          have ht' : ¬ mtg z3 (J a) = mtg z3 (J b) := by rw [ta, tb]; exact ht
          exact qm_step (sM_texts E) C 0 9999 200 ([1, 1, 1, 0, 0, 1], [], [(none, z1), (none, z2), (none, z3)]) ⟨ha, h3, by decide, by decide, rfl, hb, kb, hs0, s1, s2, ha, hb, ht', hx, rfl, rfl⟩
      · rw [if_neg kb]
        refine ⟨m, ?_, mFr_rfl _ _, mIs_0 h0⟩
        refine qm_meth (mOk E) (by decide) rfl rfl (Nat.le_of_ble_eq_true rfl) ?_
        intro p e st mm args below meth cc Q C _ _
        exact qm_step (sM_texts E) C 0 9999 100 ([1, 1, 1, 0, 1], [], []) ⟨ha, h3, by decide, by decide, rfl, hb, kb, rfl, rfl⟩
  · rw [if_pos h3]
    refine ⟨m, ?_, mFr_rfl _ _, mIs_0 h0⟩
    refine qm_meth (mOk E) (by decide) rfl rfl (Nat.le_of_ble_eq_true rfl) ?_
    intro p e st mm args below meth cc Q C _ _
    exact qm_step (sM_texts E) C 0 9999 100 ([0], [], []) ⟨ha, h3, rfl, rfl⟩
theorem aTr_1 : aTr 1 = (1, 1, 0, []) := rfl
theorem aTr_0 : aTr 0 = (1, 0, 0, []) := rfl
set_option maxHeartbeats 1000000 in
theorem xM_places (E : mEnv) (m : mG) (x op a b : Int32) (hx : vp_in x 90) (ha : vp_in a 90) (hb : vp_in b 90) (hax : J a ≠ J x) (hbx : J b ≠ J x) (h3 : mk m (J a) = 3) (k3 : mk m (J b) = 3) (g : mGd m (J a)) (gb : mGd m (J b)) (htg : mtg m (J b) = 0 ∨ mtg m (J b) = mtg m (J a)) (hop : op = 15 ∨ op = 16 ∨ op = 17 ∨ op = 18 ∨ op = 19) : mDo E mM_places [qR 0 0, qI x, qI op, qI a, qI b] m (J x) (aSk op (mVA m (J a)) (mVA m (J b))) := by
  obtain ⟨o1, o2, o3, o4, o5, o6⟩ := mVA_tx h3 g
  obtain ⟨b1, b2, b3, b4, b5, b6⟩ := mVA_tx k3 gb
  have lx := xM_lengthT E m a ha h3 g
  have ly := xM_lengthT E m b hb k3 gb
  have hf := xM_placeOf E m a b ha hb h3 k3 g gb
  unfold aSk
  rw [mVA_k, o3, b3, if_neg (by
    intro q
    rcases q with q | q
    · exact q k3
    · rcases htg with h | h
      · exact q.1 h
      · exact q.2 h)]
  have s1 := xM_set E m x 1 1 hx
  have s0 := xM_set E m x 1 0 hx
  rcases hop with h | h | h | h | h
  · subst h
    rw [if_pos rfl]
    cases hq : aFind (mVA m (J a)) (mVA m (J b)) with
    | none =>
      rw [hq] at hf
      refine ⟨setS m (J x) 1 0, ?_, mFr_set _ _ _ _, mIs_set _ _ _ (by decide) (by decide)⟩
      refine qm_meth (mOk E) (by decide) rfl rfl (Nat.le_of_ble_eq_true rfl) ?_
      intro p e st mm args below meth cc Q C _ _
      exact qm_step (sM_places E) C 0 9999 100 ([1, 1], [], [(some (qI (-1)), m), (none, setS m (J x) 1 0)]) ⟨hf, rfl, by decide, s0, rfl, rfl⟩
    | some q =>
      rw [hq] at hf
      have hq2 := (aFind_in hq).1
      refine ⟨setS m (J x) 1 1, ?_, mFr_set _ _ _ _, mIs_set _ _ _ (by decide) (by decide)⟩
      refine qm_meth (mOk E) (by decide) rfl rfl (Nat.le_of_ble_eq_true rfl) ?_
      intro p e st mm args below meth cc Q C _ _
      have hn : ¬ nI q < 0 := nI_pos (by omega)
      exact qm_step (sM_places E) C 0 9999 100 ([1, 0], [], [(some (qI (nI q)), m), (none, setS m (J x) 1 1)]) ⟨hf, rfl, hn, s1, rfl, rfl⟩
  · subst h
    rw [if_neg (by decide), if_pos rfl]
    have hs := xM_stands E m a b 0 ha hb h3 k3 g gb (by omega)
    cases hh : aHas (mVA m (J a)) 0 (mVA m (J b)) with
    | true =>
      rw [hh, if_pos rfl] at hs
      rw [if_pos rfl, aTr_1]
      refine ⟨setS m (J x) 1 1, ?_, mFr_set _ _ _ _, mIs_set _ _ _ (by decide) (by decide)⟩
      refine qm_meth (mOk E) (by decide) rfl rfl (Nat.le_of_ble_eq_true rfl) ?_
      intro p e st mm args below meth cc Q C _ _
      exact qm_step (sM_places E) C 0 9999 100 ([2, 0], [], [(some (qI (fdI (aFind (mVA m (J a)) (mVA m (J b))))), m), (some (qI 1), m), (none, setS m (J x) 1 1)]) ⟨hf, rfl, hs, by decide, s1, rfl, rfl⟩
    | false =>
      rw [hh, if_neg (by decide)] at hs
      rw [if_neg (by decide), aTr_0]
      refine ⟨setS m (J x) 1 0, ?_, mFr_set _ _ _ _, mIs_set _ _ _ (by decide) (by decide)⟩
      refine qm_meth (mOk E) (by decide) rfl rfl (Nat.le_of_ble_eq_true rfl) ?_
      intro p e st mm args below meth cc Q C _ _
      exact qm_step (sM_places E) C 0 9999 100 ([2, 1], [], [(some (qI (fdI (aFind (mVA m (J a)) (mVA m (J b))))), m), (some (qI 0), m), (none, setS m (J x) 1 0)]) ⟨hf, rfl, hs, rfl, s0, rfl, rfl⟩
  · subst h
    rw [if_neg (by decide), if_neg (by decide), if_pos rfl]
    have hs : mSd E mM_stands [qR 0 0, qI a, qI b, qI (nI (lA (mVA m (J a))) - nI (lA (mVA m (J b))))] m (some (qI (if decide (lA (mVA m (J b)) ≤ lA (mVA m (J a))) && aHas (mVA m (J a)) (lA (mVA m (J a)) - lA (mVA m (J b))) (mVA m (J b)) then 1 else 0))) m := by
      by_cases hle : lA (mVA m (J b)) ≤ lA (mVA m (J a))
      · rw [decide_eq_true hle, Bool.true_and]
        have e : nI (lA (mVA m (J a))) - nI (lA (mVA m (J b))) = nI (lA (mVA m (J a)) - lA (mVA m (J b))) := by
          have := nI_add (lA (mVA m (J a)) - lA (mVA m (J b))) (lA (mVA m (J b)))
          rw [show lA (mVA m (J a)) - lA (mVA m (J b)) + lA (mVA m (J b)) = lA (mVA m (J a)) by omega] at this
          rw [← this]
          exact Int32.add_sub_cancel _ _
        rw [e]
        exact xM_stands E m a b _ ha hb h3 k3 g gb (by omega)
      · rw [decide_eq_false hle, Bool.false_and, if_neg (by decide)]
        refine xM_stands_neg E m a b _ ?_
        apply Int32.lt_iff_toInt_lt.mpr
        rw [Int32.toInt_sub, nI_toInt (by omega), nI_toInt (by omega)]
        have : (0 : Int32).toInt = 0 := rfl
        rw [this, Int.bmod_def]
        split <;> omega
    cases hh : (decide (lA (mVA m (J b)) ≤ lA (mVA m (J a))) && aHas (mVA m (J a)) (lA (mVA m (J a)) - lA (mVA m (J b))) (mVA m (J b))) with
    | true =>
      rw [hh, if_pos rfl] at hs
      rw [if_pos rfl, aTr_1]
      refine ⟨setS m (J x) 1 1, ?_, mFr_set _ _ _ _, mIs_set _ _ _ (by decide) (by decide)⟩
      refine qm_meth (mOk E) (by decide) rfl rfl (Nat.le_of_ble_eq_true rfl) ?_
      intro p e st mm args below meth cc Q C _ _
      exact qm_step (sM_places E) C 0 9999 100 ([3, 0], [], [(some (qI (fdI (aFind (mVA m (J a)) (mVA m (J b))))), m), (some (qI (nI (lA (mVA m (J a))))), m), (some (qI (nI (lA (mVA m (J b))))), m), (some (qI 1), m), (none, setS m (J x) 1 1)]) ⟨hf, rfl, lx, ly, hs, by decide, s1, rfl, rfl⟩
    | false =>
      rw [hh, if_neg (by decide)] at hs
      rw [if_neg (by decide), aTr_0]
      refine ⟨setS m (J x) 1 0, ?_, mFr_set _ _ _ _, mIs_set _ _ _ (by decide) (by decide)⟩
      refine qm_meth (mOk E) (by decide) rfl rfl (Nat.le_of_ble_eq_true rfl) ?_
      intro p e st mm args below meth cc Q C _ _
      exact qm_step (sM_places E) C 0 9999 100 ([3, 1], [], [(some (qI (fdI (aFind (mVA m (J a)) (mVA m (J b))))), m), (some (qI (nI (lA (mVA m (J a))))), m), (some (qI (nI (lA (mVA m (J b))))), m), (some (qI 0), m), (none, setS m (J x) 1 0)]) ⟨hf, rfl, lx, ly, hs, rfl, s0, rfl, rfl⟩
  · subst h
    rw [if_neg (by decide), if_neg (by decide), if_neg (by decide)]
    cases hq : aFind (mVA m (J a)) (mVA m (J b)) with
    | none =>
      rw [hq] at hf
      refine ⟨prM m (J a) (J x) 0 0 0, ?_, prM_fr _ _ _ _ _ _ (by omega), mIs_pr hax h3 g (by omega)⟩
      refine qm_meth (mOk E) (by decide) rfl rfl (Nat.le_of_ble_eq_true rfl) ?_
      intro p e st mm args below meth cc Q C _ _
      have hp := xM_setPart E m x a 0 0 0 hx ha (by omega)
      exact qm_step (sM_places E) C 0 9999 100 ([4, 0, 0], [], [(some (qI (-1)), m), (none, prM m (J a) (J x) 0 0 0)]) ⟨hf, rfl, by decide, by decide, hp, rfl, rfl⟩
    | some q =>
      rw [hq] at hf
      have hq2 := (aFind_in hq).1
      dsimp only
      rw [if_pos rfl]
      refine ⟨prM m (J a) (J x) 0 q (mtg m (J a)), ?_, prM_fr _ _ _ _ _ _ (by omega), mIs_pr hax h3 g (by omega)⟩
      refine qm_meth (mOk E) (by decide) rfl rfl (Nat.le_of_ble_eq_true rfl) ?_
      intro p e st mm args below meth cc Q C _ _
      have hn : 0 ≤ nI q := nI_pos' (by omega)
      have hp := xM_setPart E m x a 0 q (mtg m (J a)) hx ha (by omega)
      rw [Nat.zero_add] at hp
      exact qm_step (sM_places E) C 0 9999 100 ([4, 1, 1], [], [(some (qI (nI q)), m), (none, prM m (J a) (J x) 0 q (mtg m (J a)))]) ⟨hf, rfl, hn, hn, ha, hp, rfl, rfl⟩
  · subst h
    rw [if_neg (by decide), if_neg (by decide), if_neg (by decide)]
    cases hq : aFind (mVA m (J a)) (mVA m (J b)) with
    | none =>
      rw [hq] at hf
      refine ⟨prM m (J a) (J x) 0 0 0, ?_, prM_fr _ _ _ _ _ _ (by omega), mIs_pr hax h3 g (by omega)⟩
      refine qm_meth (mOk E) (by decide) rfl rfl (Nat.le_of_ble_eq_true rfl) ?_
      intro p e st mm args below meth cc Q C _ _
      have hp := xM_setPart E m x a 0 0 0 hx ha (by omega)
      exact qm_step (sM_places E) C 0 9999 100 ([0, 0, 0, 0], [], [(some (qI (-1)), m), (none, prM m (J a) (J x) 0 0 0)]) ⟨hf, by decide, by decide, by decide, by decide, hp, rfl, rfl⟩
    | some q =>
      rw [hq] at hf
      have hq2 := (aFind_in hq).1
      dsimp only
      rw [if_neg (by decide)]
      refine ⟨prM m (J a) (J x) (q + lA (mVA m (J b))) (lA (mVA m (J a)) - (q + lA (mVA m (J b)))) (mtg m (J a)), ?_, prM_fr _ _ _ _ _ _ (by omega), mIs_pr hax h3 g (by omega)⟩
      refine qm_meth (mOk E) (by decide) rfl rfl (Nat.le_of_ble_eq_true rfl) ?_
      intro p e st mm args below meth cc Q C _ _
      have hn : 0 ≤ nI q := nI_pos' (by omega)
      have hp := xM_setPart E m x a (q + lA (mVA m (J b))) (lA (mVA m (J a)) - (q + lA (mVA m (J b)))) (mtg m (J a)) hx ha (by omega)
      rw [show q + lA (mVA m (J b)) + (lA (mVA m (J a)) - (q + lA (mVA m (J b)))) = lA (mVA m (J a)) by omega, ← nI_add] at hp
      exact qm_step (sM_places E) C 0 9999 100 ([0, 1, 1, 1], [], [(some (qI (nI q)), m), (some (qI (nI (lA (mVA m (J b))))), m), (some (qI (nI (lA (mVA m (J a))))), m), (none, prM m (J a) (J x) (q + lA (mVA m (J b))) (lA (mVA m (J a)) - (q + lA (mVA m (J b)))) (mtg m (J a)))]) ⟨hf, by decide, hn, ly, hn, lx, hn, ha, hp, rfl, rfl⟩
