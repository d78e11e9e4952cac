/-! words and others of the reference -/
theorem nm_neg {v : Int64} (h : v < 0) : nmL v = 45 :: dgL (lAbs v) := by unfold nmL; rw [if_pos h]; rfl
theorem nm_pos {v : Int64} (h : ¬ v < 0) : nmL v = dgL (lAbs v) := by unfold nmL; rw [if_neg h]; rfl
theorem saN_1 (m : mG) (j : Nat) (c : Int32) (l : List Int32) : saN m j (c :: l) = saN (saS m j c) j l := rfl
set_option maxHeartbeats 1000000 in
theorem xM_words (E : mEnv) (m : mG) (x a : Int32) (hx : vp_in x 90) (ha : vp_in a 90) (hax : J a ≠ J x) (h0 : mk m (J x) = 0) (g : mGd m (J a)) : mDo E mM_words [qR 0 0, qI x, qI a] m (J x) (if mk m (J a) = 0 then aErr else aWo (mVA m (J a))) := by
  by_cases k0 : mk m (J a) = 0
  · rw [if_pos k0]
    refine ⟨m, ?_, mFr_rfl _ _, mIs_0 h0⟩
    refine qm_meth (mOk E) (by decide) rfl rfl (Nat.le_of_ble_eq_true rfl) ?_
    intro p e st mm args below meth cc Q C _ _
    exact qm_step (sM_words E) C 0 9999 100 ([0], [], []) ⟨ha, k0, rfl, rfl⟩
  rw [if_neg k0]
  obtain ⟨z, hz⟩ : ∃ z, z = setS m (J x) 3 0 := ⟨_, rfl⟩
  have tz : mTx z (J x) := by rw [hz]; exact mTx_set _ _
  have fz : mFr (J x) m z := by rw [hz]; exact mFr_set _ _ _ _
  have hs0 := xM_set E m x 3 0 hx
  rw [← hz] at hs0
  have kz : mk z (J a) = mk m (J a) := fz.2.1 4 _ (Or.inr hax)
  have nz : mn z (J a) = mn m (J a) := fz.2.2.2 1 _ (Or.inr hax)
  have mk_of : ∀ l, mSd E mM_words [qR 0 0, qI x, qI a] m none (saN z (J x) l) → aWo (mVA m (J a)) = aTx 0 l → mDo E mM_words [qR 0 0, qI x, qI a] m (J x) (aWo (mVA m (J a))) := by
    intro l hl he
    obtain ⟨i1, i2⟩ := mIs_sa0 m (J x) l
    rw [← hz] at i1 i2
    rw [he]
    exact ⟨_, hl, i2, i1⟩
  by_cases k3 : mk m (J a) = 3
  · refine mk_of (mVA m (J a)).2.2.2 ?_ (by unfold aWo; rw [mVA_k, if_pos k3])
    refine qm_meth (mOk E) (by decide) rfl rfl (Nat.le_of_ble_eq_true rfl) ?_
    intro p e st mm args below meth cc Q C _ _
    have s1 := xM_sayAll E z x a hx ha hax tz (kz.trans k3) (mFr_g fz hax g)
    rw [mFr_v fz hax] at s1
    have k3' : mk z (J a) = 3 := kz.trans k3
    exact qm_step (sM_words E) C 0 9999 100 ([1, 0], [], [(none, z), (none, saN z (J x) (mVA m (J a)).2.2.2)]) ⟨ha, k0, hs0, ha, k3', s1, rfl, rfl⟩
  have k3' : ¬ mk z (J a) = 3 := fun q => k3 (kz.symm.trans q)
  by_cases k1 : mk m (J a) = 1
  · have k1' : mk z (J a) = 1 := kz.trans k1
    have n01 := av_tr g.1 (by rw [mVA_k]; exact k1)
    rw [mVA_am k0 k3] at n01
    by_cases h1 : mn m (J a) = 1
    · refine mk_of [116, 114, 117, 101] ?_ (by unfold aWo; rw [mVA_k, if_neg k3, if_pos k1, mVA_am k0 k3, if_pos h1])
      refine qm_meth (mOk E) (by decide) rfl rfl (Nat.le_of_ble_eq_true rfl) ?_
      intro p e st mm args below meth cc Q C _ _
      have h1' : mn z (J a) = 1 := nz.trans h1
      have y1 := xM_say E z x 116 hx tz
      have t1 := saS_tx tz 116
      obtain ⟨z1, e1⟩ : ∃ z1, z1 = saS z (J x) 116 := ⟨_, rfl⟩
      rw [← e1] at y1 t1
      have y2 := xM_say E z1 x 114 hx t1
      have t2 := saS_tx t1 114
      obtain ⟨z2, e2⟩ : ∃ z2, z2 = saS z1 (J x) 114 := ⟨_, rfl⟩
      rw [← e2] at y2 t2
      have y3 := xM_say E z2 x 117 hx t2
      have t3' := saS_tx t2 117
      obtain ⟨z3, e3⟩ : ∃ z3, z3 = saS z2 (J x) 117 := ⟨_, rfl⟩
      rw [← e3] at y3 t3'
      have y4 := xM_say E z3 x 101 hx t3'
      have fin : saS z3 (J x) 101 = saN z (J x) [116, 114, 117, 101] := by rw [saN_1, ← e1, saN_1, ← e2, saN_1, ← e3, saN_1]; rfl
      exact qm_step (sM_words E) C 0 9999 200 ([1, 1, 0, 0, 0, 0, 0, 0, 1], [], [(none, z), (none, z1), (none, z2), (none, z3), (none, saS z3 (J x) 101)]) ⟨ha, k0, hs0, ha, k3', ha, k1', ha, h1', by decide, y1, by decide, y2, by decide, y3, by decide, y4, by decide, rfl, fin⟩
    · refine mk_of [102, 97, 108, 115, 101] ?_ (by unfold aWo; rw [mVA_k, if_neg k3, if_pos k1, mVA_am k0 k3, if_neg h1])
      refine qm_meth (mOk E) (by decide) rfl rfl (Nat.le_of_ble_eq_true rfl) ?_
      intro p e st mm args below meth cc Q C _ _
      have h1' : ¬ mn z (J a) = 1 := fun q => h1 (nz.symm.trans q)
      have y1 := xM_say E z x 102 hx tz
      have t1 := saS_tx tz 102
      obtain ⟨z1, e1⟩ : ∃ z1, z1 = saS z (J x) 102 := ⟨_, rfl⟩
      rw [← e1] at y1 t1
      have y2 := xM_say E z1 x 97 hx t1
      have t2 := saS_tx t1 97
      obtain ⟨z2, e2⟩ : ∃ z2, z2 = saS z1 (J x) 97 := ⟨_, rfl⟩
      rw [← e2] at y2 t2
      have y3 := xM_say E z2 x 108 hx t2
      have t3' := saS_tx t2 108
      obtain ⟨z3, e3⟩ : ∃ z3, z3 = saS z2 (J x) 108 := ⟨_, rfl⟩
      rw [← e3] at y3 t3'
      have y4 := xM_say E z3 x 115 hx t3'
      have t4 := saS_tx t3' 115
      obtain ⟨z4, e4⟩ : ∃ z4, z4 = saS z3 (J x) 115 := ⟨_, rfl⟩
      rw [← e4] at y4 t4
      have y5 := xM_say E z4 x 101 hx t4
      have fin : saS z4 (J x) 101 = saN z (J x) [102, 97, 108, 115, 101] := by rw [saN_1, ← e1, saN_1, ← e2, saN_1, ← e3, saN_1, ← e4, saN_1]; rfl
      exact qm_step (sM_words E) C 0 9999 200 ([1, 1, 0, 1, 1, 1, 1, 1, 0], [], [(none, z), (none, z1), (none, z2), (none, z3), (none, z4), (none, saS z4 (J x) 101)]) ⟨ha, k0, hs0, ha, k3', ha, k1', ha, h1', rfl, y1, rfl, y2, rfl, y3, rfl, y4, rfl, y5, rfl, fin⟩
  have k1' : ¬ mk z (J a) = 1 := fun q => k1 (kz.symm.trans q)
  have hr := av_num g.1 (by rw [mVA_k]; exact k0)
  rw [mVA_am k0 k3] at hr
  by_cases k4 : mk m (J a) = 4
  · have k4' : mk z (J a) = 4 := kz.trans k4
    obtain ⟨n, hn, en⟩ := av_no g.1 (by rw [mVA_k]; exact k4)
    rw [mVA_am k0 k3] at en
    have e1 : nmL (mn m (J a)) = dgL (lAbs (mn m (J a))) := by
      apply nm_pos
      · rw [en]
        intro q
        have := Int64.lt_iff_toInt_lt.mp q
        rw [lN_toInt (by omega)] at this
        have e0 : (0 : Int64).toInt = 0 := rfl
        rw [e0] at this
        omega
    refine mk_of (35 :: dgL (lAbs (mn m (J a)))) ?_ (by unfold aWo; rw [mVA_k, if_neg k3, if_neg k1, if_pos k4, mVA_am k0 k3])
    refine qm_meth (mOk E) (by decide) rfl rfl (Nat.le_of_ble_eq_true rfl) ?_
    intro p e st mm args below meth cc Q C _ _
    have y1 := xM_say E z x 35 hx tz
    have t1 := saS_tx tz 35
    have f1 := saS_fr tz 35
    have n1 : mn (saS z (J x) 35) (J a) = mn m (J a) := (f1.2.2.2 1 _ (Or.inr hax)).trans nz
    have y2 := xM_sayNumber E (saS z (J x) 35) x (mn m (J a)) hx t1 hr
    rw [e1] at y2
    have y2' : mSd E mM_sayNumber [qR 0 0, qI x, qL (mn (saS z (J x) 35) (J a))] (saS z (J x) 35) none (saN (saS z (J x) 35) (J x) (dgL (lAbs (mn m (J a))))) := by rw [n1]; exact y2
    exact qm_step (sM_words E) C 0 9999 200 ([1, 1, 1, 0], [], [(none, z), (none, saS z (J x) 35), (none, saN (saS z (J x) 35) (J x) (dgL (lAbs (mn m (J a)))))]) ⟨ha, k0, hs0, ha, k3', ha, k1', ha, k4', y1, ha, y2', rfl, rfl⟩
  · have k4' : ¬ mk z (J a) = 4 := fun q => k4 (kz.symm.trans q)
    refine mk_of (nmL (mn m (J a))) ?_ (by
      unfold aWo
      rw [mVA_k, if_neg k3, if_neg k1, if_neg k4, mVA_am k0 k3]
      by_cases q : mn m (J a) < 0
      · rw [if_pos q, nm_neg q]
      · rw [if_neg q, nm_pos q])
    refine qm_meth (mOk E) (by decide) rfl rfl (Nat.le_of_ble_eq_true rfl) ?_
    intro p e st mm args below meth cc Q C _ _
    have y2 := xM_sayNumber E z x (mn m (J a)) hx tz hr
    have y2' : mSd E mM_sayNumber [qR 0 0, qI x, qL (mn z (J a))] z none (saN z (J x) (nmL (mn m (J a)))) := by rw [nz]; exact y2
    exact qm_step (sM_words E) C 0 9999 200 ([1, 1, 1, 1], [], [(none, z), (none, saN z (J x) (nmL (mn m (J a))))]) ⟨ha, k0, hs0, ha, k3', ha, k1', ha, k4', ha, y2', rfl, rfl⟩
def mgv (m : mG) (a : Nat) : Int32 := if m.2.1 1 a = 5 then (if mk m a = 0 then 0 else 1) else -1
theorem kd1 {k : Int32} (h : k = 0 ∨ k = 1 ∨ k = 2 ∨ k = 3 ∨ k = 4) : aWh k.toInt64 = (2, k.toInt64, 0, []) := by
  rcases h with h | h | h | h | h <;> subst h <;> rfl
set_option maxHeartbeats 1000000 in
theorem xM_others (E : mEnv) (m : mG) (x op a b c : Int32) (hx : vp_in x 90) (ha : vp_in a 80) (hb : op = 22 ∨ op = 23 → vp_in b 90) (hc : op = 22 → vp_in c 90) (hax : J a ≠ J x) (hbx : op = 22 ∨ op = 23 → J b ≠ J x) (hcx : op = 22 → J c ≠ J x) (h0 : mk m (J x) = 0) (g : mGd m (J a)) (gb : op = 22 ∨ op = 23 → mGd m (J b)) (gc : op = 22 → mGd m (J c)) (hop : op = 20 ∨ op = 21 ∨ op = 22 ∨ op = 23 ∨ op = 24 ∨ op = 25 ∨ op = 26) : mDo E mM_others [qR 0 0, qI x, qI op, qI a, qI b, qI c] m (J x) (opV op (mVA m (J a)) (mVA m (J b)) (mVA m (J c)) (mgv m (J a))) := by
  have ha90 : vp_in a 90 := by
    have := vp_in_iff.mp ha
    exact vp_in_iff.mpr ⟨this.1, by omega⟩
  have hkk := av_k g.1
  rw [mVA_k] at hkk
  rcases hop with h | h | h | h | h | h | h
  · subst h
    unfold opV
    rw [if_neg (by decide), if_neg (by decide), if_neg (by decide), if_pos (by decide)]
    unfold aTxs
    rw [mVA_k]
    by_cases k3 : mk m (J a) = 3
    · rw [if_neg (show ¬ ¬ mk m (J a) = 3 from fun q => q k3), if_neg (by decide), if_neg (by decide), if_neg (by decide), if_neg (by decide), if_neg (by decide), if_pos rfl]
      obtain ⟨o1, o2, o3, o4, o5, o6⟩ := mVA_tx k3 g
      rw [o3]
      obtain ⟨t, t1, t2⟩ := (av_tx g.1 (by rw [mVA_k]; exact k3)).2.2.1
      rw [o3] at t2
      obtain ⟨z, hz⟩ : ∃ z, z = setS m (J x) 3 0 := ⟨_, rfl⟩
      have tz : mTx z (J x) := by rw [hz]; exact mTx_set _ _
      have fz : mFr (J x) m z := by rw [hz]; exact mFr_set _ _ _ _
      have hs0 := xM_set E m x 3 0 hx
      rw [← hz] at hs0
      have ez : mtg z (J a) = mtg m (J a) := fz.2.1 5 _ (Or.inr hax)
      by_cases q0 : mtg m (J a) = 0
      · rw [if_pos q0]
        obtain ⟨i1, i2⟩ := mIs_sa0 m (J x) []
        rw [← hz] at i1 i2
        refine ⟨z, ?_, i2, i1⟩
        refine qm_meth (mOk E) (by decide) rfl rfl (Nat.le_of_ble_eq_true rfl) ?_
        intro p e st mm args below meth cc Q C _ _
        have q1 : mtg z (J a) ≤ 0 := by rw [ez, q0]; decide
        exact qm_step (sM_others E) C 0 9999 100 ([1, 0, 1], [], [(none, z)]) ⟨rfl, ha90, k3, hs0, ha90, q1, rfl, rfl⟩
      · rw [if_neg q0]
        obtain ⟨i1, i2⟩ := mIs_sa0 m (J x) [96 + mtg m (J a)]
        rw [← hz] at i1 i2
        refine ⟨saS z (J x) (96 + mtg m (J a)), ?_, i2, i1⟩
        refine qm_meth (mOk E) (by decide) rfl rfl (Nat.le_of_ble_eq_true rfl) ?_
        intro p e st mm args below meth cc Q C _ _
        have tp : 0 < t := by
          rcases Nat.eq_zero_or_pos t with q | q
          · rw [q] at t2; exact absurd t2 q0
          · exact q
        have q1 : ¬ mtg z (J a) ≤ 0 := by rw [ez, t2]; exact nI_nle tp (by omega)
        have hs := xM_say E z x (96 + mtg m (J a)) hx tz
        have e1 : 97 + mtg z (J a) - 1 = 96 + mtg m (J a) := by
          rw [ez, t2]
          have a1 : (97 : Int32) + nI t = nI (97 + t) := nI_add 97 t
          have a2 : (96 : Int32) + nI t = nI (96 + t) := nI_add 96 t
          rw [a1, a2, show 97 + t = 96 + t + 1 by omega, nI_pred]
        have hs' : mSd E mM_say [qR 0 0, qI x, qI (97 + mtg z (J a) - 1)] z none (saS z (J x) (96 + mtg m (J a))) := by rw [e1]; exact hs
        exact qm_step (sM_others E) C 0 9999 100 ([1, 0, 0], [], [(none, z), (none, saS z (J x) (96 + mtg m (J a)))]) ⟨rfl, ha90, k3, hs0, ha90, q1, ha90, hs', rfl, rfl⟩
    · rw [if_pos k3]
      refine ⟨m, ?_, mFr_rfl _ _, mIs_0 h0⟩
      refine qm_meth (mOk E) (by decide) rfl rfl (Nat.le_of_ble_eq_true rfl) ?_
      intro p e st mm args below meth cc Q C _ _
      exact qm_step (sM_others E) C 0 9999 100 ([1, 1], [], []) ⟨rfl, ha90, k3, rfl, rfl⟩
  · subst h
    unfold opV
    rw [if_neg (by decide), if_neg (by decide), if_neg (by decide), if_neg (by decide), if_pos (by decide)]
    unfold aCas
    rw [if_neg (by decide), if_neg (by decide), mVA_k]
    by_cases k0 : mk m (J a) = 0
    · rw [if_pos k0]
      refine ⟨m, ?_, mFr_rfl _ _, mIs_0 h0⟩
      refine qm_meth (mOk E) (by decide) rfl rfl (Nat.le_of_ble_eq_true rfl) ?_
      intro p e st mm args below meth cc Q C _ _
      exact qm_step (sM_others E) C 0 9999 100 ([2, 1], [], []) ⟨rfl, ha90, k0, rfl, rfl⟩
    · rw [if_neg k0, if_pos rfl, kd1 hkk]
      refine ⟨setS m (J x) 2 (mk m (J a)).toInt64, ?_, mFr_set _ _ _ _, mIs_set _ _ _ (by decide) (by decide)⟩
      refine qm_meth (mOk E) (by decide) rfl rfl (Nat.le_of_ble_eq_true rfl) ?_
      intro p e st mm args below meth cc Q C _ _
      exact qm_step (sM_others E) C 0 9999 100 ([2, 0], [], [(none, setS m (J x) 2 (mk m (J a)).toInt64)]) ⟨rfl, ha90, k0, ha90, xM_set E m x 2 _ hx, rfl, rfl⟩
  · subst h
    have hb := hb (Or.inl rfl)
    have hc := hc rfl
    have hbx := hbx (Or.inl rfl)
    have hcx := hcx rfl
    have gb := gb (Or.inl rfl)
    have gc := gc rfl
    unfold opV
    rw [if_neg (by decide), if_neg (by decide), if_neg (by decide), if_neg (by decide), if_pos (by decide)]
    unfold aCas
    rw [if_neg (by decide), if_pos rfl]
    have ht := xM_truth E m a ha90 g
    rcases t3_truth (mVA m (J a)) with q | q | q
    · rw [q, if_pos rfl]
      rw [q] at ht
      refine ⟨m, ?_, mFr_rfl _ _, mIs_0 h0⟩
      refine qm_meth (mOk E) (by decide) rfl rfl (Nat.le_of_ble_eq_true rfl) ?_
      intro p e st mm args below meth cc Q C _ _
      exact qm_step (sM_others E) C 0 9999 100 ([3, 1], [], [(some (qI (-1)), m)]) ⟨rfl, ht, by decide, rfl, rfl⟩
    · rw [q, if_neg (by decide), if_neg (by decide)]
      rw [q] at ht
      refine ⟨cpM m (J c) (J x), ?_, cpM_fr _ _ _, mIs_cp hcx gc⟩
      refine qm_meth (mOk E) (by decide) rfl rfl (Nat.le_of_ble_eq_true rfl) ?_
      intro p e st mm args below meth cc Q C _ _
      exact qm_step (sM_others E) C 0 9999 100 ([3, 0, 1], [], [(some (qI 0), m), (none, cpM m (J c) (J x))]) ⟨rfl, ht, by decide, by decide, xM_copy E m c x hc hx hcx, rfl, rfl⟩
    · rw [q, if_neg (by decide), if_pos rfl]
      rw [q] at ht
      refine ⟨cpM m (J b) (J x), ?_, cpM_fr _ _ _, mIs_cp hbx gb⟩
      refine qm_meth (mOk E) (by decide) rfl rfl (Nat.le_of_ble_eq_true rfl) ?_
      intro p e st mm args below meth cc Q C _ _
      exact qm_step (sM_others E) C 0 9999 100 ([3, 0, 0], [], [(some (qI 1), m), (none, cpM m (J b) (J x))]) ⟨rfl, ht, by decide, rfl, xM_copy E m b x hb hx hbx, rfl, rfl⟩
  · subst h
    have hb := hb (Or.inr rfl)
    have hbx := hbx (Or.inr rfl)
    have gb := gb (Or.inr rfl)
    unfold opV
    rw [if_neg (by decide), if_neg (by decide), if_neg (by decide), if_neg (by decide), if_pos (by decide)]
    unfold aCas
    rw [if_pos rfl, mVA_k]
    by_cases k0 : mk m (J a) = 0
    · rw [if_pos k0]
      refine ⟨cpM m (J b) (J x), ?_, cpM_fr _ _ _, mIs_cp hbx gb⟩
      refine qm_meth (mOk E) (by decide) rfl rfl (Nat.le_of_ble_eq_true rfl) ?_
      intro p e st mm args below meth cc Q C _ _
      exact qm_step (sM_others E) C 0 9999 100 ([4, 1], [], [(none, cpM m (J b) (J x))]) ⟨rfl, ha90, k0, xM_copy E m b x hb hx hbx, rfl, rfl⟩
    · rw [if_neg k0]
      refine ⟨cpM m (J a) (J x), ?_, cpM_fr _ _ _, mIs_cp hax g⟩
      refine qm_meth (mOk E) (by decide) rfl rfl (Nat.le_of_ble_eq_true rfl) ?_
      intro p e st mm args below meth cc Q C _ _
      exact qm_step (sM_others E) C 0 9999 100 ([4, 0], [], [(none, cpM m (J a) (J x))]) ⟨rfl, ha90, k0, xM_copy E m a x ha90 hx hax, rfl, rfl⟩
  · subst h
    unfold opV
    rw [if_pos rfl]
    unfold mgv
    by_cases w5 : m.2.1 1 (J a) = 5
    · rw [if_pos w5]
      by_cases k0 : mk m (J a) = 0
      · rw [if_pos k0]
        refine ⟨setS m (J x) 1 0, ?_, mFr_set _ _ _ _, mIs_set _ _ _ (by decide) (by decide)⟩
        refine qm_meth (mOk E) (by decide) rfl rfl (Nat.le_of_ble_eq_true rfl) ?_
        intro p e st mm args below meth cc Q C _ _
        exact qm_step (sM_others E) C 0 9999 100 ([5, 0, 1], [], [(none, setS m (J x) 1 0)]) ⟨rfl, ha, w5, ha90, k0, xM_set E m x 1 0 hx, rfl, rfl⟩
      · rw [if_neg k0]
        refine ⟨setS m (J x) 1 1, ?_, mFr_set _ _ _ _, mIs_set _ _ _ (by decide) (by decide)⟩
        refine qm_meth (mOk E) (by decide) rfl rfl (Nat.le_of_ble_eq_true rfl) ?_
        intro p e st mm args below meth cc Q C _ _
        exact qm_step (sM_others E) C 0 9999 100 ([5, 0, 0], [], [(none, setS m (J x) 1 1)]) ⟨rfl, ha, w5, ha90, k0, xM_set E m x 1 1 hx, rfl, rfl⟩
    · rw [if_neg w5]
      refine ⟨m, ?_, mFr_rfl _ _, mIs_0 h0⟩
      refine qm_meth (mOk E) (by decide) rfl rfl (Nat.le_of_ble_eq_true rfl) ?_
      intro p e st mm args below meth cc Q C _ _
      exact qm_step (sM_others E) C 0 9999 100 ([5, 1], [], []) ⟨rfl, ha, w5, rfl, rfl⟩
  · subst h
    unfold opV
    rw [if_neg (by decide), if_neg (by decide), if_neg (by decide), if_neg (by decide), if_pos (by decide)]
    unfold aCas
    rw [if_neg (by decide), if_neg (by decide), mVA_k, if_neg (show ¬ (25 : Int32) = 21 by decide), if_pos (show (25 : Int32) = 25 from rfl)]
    obtain ⟨z, z1, z2, z3⟩ := xM_asNumber E m x a hx ha90 h0 g
    refine ⟨z, ?_, z2, ?_⟩
    · refine qm_meth (mOk E) (by decide) rfl rfl (Nat.le_of_ble_eq_true rfl) ?_
      intro p e st mm args below meth cc Q C _ _
      exact qm_step (sM_others E) C 0 9999 100 ([6], [], [(none, z)]) ⟨rfl, z1, rfl, rfl⟩
    · by_cases k0 : mk m (J a) = 0
      · rw [if_pos k0]
        have e : aNum (mVA m (J a)) = aErr := by
          unfold aNum
          rw [mVA_k, k0]
          rfl
        rw [← e]
        exact z3
      · rw [if_neg k0]; exact z3
  · subst h
    unfold opV
    rw [if_neg (by decide), if_neg (by decide), if_neg (by decide), if_neg (by decide), if_pos (by decide)]
    unfold aCas
    rw [if_neg (by decide), if_neg (by decide), mVA_k, if_neg (show ¬ (26 : Int32) = 21 by decide), if_neg (show ¬ (26 : Int32) = 25 by decide)]
    obtain ⟨z, z1, z2, z3⟩ := xM_words E m x a hx ha90 hax h0 g
    refine ⟨z, ?_, z2, z3⟩
    refine qm_meth (mOk E) (by decide) rfl rfl (Nat.le_of_ble_eq_true rfl) ?_
    intro p e st mm args below meth cc Q C _ _
    exact qm_step (sM_others E) C 0 9999 100 ([0], [], [(none, z)]) ⟨by decide, z1, rfl, rfl⟩
