/-! sayNumber, truths, arithmetic of the reference -/
theorem ten_mul (k : Nat) : lN (10 ^ k) * 10 = lN (10 ^ (k + 1)) := by
  have : lN (10 ^ k) * lN 10 = lN (10 ^ k * 10) := lN_mul _ _
  rw [Nat.pow_succ]
  exact this
theorem ten_div : ∀ k, k < 15 → lN (10 ^ (k + 1)) / 10 = lN (10 ^ k) := by decide +kernel
theorem ten_0 : lN (10 ^ 0) / 10 = 0 := by decide
theorem ten_pos : ∀ k, k < 16 → ¬ lN (10 ^ k) ≤ 0 := by decide +kernel
theorem ten_15 {v : Int64} (h0 : 0 ≤ v.toInt) (h1 : v.toInt ≤ 1000000000000000) : v / lN (10 ^ 15) < 10 := by
  have e : (lN (10 ^ 15)).toInt = 1000000000000000 := by decide
  apply Int64.lt_iff_toInt_lt.mpr
  rw [l_div h0 (by rw [e]; omega), e]
  have : (10 : Int64).toInt = 10 := rfl
  rw [this]
  omega
def nmL (v : Int64) : List Int32 := (if v < 0 then [45] else []) ++ dgL (lAbs v)
theorem dL_z (f : Nat) (v : Int64) : dL f v 0 = [] := by
  cases f with
  | zero => rfl
  | succ f => rw [dL_s, if_pos (by decide)]
set_option maxHeartbeats 1000000 in
theorem xM_sayNumber (E : mEnv) (m : mG) (x : Int32) (v : Int64) (hx : vp_in x 90) (ht : mTx m (J x)) (hv : -1000000000000000 ≤ v.toInt ∧ v.toInt ≤ 1000000000000000) : mSd E mM_sayNumber [qR 0 0, qI x, qL v] m none (saN m (J x) (nmL v)) := by
  refine qm_meth (mOk E) (by decide) rfl rfl (Nat.le_of_ble_eq_true rfl) ?_
  intro p e st mm args below meth c Q C _ _
  obtain ⟨v1, v2, v3⟩ := lAbs_n hv
  obtain ⟨a, ha⟩ : ∃ a, a = lAbs v := ⟨_, rfl⟩
  rw [← ha] at v1 v2 v3
  have fin2 : ∀ (f : Nat) (u : Int64) (m1 : mG), u = 0 → saN m1 (J x) (dL f a u) = saN m (J x) (nmL v) → qm_W (mLa E.2.2.2) mV (mHold E) (mA E.2.2.2) 8 p E.1 e (rmL 2) st mm args below meth c Q 53 ([some (qR 0 0), some (qI x), some (qL v), none, some (qL a), none, some (qL u), none], [], m1) := by
    intro f u m1 hu hf
    subst hu
    rw [dL_z] at hf
    have hc : (0 : Int64) ≤ 0 := by decide
    exact qm_step (sM_sayNumber E) C 53 9999 100 ([1], [], []) ⟨hc, rfl, hf⟩
  have loop2 : ∀ (j f : Nat) (u : Int64) (m1 : mG), j < 16 → j + 1 ≤ f → u = lN (10 ^ j) → mTx m1 (J x) → saN m1 (J x) (dL f a u) = saN m (J x) (nmL v) → qm_W (mLa E.2.2.2) mV (mHold E) (mA E.2.2.2) 8 p E.1 e (rmL 2) st mm args below meth c Q 53 ([some (qR 0 0), some (qI x), some (qL v), none, some (qL a), none, some (qL u), none], [], m1) := by
    intro j
    induction j with
    | zero =>
      intro f u m1 hj hf hu ht1 hS
      subst hu
      obtain ⟨f', rfl⟩ : ∃ f', f = f' + 1 := ⟨f - 1, by omega⟩
      have hne : ¬ lN (10 ^ 0) = 0 := ten_ne 0 (by omega)
      have hp := ten_pos 0 (by omega)
      rw [dL_s, if_neg hp] at hS
      have hs := xM_say E m1 x (48 + (a / lN (10 ^ 0) - a / lN (10 ^ 0) / 10 * 10).toInt32) hx ht1
      refine qm_step (sM_sayNumber E) C 53 53 100 ([0], [], [(none, saS m1 (J x) (48 + (a / lN (10 ^ 0) - a / lN (10 ^ 0) / 10 * 10).toInt32))]) ⟨hp, hne, by decide, hs, by decide, ?_⟩
      exact fin2 f' _ _ ten_0 hS
    | succ j ih =>
      intro f u m1 hj hf hu ht1 hS
      subst hu
      obtain ⟨f', rfl⟩ : ∃ f', f = f' + 1 := ⟨f - 1, by omega⟩
      have hne : ¬ lN (10 ^ (j + 1)) = 0 := ten_ne (j + 1) (by omega)
      have hp := ten_pos (j + 1) (by omega)
      have hd := ten_div j (by omega)
      rw [dL_s, if_neg hp] at hS
      have hs := xM_say E m1 x (48 + (a / lN (10 ^ (j + 1)) - a / lN (10 ^ (j + 1)) / 10 * 10).toInt32) hx ht1
      refine qm_step (sM_sayNumber E) C 53 53 100 ([0], [], [(none, saS m1 (J x) (48 + (a / lN (10 ^ (j + 1)) - a / lN (10 ^ (j + 1)) / 10 * 10).toInt32))]) ⟨hp, hne, by decide, hs, by decide, ?_⟩
      exact ih f' _ _ (by omega) (by omega) hd (saS_tx ht1 _) hS
  have loop1 : ∀ (d k : Nat) (u : Int64) (m1 : mG), k + d = 15 → u = lN (10 ^ k) → mTx m1 (J x) → saN m1 (J x) (dL 16 a (dU d a u)) = saN m (J x) (nmL v) → qm_W (mLa E.2.2.2) mV (mHold E) (mA E.2.2.2) 8 p E.1 e (rmL 2) st mm args below meth c Q 30 ([some (qR 0 0), some (qI x), some (qL v), none, some (qL a), none, some (qL u), none], [], m1) := by
    intro d
    induction d with
    | zero =>
      intro k u m1 hk hu ht1 hS
      subst hu
      have hk : k = 15 := by omega
      subst hk
      have hne : ¬ lN (10 ^ 15) = 0 := ten_ne 15 (by omega)
      have hc := ten_15 v2 v3
      refine qm_step (sM_sayNumber E) C 30 53 100 ([1], [], []) ⟨hne, hc, ?_⟩
      exact loop2 15 16 _ m1 (by omega) (by omega) rfl ht1 hS
    | succ d ih =>
      intro k u m1 hk hu ht1 hS
      subst hu
      have hne : ¬ lN (10 ^ k) = 0 := ten_ne k (by omega)
      rw [dU_s] at hS
      by_cases hc : a / lN (10 ^ k) < 10
      · rw [if_pos hc] at hS
        refine qm_step (sM_sayNumber E) C 30 53 100 ([1], [], []) ⟨hne, hc, ?_⟩
        exact loop2 k 16 _ m1 (by omega) (by omega) rfl ht1 hS
      · rw [if_neg hc] at hS
        refine qm_step (sM_sayNumber E) C 30 30 100 ([0], [], []) ⟨hne, hc, ?_⟩
        exact ih (k + 1) _ m1 (by omega) (ten_mul k) ht1 hS
  by_cases hn : v < 0
  · have h1 : ¬ (0 : Int64) ≤ v := Int64.not_le.mpr hn
    have ea : a = -v := by
      rw [ha]
      unfold lAbs
      rw [if_neg (fun q => Int64.lt_irrefl (Int64.lt_trans q hn))]
    have hs := xM_say E m x 45 hx ht
    have := loop1 15 0 1 (saS m (J x) 45) rfl rfl (saS_tx ht _) (by unfold nmL; rw [if_pos hn, ha]; rfl)
    rw [ea] at this
    exact qm_step (sM_sayNumber E) C 0 30 100 ([0, 0], [], [(none, saS m (J x) 45)]) ⟨h1, hs, h1, this⟩
  · have h1 : (0 : Int64) ≤ v := Int64.not_lt.mp hn
    have ea : a = v := by
      rw [ha]
      unfold lAbs
      by_cases hz : 0 < v
      · rw [if_pos hz]
      · rw [if_neg hz]
        have : v = 0 := Int64.le_antisymm (Int64.not_lt.mp hz) h1
        rw [this]
        rfl
    have := loop1 15 0 1 m rfl rfl ht (by unfold nmL; rw [if_neg hn, ha]; rfl)
    rw [ea] at this
    exact qm_step (sM_sayNumber E) C 0 30 100 ([1, 1], [], []) ⟨h1, h1, this⟩
/-- a method that makes value e out of others -/
def mDo (E : mEnv) (mt : MethodName × List Cond × Room) (args : List qm_v) (m : mG) (e : Nat) (v : AV) : Prop := ∃ h, mSd E mt args m none h ∧ mFr e m h ∧ mIs h e v
set_option maxHeartbeats 1000000 in
theorem xM_truths (E : mEnv) (m : mG) (x op a b : Int32) (z : AV) (hx : vp_in x 90) (ha : vp_in a 90) (hb : ¬ op = 0 → vp_in b 90) (ga : mGd m (J a)) (gb : ¬ op = 0 → mGd m (J b)) (hop : op = 0 ∨ op = 1 ∨ op = 2 ∨ op = 3 ∨ op = 4) : mDo E mM_truths [qR 0 0, qI x, qI op, qI a, qI b] m (J x) (aTr (aTrs op (mVA m (J a)) (mVA m (J b)) z)) := by
  refine ⟨stT m (J x) (aTrs op (mVA m (J a)) (mVA m (J b)) z), ?_, mFr_stT _ _ _, mIs_tr _ _ (t3_trs _ _ _ _)⟩
  refine qm_meth (mOk E) (by decide) rfl rfl (Nat.le_of_ble_eq_true rfl) ?_
  intro p e st mm args below meth c Q C _ _
  have hu := xM_truth E m a ha ga
  have u3 := t3_truth (mVA m (J a))
  unfold aTrs at C
  rcases hop with h | h | h | h | h
  · subst h
    rw [if_pos rfl] at C
    by_cases h0 : aTruth (mVA m (J a)) < 0
    · have h0' : ¬ 0 ≤ aTruth (mVA m (J a)) := Int32.not_le.mpr h0
      have e1 : tNot (aTruth (mVA m (J a))) = -1 := by
        rcases u3 with q | q | q
        · rw [q]; rfl
        · rw [q] at h0; exact absurd h0 (by decide)
        · rw [q] at h0; exact absurd h0 (by decide)
      rw [e1] at C
      have hs := xM_setTruth E m x (-1) hx
      exact qm_step (sM_truths E) C 0 9999 100 ([0, 1, 0], [], [(some (qI (aTruth (mVA m (J a)))), m), (none, stT m (J x) (-1))]) ⟨hu, rfl, rfl, h0', hs, rfl, rfl⟩
    · have h0' : 0 ≤ aTruth (mVA m (J a)) := Int32.not_lt.mp h0
      have e1 : tNot (aTruth (mVA m (J a))) = 1 - aTruth (mVA m (J a)) := by
        unfold tNot
        rw [if_neg (fun q => h0 (by rw [q]; decide))]
      rw [e1] at C
      have hs := xM_setTruth E m x (1 - aTruth (mVA m (J a))) hx
      exact qm_step (sM_truths E) C 0 9999 100 ([0, 1, 1], [], [(some (qI (aTruth (mVA m (J a)))), m), (none, stT m (J x) (1 - aTruth (mVA m (J a))))]) ⟨hu, rfl, rfl, h0', hs, rfl, rfl⟩
  · subst h
    have hv := xM_truth E m b (hb (by decide)) (gb (by decide))
    rw [if_neg (by decide), if_pos rfl] at C
    have hs : ∀ t, mSd E mM_setTruth [qR 0 0, qI x, qI t] m none (stT m (J x) t) := fun t => xM_setTruth E m x t hx
    generalize aTruth (mVA m (J a)) = u at *
    generalize aTruth (mVA m (J b)) = w at *
    unfold tAnd at C
    by_cases q1 : u = 0
    · rw [if_pos (Or.inl q1)] at C
      exact qm_step (sM_truths E) C 0 9999 100 ([1, 2, 1], [], [(some (qI u), m), (some (qI w), m), (none, stT m (J x) 0)]) ⟨hu, by decide, hv, rfl, q1, hs 0, rfl, rfl⟩
    by_cases q2 : w = 0
    · rw [if_pos (Or.inr q2)] at C
      exact qm_step (sM_truths E) C 0 9999 100 ([1, 2, 0, 0], [], [(some (qI u), m), (some (qI w), m), (none, stT m (J x) 0)]) ⟨hu, by decide, hv, rfl, q1, q2, hs 0, rfl, rfl⟩
    rw [if_neg (not_or.mpr ⟨q1, q2⟩)] at C
    by_cases q3 : u = 1
    · by_cases q4 : w = 1
      · rw [if_pos ⟨q3, q4⟩] at C
        exact qm_step (sM_truths E) C 0 9999 100 ([1, 2, 0, 1, 0, 0], [], [(some (qI u), m), (some (qI w), m), (none, stT m (J x) 1)]) ⟨hu, by decide, hv, rfl, q1, q2, q3, q4, hs 1, rfl, rfl⟩
      · rw [if_neg (fun q => q4 q.2)] at C
        exact qm_step (sM_truths E) C 0 9999 100 ([1, 2, 0, 1, 0, 1], [], [(some (qI u), m), (some (qI w), m), (none, stT m (J x) (-1))]) ⟨hu, by decide, hv, rfl, q1, q2, q3, q4, hs (-1), rfl, rfl⟩
    · rw [if_neg (fun q => q3 q.1)] at C
      exact qm_step (sM_truths E) C 0 9999 100 ([1, 2, 0, 1, 1], [], [(some (qI u), m), (some (qI w), m), (none, stT m (J x) (-1))]) ⟨hu, by decide, hv, rfl, q1, q2, q3, hs (-1), rfl, rfl⟩
  · subst h
    have hv := xM_truth E m b (hb (by decide)) (gb (by decide))
    rw [if_neg (by decide), if_neg (by decide), if_pos rfl] at C
    have hs : ∀ t, mSd E mM_setTruth [qR 0 0, qI x, qI t] m none (stT m (J x) t) := fun t => xM_setTruth E m x t hx
    generalize aTruth (mVA m (J a)) = u at *
    generalize aTruth (mVA m (J b)) = w at *
    unfold tOr at C
    by_cases q1 : u = 1
    · rw [if_pos (Or.inl q1)] at C
      exact qm_step (sM_truths E) C 0 9999 100 ([1, 3, 1], [], [(some (qI u), m), (some (qI w), m), (none, stT m (J x) 1)]) ⟨hu, by decide, hv, rfl, q1, hs 1, rfl, rfl⟩
    by_cases q2 : w = 1
    · rw [if_pos (Or.inr q2)] at C
      exact qm_step (sM_truths E) C 0 9999 100 ([1, 3, 0, 0], [], [(some (qI u), m), (some (qI w), m), (none, stT m (J x) 1)]) ⟨hu, by decide, hv, rfl, q1, q2, hs 1, rfl, rfl⟩
    rw [if_neg (not_or.mpr ⟨q1, q2⟩)] at C
    by_cases q3 : u = 0
    · by_cases q4 : w = 0
      · rw [if_pos ⟨q3, q4⟩] at C
        exact qm_step (sM_truths E) C 0 9999 100 ([1, 3, 0, 1, 0, 0], [], [(some (qI u), m), (some (qI w), m), (none, stT m (J x) 0)]) ⟨hu, by decide, hv, rfl, q1, q2, q3, q4, hs 0, rfl, rfl⟩
      · rw [if_neg (fun q => q4 q.2)] at C
        exact qm_step (sM_truths E) C 0 9999 100 ([1, 3, 0, 1, 0, 1], [], [(some (qI u), m), (some (qI w), m), (none, stT m (J x) (-1))]) ⟨hu, by decide, hv, rfl, q1, q2, q3, q4, hs (-1), rfl, rfl⟩
    · rw [if_neg (fun q => q3 q.1)] at C
      exact qm_step (sM_truths E) C 0 9999 100 ([1, 3, 0, 1, 1], [], [(some (qI u), m), (some (qI w), m), (none, stT m (J x) (-1))]) ⟨hu, by decide, hv, rfl, q1, q2, q3, hs (-1), rfl, rfl⟩
  · subst h
    have hv := xM_truth E m b (hb (by decide)) (gb (by decide))
    rw [if_neg (by decide), if_neg (by decide), if_neg (by decide), if_pos rfl] at C
    have hsa := xM_same E m a b ha (hb (by decide)) ga (gb (by decide))
    exact qm_step (sM_truths E) C 0 9999 100 ([1, 4], [], [(some (qI (aTruth (mVA m (J a)))), m), (some (qI (aTruth (mVA m (J b)))), m), (some (qI (aSame (mVA m (J a)) (mVA m (J b)))), m), (none, stT m (J x) (aSame (mVA m (J a)) (mVA m (J b))))]) ⟨hu, by decide, hv, rfl, hsa, xM_setTruth E m x _ hx, rfl, rfl⟩
  · subst h
    have hv := xM_truth E m b (hb (by decide)) (gb (by decide))
    rw [if_neg (by decide), if_neg (by decide), if_neg (by decide), if_neg (by decide), if_pos rfl] at C
    have hsa := xM_less E m a b ha (hb (by decide)) ga (gb (by decide))
    exact qm_step (sM_truths E) C 0 9999 100 ([1, 0], [], [(some (qI (aTruth (mVA m (J a)))), m), (some (qI (aTruth (mVA m (J b)))), m), (some (qI (aLess (mVA m (J a)) (mVA m (J b)))), m), (none, stT m (J x) (aLess (mVA m (J a)) (mVA m (J b))))]) ⟨hu, by decide, hv, by decide, hsa, xM_setTruth E m x _ hx, rfl, rfl⟩
