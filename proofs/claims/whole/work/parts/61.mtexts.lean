/-! texts of the reference -/
theorem tx_resize (E : mEnv) (m : mG) (x op a b c : Int32) (lo hi : Int64) (hop : (op = 12 ∧ lo = 97 ∧ hi = 122) ∨ (op = 13 ∧ lo = 65 ∧ hi = 90)) (hx : vp_in x 90) (ha : vp_in a 90) (hax : J a ≠ J x) (h3 : mk m (J a) = 3) (g : mGd m (J a)) : mSd E mM_texts [qR 0 0, qI x, qI op, qI a, qI b, qI c] m none (rz (prM m (J a) (J x) 0 (mN m (J a)) (mtg m (J a))) (J x) (upF lo hi) (mN m (J a))) := by
  refine qm_meth (mOk E) (by decide) rfl rfl (Nat.le_of_ble_eq_true rfl) ?_
  intro p e st mm args below meth cc Q C _ _
  obtain ⟨o1, o2, o3, o4, o5, o6⟩ := mVA_tx h3 g
  obtain ⟨z, hz⟩ : ∃ z, z = prM m (J a) (J x) 0 (mN m (J a)) (mtg m (J a)) := ⟨_, rfl⟩
  rw [← hz] at C
  have nn : mn z (J x) = lN (mN m (J a)) := by rw [hz]; exact setS_n _ _ _ _
  have hl0 := xM_lengthT E m a ha h3 g
  rw [o2] at hl0
  have hp := xM_setPart E m x a 0 (mN m (J a)) (mtg m (J a)) hx ha (by omega)
  rw [← hz, Nat.zero_add, show nI 0 = 0 from rfl] at hp
  have loop : ∀ (r k : Nat) (w : Int32) (L7 L8 L9 : Option qm_v), k + r = mN m (J a) → w = nI k → qm_W (mLa E.2.2.2) mV (mHold E) (mA E.2.2.2) 10 p E.1 e (rmL 3) st mm args below meth cc Q 241 ([some (qR 0 0), some (qI x), some (qI op), some (qI a), some (qI b), some (qI c), some (qI w), L7, L8, L9], [], rz z (J x) (upF lo hi) k) := by
    intro r
    induction r with
    | zero =>
      intro k w L7 L8 L9 hk hw
      subst hw
      have hk : k = mN m (J a) := by omega
      have hl := xM_length E (rz z (J x) (upF lo hi) k) x hx
      rw [show mn (rz z (J x) (upF lo hi) k) (J x) = lN (mN m (J a)) from (congrFun (congrFun (rz_i z (J x) (upF lo hi) k).2 1) (J x)).trans nn, lN_i] at hl
      have hc : nI (mN m (J a)) ≤ nI k := nI_le (by omega) (by omega)
      rw [← hk] at C
      exact qm_step (sM_texts E) C 241 9999 100 ([1], [], [(some (qI (nI (mN m (J a)))), rz z (J x) (upF lo hi) k)]) ⟨hl, hc, rfl, rfl⟩
    | succ r ih =>
      intro k w L7 L8 L9 hk hw
      subst hw
      have hl := xM_length E (rz z (J x) (upF lo hi) k) x hx
      rw [show mn (rz z (J x) (upF lo hi) k) (J x) = lN (mN m (J a)) from (congrFun (congrFun (rz_i z (J x) (upF lo hi) k).2 1) (J x)).trans nn, lN_i] at hl
      have hc : ¬ nI (mN m (J a)) ≤ nI k := nI_ge (by omega) (by omega)
      obtain ⟨x1, x2, x3⟩ := x24 (k := k) hx (by omega)
      have hb := xM_byteAt E (rz z (J x) (upF lo hi) k) x k hx (by omega)
      obtain ⟨B, hB⟩ : ∃ B, B = mb (rz z (J x) (upF lo hi) k) (24 * J x + k) := ⟨_, rfl⟩
      rw [← hB] at hb
      have hi1 := xM_in E (rz z (J x) (upF lo hi) k) B.toInt64 lo hi
      have step := ih (k + 1) (nI k + 1)
      have nx : ∀ V, V = upF lo hi B → mbW (rz z (J x) (upF lo hi) k) 1 (24 * x + nI k).toNatClampNeg V.toInt8.toInt32 = rz z (J x) (upF lo hi) (k + 1) := by
        intro V hV
        show _ = mbW (rz z (J x) (upF lo hi) k) 1 (24 * J x + k) (upF lo hi (mb (rz z (J x) (upF lo hi) k) (24 * J x + k)))
        rw [x3, hV, ← hB]
        unfold mbW
        rw [i8_8]
      by_cases hin : ¬ B.toInt64 < lo ∧ ¬ hi < B.toInt64
      · rw [if_pos hin] at hi1
        have n1 := nx (B ^^^ 32) (by unfold upF; rw [if_pos hin])
        rcases hop with ⟨q1, q2, q3⟩ | ⟨q1, q2, q3⟩
        · subst q1 q2 q3
          refine qm_step (sM_texts E) C 241 241 100 ([0, 0, 0], [], [(some (qI (nI (mN m (J a)))), rz z (J x) (upF 97 122) k), (some (qI B), rz z (J x) (upF 97 122) k), (some (qI 1), rz z (J x) (upF 97 122) k)]) ⟨hl, hc, hb, rfl, hi1, by decide, x2, ?_⟩
          have := step (some (qI B)) (some (qI 1)) L9 (by omega) (nI_1 k)
          rw [← n1] at this
          exact this
        · subst q1 q2 q3
          refine qm_step (sM_texts E) C 241 241 100 ([0, 1, 0], [], [(some (qI (nI (mN m (J a)))), rz z (J x) (upF 65 90) k), (some (qI B), rz z (J x) (upF 65 90) k), (some (qI 1), rz z (J x) (upF 65 90) k)]) ⟨hl, hc, hb, by decide, hi1, by decide, x2, ?_⟩
          have := step (some (qI B)) (some (qI 1)) L9 (by omega) (nI_1 k)
          rw [← n1] at this
          exact this
      · rw [if_neg hin] at hi1
        have n1 := nx B (by unfold upF; rw [if_neg hin])
        rcases hop with ⟨q1, q2, q3⟩ | ⟨q1, q2, q3⟩
        · subst q1 q2 q3
          refine qm_step (sM_texts E) C 241 241 100 ([0, 0, 1], [], [(some (qI (nI (mN m (J a)))), rz z (J x) (upF 97 122) k), (some (qI B), rz z (J x) (upF 97 122) k), (some (qI 0), rz z (J x) (upF 97 122) k)]) ⟨hl, hc, hb, rfl, hi1, rfl, x2, ?_⟩
          have := step (some (qI B)) (some (qI 0)) L9 (by omega) (nI_1 k)
          rw [← n1] at this
          exact this
        · subst q1 q2 q3
          refine qm_step (sM_texts E) C 241 241 100 ([0, 1, 1], [], [(some (qI (nI (mN m (J a)))), rz z (J x) (upF 65 90) k), (some (qI B), rz z (J x) (upF 65 90) k), (some (qI 0), rz z (J x) (upF 65 90) k)]) ⟨hl, hc, hb, by decide, hi1, rfl, x2, ?_⟩
          have := step (some (qI B)) (some (qI 0)) L9 (by omega) (nI_1 k)
          rw [← n1] at this
          exact this
  have d10 : ¬ op = 10 := by rcases hop with ⟨q, _⟩ | ⟨q, _⟩ <;> rw [q] <;> decide
  have d11 : ¬ op = 11 := by rcases hop with ⟨q, _⟩ | ⟨q, _⟩ <;> rw [q] <;> decide
  have d14 : ¬ op = 14 := by rcases hop with ⟨q, _⟩ | ⟨q, _⟩ <;> rw [q] <;> decide
  exact qm_step (sM_texts E) C 0 241 100 ([1, 1, 1, 1], [], [(some (qI (nI (mN m (J a)))), m), (none, z)]) ⟨ha, h3, d10, d11, d14, hl0, ha, hp, loop (mN m (J a)) 0 0 none none none (by omega) rfl⟩
theorem tx_part (E : mEnv) (m : mG) (x a b c : Int32) (hx : vp_in x 90) (ha : vp_in a 90) (hb : vp_in b 90) (hc : vp_in c 90) (h3 : mk m (J a) = 3) (g : mGd m (J a)) (kb : mk m (J b) = 2) (kc : mk m (J c) = 2) (gb : mGd m (J b)) (gc : mGd m (J c)) : ∃ s r, s + r ≤ lA (mVA m (J a)) ∧ aPart (mVA m (J a)) s r = aPt (mVA m (J a)) (mVA m (J b)).2.1 (mVA m (J c)).2.1 ∧ mSd E mM_texts [qR 0 0, qI x, qI 11, qI a, qI b, qI c] m none (prM m (J a) (J x) s r (mtg m (J a))) := by
  obtain ⟨o1, o2, o3, o4, o5, o6⟩ := mVA_tx h3 g
  have wb := av_wh gb.1 (by rw [mVA_k]; exact kb)
  have wc := av_wh gc.1 (by rw [mVA_k]; exact kc)
  rw [mVA_am (by rw [kb]; decide) (by rw [kb]; decide)] at wb ⊢
  rw [mVA_am (by rw [kc]; decide) (by rw [kc]; decide)] at wc ⊢
  have hl := xM_lengthT E m a ha h3 g
  rw [o2] at hl ⊢
  obtain ⟨B, hB⟩ : ∃ B, B = mn m (J b) := ⟨_, rfl⟩
  obtain ⟨D, hD⟩ : ∃ D, D = mn m (J c) := ⟨_, rfl⟩
  rw [← hB] at wb ⊢
  rw [← hD] at wc ⊢
  obtain ⟨F, hF⟩ : ∃ F : Int64, F = (if B < 1 then 1 else B) := ⟨_, rfl⟩
  obtain ⟨T, hT⟩ : ∃ T : Int64, T = (if B + D - 1 < (nI (mN m (J a))).toInt64 then B + D - 1 else (nI (mN m (J a))).toInt64) := ⟨_, rfl⟩
  have e1 : (1 : Int64).toInt = 1 := rfl
  have eF : F.toInt = max 1 B.toInt := by
    rw [hF]
    by_cases q : B < 1
    · have := Int64.lt_iff_toInt_lt.mp q
      rw [if_pos q, e1]
      rw [e1] at this
      omega
    · have : ¬ B.toInt < (1 : Int64).toInt := fun p => q (Int64.lt_iff_toInt_lt.mpr p)
      rw [if_neg q]
      rw [e1] at this
      omega
  have eS : (B + D - 1).toInt = B.toInt + D.toInt - 1 := by
    have s1 : (B + D).toInt = B.toInt + D.toInt := l_add (by omega) (by omega)
    rw [l_sub (by rw [s1, e1]; omega) (by rw [s1, e1]; omega), s1, e1]
  have eN : ((nI (mN m (J a))).toInt64).toInt = mN m (J a) := by rw [nI_l (by omega), lN_toInt (by omega)]
  have eT : T.toInt = min (mN m (J a) : Int) (B.toInt + D.toInt - 1) := by
    rw [hT]
    by_cases q : B + D - 1 < (nI (mN m (J a))).toInt64
    · have := Int64.lt_iff_toInt_lt.mp q
      rw [if_pos q, eS]
      rw [eS, eN] at this
      omega
    · have : ¬ (B + D - 1).toInt < ((nI (mN m (J a))).toInt64).toInt := fun p => q (Int64.lt_iff_toInt_lt.mpr p)
      rw [if_neg q, eN]
      rw [eS, eN] at this
      omega
  by_cases hFT : F ≤ T
  · have hFT' := Int64.le_iff_toInt_le.mp hFT
    rw [eF, eT] at hFT'
    refine ⟨F.toInt.toNat - 1, T.toInt.toNat - (F.toInt.toNat - 1), by omega, ?_, ?_⟩
    · unfold aPt
      rw [o2, if_neg (by omega)]
      congr 1
      · omega
      · omega
    · refine qm_meth (mOk E) (by decide) rfl rfl (Nat.le_of_ble_eq_true rfl) ?_
      intro p e st mm args below meth cc Q C _ _
      have f1 : F = lN F.toInt.toNat := l_of (by omega) (by omega)
      have t1 : T = lN T.toInt.toNat := l_of (by omega) (by omega)
      have f2 : F.toInt32 - 1 = nI (F.toInt.toNat - 1) := by
        rw [f1, lN_i, lN_toInt (by omega)]
        have := nI_pred (F.toInt.toNat - 1)
        rw [show F.toInt.toNat - 1 + 1 = F.toInt.toNat by omega] at this
        exact this
      have t2 : T.toInt32 = nI (F.toInt.toNat - 1 + (T.toInt.toNat - (F.toInt.toNat - 1))) := by
        rw [show F.toInt.toNat - 1 + (T.toInt.toNat - (F.toInt.toNat - 1)) = T.toInt.toNat by omega]
        calc T.toInt32 = (lN T.toInt.toNat).toInt32 := by rw [← t1]
          _ = _ := lN_i _
      have hp := xM_setPart E m x a (F.toInt.toNat - 1) (T.toInt.toNat - (F.toInt.toNat - 1)) (mtg m (J a)) hx ha (by omega)
      rw [← f2, ← t2, hF, hT, hB, hD] at hp
      rw [hF, hT, hB, hD] at hFT
      exact qm_step (sM_texts E) C 0 9999 200 ([1, 1, 0, 0, 0, 1, 1], [], [(some (qI (nI (mN m (J a)))), m), (none, prM m (J a) (J x) (F.toInt.toNat - 1) (T.toInt.toNat - (F.toInt.toNat - 1)) (mtg m (J a)))]) ⟨ha, h3, by decide, rfl, hb, kb, hc, kc, hb, hl, hb, hc, hFT, hFT, ha, by rw [hF, hT, hB, hD]; exact hp, rfl, rfl⟩
  · have hFT' : ¬ F.toInt ≤ T.toInt := fun q => hFT (Int64.le_iff_toInt_le.mpr q)
    rw [eF, eT] at hFT'
    refine ⟨0, 0, by omega, ?_, ?_⟩
    · unfold aPt
      rw [o2, if_pos (by omega)]
      rfl
    · refine qm_meth (mOk E) (by decide) rfl rfl (Nat.le_of_ble_eq_true rfl) ?_
      intro p e st mm args below meth cc Q C _ _
      have hp := xM_setPart E m x a 0 0 (mtg m (J a)) hx ha (by omega)
      rw [hF, hT, hB, hD] at hFT
      exact qm_step (sM_texts E) C 0 9999 200 ([1, 1, 0, 0, 0, 0, 0], [], [(some (qI (nI (mN m (J a)))), m), (none, prM m (J a) (J x) 0 0 (mtg m (J a)))]) ⟨ha, h3, by decide, rfl, hb, kb, hc, kc, hb, hl, hb, hc, hFT, hFT, ha, hp, rfl, rfl⟩
