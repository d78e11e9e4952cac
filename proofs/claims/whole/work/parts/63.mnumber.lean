/-! asNumber, words, others of the reference -/
theorem aWh_in {v : Int64} (h : -1000000000000000 ≤ v.toInt ∧ v.toInt ≤ 1000000000000000) : aWh v = (2, v, 0, []) := by
  unfold aWh
  rw [if_pos]
  have e1 : (-1000000000000000 : Int64).toInt = -1000000000000000 := by decide
  have e2 : (1000000000000000 : Int64).toInt = 1000000000000000 := by decide
  constructor
  · intro q
    have := Int64.lt_iff_toInt_lt.mp q
    rw [e1] at this
    omega
  · intro q
    have := Int64.lt_iff_toInt_lt.mp q
    rw [e2] at this
    omega
theorem dg1 : ∀ n, n < 127 → 32 ≤ n → ((¬ (nI n).toInt64 < 48 ∧ ¬ 57 < (nI n).toInt64) ↔ (¬ nI n < 48 ∧ ¬ 57 < nI n)) := by decide +kernel
theorem dg2 : ∀ n, n ≤ 24 → ((¬ (nI n - 1).toInt64 < 1 ∧ ¬ 15 < (nI n - 1).toInt64) ↔ (¬ nI n - 1 < 1 ∧ ¬ 15 < nI n - 1)) ∧ ((¬ (nI n - 0).toInt64 < 1 ∧ ¬ 15 < (nI n - 0).toInt64) ↔ (¬ nI n - 0 < 1 ∧ ¬ 15 < nI n - 0)) := by decide +kernel
theorem dg3 : ∀ n, n ≤ 24 → ((¬ nI n - 1 < 1 ∧ ¬ 15 < nI n - 1) → n ≤ 16) ∧ ((¬ nI n - 0 < 1 ∧ ¬ 15 < nI n - 0) → n ≤ 15) := by decide +kernel
theorem dg4 : ∀ n, n < 127 → 32 ≤ n → (¬ nI n < 48 ∧ ¬ 57 < nI n) → 48 ≤ n ∧ n ≤ 57 := by decide +kernel
/-- one digit more -/
theorem rdF_one {v : Int64} {j n : Nat} (hj : j < 15) (h0 : 0 ≤ v.toInt) (h1 : v.toInt < (10 ^ j : Nat)) (hn : 48 ≤ n ∧ n ≤ 57) : 0 ≤ (v * 10 + (nI n).toInt64 - 48).toInt ∧ (v * 10 + (nI n).toInt64 - 48).toInt < (10 ^ (j + 1) : Nat) := by
  have hp : (10 ^ (j + 1) : Nat) = 10 * 10 ^ j := by rw [Nat.pow_succ]; omega
  have hb : (10 ^ j : Nat) ≤ 10 ^ 14 := Nat.pow_le_pow_right (by decide) (by omega)
  have e14 : (10 ^ 14 : Nat) = 100000000000000 := by decide
  have e10 : (10 : Int64).toInt = 10 := rfl
  have e48 : (48 : Int64).toInt = 48 := rfl
  have m1 : (v * 10).toInt = v.toInt * 10 := by
    rw [l_mul] <;> rw [e10] <;> omega
  have n1 : ((nI n).toInt64).toInt = n := by rw [nI_l (by omega), lN_toInt (by omega)]
  have a1 : (v * 10 + (nI n).toInt64).toInt = v.toInt * 10 + n := by
    rw [l_add (by rw [m1, n1]; omega) (by rw [m1, n1]; omega), m1, n1]
  have a2 : (v * 10 + (nI n).toInt64 - 48).toInt = v.toInt * 10 + n - 48 := by
    rw [l_sub (by rw [a1, e48]; omega) (by rw [a1, e48]; omega), a1, e48]
  rw [a2, hp]
  omega
/-- what was read has 15 digits -/
theorem rdF_bd {f : Nat → Int32} : ∀ (m k j : Nat) (s : Int32) (v : Int64), (∀ q, k ≤ q → q < k + m → okB (f q)) → (s = 0 ∨ (s = 1 ∧ j + m ≤ 15 ∧ 0 ≤ v.toInt ∧ v.toInt < (10 ^ j : Nat))) → ¬ (rdF f m k s v).1 = 0 → 0 ≤ (rdF f m k s v).2.toInt ∧ (rdF f m k s v).2.toInt < 1000000000000000
  | 0, k, j, s, v, hf, hs, h => by
    rcases hs with hs | ⟨h1, h2, h3, h4⟩
    · exact absurd hs h
    · have hb : (10 ^ j : Nat) ≤ 10 ^ 15 := Nat.pow_le_pow_right (by decide) (by omega)
      have e15 : (10 ^ 15 : Nat) = 1000000000000000 := by decide
      show 0 ≤ v.toInt ∧ v.toInt < _
      omega
  | m + 1, k, j, s, v, hf, hs, h => by
    rw [rdF_s] at h ⊢
    rcases hs with hs | ⟨h1, h2, h3, h4⟩
    · rw [if_pos hs] at h; exact absurd hs h
    · rw [if_neg (by rw [h1]; decide)] at h ⊢
      obtain ⟨n, n1, n2, hn⟩ := okB_n (hf k (Nat.le_refl _) (by omega))
      refine rdF_bd m (k + 1) (j + 1) _ _ (fun q q1 q2 => hf q (by omega) (by omega)) ?_ h
      by_cases hd : ¬ f k < 48 ∧ ¬ 57 < f k
      · rw [if_pos hd]
        rw [hn] at hd ⊢
        have := rdF_one (n := n) (by omega) h3 h4 (dg4 n n2 n1 hd)
        exact Or.inr ⟨rfl, by omega, this.1, this.2⟩
      · rw [if_neg hd]; exact Or.inl rfl
theorem l_neg {v : Int64} (h0 : 0 ≤ v.toInt) : (-v).toInt = -v.toInt := by
  have := v.toInt_lt
  rw [Int64.toInt_neg, Int.bmod_def]
  split <;> omega
set_option maxHeartbeats 2000000 in
theorem xM_asNumber (E : mEnv) (m : mG) (x a : Int32) (hx : vp_in x 90) (ha : vp_in a 90) (h0 : mk m (J x) = 0) (g : mGd m (J a)) : mDo E mM_asNumber [qR 0 0, qI x, qI a] m (J x) (aNum (mVA m (J a))) := by
  unfold aNum
  rw [mVA_k]
  by_cases h21 : mk m (J a) = 2 ∨ mk m (J a) = 1
  · have n0 : ¬ mk m (J a) = 0 := by rcases h21 with h | h <;> rw [h] <;> decide
    have n3 : ¬ mk m (J a) = 3 := by rcases h21 with h | h <;> rw [h] <;> decide
    have hr := av_num g.1 (by rw [mVA_k]; exact n0)
    rw [if_pos h21, aWh_in hr, mVA_am n0 n3]
    refine ⟨setS m (J x) 2 (mn m (J a)), ?_, mFr_set _ _ _ _, mIs_set _ _ _ (by decide) (by decide)⟩
    refine qm_meth (mOk E) (by decide) rfl rfl (Nat.le_of_ble_eq_true rfl) ?_
    intro p e st mm args below meth cc Q C _ _
    have hs := xM_set E m x 2 (mn m (J a)) hx
    by_cases h2 : mk m (J a) = 2
    · exact qm_step (sM_asNumber E) C 0 9999 100 ([1], [], [(none, setS m (J x) 2 (mn m (J a)))]) ⟨ha, h2, ha, hs, rfl, rfl⟩
    · exact qm_step (sM_asNumber E) C 0 9999 100 ([0, 0], [], [(none, setS m (J x) 2 (mn m (J a)))]) ⟨ha, h2, ha, h21.resolve_left h2, ha, hs, rfl, rfl⟩
  · rw [if_neg h21]
    have n2 := (not_or.mp h21).1
    have n1 := (not_or.mp h21).2
    by_cases h3 : mk m (J a) = 3
    · obtain ⟨o1, o2, o3, o4, o5, o6⟩ := mVA_tx h3 g
      rw [o3]
      by_cases h4 : mtg m (J a) = 0
      · rw [if_pos ⟨h3, h4⟩]
        have hl := xM_lengthT E m a ha h3 g
        -- from the loop on: 'less' is be, begun at s
        have tail : ∀ (be : Int32) (s : Nat), (be = 0 ∧ s = 0) ∨ (be = 1 ∧ s = 1) → s ≤ lA (mVA m (J a)) →
            ∀ (good : Int32), good = 0 ∨ (good = 1 ∧ lA (mVA m (J a)) - s ≤ 15) → ∀ (p : Program) (e : Env) (st : State) (mm : MethodId) (args : Array Value) (below : List Frame) (meth : Method) (c : Code) (Q : State → Prop) (h' : mG), h' = (if (rdF (bA (mVA m (J a))) (lA (mVA m (J a)) - s) s good 0).1 = 0 then m else setS m (J x) 2 (if be = 0 then (rdF (bA (mVA m (J a))) (lA (mVA m (J a)) - s) s good 0).2 else -(rdF (bA (mVA m (J a))) (lA (mVA m (J a)) - s) s good 0).2)) → qm_C (mLa E.2.2.2) mV (mHold E) (mA E.2.2.2) (fun r1 g1 => r1 = none ∧ g1 = h') prog_10_method_34_code 9 yM_asNumber.cls (wsT yM_asNumber prog_10_method_34_code 9 none) none p st mm args below meth c Q → qm_W (mLa E.2.2.2) mV (mHold E) (mA E.2.2.2) 9 p E.1 e (rmL 2) st mm args below meth c Q 114 ([some (qR 0 0), some (qI x), some (qI a), some (qI be), some (qI (nI s)), some (qI good), some (qL 0), none, some (qI (nI s))], [], m) := by
          intro be s hbs hs good hgood p e st mm args below meth c Q h' hh C
          have last : ∀ (gd : Int32) (V : Int64) (w : Int32), (gd = 0 ∨ gd = 1) → rdF (bA (mVA m (J a))) (lA (mVA m (J a)) - s) s good 0 = (gd, V) → qm_W (mLa E.2.2.2) mV (mHold E) (mA E.2.2.2) 9 p E.1 e (rmL 2) st mm args below meth c Q 175 ([some (qR 0 0), some (qI x), some (qI a), some (qI be), some (qI (nI s)), some (qI gd), some (qL V), none, some (qI w)], [], m) := by
            intro gd V w hgd hr
            rw [hr] at hh
            by_cases hz : gd = 0
            · rw [if_pos hz] at hh
              exact qm_step (sM_asNumber E) C 175 9999 100 ([1], [], []) ⟨hz, rfl, hh.symm⟩
            · rw [if_neg hz] at hh
              rcases hbs with ⟨q1, _⟩ | ⟨q1, _⟩
              · subst q1
                rw [if_pos rfl] at hh
                exact qm_step (sM_asNumber E) C 175 9999 100 ([0, 1], [], [(none, setS m (J x) 2 V)]) ⟨hz, rfl, xM_set E m x 2 V hx, rfl, hh.symm⟩
              · subst q1
                rw [if_neg (by decide)] at hh
                exact qm_step (sM_asNumber E) C 175 9999 100 ([0, 0], [], [(none, setS m (J x) 2 (-V))]) ⟨hz, by decide, xM_set E m x 2 (-V) hx, rfl, hh.symm⟩
          have loop : ∀ (r k : Nat) (w gd : Int32) (V : Int64), k + r = lA (mVA m (J a)) → w = nI k → (gd = 0 ∨ gd = 1) → rdF (bA (mVA m (J a))) r k gd V = rdF (bA (mVA m (J a))) (lA (mVA m (J a)) - s) s good 0 → qm_W (mLa E.2.2.2) mV (mHold E) (mA E.2.2.2) 9 p E.1 e (rmL 2) st mm args below meth c Q 114 ([some (qR 0 0), some (qI x), some (qI a), some (qI be), some (qI (nI s)), some (qI gd), some (qL V), none, some (qI w)], [], m) := by
            intro r
            induction r with
            | zero =>
              intro k w gd V hk hw hgd hr
              subst hw
              have hc : nI (lA (mVA m (J a))) ≤ nI k := nI_le (by omega) (by omega)
              refine qm_step (sM_asNumber E) C 114 175 100 ([1], [], [(some (qI (nI (lA (mVA m (J a))))), m)]) ⟨hl, hc, ?_⟩
              exact last gd V _ hgd hr.symm
            | succ r ih =>
              intro k w gd V hk hw hgd hr
              subst hw
              have hc : ¬ nI (lA (mVA m (J a))) ≤ nI k := nI_ge (by omega) (by omega)
              rw [rdF_s] at hr
              by_cases hz : gd = 0
              · rw [if_pos hz] at hr
                refine qm_step (sM_asNumber E) C 114 175 100 ([0, 1], [], [(some (qI (nI (lA (mVA m (J a))))), m)]) ⟨hl, hc, hz, ?_⟩
                exact last gd V _ hgd hr.symm
              · rw [if_neg hz] at hr
                have hb := xM_byteT E m a k ha h3 g (by omega)
                obtain ⟨n, m1, m2, hn⟩ := okB_n (bA_ok (av_tx g.1 (by rw [mVA_k]; exact h3)).2.2.2 (k := k) (by omega))
                have hi := xM_in E m (bA (mVA m (J a)) k).toInt64 48 57
                have ei : (if ¬ (bA (mVA m (J a)) k).toInt64 < 48 ∧ ¬ 57 < (bA (mVA m (J a)) k).toInt64 then (1 : Int32) else 0) = (if ¬ bA (mVA m (J a)) k < 48 ∧ ¬ 57 < bA (mVA m (J a)) k then 1 else 0) := by
                  rw [hn]
                  by_cases q : ¬ nI n < 48 ∧ ¬ 57 < nI n
                  · rw [if_pos q, if_pos ((dg1 n m2 m1).mpr q)]
                  · rw [if_neg q, if_neg (fun p => q ((dg1 n m2 m1).mp p))]
                rw [ei] at hi
                refine qm_step (sM_asNumber E) C 114 114 100 ([0, 0], [], [(some (qI (nI (lA (mVA m (J a))))), m), (some (qI (bA (mVA m (J a)) k)), m), (some (qI (if ¬ bA (mVA m (J a)) k < 48 ∧ ¬ 57 < bA (mVA m (J a)) k then 1 else 0)), m), (some (qI (bA (mVA m (J a)) k)), m)]) ⟨hl, hc, hz, hb, hi, hb, ?_⟩
                refine ih (k + 1) _ _ _ (by omega) (nI_1 k) (by split <;> simp) ?_
                rw [← hr]
                show rdF _ r (k + 1) _ (10 * V + (bA (mVA m (J a)) k).toInt64 - 48) = _
                rw [Int64.mul_comm 10 V]
          exact loop (lA (mVA m (J a)) - s) s (nI s) good 0 (by omega) rfl (by rcases hgood with q | q; exact Or.inl q; exact Or.inr q.1) rfl
        have bytesOk : ∀ q, q < lA (mVA m (J a)) → okB (bA (mVA m (J a)) q) := fun q hq => bA_ok (av_tx g.1 (by rw [mVA_k]; exact h3)).2.2.2 hq
        unfold aRd
        by_cases hm : bA (mVA m (J a)) 0 = 45
        · have hpos : 0 < lA (mVA m (J a)) := by
            rcases Nat.eq_zero_or_pos (lA (mVA m (J a))) with q | q
            · rw [bA_out (by omega)] at hm
              exact absurd hm (by decide)
            · exact q
          rw [if_pos hm]
          dsimp only
          obtain ⟨gd, hgd⟩ : ∃ gd : Int32, gd = (if ¬ nI (lA (mVA m (J a))) - 1 < 1 ∧ ¬ 15 < nI (lA (mVA m (J a))) - 1 then 1 else 0) := ⟨_, rfl⟩
          rw [← hgd]
          have hg01 : gd = 0 ∨ (gd = 1 ∧ lA (mVA m (J a)) - 1 ≤ 15) := by
            rw [hgd]
            split
            · rename_i q
              have := (dg3 (lA (mVA m (J a))) (by omega)).1 q
              exact Or.inr ⟨rfl, by omega⟩
            · exact Or.inl rfl
          have tl := tail 1 1 (Or.inr ⟨rfl, rfl⟩) (by omega) gd hg01
          have bd := rdF_bd (f := bA (mVA m (J a))) (lA (mVA m (J a)) - 1) 1 0 gd 0 (fun q q1 q2 => bytesOk q (by omega)) (by
            rcases hg01 with q | q
            · exact Or.inl q
            · exact Or.inr ⟨q.1, by omega, by decide, by decide⟩)
          obtain ⟨R, hR⟩ : ∃ R, R = rdF (bA (mVA m (J a))) (lA (mVA m (J a)) - 1) 1 gd 0 := ⟨_, rfl⟩
          rw [← hR] at bd tl ⊢
          refine ⟨if R.1 = 0 then m else setS m (J x) 2 (-R.2), ?_, ?_, ?_⟩
          · refine qm_meth (mOk E) (by decide) rfl rfl (Nat.le_of_ble_eq_true rfl) ?_
            intro p e st mm args below meth cc Q C _ _
            have t1 := tl p e st mm args below meth cc Q _ (by rw [if_neg (show ¬ (1 : Int32) = 0 by decide)]) C
            have hi := xM_in E m (nI (lA (mVA m (J a))) - 1).toInt64 1 15
            have ei : (if ¬ (nI (lA (mVA m (J a))) - 1).toInt64 < 1 ∧ ¬ 15 < (nI (lA (mVA m (J a))) - 1).toInt64 then (1 : Int32) else 0) = gd := by
              rw [hgd]
              by_cases q : ¬ nI (lA (mVA m (J a))) - 1 < 1 ∧ ¬ 15 < nI (lA (mVA m (J a))) - 1
              · rw [if_pos q, if_pos ((dg2 _ (by omega)).1.mpr q)]
              · rw [if_neg q, if_neg (fun p => q ((dg2 _ (by omega)).1.mp p))]
            rw [ei] at hi
            have hle : ¬ nI (lA (mVA m (J a))) ≤ 0 := nI_nle hpos (by omega)
            have hb0 := xM_byteT E m a 0 ha h3 g hpos
            exact qm_step (sM_asNumber E) C 0 114 100 ([0, 1, 0, 1, 0, 0, 0], [], [(some (qI (nI (lA (mVA m (J a))))), m), (some (qI (bA (mVA m (J a)) 0)), m), (some (qI (nI (lA (mVA m (J a))))), m), (some (qI gd), m)]) ⟨ha, n2, ha, n1, ha, h3, ha, h4, hl, hle, hb0, hm, by decide, hl, hi, t1⟩
          · split
            · exact mFr_rfl _ _
            · exact mFr_set _ _ _ _
          · by_cases hz : R.1 = 0
            · rw [if_pos hz, if_pos hz]; exact mIs_0 h0
            · have := bd hz
              rw [if_neg hz, if_neg hz, aWh_in (by rw [l_neg (by omega)]; omega)]
              exact mIs_set _ _ _ (by decide) (by decide)
        · rw [if_neg hm]
          dsimp only
          obtain ⟨gd, hgd⟩ : ∃ gd : Int32, gd = (if ¬ nI (lA (mVA m (J a))) - 0 < 1 ∧ ¬ 15 < nI (lA (mVA m (J a))) - 0 then 1 else 0) := ⟨_, rfl⟩
          rw [← hgd]
          have hg01 : gd = 0 ∨ (gd = 1 ∧ lA (mVA m (J a)) - 0 ≤ 15) := by
            rw [hgd]
            split
            · rename_i q
              have := (dg3 (lA (mVA m (J a))) (by omega)).2 q
              exact Or.inr ⟨rfl, by omega⟩
            · exact Or.inl rfl
          have tl := tail 0 0 (Or.inl ⟨rfl, rfl⟩) (by omega) gd hg01
          rw [Nat.sub_zero] at tl
          have bd := rdF_bd (f := bA (mVA m (J a))) (lA (mVA m (J a))) 0 0 gd 0 (fun q q1 q2 => bytesOk q (by omega)) (by
            rcases hg01 with q | q
            · exact Or.inl q
            · exact Or.inr ⟨q.1, by omega, by decide, by decide⟩)
          obtain ⟨R, hR⟩ : ∃ R, R = rdF (bA (mVA m (J a))) (lA (mVA m (J a))) 0 gd 0 := ⟨_, rfl⟩
          rw [← hR] at bd tl ⊢
          refine ⟨if R.1 = 0 then m else setS m (J x) 2 R.2, ?_, ?_, ?_⟩
          · refine qm_meth (mOk E) (by decide) rfl rfl (Nat.le_of_ble_eq_true rfl) ?_
            intro p e st mm args below meth cc Q C _ _
            have t1 := tl p e st mm args below meth cc Q _ (by rw [if_pos (show (0 : Int32) = 0 from rfl)]) C
            have hi := xM_in E m (nI (lA (mVA m (J a))) - 0).toInt64 1 15
            have ei : (if ¬ (nI (lA (mVA m (J a))) - 0).toInt64 < 1 ∧ ¬ 15 < (nI (lA (mVA m (J a))) - 0).toInt64 then (1 : Int32) else 0) = gd := by
              rw [hgd]
              by_cases q : ¬ nI (lA (mVA m (J a))) - 0 < 1 ∧ ¬ 15 < nI (lA (mVA m (J a))) - 0
              · rw [if_pos q, if_pos ((dg2 _ (by omega)).2.mpr q)]
              · rw [if_neg q, if_neg (fun p => q ((dg2 _ (by omega)).2.mp p))]
            rw [ei] at hi
            by_cases hpos : 0 < lA (mVA m (J a))
            · have hle : ¬ nI (lA (mVA m (J a))) ≤ 0 := nI_nle hpos (by omega)
              have hb0 := xM_byteT E m a 0 ha h3 g hpos
              exact qm_step (sM_asNumber E) C 0 114 100 ([0, 1, 0, 1, 0, 1, 1], [], [(some (qI (nI (lA (mVA m (J a))))), m), (some (qI (bA (mVA m (J a)) 0)), m), (some (qI (nI (lA (mVA m (J a))))), m), (some (qI gd), m)]) ⟨ha, n2, ha, n1, ha, h3, ha, h4, hl, hle, hb0, hm, rfl, hl, hi, t1⟩
            · have hle : nI (lA (mVA m (J a))) ≤ 0 := by rw [show lA (mVA m (J a)) = 0 by omega]; decide
              exact qm_step (sM_asNumber E) C 0 114 100 ([0, 1, 0, 1, 1, 1], [], [(some (qI (nI (lA (mVA m (J a))))), m), (some (qI (nI (lA (mVA m (J a))))), m), (some (qI gd), m)]) ⟨ha, n2, ha, n1, ha, h3, ha, h4, hl, hle, rfl, hl, hi, t1⟩
          · split
            · exact mFr_rfl _ _
            · exact mFr_set _ _ _ _
          · by_cases hz : R.1 = 0
            · rw [if_pos hz, if_pos hz]; exact mIs_0 h0
            · have := bd hz
              rw [if_neg hz, if_neg hz, aWh_in (by omega)]
              exact mIs_set _ _ _ (by decide) (by decide)
      · rw [if_neg (fun q => h4 q.2)]
        refine ⟨m, ?_, mFr_rfl _ _, mIs_0 h0⟩
        refine qm_meth (mOk E) (by decide) rfl rfl (Nat.le_of_ble_eq_true rfl) ?_
        intro p e st mm args below meth cc Q C _ _
        exact qm_step (sM_asNumber E) C 0 9999 100 ([0, 1, 0, 0], [], []) ⟨ha, n2, ha, n1, ha, h3, ha, h4, rfl, rfl⟩
    · rw [if_neg (fun q => h3 q.1)]
      refine ⟨m, ?_, mFr_rfl _ _, mIs_0 h0⟩
      refine qm_meth (mOk E) (by decide) rfl rfl (Nat.le_of_ble_eq_true rfl) ?_
      intro p e st mm args below meth cc Q C _ _
      exact qm_step (sM_asNumber E) C 0 9999 100 ([0, 1, 1], [], []) ⟨ha, n2, ha, n1, ha, h3, rfl, rfl⟩
