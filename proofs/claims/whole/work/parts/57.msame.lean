/-! sayAll, setPart, same, less, stands, placeOf of the reference -/
theorem aPart_s (x : AV) (s r : Nat) : aPart x s (r + 1) = bA x s :: aPart x (s + 1) r := by unfold aPart; rw [List.range'_succ]; rfl
theorem xM_sayAll (E : mEnv) (m : mG) (x y : Int32) (hx : vp_in x 90) (hy : vp_in y 90) (hxy : J y ≠ J x) (ht : mTx m (J x)) (h3 : mk m (J y) = 3) (g : mGd m (J y)) : mSd E mM_sayAll [qR 0 0, qI x, qI y] m none (saN m (J x) (mVA m (J y)).2.2.2) := by
  refine qm_meth (mOk E) (by decide) rfl rfl (Nat.le_of_ble_eq_true rfl) ?_
  intro p e st mm args below meth c Q C _ _
  obtain ⟨o1, o2, o3, o4, o5, o6⟩ := mVA_tx h3 g
  have loop : ∀ (r k : Nat) (w : Int32) (m1 : mG), k + r = lA (mVA m (J y)) → w = nI k → mTx m1 (J x) → mFr (J x) m m1 → saN m1 (J x) (aPart (mVA m (J y)) k r) = saN m (J x) (mVA m (J y)).2.2.2 → qm_W (mLa E.2.2.2) mV (mHold E) (mA E.2.2.2) 4 p E.1 e (rmL 2) st mm args below meth c Q 2 ([some (qR 0 0), some (qI x), some (qI y), some (qI w)], [], m1) := by
    intro r
    induction r with
    | zero =>
      intro k w m1 hk hw _ fr hf
      subst hw
      have e1 := mFr_v fr hxy
      have e2 : mk m1 (J y) = 3 := (fr.2.1 4 _ (Or.inr hxy)).trans h3
      have hl := xM_lengthT E m1 y hy e2 (mFr_g fr hxy g)
      rw [e1, ← hk] at hl
      have hc : nI (k + 0) ≤ nI k := nI_le (by omega) (by omega)
      exact qm_step (sM_sayAll E) C 2 9999 100 ([1], [], [(some (qI (nI (k + 0))), m1)]) ⟨hl, hc, rfl, hf⟩
    | succ r ih =>
      intro k w m1 hk hw ht1 fr hf
      subst hw
      have e1 := mFr_v fr hxy
      have e2 : mk m1 (J y) = 3 := (fr.2.1 4 _ (Or.inr hxy)).trans h3
      have g1 := mFr_g fr hxy g
      have hl := xM_lengthT E m1 y hy e2 g1
      have hb := xM_byteT E m1 y k hy e2 g1 (by rw [e1]; omega)
      rw [e1] at hl hb
      have hs := xM_say E m1 x (bA (mVA m (J y)) k) hx ht1
      have hc : ¬ nI (lA (mVA m (J y))) ≤ nI k := nI_ge (by omega) (by omega)
      refine qm_step (sM_sayAll E) C 2 2 100 ([0], [], [(some (qI (nI (lA (mVA m (J y))))), m1), (some (qI (bA (mVA m (J y)) k)), m1), (none, saS m1 (J x) (bA (mVA m (J y)) k))]) ⟨hl, hc, hb, hs, ?_⟩
      refine ih (k + 1) _ _ (by omega) (nI_1 k) (saS_tx ht1 _) (mFr_tr fr (saS_fr ht1 _)) ?_
      rw [← hf, aPart_s]
      rfl
  exact qm_step (sM_sayAll E) C 0 2 100 ([], [], []) (loop (lA (mVA m (J y))) 0 0 m (by omega) rfl ht (mFr_rfl _ _) (by rw [aPart_all]))
def spB (m : mG) (a e s : Nat) : Nat → mG
  | 0 => m
  | k + 1 => mbW (spB m a e s k) 1 (24 * e + k) (mb (spB m a e s k) (24 * a + (s + k)))
theorem spB_fr (m : mG) (a e s : Nat) : ∀ k, k ≤ 24 → mFr e m (spB m a e s k)
  | 0, _ => mFr_rfl _ _
  | k + 1, h => mFr_tr (spB_fr m a e s k (by omega)) (mFr_b _ _ _ (by omega) _)
theorem spB_b (m : mG) {a e s : Nat} (h : a ≠ e) : ∀ k, s + k ≤ 24 → ∀ q, q < k → mb (spB m a e s k) (24 * e + q) = b8 (mb m (24 * a + (s + q)))
  | 0, _, q, hq => by omega
  | k + 1, hk, q, hq => by
    show (mbW _ 1 (24 * e + k) _).2.2.1 1 _ = _
    rw [rB]
    by_cases hqk : q = k
    · subst hqk
      rw [if_pos ⟨rfl, rfl⟩]
      congr 1
      exact (spB_fr m a e s q (by omega)).2.2.1 1 _ (Or.inr (by omega))
    · rw [if_neg (by omega)]
      exact spB_b m h k (by omega) q (by omega)
def prM (m : mG) (a e s r : Nat) (t : Int32) : mG := miW (setS (spB m a e s r) e 3 (lN r)) 5 e t
theorem prM_fr (m : mG) (a e s r : Nat) (t : Int32) (h : r ≤ 24) : mFr e m (prM m a e s r t) := mFr_tr (spB_fr m a e s r h) (mFr_tr (mFr_set _ _ _ _) (mFr_t _ _ _))
theorem mIs_pr {m : mG} {a e s r : Nat} {t : Int32} (h : a ≠ e) (h3 : mk m a = 3) (g : mGd m a) (hs : s + r ≤ lA (mVA m a)) : mIs (prM m a e s r t) e (aTx t (aPart (mVA m a) s r)) := by
  obtain ⟨o1, o2, o3, o4, o5, o6⟩ := mVA_tx h3 g
  have hl : (aPart (mVA m a) s r).length = r := by unfold aPart; simp
  have kk : mk (prM m a e s r t) e = 3 := by
    show (miW _ 5 e t).2.1 4 e = _
    rw [rI, if_neg (fun q => absurd q.1 (by decide))]
    exact setS_k _ _ _ _
  have tt : mtg (prM m a e s r t) e = t := by
    show (miW _ 5 e t).2.1 5 e = _
    rw [rI, if_pos ⟨rfl, rfl⟩]
  have nn : mn (prM m a e s r t) e = lN r := setS_n _ _ _ _
  refine ⟨?_, fun _ => ⟨r, by omega, nn⟩, fun _ q => absurd kk q⟩
  rw [(mVA_3 kk (by omega) nn).2, tt]
  unfold aTx
  rw [hl, if_pos (by omega)]
  congr 3
  unfold aPart
  rw [List.map_map]
  apply List.ext_getElem?
  intro k
  by_cases hk : k < r
  · rw [List.getElem?_map, List.getElem?_map, List.getElem?_range' hk, List.getElem?_range' hk]
    simp
    show mb (spB m a e s r) (24 * e + k) = b8 (bA (mVA m a) (s + k))
    rw [spB_b m h r (by omega) k hk, (o4 (s + k) (by omega)).1]
  · rw [List.getElem?_eq_none (by simp; omega), List.getElem?_eq_none (by simp; omega)]
theorem xM_setPart (E : mEnv) (m : mG) (x y : Int32) (s r : Nat) (t : Int32) (hx : vp_in x 90) (hy : vp_in y 90) (hsr : s + r ≤ 24) : mSd E mM_setPart [qR 0 0, qI x, qI y, qI (nI s), qI (nI (s + r)), qI t] m none (prM m (J y) (J x) s r t) := by
  refine qm_meth (mOk E) (by decide) rfl rfl (Nat.le_of_ble_eq_true rfl) ?_
  intro p e st mm args below meth c Q C _ _
  have loop : ∀ (d k : Nat) (w v : Int32), k + d = r → w = nI k → v = nI (s + k) → qm_W (mLa E.2.2.2) mV (mHold E) (mA E.2.2.2) 8 p E.1 e (rmL 2) st mm args below meth c Q 6 ([some (qR 0 0), some (qI x), some (qI y), some (qI (nI s)), some (qI (nI (s + r))), some (qI t), some (qI w), some (qI v)], [], spB m (J y) (J x) s k) := by
    intro d
    induction d with
    | zero =>
      intro k w v hk hw hv
      subst hw hv
      have hk : k = r := by omega
      subst hk
      have hc : nI (s + k) ≤ nI (s + k) := Int32.le_refl _
      have hs := xM_set E (spB m (J y) (J x) s k) x 3 (nI k).toInt64 hx
      have fin : miW (setS (spB m (J y) (J x) s k) (J x) 3 (nI k).toInt64) 5 (J x) t = prM m (J y) (J x) s k t := by rw [nI_l (by omega)]; rfl
      exact qm_step (sM_setPart E) C 6 9999 100 ([1], [], [(none, setS (spB m (J y) (J x) s k) (J x) 3 (nI k).toInt64)]) ⟨hc, hs, hx, rfl, fin⟩
    | succ d ih =>
      intro k w v hk hw hv
      subst hw hv
      have hc : ¬ nI (s + r) ≤ nI (s + k) := nI_ge (by omega) (by omega)
      obtain ⟨x1, x2, x3⟩ := x24 (k := k) hx (by omega)
      obtain ⟨y1, y2, y3⟩ := x24 (k := s + k) hy (by omega)
      refine qm_step (sM_setPart E) C 6 6 100 ([0], [], []) ⟨hc, y2, x2, ?_⟩
      have := ih (k + 1) (nI k + 1) (nI (s + k) + 1) (by omega) (nI_1 k) (nI_1 (s + k))
      have fin : mbW (spB m (J y) (J x) s k) 1 (24 * x + nI k).toNatClampNeg (mb (spB m (J y) (J x) s k) (24 * y + nI (s + k)).toNatClampNeg) = spB m (J y) (J x) s (k + 1) := by rw [x3, y3]; rfl
      rw [← fin] at this
      exact this
  exact qm_step (sM_setPart E) C 0 6 100 ([], [], []) (loop r 0 0 (nI s) (by omega) rfl rfl)
theorem aSame_l (x y : AV) (n : Nat) (hx : x.2.2.2.length = n) (hy : y.2.2.2.length = n) : (x.2.2.2 = y.2.2.2) ↔ ((List.range' 0 n).all fun k => bA x k == bA y k) = true := by
  rw [List.all_eq_true]
  constructor
  · intro h k _
    unfold bA
    rw [h]
    exact beq_self_eq_true _
  · intro h
    apply List.ext_getElem?
    intro k
    by_cases hk : k < n
    · have := h k (by rw [List.mem_range'_1]; omega)
      unfold bA at this
      rw [List.getD_eq_getElem?_getD, List.getD_eq_getElem?_getD, List.getElem?_eq_getElem (by omega), List.getElem?_eq_getElem (by omega)] at this
      simp at this
      rw [List.getElem?_eq_getElem (by omega), List.getElem?_eq_getElem (by omega), this]
    · rw [List.getElem?_eq_none (by omega), List.getElem?_eq_none (by omega)]
set_option maxHeartbeats 1000000 in
theorem xM_same (E : mEnv) (m : mG) (x y : Int32) (hx : vp_in x 90) (hy : vp_in y 90) (gx : mGd m (J x)) (gy : mGd m (J y)) : mSd E mM_same [qR 0 0, qI x, qI y] m (some (qI (aSame (mVA m (J x)) (mVA m (J y))))) m := by
  refine qm_meth (mOk E) (by decide) rfl rfl (Nat.le_of_ble_eq_true rfl) ?_
  intro p e st mm args below meth c Q C _ _
  unfold aSame at C
  rw [mVA_k, mVA_k] at C
  by_cases h1 : mk m (J x) = 0
  · rw [if_pos (Or.inl h1)] at C
    exact qm_step (sM_same E) C 0 9999 100 ([1], [], []) ⟨hx, h1, rfl, rfl⟩
  by_cases h2 : mk m (J y) = 0
  · rw [if_pos (Or.inr h2)] at C
    exact qm_step (sM_same E) C 0 9999 100 ([0, 0], [], []) ⟨hx, h1, hy, h2, rfl, rfl⟩
  rw [if_neg (show ¬ (mk m (J x) = 0 ∨ mk m (J y) = 0) from not_or.mpr ⟨h1, h2⟩)] at C
  by_cases h3 : mk m (J x) = mk m (J y)
  · rw [if_neg (show ¬ ¬ mk m (J x) = mk m (J y) from fun q => q h3)] at C
    by_cases h4 : mk m (J x) = 3
    · rw [if_pos h4] at C
      have h4y : mk m (J y) = 3 := h3 ▸ h4
      obtain ⟨a1, a2, a3, a4, a5, a6⟩ := mVA_tx h4 gx
      obtain ⟨b1, b2, b3, b4, b5, b6⟩ := mVA_tx h4y gy
      rw [a3, b3] at C
      by_cases h5 : mn m (J x) = mn m (J y)
      · have hN : mN m (J x) = mN m (J y) := by
          rw [a5, b5] at h5
          exact (lN_eq (by omega) (by omega)).mp h5
        by_cases h6 : mtg m (J x) = mtg m (J y)
        · -- the loop
          have loop : ∀ (r k : Nat) (w : Int32), k + r = mN m (J x) → w = nI k → ((List.range' 0 k).all fun k => bA (mVA m (J x)) k == bA (mVA m (J y)) k) = true → qm_W (mLa E.2.2.2) mV (mHold E) (mA E.2.2.2) 5 p E.1 e (rmL 2) st mm args below meth c Q 101 ([some (qR 0 0), some (qI x), some (qI y), some (qI 1), some (qI w)], [], m) := by
            intro r
            induction r with
            | zero =>
              intro k w hk hw hall
              subst hw
              have hl := xM_lengthT E m x hx h4 gx
              rw [a2, ← hk] at hl
              have hc : nI (k + 0) ≤ nI k := nI_le (by omega) (by omega)
              have hk' : k = mN m (J x) := by omega
              rw [hk'] at hall
              have hEq := (aSame_l (mVA m (J x)) (mVA m (J y)) (mN m (J x)) a2 (b2.trans hN.symm)).mpr hall
              rw [if_pos ⟨h6, hEq⟩] at C
              exact qm_step (sM_same E) C 101 9999 100 ([0, 0, 1, 0], [], [(some (qI (nI (k + 0))), m)]) ⟨hx, h4, by decide, hl, hc, by decide, rfl, rfl⟩
            | succ r ih =>
              intro k w hk hw hall
              subst hw
              have hl := xM_lengthT E m x hx h4 gx
              rw [a2] at hl
              have hc : ¬ nI (mN m (J x)) ≤ nI k := nI_ge (by omega) (by omega)
              have bx := xM_byteT E m x k hx h4 gx (by omega)
              have bY := xM_byteT E m y k hy h4y gy (by omega)
              by_cases hb : bA (mVA m (J x)) k = bA (mVA m (J y)) k
              · refine qm_step (sM_same E) C 101 101 100 ([0, 0, 0, 0], [], [(some (qI (nI (mN m (J x)))), m), (some (qI (bA (mVA m (J x)) k)), m), (some (qI (bA (mVA m (J y)) k)), m)]) ⟨hx, h4, by decide, hl, hc, bx, bY, hb, ?_⟩
                refine ih (k + 1) _ (by omega) (nI_1 k) ?_
                rw [List.range'_concat, List.all_append, hall, Bool.true_and]
                simp [hb]
              · have hne : ¬ (mVA m (J x)).2.2.2 = (mVA m (J y)).2.2.2 := fun q => hb (by unfold bA; rw [q])
                rw [if_neg (fun q => hne q.2)] at C
                exact qm_step (sM_same E) C 101 9999 100 ([0, 0, 0, 1, 0, 1, 1], [], [(some (qI (nI (mN m (J x)))), m), (some (qI (bA (mVA m (J x)) k)), m), (some (qI (bA (mVA m (J y)) k)), m)]) ⟨hx, h4, by decide, hl, hc, bx, bY, hb, hx, h4, rfl, rfl, rfl, rfl⟩
          exact qm_step (sM_same E) C 0 101 100 ([0, 1, 1, 0, 0], [], []) ⟨hx, h1, hy, h2, hx, hy, h3, hx, hy, h5, hx, hy, h6, loop (mN m (J x)) 0 0 (by omega) rfl rfl⟩
        · rw [if_neg (fun q => h6 q.1)] at C
          exact qm_step (sM_same E) C 0 9999 100 ([0, 1, 1, 0, 1, 0, 1, 1], [], []) ⟨hx, h1, hy, h2, hx, hy, h3, hx, hy, h5, hx, hy, h6, hx, h4, rfl, rfl, rfl, rfl⟩
      · have hne : ¬ (mVA m (J x)).2.2.2 = (mVA m (J y)).2.2.2 := fun q => h5 (by
          have e : lA (mVA m (J x)) = lA (mVA m (J y)) := congrArg List.length q
          rw [a5, b5, ← a2, ← b2, e])
        rw [if_neg (fun q => hne q.2)] at C
        exact qm_step (sM_same E) C 0 9999 100 ([0, 1, 1, 1, 0, 1, 1], [], []) ⟨hx, h1, hy, h2, hx, hy, h3, hx, hy, h5, hx, h4, rfl, rfl, rfl, rfl⟩
    · rw [if_neg h4, mVA_am h1 h4, mVA_am h2 (h3 ▸ h4)] at C
      have h6 : mtg m (J x) = mtg m (J y) := (gx.2.2 h1 h4).trans (gy.2.2 h2 (h3 ▸ h4)).symm
      by_cases h5 : mn m (J x) = mn m (J y)
      · rw [if_pos h5] at C
        exact qm_step (sM_same E) C 0 9999 100 ([0, 1, 1, 0, 0, 1, 0], [], []) ⟨hx, h1, hy, h2, hx, hy, h3, hx, hy, h5, hx, hy, h6, hx, h4, by decide, rfl, rfl⟩
      · rw [if_neg h5] at C
        exact qm_step (sM_same E) C 0 9999 100 ([0, 1, 1, 1, 1, 1], [], []) ⟨hx, h1, hy, h2, hx, hy, h3, hx, hy, h5, hx, h4, rfl, rfl, rfl⟩
  · rw [if_pos h3] at C
    by_cases h4 : mk m (J x) = 4
    · rw [if_pos (Or.inl h4)] at C
      exact qm_step (sM_same E) C 0 9999 100 ([0, 1, 0, 1], [], []) ⟨hx, h1, hy, h2, hx, hy, h3, hx, h4, rfl, rfl⟩
    · by_cases h5 : mk m (J y) = 4
      · rw [if_pos (Or.inr h5)] at C
        exact qm_step (sM_same E) C 0 9999 100 ([0, 1, 0, 0, 0], [], []) ⟨hx, h1, hy, h2, hx, hy, h3, hx, h4, hy, h5, rfl, rfl⟩
      · rw [if_neg (not_or.mpr ⟨h4, h5⟩)] at C
        exact qm_step (sM_same E) C 0 9999 100 ([0, 1, 0, 0, 1], [], []) ⟨hx, h1, hy, h2, hx, hy, h3, hx, h4, hy, h5, rfl, rfl⟩
