/-! BOTH SIDES: whole, leaf -/
set_option maxHeartbeats 4000000 in
theorem xM_arity (E : mEnv) (m : mG) (o : Nat) (ho : o < 30) : mSd E mM_arity [qI (nI o)] m (some (qI (nI (arN o)))) m := by
  refine qm_meth (mOk E) (by decide) rfl rfl (Nat.le_of_ble_eq_true rfl) ?_
  intro p e st mm args below meth c Q C _ _
  have h : o = 0 ∨ o = 1 ∨ o = 2 ∨ o = 3 ∨ o = 4 ∨ o = 5 ∨ o = 6 ∨ o = 7 ∨ o = 8 ∨ o = 9 ∨ o = 10 ∨ o = 11 ∨ o = 12 ∨ o = 13 ∨ o = 14 ∨ o = 15 ∨ o = 16 ∨ o = 17 ∨ o = 18 ∨ o = 19 ∨ o = 20 ∨ o = 21 ∨ o = 22 ∨ o = 23 ∨ o = 24 ∨ o = 25 ∨ o = 26 ∨ o = 27 ∨ o = 28 ∨ o = 29 := by omega
  rcases h with rfl | rfl | rfl | rfl | rfl | rfl | rfl | rfl | rfl | rfl | rfl | rfl | rfl | rfl | rfl | rfl | rfl | rfl | rfl | rfl | rfl | rfl | rfl | rfl | rfl | rfl | rfl | rfl | rfl | rfl
  · exact qm_step (sM_arity E) C 0 9999 100 ([1], [], []) ⟨rfl, rfl, rfl⟩
  · exact qm_step (sM_arity E) C 0 9999 100 ([0], [], []) ⟨by decide, rfl, rfl⟩
  · exact qm_step (sM_arity E) C 0 9999 100 ([0], [], []) ⟨by decide, rfl, rfl⟩
  · exact qm_step (sM_arity E) C 0 9999 100 ([0], [], []) ⟨by decide, rfl, rfl⟩
  · exact qm_step (sM_arity E) C 0 9999 100 ([0], [], []) ⟨by decide, rfl, rfl⟩
  · exact qm_step (sM_arity E) C 0 9999 100 ([0], [], []) ⟨by decide, rfl, rfl⟩
  · exact qm_step (sM_arity E) C 0 9999 100 ([0], [], []) ⟨by decide, rfl, rfl⟩
  · exact qm_step (sM_arity E) C 0 9999 100 ([0], [], []) ⟨by decide, rfl, rfl⟩
  · exact qm_step (sM_arity E) C 0 9999 100 ([0], [], []) ⟨by decide, rfl, rfl⟩
  · exact qm_step (sM_arity E) C 0 9999 100 ([0], [], []) ⟨by decide, rfl, rfl⟩
  · exact qm_step (sM_arity E) C 0 9999 100 ([2], [], []) ⟨rfl, rfl, rfl⟩
  · exact qm_step (sM_arity E) C 0 9999 100 ([3], [], []) ⟨rfl, rfl, rfl⟩
  · exact qm_step (sM_arity E) C 0 9999 100 ([4], [], []) ⟨rfl, rfl, rfl⟩
  · exact qm_step (sM_arity E) C 0 9999 100 ([5], [], []) ⟨rfl, rfl, rfl⟩
  · exact qm_step (sM_arity E) C 0 9999 100 ([0], [], []) ⟨by decide, rfl, rfl⟩
  · exact qm_step (sM_arity E) C 0 9999 100 ([0], [], []) ⟨by decide, rfl, rfl⟩
  · exact qm_step (sM_arity E) C 0 9999 100 ([0], [], []) ⟨by decide, rfl, rfl⟩
  · exact qm_step (sM_arity E) C 0 9999 100 ([0], [], []) ⟨by decide, rfl, rfl⟩
  · exact qm_step (sM_arity E) C 0 9999 100 ([0], [], []) ⟨by decide, rfl, rfl⟩
  · exact qm_step (sM_arity E) C 0 9999 100 ([0], [], []) ⟨by decide, rfl, rfl⟩
  · exact qm_step (sM_arity E) C 0 9999 100 ([6], [], []) ⟨rfl, rfl, rfl⟩
  · exact qm_step (sM_arity E) C 0 9999 100 ([7], [], []) ⟨rfl, rfl, rfl⟩
  · exact qm_step (sM_arity E) C 0 9999 100 ([8], [], []) ⟨rfl, rfl, rfl⟩
  · exact qm_step (sM_arity E) C 0 9999 100 ([0], [], []) ⟨by decide, rfl, rfl⟩
  · exact qm_step (sM_arity E) C 0 9999 100 ([9], [], []) ⟨rfl, rfl, rfl⟩
  · exact qm_step (sM_arity E) C 0 9999 100 ([10], [], []) ⟨rfl, rfl, rfl⟩
  · exact qm_step (sM_arity E) C 0 9999 100 ([11], [], []) ⟨rfl, rfl, rfl⟩
  · exact qm_step (sM_arity E) C 0 9999 100 ([0], [], []) ⟨by decide, rfl, rfl⟩
  · exact qm_step (sM_arity E) C 0 9999 100 ([12], [], []) ⟨rfl, rfl, rfl⟩
  · exact qm_step (sM_arity E) C 0 9999 100 ([13], [], []) ⟨rfl, rfl, rfl⟩
/-- one expression more -/
def ad3 (m : mG) (n : Nat) (k : Int32) (v : Int64) : mG := miW (mlW (miW m 1 n k) 0 n v) 3 n 0
def adS (m : mG) (n : Nat) (k : Int32) (v : Int64) : mG := (va_up (ad3 m n k v).1 1 (nI (n + 1)), (ad3 m n k v).2)
theorem xM_add_full (E : mEnv) (m : mG) (k : Int32) (v : Int64) (h : m.1 1 = nI 80) : mSd E mM_add [qR 0 0, qI k, qL v] m (some (qI (-3))) m := by
  refine qm_meth (mOk E) (by decide) rfl rfl (Nat.le_of_ble_eq_true rfl) ?_
  intro p e st mm args below meth c Q C _ _
  have h' : m.1 1 = 80 := h
  exact qm_step (sM_add E) C 0 9999 100 ([0], [], []) ⟨h', rfl, rfl⟩
theorem xM_add (E : mEnv) (m : mG) (n : Nat) (k : Int32) (v : Int64) (hn : n < 80) (h : m.1 1 = nI n) : mSd E mM_add [qR 0 0, qI k, qL v] m (some (qI (nI n))) (adS m n k v) := by
  refine qm_meth (mOk E) (by decide) rfl rfl (Nat.le_of_ble_eq_true rfl) ?_
  intro p e st mm args below meth c Q C _ _
  have hne : ¬ m.1 1 = 80 := by
    rw [h]
    intro q
    have := (nI_eq (a := n) (b := 80) (by omega) (by decide)).mp q
    omega
  have i1 : vp_in (m.1 1) 80 := by rw [h]; exact vp_in_nI hn (by decide)
  have eJ : (m.1 1).toNatClampNeg = n := by rw [h]; exact nI_clamp (by omega)
  have e3 : miW (mlW (miW m 1 (m.1 1).toNatClampNeg k) 0 (m.1 1).toNatClampNeg v) 3 (m.1 1).toNatClampNeg 0 = ad3 m n k v := by rw [eJ]; rfl
  have e4 : m.1 1 + 1 = nI (n + 1) := by rw [h, nI_1]
  have fr : (some (qI ((va_up m.1 1 (m.1 1 + 1)) 1 - 1)) : Option qm_v) = some (qI (nI n)) := by rw [va_up_self, e4, nI_pred]
  have fin : (va_up m.1 1 (m.1 1 + 1), (miW (mlW (miW m 1 (m.1 1).toNatClampNeg k) 0 (m.1 1).toNatClampNeg v) 3 (m.1 1).toNatClampNeg 0).2) = adS m n k v := by rw [e3, e4]; rfl
  exact qm_step (sM_add E) C 0 9999 100 ([1], [], []) ⟨hne, i1, i1, i1, fr, fin⟩
theorem adS_1 (m : mG) (n : Nat) (k : Int32) (v : Int64) : (adS m n k v).1 1 = nI (n + 1) := by show va_up (ad3 m n k v).1 1 (nI (n + 1)) 1 = nI (n + 1); rw [va_up_self]
theorem adS_0 (m : mG) (n : Nat) (k : Int32) (v : Int64) : (adS m n k v).1 0 = m.1 0 := by show va_up (ad3 m n k v).1 1 (nI (n + 1)) 0 = m.1 0; rw [va_up_ne _ _ (by decide)]; rfl
def mAd (n : Nat) (m h : mG) : Prop := (∀ a i, ¬ ((a = 1 ∨ a = 3) ∧ i = n) → ¬ (a = 2 ∧ 3 * n ≤ i ∧ i < 3 * n + 3) → h.2.1 a i = m.2.1 a i) ∧ (∀ a q, ¬ (a = 0 ∧ 24 * n ≤ q ∧ q < 24 * n + 24) → h.2.2.1 a q = m.2.2.1 a q) ∧ (∀ a i, ¬ (a = 0 ∧ i = n) → h.2.2.2 a i = m.2.2.2 a i)
theorem mAd_tr {n : Nat} {m h k : mG} (a : mAd n m h) (b : mAd n h k) : mAd n m k := ⟨fun x i p q => (b.1 x i p q).trans (a.1 x i p q), fun x i p => (b.2.1 x i p).trans (a.2.1 x i p), fun x i p => (b.2.2 x i p).trans (a.2.2 x i p)⟩
theorem ad3_fr (m : mG) (n : Nat) (k : Int32) (v : Int64) : mAd n m (ad3 m n k v) := by
  refine ⟨fun a i p q => ?_, fun _ _ _ => rfl, fun a i p => ?_⟩
  · show (miW _ 3 n 0).2.1 a i = _
    rw [rI, if_neg (by omega), rL2, rI, if_neg (by omega)]
  · show (mlW _ 0 n v).2.2.2 a i = _
    rw [rL, if_neg (by omega)]
    rfl
theorem ad3_w (m : mG) (n : Nat) (k : Int32) (v : Int64) : (ad3 m n k v).2.1 1 n = k ∧ (ad3 m n k v).2.1 3 n = 0 ∧ (ad3 m n k v).2.2.2 0 n = v := by
  refine ⟨?_, ?_, ?_⟩
  · show (miW _ 3 n 0).2.1 1 n = _
    rw [rI, if_neg (by omega), rL2, rI, if_pos ⟨rfl, rfl⟩]
  · show (miW _ 3 n 0).2.1 3 n = _
    rw [rI, if_pos ⟨rfl, rfl⟩]
  · show (mlW _ 0 n v).2.2.2 0 n = _
    rw [rL, if_pos ⟨rfl, rfl⟩]
theorem mAd_v {n : Nat} {m h : mG} (f : mAd n m h) (j : Nat) : mVA h j = mVA m j ∧ (mGd m j → mGd h j) := by
  have e1 : mk h j = mk m j := f.1 4 j (by omega) (by omega)
  have e2 : mtg h j = mtg m j := f.1 5 j (by omega) (by omega)
  have e3 : mn h j = mn m j := f.2.2 1 j (by omega)
  have e4 : mN h j = mN m j := by unfold mN; rw [e3]
  have e5 : mVA h j = mVA m j := by
    unfold mVA aVw
    rw [e1, e2, e3, e4]
    have : (fun k => mb h (24 * j + k)) = (fun k => mb m (24 * j + k)) := by
      funext q
      exact f.2.1 1 _ (by omega)
    rw [this]
  refine ⟨e5, fun g => ?_⟩
  unfold mGd
  rw [e5, e1, e2, e3]
  exact g
theorem Rel_add {g h : cG} {m h' : mG} {n t t' : Nat} (R : Rel g m n t) (hn : n < 80) (ht : t' ≤ t) (c1 : ∀ j, j ≠ n → h.2.2.1 j = g.2.2.1 j) (c2 : ∀ j, j ≠ n → h.1 j = g.1 j ∧ h.2.1 j = g.2.1 j) (c3 : h.2.2.2.1 = (nI (n + 1), nI t')) (c4 : h.2.2.2.2.1 = g.2.2.2.2.1) (c5 : vOk h n) (m1 : h'.1 1 = nI (n + 1)) (m0 : h'.1 0 = nI t') (f : mAd n m h') (x : exR h h' n) : Rel h h' (n + 1) t' := by
  obtain ⟨⟨hn', ht'⟩, hc, ⟨mm1, mm0⟩, hx, htp, hr, h88, hv⟩ := R
  have both : ∀ q, q ≠ n → (vGd g q ∧ mGd m q ∧ cVA g q = mVA m q) → (vGd h q ∧ mGd h' q ∧ cVA h q = mVA h' q) := by
    intro q hq a
    obtain ⟨z1, z2⟩ := c2 q hq
    exact ⟨vGd_of z1 z2 a.1, (mAd_v f q).2 a.2.1, by rw [cVA_of z1 z2, (mAd_v f q).1]; exact a.2.2⟩
  refine ⟨⟨by omega, by omega⟩, c3, ⟨m1, m0⟩, fun k hk => ?_, fun k hk => ?_, fun v hv8 => both _ (by omega) (hr v hv8), both 88 (by omega) h88, fun q hq => ?_⟩
  · by_cases e : k = n
    · subst e; exact x
    · exact exR_of (fun i hi => by unfold st8; rw [c1 i (by omega)]) (fun _ => c2 k e) (f.1 1 _ (by omega) (by omega)) (f.1 3 _ (by omega) (by omega)) (fun i hi => f.1 2 _ (by omega) (by omega)) (f.2.2 0 _ (by omega)) (fun i hi => f.2.1 0 _ (by omega)) (hx k (by omega))
  · rw [c4, f.1 0 _ (by omega) (by omega)]; exact htp k (by omega)
  · by_cases e : q = n
    · subst e; exact c5
    · exact vOk_of (c2 q e).1 (hv q hq)
theorem Rel_cnt {g : cG} {m : mG} {n t : Nat} (R : Rel g m n t) : cnt g = n ∧ cntOk g ∧ g.2.2.2.1.1 = nI n := by
  have hc := R.2.1
  have hn := R.1.1
  refine ⟨?_, ⟨n, hn, by rw [hc]⟩, by rw [hc]⟩
  unfold cnt
  rw [hc]
  exact nI_clamp (by omega)
theorem whole_both {E : cEnv} (hE : cOk E) (hX : qm_Nx E) (E' : mEnv) {g : cG} {m : mG} {n t : Nat} (R : Rel g m n t) (v : Int64) : ∃ r h h' n', cSd E mR_whole [qR 0 0, qL v] g (some (qI r)) h ∧ mSd E' mM_whole [qR 0 0, qL v] m (some (qI r)) h' ∧ Rel h h' n' t := by
  obtain ⟨ecn, hcn, ec⟩ := Rel_cnt R
  have hn := R.1.1
  have m1 := R.2.2.1.1
  obtain ⟨q1, q2, q3⟩ := xR_whole hE hX g v hcn
  have hin := xM_in E' m v (-1000000000000000) 1000000000000000
  by_cases hv : ¬ v < -1000000000000000 ∧ ¬ 1000000000000000 < v
  · rw [if_pos hv] at hin
    by_cases hf : n = 80
    · refine ⟨-3, g, m, n, q2 hv (by rw [ec, hf]; decide), ?_, R⟩
      have ha := xM_add_full E' m 2 v (by rw [m1, hf])
      refine qm_meth (mOk E') (by decide) rfl rfl (Nat.le_of_ble_eq_true rfl) ?_
      intro p e st mm args below meth c Q C _ _
      exact qm_step (sM_whole E') C 0 9999 100 ([0], [], [(some (qI 1), m), (some (qI (-3)), m)]) ⟨hin, by decide, ha, rfl, rfl⟩
    · have hn2 : n < 80 := by omega
      have c := q3 hv (by rw [ec]; exact nI_lt (b := 80) hn2 (by decide))
      rw [ecn, ec] at c
      have ha := xM_add E' m n 2 v hn2 m1
      refine ⟨nI n, _, adS m n 2 v, n + 1, c, ?_, ?_⟩
      · refine qm_meth (mOk E') (by decide) rfl rfl (Nat.le_of_ble_eq_true rfl) ?_
        intro p e st mm args below meth c Q C _ _
        obtain ⟨K, hK⟩ : ∃ K, K = adS m n 2 v := ⟨_, rfl⟩
        rw [← hK] at ha C
        exact qm_step (sM_whole E') C 0 9999 100 ([0], [], [(some (qI 1), m), (some (qI (nI n)), K)]) ⟨hin, by decide, ha, rfl, rfl⟩
      · obtain ⟨w1, w2, w3⟩ := ad3_w m n 2 v
        have sv := swS_v (bvE g n) n v
        have eA : aWh v = (2, v, 0, []) := by unfold aWh; rw [if_pos hv]
        have gd : vGd (swS (bvE g n) n v) n := ⟨by rw [sv.1]; exact aWh_ok v, sv.2⟩
        have sVA2 : sVA (adS m n 2 v) n = (2, v, 0, []) := by
          unfold sVA aVw
          rw [show (adS m n 2 v).2.1 1 n = 2 from w1, show (adS m n 2 v).2.2.2 0 n = v from w3, if_neg (by decide), if_neg (by decide)]
        refine Rel_add R hn2 (Nat.le_refl _) (fun j hj => uE_ne _ _ hj) (fun j hj => ⟨uV_ne _ _ hj, rfl⟩) ?_ rfl (vGd_ok gd) ?_ ?_ (ad3_fr m n 2 v) (Or.inl ⟨?_, ?_, ?_, ?_, gd, ?_, ?_⟩)
        · show (g.2.2.2.1.1 + 1, g.2.2.2.1.2) = _
          rw [R.2.1, nI_1]
        · exact adS_1 _ _ _ _
        · exact (adS_0 _ _ _ _).trans R.2.2.1.2
        · show ((bvE g n).2.2.1 n).1 = 0
          unfold bvE
          rw [uE_at]
        · show ((bvE g n).2.2.1 n).2.1 = n
          unfold bvE
          rw [uE_at]
        · refine ⟨by rw [sVA2, ← eA]; exact aWh_ok v, fun w => ?_, fun _ => w2, ?_, ?_, ?_⟩
          · rw [show (adS m n 2 v).2.1 1 n = 2 from w1] at w; exact absurd w (by decide)
          · rw [show (adS m n 2 v).2.1 1 n = 2 from w1]; decide
          · rw [show (adS m n 2 v).2.1 1 n = 2 from w1]; decide
          · rw [show (adS m n 2 v).2.1 1 n = 2 from w1]; decide
        · rw [sVA2]
          exact (sv.1.trans eA).symm
        · show ((bvE g n).2.2.1 n).2.2.2.2.2.2.1 = 0
          unfold bvE
          rw [uE_at]
        · show ((bvE g n).2.2.1 n).2.2.2.2.2.2.2.1 = 0
          unfold bvE
          rw [uE_at]
  · rw [if_neg hv] at hin
    refine ⟨-1, g, m, n, q1 hv, ?_, R⟩
    refine qm_meth (mOk E') (by decide) rfl rfl (Nat.le_of_ble_eq_true rfl) ?_
    intro p e st mm args below meth c Q C _ _
    exact qm_step (sM_whole E') C 0 9999 100 ([1], [], [(some (qI 0), m)]) ⟨hin, rfl, rfl, rfl⟩
