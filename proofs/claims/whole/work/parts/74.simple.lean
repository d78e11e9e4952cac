/-! BOTH SIDES: number, tag, letter, give, drop, clear, size -/
theorem Rel_val {g h : cG} {m h' : mG} {n t : Nat} (R : Rel g m n t) (j : Nat) (hj : 80 ≤ j) (f1 : fOne j g h) (f2 : mFr j m h') (v1 : vGd h j) (v2 : mGd h' j) (e : cVA h j = mVA h' j) : Rel h h' n t := by
  obtain ⟨hn, hc, ⟨m1, m0⟩, hx, htp, hr, h88, hv⟩ := R
  have both : ∀ q, 80 ≤ q → (vGd g q ∧ mGd m q ∧ cVA g q = mVA m q) → (vGd h q ∧ mGd h' q ∧ cVA h q = mVA h' q) := by
    intro q hq a
    by_cases w : q = j
    · subst w; exact ⟨v1, v2, e⟩
    · obtain ⟨z1, z2⟩ := f1.1 q w
      exact ⟨vGd_of z1 z2 a.1, mFr_g f2 w a.2.1, by rw [cVA_of z1 z2, mFr_v f2 w]; exact a.2.2⟩
  refine ⟨hn, by rw [f1.2.2.1]; exact hc, ⟨(f2.1 1 (by omega)).trans m1, (f2.1 0 (by omega)).trans m0⟩, fun k hk => ?_, fun k hk => ?_, fun v hv8 => both _ (by omega) (hr v hv8), both 88 (by omega) h88, fun x hx => ?_⟩
  · exact exR_of (fun i _ => by unfold st8; rw [f1.2.1]) (fun _ => f1.1 k (by omega)) (f2.2.1 1 _ (Or.inl ⟨by decide, by decide⟩)) (f2.2.1 3 _ (Or.inl ⟨by decide, by decide⟩)) (fun i _ => f2.2.1 2 _ (Or.inl ⟨by decide, by decide⟩)) (f2.2.2.2 0 _ (Or.inl (by decide))) (fun i _ => f2.2.2.1 0 _ (Or.inl (by decide))) (hx k hk)
  · rw [f1.2.2.2, f2.2.1 0 _ (Or.inl ⟨by decide, by decide⟩)]; exact htp k hk
  · by_cases w : x = j
    · subst w; exact vGd_ok v1
    · exact vOk_of (f1.1 x w).1 (hv x hx)
/-- the same value on both sides, its parts -/
theorem same_v {g : cG} {m : mG} {j : Nat} (v1 : vGd g j) (v2 : mGd m j) (e : cVA g j = mVA m j) : (g.1 j).1 = mk m j ∧ ((g.1 j).1 = 3 → lnN g j = mN m j ∧ lA (mVA m j) = lnN g j ∧ (g.1 j).2.2.1 = mtg m j ∧ ∀ k, k < lnN g j → g.2.1 j k = mb m (24 * j + k)) ∧ (¬ (g.1 j).1 = 0 → ¬ (g.1 j).1 = 3 → (g.1 j).2.1 = mn m j) := by
  have ek : (g.1 j).1 = mk m j := by rw [← cVA_k, e, mVA_k]
  refine ⟨ek, fun h3 => ?_, fun h0 h3 => ?_⟩
  · obtain ⟨a1, a2, a3, a4, a5, a6⟩ := cVA_tx h3 v1.1
    obtain ⟨b1, b2, b3, b4, b5, b6⟩ := mVA_tx (ek ▸ h3) v2
    have el : lnN g j = mN m j := by rw [← a2, e, b2]
    refine ⟨el, by rw [b2, el], by rw [← a3, e, b3], fun k hk => ?_⟩
    rw [← (a5 k hk).1, e, (b4 k (by omega)).1]
  · rw [← cVA_am h0 h3, e, mVA_am (ek ▸ h0) (ek ▸ h3)]
theorem i88 : vp_in (88 : Int32) 90 := vp_in_nI (n := 88) (by omega) (by decide)
theorem J88 : J (88 : Int32) = 88 := by decide
theorem number_both {E : cEnv} (hE : cOk E) (E' : mEnv) {g : cG} {m : mG} {n t : Nat} (R : Rel g m n t) : ∃ r, cSd E mR_number [qR 0 0] g (some (qL r)) g ∧ mSd E' mM_number [qR 0 0] m (some (qL r)) m := by
  obtain ⟨s1, s2, s3⟩ := same_v R.2.2.2.2.2.2.1.1 R.2.2.2.2.2.2.1.2.1 R.2.2.2.2.2.2.1.2.2
  refine ⟨nuI g, xR_number hE g, ?_⟩
  unfold nuI
  refine qm_meth (mOk E') (by decide) rfl rfl (Nat.le_of_ble_eq_true rfl) ?_
  intro p e st mm args below meth c Q C _ _
  by_cases h0 : (g.1 88).1 = 0
  · rw [if_pos h0] at C
    have k0 : mk m (88 : Int32).toNatClampNeg = 0 := by rw [show (88 : Int32).toNatClampNeg = 88 from J88, ← s1]; exact h0
    exact qm_step (sM_number E') C 0 9999 100 ([0], [], []) ⟨i88, k0, rfl, rfl⟩
  · rw [if_neg h0] at C
    have k0 : ¬ mk m (88 : Int32).toNatClampNeg = 0 := by rw [show (88 : Int32).toNatClampNeg = 88 from J88, ← s1]; exact h0
    have key : mn m (88 : Int32).toNatClampNeg = (if (g.1 88).1 = 3 then (g.1 88).2.2.2.toInt64 else (g.1 88).2.1) := by
      rw [show (88 : Int32).toNatClampNeg = 88 from J88]
      by_cases h3 : (g.1 88).1 = 3
      · rw [if_pos h3, vGd_len R.2.2.2.2.2.2.1.1 h3, nI_l (by have := (cVA_tx h3 R.2.2.2.2.2.2.1.1.1).1; omega), (s2 h3).1]
        exact (mVA_tx (s1 ▸ h3) R.2.2.2.2.2.2.1.2.1).2.2.2.2.1
      · rw [if_neg h3, s3 h0 h3]
    have fin : (some (qL (mn m (88 : Int32).toNatClampNeg)) : Option qm_v) = some (qL (if (g.1 88).1 = 3 then (g.1 88).2.2.2.toInt64 else (g.1 88).2.1)) := by rw [key]
    exact qm_step (sM_number E') C 0 9999 100 ([1], [], []) ⟨i88, k0, i88, fin, rfl⟩
theorem tag_both {E : cEnv} (hE : cOk E) (E' : mEnv) {g : cG} {m : mG} {n t : Nat} (R : Rel g m n t) : ∃ r, cSd E mR_tag [qR 0 0] g (some (qI r)) g ∧ mSd E' mM_tag [qR 0 0] m (some (qI r)) m := by
  obtain ⟨s1, s2, s3⟩ := same_v R.2.2.2.2.2.2.1.1 R.2.2.2.2.2.2.1.2.1 R.2.2.2.2.2.2.1.2.2
  refine ⟨_, xR_tag hE g, ?_⟩
  refine qm_meth (mOk E') (by decide) rfl rfl (Nat.le_of_ble_eq_true rfl) ?_
  intro p e st mm args below meth c Q C _ _
  by_cases h3 : (g.1 88).1 = 3
  · rw [if_pos h3] at C
    have k3 : mk m (88 : Int32).toNatClampNeg = 3 := by rw [show (88 : Int32).toNatClampNeg = 88 from J88, ← s1]; exact h3
    have fin : (some (qI (mtg m (88 : Int32).toNatClampNeg)) : Option qm_v) = some (qI (g.1 88).2.2.1) := by rw [show (88 : Int32).toNatClampNeg = 88 from J88, (s2 h3).2.2.1]
    exact qm_step (sM_tag E') C 0 9999 100 ([0], [], []) ⟨i88, k3, i88, fin, rfl⟩
  · rw [if_neg h3] at C
    have k3 : ¬ mk m (88 : Int32).toNatClampNeg = 3 := by rw [show (88 : Int32).toNatClampNeg = 88 from J88, ← s1]; exact h3
    exact qm_step (sM_tag E') C 0 9999 100 ([1], [], []) ⟨i88, k3, rfl, rfl⟩
/-- whether a number lies in 0 .. n, as the reference asks -/
theorem in_iff {x : Int32} {n : Nat} (hn : n < 2 ^ 30) : (¬ x.toInt64 < 0 ∧ ¬ lN n < x.toInt64) ↔ ∃ k : Nat, k ≤ n ∧ x = nI k := by
  have t1 : x.toInt64.toInt = x.toInt := Int32.toInt_toInt64 x
  have t0 : (0 : Int64).toInt = 0 := rfl
  rw [Int64.lt_iff_toInt_lt, Int64.lt_iff_toInt_lt, t1, t0, lN_toInt (by omega)]
  constructor
  · intro h
    refine ⟨x.toInt.toNat, by omega, ?_⟩
    apply Int32.toInt_inj.mp
    rw [nI_toInt (by omega)]
    omega
  · rintro ⟨k, hk, rfl⟩
    rw [nI_toInt (by omega)]
    omega
theorem letter_both {E : cEnv} (hE : cOk E) (E' : mEnv) {g : cG} {m : mG} {n t : Nat} (R : Rel g m n t) (x : Int32) : ∃ r, cSd E mR_letter [qR 0 0, qI x] g (some (qI r)) g ∧ mSd E' mM_letter [qR 0 0, qI x] m (some (qI r)) m := by
  obtain ⟨s1, s2, s3⟩ := same_v R.2.2.2.2.2.2.1.1 R.2.2.2.2.2.2.1.2.1 R.2.2.2.2.2.2.1.2.2
  have v1 := R.2.2.2.2.2.2.1.1
  have v2 := R.2.2.2.2.2.2.1.2.1
  by_cases h3 : (g.1 88).1 = 3
  · have k3 : mk m (88 : Int32).toNatClampNeg = 3 := by rw [show (88 : Int32).toNatClampNeg = 88 from J88, ← s1]; exact h3
    obtain ⟨e1, e2, e3, e4⟩ := s2 h3
    have hl24 := (cVA_tx h3 v1.1).1
    have hl := xM_lengthT E' m 88 i88 (by rw [J88, ← s1]; exact h3) (by rw [J88]; exact v2)
    rw [J88, e2] at hl
    have hin := xM_in E' m x.toInt64 0 (nI (lnN g 88) - 1).toInt64
    by_cases hk : ∃ k : Nat, k < lnN g 88 ∧ x = nI k
    · obtain ⟨k, hk, rfl⟩ := hk
      refine ⟨g.2.1 88 k, xR_letter_yes hE g k (lnN g 88) h3 hl24 (vGd_len v1 h3) hk, ?_⟩
      have ep : nI (lnN g 88) - 1 = nI (lnN g 88 - 1) := by
        have := nI_pred (lnN g 88 - 1)
        rw [show lnN g 88 - 1 + 1 = lnN g 88 by omega] at this
        exact this
      have z : ¬ (nI k).toInt64 < 0 ∧ ¬ (nI (lnN g 88) - 1).toInt64 < (nI k).toInt64 := by
        rw [ep, nI_l (n := lnN g 88 - 1) (by omega)]
        exact (in_iff (by omega)).mpr ⟨k, by omega, rfl⟩
      rw [if_pos z] at hin
      have hb := xM_byteAt E' m 88 k i88 (by omega)
      rw [J88, ← e4 k hk] at hb
      refine qm_meth (mOk E') (by decide) rfl rfl (Nat.le_of_ble_eq_true rfl) ?_
      intro p e st mm args below meth c Q C _ _
      exact qm_step (sM_letter E') C 0 9999 100 ([0, 0], [], [(some (qI (nI (lnN g 88))), m), (some (qI 1), m), (some (qI (g.2.1 88 k)), m)]) ⟨i88, k3, hl, hin, by decide, hb, rfl, rfl⟩
    · have hno : x < 0 ∨ ¬ x < (g.1 88).2.2.2 := by
        by_cases w : x < 0
        · exact Or.inl w
        · refine Or.inr fun w2 => hk ?_
          obtain ⟨k, hk31, rfl⟩ := nI_of w
          rw [vGd_len v1 h3, nI_ltI hk31 (by omega)] at w2
          exact ⟨k, w2, rfl⟩
      refine ⟨-2, xR_letter_no hE g x (Or.inr hno), ?_⟩
      have z : ¬ (¬ x.toInt64 < 0 ∧ ¬ (nI (lnN g 88) - 1).toInt64 < x.toInt64) := by
        intro w
        apply hk
        rcases Nat.eq_zero_or_pos (lnN g 88) with q | q
        · exfalso
          rw [q] at w
          have e : (nI 0 - 1).toInt64.toInt = -1 := by decide
          have t1 : x.toInt64.toInt = x.toInt := Int32.toInt_toInt64 x
          have t0 : (0 : Int64).toInt = 0 := rfl
          rw [Int64.lt_iff_toInt_lt, Int64.lt_iff_toInt_lt, e, t1, t0] at w
          omega
        · have ep : nI (lnN g 88) - 1 = nI (lnN g 88 - 1) := by
            have := nI_pred (lnN g 88 - 1)
            rw [show lnN g 88 - 1 + 1 = lnN g 88 by omega] at this
            exact this
          rw [ep, nI_l (n := lnN g 88 - 1) (by omega)] at w
          obtain ⟨k, k1, k2⟩ := (in_iff (by omega)).mp w
          exact ⟨k, by omega, k2⟩
      rw [if_neg z] at hin
      refine qm_meth (mOk E') (by decide) rfl rfl (Nat.le_of_ble_eq_true rfl) ?_
      intro p e st mm args below meth c Q C _ _
      exact qm_step (sM_letter E') C 0 9999 100 ([0, 1], [], [(some (qI (nI (lnN g 88))), m), (some (qI 0), m)]) ⟨i88, k3, hl, hin, rfl, rfl, rfl⟩
  · have k3 : ¬ mk m (88 : Int32).toNatClampNeg = 3 := by rw [show (88 : Int32).toNatClampNeg = 88 from J88, ← s1]; exact h3
    refine ⟨-2, xR_letter_no hE g x (Or.inl h3), ?_⟩
    refine qm_meth (mOk E') (by decide) rfl rfl (Nat.le_of_ble_eq_true rfl) ?_
    intro p e st mm args below meth c Q C _ _
    exact qm_step (sM_letter E') C 0 9999 100 ([1], [], []) ⟨i88, k3, rfl, rfl⟩
theorem var_no {x : Int32} (h : ¬ ∃ k : Nat, k ≤ 7 ∧ x = nI k) : x < 0 ∨ 8 ≤ x := by
  by_cases w : x < 0
  · exact Or.inl w
  · obtain ⟨k, hk31, rfl⟩ := nI_of w
    refine Or.inr ?_
    have : ¬ k ≤ 7 := fun q => h ⟨k, q, rfl⟩
    exact (nI_leI (a := 8) (by decide) hk31).mpr (by omega)
theorem give_both {E : cEnv} (hE : cOk E) (E' : mEnv) {g : cG} {m : mG} {n t : Nat} (R : Rel g m n t) (x : Int32) : ∃ r h h', cSd E mR_give [qR 0 0, qI x] g (some (qI r)) h ∧ mSd E' mM_give [qR 0 0, qI x] m (some (qI r)) h' ∧ Rel h h' n t := by
  obtain ⟨s1, s2, s3⟩ := same_v R.2.2.2.2.2.2.1.1 R.2.2.2.2.2.2.1.2.1 R.2.2.2.2.2.2.1.2.2
  have v1 := R.2.2.2.2.2.2.1.1
  have v2 := R.2.2.2.2.2.2.1.2.1
  have hin := xM_in E' m x.toInt64 0 7
  have key : (¬ x.toInt64 < 0 ∧ ¬ (7 : Int64) < x.toInt64) ↔ ∃ k : Nat, k ≤ 7 ∧ x = nI k := in_iff (x := x) (n := 7) (by decide)
  by_cases hx : ∃ k : Nat, k ≤ 7 ∧ x = nI k
  · rw [if_pos (key.mpr hx)] at hin
    obtain ⟨v, hv, rfl⟩ := hx
    by_cases h0 : (g.1 88).1 = 0
    · have k0 : mk m (88 : Int32).toNatClampNeg = 0 := by rw [show (88 : Int32).toNatClampNeg = 88 from J88, ← s1]; exact h0
      refine ⟨-2, g, m, xR_give_no hE g v (by omega) h0, ?_, R⟩
      refine qm_meth (mOk E') (by decide) rfl rfl (Nat.le_of_ble_eq_true rfl) ?_
      intro p e st mm args below meth c Q C _ _
      exact qm_step (sM_give E') C 0 9999 100 ([1, 0], [], [(some (qI 1), m)]) ⟨hin, by decide, i88, k0, rfl, rfl⟩
    · have k0 : ¬ mk m (88 : Int32).toNatClampNeg = 0 := by rw [show (88 : Int32).toNatClampNeg = 88 from J88, ← s1]; exact h0
      have e8 : (80 : Int32) + nI v = nI (80 + v) := nI_add 80 v
      have eJ : J (nI (80 + v)) = 80 + v := nI_clamp (by omega)
      have hcp := xM_copy E' m 88 (nI (80 + v)) i88 (vp_in_nI (by omega) (by decide)) (by rw [J88, eJ]; omega)
      rw [J88, eJ, ← e8] at hcp
      have gl : lnT g 88 ≤ 24 ∧ ((g.1 88).1 = 3 → (g.1 88).2.2.2 = nI (lnT g 88)) := lnT_of (vGd_ok v1)
      have c1 := xR_give_yes hE g v (lnT g 88) (by omega) h0 gl.1 gl.2
      have cp := cpS_v (g := g) (i := 80 + v) (j := 88) (n := lnT g 88) v1.1 (fun h => by unfold lnT; rw [if_pos h])
      have mc := mIs_cp (m := m) (a := 88) (e := 80 + v) (by omega) v2
      refine ⟨1, _, cpM m 88 (80 + v), c1, ?_, Rel_val R (80 + v) (by omega) (fOne_cp _ _ _ _) (cpM_fr _ _ _) ⟨by rw [cp.1]; exact v1.1, cp.2⟩ (mIs_g mc v2.1) (by rw [cp.1, mc.1]; exact R.2.2.2.2.2.2.1.2.2)⟩
      refine qm_meth (mOk E') (by decide) rfl rfl (Nat.le_of_ble_eq_true rfl) ?_
      intro p e st mm args below meth c Q C _ _
      obtain ⟨K, hK⟩ : ∃ K, K = cpM m 88 (80 + v) := ⟨_, rfl⟩
      rw [← hK] at hcp C
      exact qm_step (sM_give E') C 0 9999 100 ([1, 1], [], [(some (qI 1), m), (none, K)]) ⟨hin, by decide, i88, k0, hcp, rfl, rfl⟩
  · rw [if_neg (fun w => hx (key.mp w))] at hin
    refine ⟨-1, g, m, xR_give_bad hE g x (var_no hx), ?_, R⟩
    refine qm_meth (mOk E') (by decide) rfl rfl (Nat.le_of_ble_eq_true rfl) ?_
    intro p e st mm args below meth c Q C _ _
    exact qm_step (sM_give E') C 0 9999 100 ([0], [], [(some (qI 0), m)]) ⟨hin, rfl, rfl, rfl⟩
theorem drop_both {E : cEnv} (hE : cOk E) (E' : mEnv) {g : cG} {m : mG} {n t : Nat} (R : Rel g m n t) (x : Int32) : ∃ r h h', cSd E mR_drop [qR 0 0, qI x] g (some (qI r)) h ∧ mSd E' mM_drop [qR 0 0, qI x] m (some (qI r)) h' ∧ Rel h h' n t := by
  have hin := xM_in E' m x.toInt64 0 7
  have key : (¬ x.toInt64 < 0 ∧ ¬ (7 : Int64) < x.toInt64) ↔ ∃ k : Nat, k ≤ 7 ∧ x = nI k := in_iff (x := x) (n := 7) (by decide)
  by_cases hx : ∃ k : Nat, k ≤ 7 ∧ x = nI k
  · rw [if_pos (key.mpr hx)] at hin
    obtain ⟨v, hv, rfl⟩ := hx
    obtain ⟨v1, v2, e⟩ := R.2.2.2.2.2.1 v (by omega)
    obtain ⟨s1, s2, s3⟩ := same_v v1 v2 e
    have e8 : (80 : Int32) + nI v = nI (80 + v) := nI_add 80 v
    have eJ : ((80 : Int32) + nI v).toNatClampNeg = 80 + v := by rw [e8]; exact nI_clamp (by omega)
    have i8 : vp_in ((80 : Int32) + nI v) 90 := by rw [e8]; exact vp_in_nI (by omega) (by decide)
    have kk : mk (miW m 4 (80 + v) 0) (80 + v) = 0 := by show (miW m 4 (80 + v) 0).2.1 4 (80 + v) = 0; rw [rI, if_pos ⟨rfl, rfl⟩]
    have is0 := mIs_0 kk
    have fin : miW m 4 ((80 : Int32) + nI v).toNatClampNeg 0 = miW m 4 (80 + v) 0 := by rw [eJ]
    by_cases h0 : (g.1 (80 + v)).1 = 0
    · have k0 : mk m ((80 : Int32) + nI v).toNatClampNeg = 0 := by rw [eJ, ← s1]; exact h0
      refine ⟨0, g, miW m 4 (80 + v) 0, (xR_drop hE g v (by omega)).1 h0, ?_, Rel_val R (80 + v) (by omega) (fOne_rfl _ _) (mFr_k _ _ _) v1 (mIs_g is0 aErr_ok) (by rw [is0.1]; exact cVA_0 h0)⟩
      refine qm_meth (mOk E') (by decide) rfl rfl (Nat.le_of_ble_eq_true rfl) ?_
      intro p e st mm args below meth c Q C _ _
      exact qm_step (sM_drop E') C 0 9999 100 ([1, 1, 1], [], [(some (qI 1), m)]) ⟨hin, by decide, i8, k0, i8, rfl, rfl, fin⟩
    · have k0 : ¬ mk m ((80 : Int32) + nI v).toNatClampNeg = 0 := by rw [eJ, ← s1]; exact h0
      have sv := seS_v g (80 + v)
      refine ⟨1, seS g (80 + v), miW m 4 (80 + v) 0, (xR_drop hE g v (by omega)).2 h0, ?_, Rel_val R (80 + v) (by omega) (fOne_uV _ _ _) (mFr_k _ _ _) ⟨by rw [sv.1]; exact aErr_ok, sv.2⟩ (mIs_g is0 aErr_ok) (by rw [sv.1, is0.1])⟩
      refine qm_meth (mOk E') (by decide) rfl rfl (Nat.le_of_ble_eq_true rfl) ?_
      intro p e st mm args below meth c Q C _ _
      exact qm_step (sM_drop E') C 0 9999 100 ([1, 0, 0], [], [(some (qI 1), m)]) ⟨hin, by decide, i8, k0, i8, by decide, rfl, fin⟩
  · rw [if_neg (fun w => hx (key.mp w))] at hin
    refine ⟨-1, g, m, xR_drop_bad hE g x (var_no hx), ?_, R⟩
    refine qm_meth (mOk E') (by decide) rfl rfl (Nat.le_of_ble_eq_true rfl) ?_
    intro p e st mm args below meth c Q C _ _
    exact qm_step (sM_drop E') C 0 9999 100 ([0], [], [(some (qI 0), m)]) ⟨hin, rfl, rfl, rfl⟩
theorem size_both {E : cEnv} (hE : cOk E) (E' : mEnv) {g : cG} {m : mG} {n t : Nat} (R : Rel g m n t) : ∃ r, cSd E mR_size [qR 0 0] g (some (qI r)) g ∧ mSd E' mM_size [qR 0 0] m (some (qI r)) m := by
  have hc := R.2.1
  have m1 := R.2.2.1.1
  refine ⟨nI n, ?_, ?_⟩
  · have := xR_size hE g
    rw [hc] at this
    exact this
  · refine qm_meth (mOk E') (by decide) rfl rfl (Nat.le_of_ble_eq_true rfl) ?_
    intro p e st mm args below meth c Q C _ _
    have fin : (some (qI (m.1 1)) : Option qm_v) = some (qI (nI n)) := by rw [m1]
    exact qm_step (sM_size E') C 0 9999 100 ([], [], []) ⟨fin, rfl⟩
theorem clear_both {E : cEnv} (hE : cOk E) (E' : mEnv) {g : cG} {m : mG} {n t : Nat} (R : Rel g m n t) : ∃ r h h', cSd E mR_clear [qR 0 0] g (some (qI r)) h ∧ mSd E' mM_clear [qR 0 0] m (some (qI r)) h' ∧ Rel h h' 0 t := by
  obtain ⟨⟨hn, ht⟩, hc, ⟨m1, m0⟩, hx, htp, hr, h88, hv⟩ := R
  refine ⟨nI n, uC g (0, nI t), (va_up m.1 1 0, m.2), ?_, ?_, ⟨by omega, ht⟩, rfl, ⟨?_, ?_⟩, fun k hk => by omega, htp, hr, h88, hv⟩
  · have := xR_clear hE g
    rw [hc] at this
    exact this
  · refine qm_meth (mOk E') (by decide) rfl rfl (Nat.le_of_ble_eq_true rfl) ?_
    intro p e st mm args below meth c Q C _ _
    have fin : (some (qI (m.1 1)) : Option qm_v) = some (qI (nI n)) := by rw [m1]
    exact qm_step (sM_clear E') C 0 9999 100 ([], [], []) ⟨fin, rfl⟩
  · show va_up m.1 1 0 1 = _
    rw [va_up_self]
    rfl
  · show va_up m.1 1 0 0 = _
    rw [va_up_ne _ _ (by decide)]
    exact m0
