/-! BOTH SIDES: leaf, text -/
theorem in_iff2 {x : Int32} {n : Nat} (hn : n < 2 ^ 30) : (∃ k : Nat, k ≤ n ∧ x = nI k) ↔ (¬ x < 0 ∧ x ≤ nI n) := by
  constructor
  · rintro ⟨k, hk, rfl⟩
    exact ⟨nI_pos (by omega), nI_le hk (by omega)⟩
  · rintro ⟨h1, h2⟩
    obtain ⟨k, hk31, rfl⟩ := nI_of h1
    exact ⟨k, (nI_leI hk31 (by omega)).mp h2, rfl⟩
theorem in_iff3 {x : Int32} {n : Nat} (hn : n < 2 ^ 30) : (¬ x.toInt64 < 0 ∧ ¬ lN n < x.toInt64) ↔ (¬ x < 0 ∧ x ≤ nI n) := (in_iff hn).trans (in_iff2 hn)
/-- a leaf is added -/
theorem leaf_add {E : cEnv} {g : cG} {m : mG} {n t : Nat} (R : Rel g m n t) (hn : n < 80) (k v : Int32) (hv : ¬ v < 0) (hk : (k = 0 ∧ v ≤ 7) ∨ (k = 1 ∧ v ≤ 1) ∨ (k = 4 ∧ v ≤ 999)) : Rel (lfS g k v) (adS m n (if k = 0 then 5 else k) v.toInt64) (n + 1) t := by
  obtain ⟨ecn, hcn, ec⟩ := Rel_cnt R
  have c3 : ∀ q : cG, q.2.2.2 = g.2.2.2 → (oneC q).2.2.2.1 = (nI (n + 1), nI t) := by
    intro q hq
    show (q.2.2.2.1.1 + 1, q.2.2.2.1.2) = _
    rw [hq, R.2.1, nI_1]
  obtain ⟨w1, w2, w3⟩ := ad3_w m n (if k = 0 then 5 else k) v.toInt64
  have f := ad3_fr m n (if k = 0 then 5 else k) v.toInt64
  unfold lfS
  rw [ecn]
  rcases hk with ⟨rfl, hk⟩ | ⟨rfl, hk⟩ | ⟨rfl, hk⟩
  · obtain ⟨j, hj, rfl⟩ := (in_iff2 (x := v) (n := 7) (by decide)).mpr ⟨hv, hk⟩
    have eJ : (nI j).toNatClampNeg = j := nI_clamp (by omega)
    rw [if_pos (show (0 : Int32) = 0 from rfl)]
    rw [if_pos (show (0 : Int32) = 0 from rfl)] at w1 w2 w3 f ⊢
    have eE : (bwE g n (nI j)).2.2.1 n = _ := uE_at _ _ _
    refine Rel_add R hn (Nat.le_refl _) (fun j hj => uE_ne _ _ hj) (fun j _ => ⟨rfl, rfl⟩) (c3 _ rfl) rfl (R.2.2.2.2.2.2.2 n (by omega)) (adS_1 _ _ _ _) ((adS_0 _ _ _ _).trans R.2.2.1.2) f (Or.inr (Or.inl ⟨?_, j, by omega, ?_, w1, ?_, ?_, ?_⟩))
    · show ((bwE g n (nI j)).2.2.1 n).1 = 1; rw [eE]
    · show ((bwE g n (nI j)).2.2.1 n).2.1 = _; rw [eE, eJ]
    · show (ad3 m n 5 (nI j).toInt64).2.2.2 0 n = _
      rw [w3, nI_l (by omega)]
    · show ((bwE g n (nI j)).2.2.1 n).2.2.2.2.2.2.1 = _; rw [eE]
    · show ((bwE g n (nI j)).2.2.1 n).2.2.2.2.2.2.2.1 = _; rw [eE]
  · obtain ⟨j, hj, rfl⟩ := (in_iff2 (x := v) (n := 1) (by decide)).mpr ⟨hv, hk⟩
    rw [if_neg (show ¬ (1 : Int32) = 0 by decide), if_pos (show (1 : Int32) = 1 from rfl)]
    rw [if_neg (show ¬ (1 : Int32) = 0 by decide)] at w1 w2 w3 f ⊢
    have sv := sTr_v (bvE g n) n (nI j)
    have j01 : nI j = 0 ∨ nI j = 1 := by
      have : j = 0 ∨ j = 1 := by omega
      rcases this with rfl | rfl
      · exact Or.inl rfl
      · exact Or.inr rfl
    have eA : aTr (nI j) = (1, (nI j).toInt64, 0, []) := by rcases j01 with w | w <;> rw [w] <;> rfl
    have gd : vGd (sTr (bvE g n) n (nI j)) n := ⟨by rw [sv.1]; exact aTr_ok (Or.inr j01), sv.2⟩
    have sVA2 : sVA (adS m n 1 (nI j).toInt64) n = (1, (nI j).toInt64, 0, []) := by
      unfold sVA aVw
      rw [show (adS m n 1 (nI j).toInt64).2.1 1 n = 1 from w1, show (adS m n 1 (nI j).toInt64).2.2.2 0 n = (nI j).toInt64 from w3, if_neg (by decide), if_neg (by decide)]
    have eE : (bvE g n).2.2.1 n = _ := uE_at _ _ _
    refine Rel_add R hn (Nat.le_refl _) (fun j hj => uE_ne _ _ hj) (fun j hj => ⟨uV_ne _ _ hj, rfl⟩) (c3 _ rfl) rfl (vGd_ok gd) (adS_1 _ _ _ _) ((adS_0 _ _ _ _).trans R.2.2.1.2) f (Or.inl ⟨?_, ?_, ?_, ?_, gd, ?_, ?_⟩)
    · show ((bvE g n).2.2.1 n).1 = 0; rw [eE]
    · show ((bvE g n).2.2.1 n).2.1 = n; rw [eE]
    · refine ⟨by rw [sVA2, ← eA]; exact aTr_ok (Or.inr j01), fun w => ?_, fun _ => w2, ?_, ?_, ?_⟩
      · rw [show (adS m n 1 (nI j).toInt64).2.1 1 n = 1 from w1] at w; exact absurd w (by decide)
      · rw [show (adS m n 1 (nI j).toInt64).2.1 1 n = 1 from w1]; decide
      · rw [show (adS m n 1 (nI j).toInt64).2.1 1 n = 1 from w1]; decide
      · rw [show (adS m n 1 (nI j).toInt64).2.1 1 n = 1 from w1]; decide
    · rw [sVA2]; exact (sv.1.trans eA).symm
    · show ((bvE g n).2.2.1 n).2.2.2.2.2.2.1 = 0; rw [eE]
    · show ((bvE g n).2.2.1 n).2.2.2.2.2.2.2.1 = 0; rw [eE]
  · obtain ⟨j, hj, rfl⟩ := (in_iff2 (x := v) (n := 999) (by decide)).mpr ⟨hv, hk⟩
    rw [if_neg (show ¬ (4 : Int32) = 0 by decide), if_neg (show ¬ (4 : Int32) = 1 by decide)]
    rw [if_neg (show ¬ (4 : Int32) = 0 by decide)] at w1 w2 w3 f ⊢
    obtain ⟨G, hG⟩ : ∃ G, G = uV (bvE g n) n (4, (nI j).toInt64, (g.1 n).2.2) := ⟨_, rfl⟩
    have eG : G.1 n = (4, (nI j).toInt64, (g.1 n).2.2) := by rw [hG]; exact uV_at _ _ _
    have eV4 : cVA G n = (4, (nI j).toInt64, 0, []) := by
      rw [cVA_n (by rw [eG]; exact (by decide : ¬ (4 : Int32) = 0)) (by rw [eG]; exact (by decide : ¬ (4 : Int32) = 3)), eG]
    have ok4 : avOk (4, (nI j).toInt64, 0, []) := Or.inr (Or.inr (Or.inr (Or.inr ⟨rfl, ⟨j, hj, nI_l (by omega)⟩, rfl⟩)))
    have gd : vGd G n := ⟨by rw [eV4]; exact ok4, okT_n3 (by rw [eG]; exact (by decide : ¬ (4 : Int32) = 3))⟩
    have sVA2 : sVA (adS m n 4 (nI j).toInt64) n = (4, (nI j).toInt64, 0, []) := by
      unfold sVA aVw
      rw [show (adS m n 4 (nI j).toInt64).2.1 1 n = 4 from w1, show (adS m n 4 (nI j).toInt64).2.2.2 0 n = (nI j).toInt64 from w3, if_neg (by decide), if_neg (by decide)]
    have eE : (bvE g n).2.2.1 n = _ := uE_at _ _ _
    have eGE : G.2.2.1 n = (bvE g n).2.2.1 n := by rw [hG]; rfl
    rw [← hG]
    refine Rel_add R hn (Nat.le_refl _) (fun j hj => by rw [hG]; exact uE_ne _ _ hj) (fun j hj => by rw [hG]; exact ⟨uV_ne _ _ hj, rfl⟩) (c3 _ (by rw [hG]; rfl)) (by rw [hG]; rfl) (vGd_ok gd) (adS_1 _ _ _ _) ((adS_0 _ _ _ _).trans R.2.2.1.2) f (Or.inl ⟨?_, ?_, ?_, ?_, gd, ?_, ?_⟩)
    · show (G.2.2.1 n).1 = 0; rw [eGE, eE]
    · show (G.2.2.1 n).2.1 = n; rw [eGE, eE]
    · refine ⟨by rw [sVA2]; exact ok4, fun w => ?_, fun _ => w2, ?_, ?_, ?_⟩
      · rw [show (adS m n 4 (nI j).toInt64).2.1 1 n = 4 from w1] at w; exact absurd w (by decide)
      · rw [show (adS m n 4 (nI j).toInt64).2.1 1 n = 4 from w1]; decide
      · rw [show (adS m n 4 (nI j).toInt64).2.1 1 n = 4 from w1]; decide
      · rw [show (adS m n 4 (nI j).toInt64).2.1 1 n = 4 from w1]; decide
    · rw [sVA2]; exact eV4.symm
    · show (G.2.2.1 n).2.2.2.2.2.2.1 = 0; rw [eGE, eE]
    · show (G.2.2.1 n).2.2.2.2.2.2.2.1 = 0; rw [eGE, eE]
set_option maxHeartbeats 1000000 in
theorem leaf_both {E : cEnv} (hE : cOk E) (E' : mEnv) {g : cG} {m : mG} {n t : Nat} (R : Rel g m n t) (k v : Int32) : ∃ r h h' n', cSd E mR_leaf [qR 0 0, qI k, qI v] g (some (qI r)) h ∧ mSd E' mM_leaf [qR 0 0, qI k, qI v] m (some (qI r)) h' ∧ Rel h h' n' t := by
  obtain ⟨ecn, hcn, ec⟩ := Rel_cnt R
  have hn := R.1.1
  have m1 := R.2.2.1.1
  obtain ⟨q1, q2, q3⟩ := xR_leaf hE g k v hcn
  have k1 : (¬ v.toInt64 < 0 ∧ ¬ (1 : Int64) < v.toInt64) ↔ (¬ v < 0 ∧ v ≤ 1) := in_iff3 (x := v) (n := 1) (by decide)
  have k4 : (¬ v.toInt64 < 0 ∧ ¬ (999 : Int64) < v.toInt64) ↔ (¬ v < 0 ∧ v ≤ 999) := in_iff3 (x := v) (n := 999) (by decide)
  have k0 : (¬ v.toInt64 < 0 ∧ ¬ (7 : Int64) < v.toInt64) ↔ (¬ v < 0 ∧ v ≤ 7) := in_iff3 (x := v) (n := 7) (by decide)
  have h1 := xM_in E' m v.toInt64 0 1
  have h4 := xM_in E' m v.toInt64 0 999
  have h0 := xM_in E' m v.toInt64 0 7
  -- the reference, behind the choice
  have bad : ¬ ((k = 0 ∧ (¬ v < 0 ∧ v ≤ 7)) ∨ (k = 1 ∧ (¬ v < 0 ∧ v ≤ 1)) ∨ (k = 4 ∧ (¬ v < 0 ∧ v ≤ 999))) → mSd E' mM_leaf [qR 0 0, qI k, qI v] m (some (qI (-1))) m := by
    intro hb
    refine qm_meth (mOk E') (by decide) rfl rfl (Nat.le_of_ble_eq_true rfl) ?_
    intro p e st mm args below meth c Q C _ _
    by_cases w1 : k = 1
    · rw [if_neg (fun w => hb (Or.inr (Or.inl ⟨w1, k1.mp w⟩)))] at h1
      have w4 : ¬ k = 4 := by rw [w1]; decide
      have w0 : ¬ k = 0 := by rw [w1]; decide
      exact qm_step (sM_leaf E') C 0 9999 100 ([0, 0, 1, 1, 0], [], [(some (qI 0), m)]) ⟨w1, h1, rfl, w4, w0, rfl, rfl, rfl⟩
    · by_cases w4 : k = 4
      · rw [if_neg (fun w => hb (Or.inr (Or.inr ⟨w4, k4.mp w⟩)))] at h4
        have w0 : ¬ k = 0 := by rw [w4]; decide
        exact qm_step (sM_leaf E') C 0 9999 100 ([1, 0, 0, 1, 0], [], [(some (qI 0), m)]) ⟨w1, w4, h4, rfl, w0, rfl, rfl, rfl⟩
      · by_cases w0 : k = 0
        · rw [if_neg (fun w => hb (Or.inl ⟨w0, k0.mp w⟩))] at h0
          exact qm_step (sM_leaf E') C 0 9999 100 ([1, 1, 0, 1, 0], [], [(some (qI 0), m)]) ⟨w1, w4, w0, h0, rfl, rfl, rfl, rfl⟩
        · exact qm_step (sM_leaf E') C 0 9999 100 ([1, 1, 1, 0], [], []) ⟨w1, w4, w0, rfl, rfl, rfl⟩
  have good : ∀ (r : Int32) (h : mG), ((k = 0 ∧ (¬ v < 0 ∧ v ≤ 7)) ∨ (k = 1 ∧ (¬ v < 0 ∧ v ≤ 1)) ∨ (k = 4 ∧ (¬ v < 0 ∧ v ≤ 999))) → mSd E' mM_add [qR 0 0, qI (if k = 0 then 5 else k), qL v.toInt64] m (some (qI r)) h → mSd E' mM_leaf [qR 0 0, qI k, qI v] m (some (qI r)) h := by
    intro r h hg ha
    refine qm_meth (mOk E') (by decide) rfl rfl (Nat.le_of_ble_eq_true rfl) ?_
    intro p e st mm args below meth c Q C _ _
    rcases hg with ⟨w, z⟩ | ⟨w, z⟩ | ⟨w, z⟩
    · rw [if_pos (k0.mpr z)] at h0
      rw [if_pos w] at ha
      have w1 : ¬ k = 1 := by rw [w]; decide
      have w4 : ¬ k = 4 := by rw [w]; decide
      exact qm_step (sM_leaf E') C 0 9999 100 ([1, 1, 0, 0, 1, 0], [], [(some (qI 1), m), (some (qI r), h)]) ⟨w1, w4, w, h0, by decide, by decide, w, ha, rfl, rfl⟩
    · rw [if_pos (k1.mpr z)] at h1
      have w0 : ¬ k = 0 := by rw [w]; decide
      rw [if_neg w0] at ha
      exact qm_step (sM_leaf E') C 0 9999 100 ([0, 1, 1, 1], [], [(some (qI 1), m), (some (qI r), h)]) ⟨w, h1, by decide, by decide, w0, ha, rfl, rfl⟩
    · rw [if_pos (k4.mpr z)] at h4
      have w0 : ¬ k = 0 := by rw [w]; decide
      have w1 : ¬ k = 1 := by rw [w]; decide
      rw [if_neg w0] at ha
      exact qm_step (sM_leaf E') C 0 9999 100 ([1, 0, 1, 1, 1], [], [(some (qI 1), m), (some (qI r), h)]) ⟨w1, w, h4, by decide, by decide, w0, ha, rfl, rfl⟩
  by_cases hg : (k = 0 ∧ (¬ v < 0 ∧ v ≤ 7)) ∨ (k = 1 ∧ (¬ v < 0 ∧ v ≤ 1)) ∨ (k = 4 ∧ (¬ v < 0 ∧ v ≤ 999))
  · have hv : ¬ v < 0 := by rcases hg with w | w | w <;> exact w.2.1
    have hl : v ≤ laI k := by
      unfold laI
      rcases hg with ⟨w, z⟩ | ⟨w, z⟩ | ⟨w, z⟩
      · rw [if_pos w]; exact z.2
      · rw [if_neg (by rw [w]; decide), if_pos w]; exact z.2
      · rw [if_neg (by rw [w]; decide), if_neg (by rw [w]; decide), if_pos w]; exact z.2
    by_cases hf : n = 80
    · exact ⟨-3, g, m, n, q2 hv hl (by rw [ec, hf]; decide), good _ _ hg (xM_add_full E' m _ _ (by rw [m1, hf])), R⟩
    · have hn2 : n < 80 := by omega
      have c := q3 hv hl (by rw [ec]; exact nI_lt (b := 80) hn2 (by decide))
      rw [ec] at c
      refine ⟨nI n, _, _, n + 1, c, good _ _ hg (xM_add E' m n _ _ hn2 m1), leaf_add (E := E) R hn2 k v hv ?_⟩
      rcases hg with ⟨w, z⟩ | ⟨w, z⟩ | ⟨w, z⟩
      · exact Or.inl ⟨w, z.2⟩
      · exact Or.inr (Or.inl ⟨w, z.2⟩)
      · exact Or.inr (Or.inr ⟨w, z.2⟩)
  · refine ⟨-1, g, m, n, q1 ?_, bad hg, R⟩
    apply Classical.byContradiction
    intro hh
    have hh' := not_or.mp hh
    have h2 := Classical.not_not.mp hh'.2
    apply hg
    unfold laI at h2
    by_cases w0 : k = 0
    · rw [if_pos w0] at h2; exact Or.inl ⟨w0, hh'.1, h2⟩
    rw [if_neg w0] at h2
    by_cases w1 : k = 1
    · rw [if_pos w1] at h2; exact Or.inr (Or.inl ⟨w1, hh'.1, h2⟩)
    rw [if_neg w1] at h2
    by_cases w4 : k = 4
    · rw [if_pos w4] at h2; exact Or.inr (Or.inr ⟨w4, hh'.1, h2⟩)
    · rw [if_neg w4] at h2
      exact absurd (Int32.lt_of_le_of_lt h2 (by decide)) hh'.1
