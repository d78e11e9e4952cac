/-! reckon of the reference -/
def arL : List Nat := [1, 2, 2, 2, 2, 2, 2, 2, 2, 2, 1, 3, 1, 1, 2, 2, 2, 2, 2, 2, 1, 1, 3, 2, 1, 1, 1, 2, 3, 3]
def arN (o : Nat) : Nat := arL.getD o 0
theorem in90 {x : Int32} (h : vp_in x 80) : vp_in x 90 := by
  have := vp_in_iff.mp h
  exact vp_in_iff.mpr ⟨this.1, by omega⟩
theorem x3 {x : Int32} (h : vp_in x 80) : (vp_in (3 * x) 240 ∧ (3 * x).toNatClampNeg = 3 * J x) ∧ (vp_in (3 * x + 1) 240 ∧ (3 * x + 1).toNatClampNeg = 3 * J x + 1) ∧ (vp_in (3 * x + 2) 240 ∧ (3 * x + 2).toNatClampNeg = 3 * J x + 2) := by
  obtain ⟨h1, h2⟩ := vp_J h (by decide)
  have e : 3 * x = nI (3 * J x) := by
    have e3 : (3 : Int32) * nI (J x) = nI (3 * J x) := nI_mul 3 (J x)
    calc 3 * x = 3 * nI (J x) := by rw [← h1]
      _ = _ := e3
  have e1 : nI (3 * J x) + 1 = nI (3 * J x + 1) := nI_add _ 1
  have e2 : nI (3 * J x) + 2 = nI (3 * J x + 2) := nI_add _ 2
  rw [e, e1, e2]
  exact ⟨⟨vp_in_nI (by omega) (by decide), nI_clamp (by omega)⟩, ⟨vp_in_nI (by omega) (by decide), nI_clamp (by omega)⟩, ⟨vp_in_nI (by omega) (by decide), nI_clamp (by omega)⟩⟩
def rk0 (m : mG) (e : Nat) : mG := miW (miW m 4 e 0) 5 e 0
theorem rk0_fr (m : mG) (e : Nat) : mFr e m (rk0 m e) := mFr_tr (mFr_k _ _ _) (mFr_t _ _ _)
theorem rk0_k (m : mG) (e : Nat) : mk (rk0 m e) e = 0 := by
  show (miW (miW m 4 e 0) 5 e 0).2.1 4 e = 0
  rw [rI, if_neg (fun q => absurd q.1 (by decide)), rI, if_pos ⟨rfl, rfl⟩]
theorem rk0_w (m : mG) (e a i : Nat) (h4 : a ≠ 4) (h5 : a ≠ 5) : (rk0 m e).2.1 a i = m.2.1 a i := by
  show (miW (miW m 4 e 0) 5 e 0).2.1 a i = _
  rw [rI, if_neg (fun q => h5 q.1), rI, if_neg (fun q => h4 q.1)]
theorem opV_t {op : Int32} (h : op = 0 ∨ op = 1 ∨ op = 2 ∨ op = 3 ∨ op = 4) (X Y Z : AV) (g : Int32) : opV op X Y Z g = aTr (aTrs op X Y Z) := by
  unfold opV
  rcases h with h | h | h | h | h <;> subst h <;> rw [if_neg (by decide), if_neg (by decide), if_neg (by decide), if_neg (by decide), if_neg (by decide)]
theorem aTrs_z (X Y Z Y' Z' : AV) : aTrs 0 X Y Z = aTrs 0 X Y' Z' := by unfold aTrs; rw [if_pos rfl, if_pos rfl]
theorem opV_w {op : Int32} (h : op = 5 ∨ op = 6 ∨ op = 7 ∨ op = 8 ∨ op = 9) (X Y Z : AV) (g : Int32) : opV op X Y Z g = aWhs op X Y := by
  unfold opV
  rcases h with h | h | h | h | h <;> subst h <;> rw [if_neg (by decide), if_neg (by decide), if_pos (by decide)]
theorem opV_x {op : Int32} (h : op = 10 ∨ op = 11 ∨ op = 12 ∨ op = 13 ∨ op = 14) (X Y Z : AV) (g : Int32) : opV op X Y Z g = aTxs op X Y Z := by
  unfold opV
  rcases h with h | h | h | h | h <;> subst h <;> rw [if_neg (by decide), if_neg (by decide), if_neg (by decide), if_pos (by decide)]
theorem aTxs_10 (X Y Z Y' Z' : AV) : aTxs 10 X Y Z = aTxs 10 X Y' Z' := by
  unfold aTxs
  by_cases h : X.1 = 3
  · rw [if_neg (show ¬ ¬ X.1 = 3 from fun q => q h), if_neg (show ¬ ¬ X.1 = 3 from fun q => q h), if_pos (show (10 : Int32) = 10 from rfl), if_pos (show (10 : Int32) = 10 from rfl)]
  · rw [if_pos h, if_pos h]
theorem aTxs_12 (X Y Z Y' Z' : AV) : aTxs 12 X Y Z = aTxs 12 X Y' Z' := by
  unfold aTxs
  by_cases h : X.1 = 3
  · rw [if_neg (show ¬ ¬ X.1 = 3 from fun q => q h), if_neg (show ¬ ¬ X.1 = 3 from fun q => q h), if_neg (show ¬ (12 : Int32) = 10 by decide), if_neg (show ¬ (12 : Int32) = 11 by decide), if_pos (show (12 : Int32) = 12 from rfl), if_neg (show ¬ (12 : Int32) = 10 by decide), if_neg (show ¬ (12 : Int32) = 11 by decide), if_pos (show (12 : Int32) = 12 from rfl)]
  · rw [if_pos h, if_pos h]
theorem aTxs_13 (X Y Z Y' Z' : AV) : aTxs 13 X Y Z = aTxs 13 X Y' Z' := by
  unfold aTxs
  by_cases h : X.1 = 3
  · rw [if_neg (show ¬ ¬ X.1 = 3 from fun q => q h), if_neg (show ¬ ¬ X.1 = 3 from fun q => q h), if_neg (show ¬ (13 : Int32) = 10 by decide), if_neg (show ¬ (13 : Int32) = 11 by decide), if_neg (show ¬ (13 : Int32) = 12 by decide), if_pos (show (13 : Int32) = 13 from rfl), if_neg (show ¬ (13 : Int32) = 10 by decide), if_neg (show ¬ (13 : Int32) = 11 by decide), if_neg (show ¬ (13 : Int32) = 12 by decide), if_pos (show (13 : Int32) = 13 from rfl)]
  · rw [if_pos h, if_pos h]
theorem aTxs_14 (X Y Z Z' : AV) : aTxs 14 X Y Z = aTxs 14 X Y Z' := by
  unfold aTxs
  by_cases h : X.1 = 3
  · rw [if_neg (show ¬ ¬ X.1 = 3 from fun q => q h), if_neg (show ¬ ¬ X.1 = 3 from fun q => q h), if_neg (show ¬ (14 : Int32) = 10 by decide), if_neg (show ¬ (14 : Int32) = 11 by decide), if_neg (show ¬ (14 : Int32) = 12 by decide), if_neg (show ¬ (14 : Int32) = 13 by decide), if_pos (show (14 : Int32) = 14 from rfl), if_neg (show ¬ (14 : Int32) = 10 by decide), if_neg (show ¬ (14 : Int32) = 11 by decide), if_neg (show ¬ (14 : Int32) = 12 by decide), if_neg (show ¬ (14 : Int32) = 13 by decide), if_pos (show (14 : Int32) = 14 from rfl)]
  · rw [if_pos h, if_pos h]
theorem opV_k {op : Int32} (h : op = 15 ∨ op = 16 ∨ op = 17 ∨ op = 18 ∨ op = 19) (X Y Z : AV) (g : Int32) : opV op X Y Z g = if ¬ X.1 = 3 then aErr else aSk op X Y := by
  unfold opV aTxs
  by_cases hX : X.1 = 3
  · rw [if_neg (show ¬ ¬ X.1 = 3 from fun q => q hX), if_neg (show ¬ ¬ X.1 = 3 from fun q => q hX)]
    rcases h with h | h | h | h | h <;> subst h <;> rw [if_neg (by decide), if_neg (by decide), if_neg (by decide), if_pos (by decide), if_neg (by decide), if_neg (by decide), if_neg (by decide), if_neg (by decide), if_neg (by decide), if_neg (by decide), if_neg (by decide)]
  · rw [if_pos hX, if_pos hX]
    rcases h with h | h | h | h | h <;> subst h <;> rw [if_neg (by decide), if_neg (by decide), if_neg (by decide), if_pos (by decide)]
theorem opV_20 (X Y Z Y' Z' : AV) (g : Int32) : opV 20 X Y Z g = opV 20 X Y' Z' g := by
  unfold opV
  rw [if_neg (show ¬ (20 : Int32) = 24 by decide), if_neg (show ¬ (20 : Int32) = 27 by decide), if_neg (by decide), if_pos (by decide), if_neg (show ¬ (20 : Int32) = 24 by decide), if_neg (show ¬ (20 : Int32) = 27 by decide), if_neg (by decide), if_pos (by decide)]
  unfold aTxs
  by_cases h : X.1 = 3
  · rw [if_neg (show ¬ ¬ X.1 = 3 from fun q => q h), if_neg (show ¬ ¬ X.1 = 3 from fun q => q h), if_neg (show ¬ (20 : Int32) = 10 by decide), if_neg (show ¬ (20 : Int32) = 11 by decide), if_neg (show ¬ (20 : Int32) = 12 by decide), if_neg (show ¬ (20 : Int32) = 13 by decide), if_neg (show ¬ (20 : Int32) = 14 by decide), if_pos (show (20 : Int32) = 20 from rfl), if_neg (show ¬ (20 : Int32) = 10 by decide), if_neg (show ¬ (20 : Int32) = 11 by decide), if_neg (show ¬ (20 : Int32) = 12 by decide), if_neg (show ¬ (20 : Int32) = 13 by decide), if_neg (show ¬ (20 : Int32) = 14 by decide), if_pos (show (20 : Int32) = 20 from rfl)]
  · rw [if_pos h, if_pos h]
theorem opV_c {op : Int32} (h : op = 21 ∨ op = 22 ∨ op = 23 ∨ op = 25 ∨ op = 26) (X Y Z : AV) (g : Int32) : opV op X Y Z g = aCas op X Y Z := by
  unfold opV
  rcases h with h | h | h | h | h <;> subst h <;> rw [if_neg (by decide), if_neg (by decide), if_neg (by decide), if_neg (by decide), if_pos (by decide)]
theorem aCas_1 {op : Int32} (h : op = 21 ∨ op = 25 ∨ op = 26) (X Y Z Y' Z' : AV) : aCas op X Y Z = aCas op X Y' Z' := by
  unfold aCas
  rcases h with h | h | h <;> subst h
  · rw [if_neg (show ¬ (21 : Int32) = 23 by decide), if_neg (show ¬ (21 : Int32) = 22 by decide), if_neg (show ¬ (21 : Int32) = 23 by decide), if_neg (show ¬ (21 : Int32) = 22 by decide)]
  · rw [if_neg (show ¬ (25 : Int32) = 23 by decide), if_neg (show ¬ (25 : Int32) = 22 by decide), if_neg (show ¬ (25 : Int32) = 23 by decide), if_neg (show ¬ (25 : Int32) = 22 by decide)]
  · rw [if_neg (show ¬ (26 : Int32) = 23 by decide), if_neg (show ¬ (26 : Int32) = 22 by decide), if_neg (show ¬ (26 : Int32) = 23 by decide), if_neg (show ¬ (26 : Int32) = 22 by decide)]
theorem aCas_23 (X Y Z Z' : AV) : aCas 23 X Y Z = aCas 23 X Y Z' := by
  unfold aCas
  rw [if_pos (show (23 : Int32) = 23 from rfl), if_pos (show (23 : Int32) = 23 from rfl)]
theorem opV_24 (X Y Z Y' Z' : AV) (g : Int32) : opV 24 X Y Z g = opV 24 X Y' Z' g := by
  unfold opV
  rw [if_pos (show (24 : Int32) = 24 from rfl), if_pos (show (24 : Int32) = 24 from rfl)]
set_option maxHeartbeats 4000000 in
theorem xM_reckon_call (E : mEnv) (m : mG) (x a b c : Int32) (o : Nat) (Y Z : AV) (hx : vp_in x 80) (hw : m.2.1 1 (J x) = 6) (hs : m.2.2.2 0 (J x) = lN o) (ho : o < 30) (ha : m.2.1 2 (3 * J x) = a) (hb : m.2.1 2 (3 * J x + 1) = b) (hc : m.2.1 2 (3 * J x + 2) = c)
    (va : vp_in a 80 ∧ J a < J x ∧ mGd m (J a)) (vb : 1 < arN o → vp_in b 80 ∧ J b < J x ∧ mGd m (J b)) (vc : 2 < arN o → vp_in c 80 ∧ J c < J x ∧ mGd m (J c)) (hY : 1 < arN o → Y = mVA m (J b)) (hZ : 2 < arN o → Z = mVA m (J c)) : mDo E mM_reckon [qR 0 0, qI x] m (J x) (opV (nI o) (mVA m (J a)) Y Z (mgv m (J a))) := by
  obtain ⟨M, hM⟩ : ∃ M, M = rk0 m (J x) := ⟨_, rfl⟩
  have fr : mFr (J x) m M := by rw [hM]; exact rk0_fr _ _
  have k0 : mk M (J x) = 0 := by rw [hM]; exact rk0_k _ _
  obtain ⟨⟨i1, j1⟩, ⟨i2, j2⟩, ⟨i3, j3⟩⟩ := x3 hx
  have x90 := in90 hx
  have hw' : M.2.1 1 (J x) = 6 := by rw [hM, rk0_w _ _ _ _ (by decide) (by decide)]; exact hw
  have hw5 : ¬ M.2.1 1 (J x) = 5 := by rw [hw']; decide
  have eo : (M.2.2.2 0 (J x)).toInt32 = nI o := by rw [hM]; show (m.2.2.2 0 (J x)).toInt32 = _; rw [hs, lN_i]
  have ea : M.2.1 2 (3 * x).toNatClampNeg = a := by rw [hM, rk0_w _ _ _ _ (by decide) (by decide), j1]; exact ha
  have eb : M.2.1 2 (3 * x + 1).toNatClampNeg = b := by rw [hM, rk0_w _ _ _ _ (by decide) (by decide), j2]; exact hb
  have ec : M.2.1 2 (3 * x + 2).toNatClampNeg = c := by rw [hM, rk0_w _ _ _ _ (by decide) (by decide), j3]; exact hc
  have a90 := in90 va.1
  have hax : J a ≠ J x := by have := va.2.1; omega
  have gA := mFr_g fr hax va.2.2
  have vA := mFr_v fr hax
  have kA : mk M (J a) = mk m (J a) := fr.2.1 4 _ (Or.inr hax)
  have tA : mtg M (J a) = mtg m (J a) := fr.2.1 5 _ (Or.inr hax)
  have gvA : mgv M (J a) = mgv m (J a) := by
    unfold mgv
    rw [kA, fr.2.1 1 _ (Or.inl ⟨by decide, by decide⟩)]
  have B : 1 < arN o → vp_in b 90 ∧ J b ≠ J x ∧ mGd M (J b) ∧ mVA M (J b) = Y := by
    intro h
    obtain ⟨q1, q2, q3⟩ := vb h
    have : J b ≠ J x := by omega
    exact ⟨in90 q1, this, mFr_g fr this q3, by rw [hY h]; exact mFr_v fr this⟩
  have D : 2 < arN o → vp_in c 90 ∧ J c ≠ J x ∧ mGd M (J c) ∧ mVA M (J c) = Z := by
    intro h
    obtain ⟨q1, q2, q3⟩ := vc h
    have : J c ≠ J x := by omega
    exact ⟨in90 q1, this, mFr_g fr this q3, by rw [hZ h]; exact mFr_v fr this⟩
  have lo : ∀ k, k < 2 ^ 31 → ((nI k ≤ nI o) ↔ k ≤ o) := fun k hk => nI_leI hk (by omega)
  have pre : ∀ (h : mG) (p : Program) (e : Env) (st : State) (mm : MethodId) (args : Array Value) (below : List Frame) (meth : Method) (c' : Code) (Q : State → Prop), qm_C (mLa E.2.2.2) mV (mHold E) (mA E.2.2.2) (fun r1 g1 => r1 = none ∧ g1 = h) prog_10_method_28_code 6 yM_reckon.cls (wsT yM_reckon prog_10_method_28_code 6 none) none p st mm args below meth c' Q → qm_W (mLa E.2.2.2) mV (mHold E) (mA E.2.2.2) 6 p E.1 e (rmL 111) st mm args below meth c' Q 158 ([some (qR 0 0), some (qI x), some (qI (nI o)), some (qI a), some (qI b), some (qI c)], [], M) → qm_W (mLa E.2.2.2) mV (mHold E) (mA E.2.2.2) 6 p E.1 e (rmL 111) st mm args below meth c' Q 0 ([some (qR 0 0), some (qI x), none, none, none, none], [], m) := by
    intro h p e st mm args below meth c' Q C w
    rw [← eo, ← ea, ← eb, ← ec, hM] at w
    rw [hM] at hw' hw5
    exact qm_step (sM_reckon E) C 0 158 100 ([1, 1], [], []) ⟨x90, x90, hx, hw5, hx, hw', hx, i1, i2, i3, w⟩
  -- an operation that leaves an error
  have nope : mIs M (J x) aErr := mIs_0 k0
  by_cases g5 : o < 5
  · have q5 : ¬ (5 : Int32) ≤ nI o := fun w => by have := (lo 5 (by decide)).mp w; omega
    have ar : ¬ nI o = 0 → 1 < arN o := by
      intro h
      have : o = 0 ∨ o = 1 ∨ o = 2 ∨ o = 3 ∨ o = 4 := by omega
      rcases this with rfl | rfl | rfl | rfl | rfl
      · exact absurd rfl h
      · decide
      · decide
      · decide
      · decide
    have hop : nI o = 0 ∨ nI o = 1 ∨ nI o = 2 ∨ nI o = 3 ∨ nI o = 4 := by
      have : o = 0 ∨ o = 1 ∨ o = 2 ∨ o = 3 ∨ o = 4 := by omega
      rcases this with rfl | rfl | rfl | rfl | rfl
      · exact Or.inl rfl
      · exact Or.inr (Or.inl rfl)
      · exact Or.inr (Or.inr (Or.inl rfl))
      · exact Or.inr (Or.inr (Or.inr (Or.inl rfl)))
      · exact Or.inr (Or.inr (Or.inr (Or.inr rfl)))
    have key : ∀ Y', (¬ nI o = 0 → Y' = Y) → opV (nI o) (mVA m (J a)) Y Z (mgv m (J a)) = aTr (aTrs (nI o) (mVA m (J a)) Y' Z) := by
      intro Y' hY'
      rw [opV_t hop]
      by_cases w : nI o = 0
      · rw [w, aTrs_z (mVA m (J a)) Y Z Y' Z]
      · rw [hY' w]
    obtain ⟨h, h1, h2, h3⟩ := xM_truths E M x (nI o) a b Z x90 a90 (fun w => (B (ar w)).1) gA (fun w => (B (ar w)).2.2.1) hop
    rw [vA, ← key _ (fun w => (B (ar w)).2.2.2)] at h3
    refine ⟨h, ?_, mFr_tr fr h2, h3⟩
    refine qm_meth (mOk E) (by decide) rfl rfl (Nat.le_of_ble_eq_true rfl) ?_
    intro p e st mm args below meth cc Q C _ _
    exact pre _ p e st mm args below meth cc Q C (qm_step (sM_reckon E) C 158 9999 100 ([0], [], [(none, h)]) ⟨q5, h1, rfl, rfl⟩)
  have q5 : (5 : Int32) ≤ nI o := (lo 5 (by decide)).mpr (by omega)
  by_cases g10 : o < 10
  · have q10 : ¬ (10 : Int32) ≤ nI o := fun w => by have := (lo 10 (by decide)).mp w; omega
    have hoo : o = 5 ∨ o = 6 ∨ o = 7 ∨ o = 8 ∨ o = 9 := by omega
    have ar : 1 < arN o := by rcases hoo with rfl | rfl | rfl | rfl | rfl <;> decide
    obtain ⟨b90, hbx, gB, vB⟩ := B ar
    have hop : nI o = 5 ∨ nI o = 6 ∨ nI o = 7 ∨ nI o = 8 ∨ nI o = 9 := by
      rcases hoo with rfl | rfl | rfl | rfl | rfl
      · exact Or.inl rfl
      · exact Or.inr (Or.inl rfl)
      · exact Or.inr (Or.inr (Or.inl rfl))
      · exact Or.inr (Or.inr (Or.inr (Or.inl rfl)))
      · exact Or.inr (Or.inr (Or.inr (Or.inr rfl)))
    rw [opV_w hop]
    by_cases w1 : mk M (J a) = 2
    · by_cases w2 : mk M (J b) = 2
      · obtain ⟨h, h1, h2, h3⟩ := xM_arith E M x (nI o) (mn M (J a)) (mn M (J b)) (mVA M (J a)) (mVA M (J b)) x90 k0 (by rw [mVA_k]; exact w1) (by rw [mVA_k]; exact w2) (mVA_am (by rw [w1]; decide) (by rw [w1]; decide)) (mVA_am (by rw [w2]; decide) (by rw [w2]; decide)) hop
        rw [vA, vB] at h3
        refine ⟨h, ?_, mFr_tr fr h2, h3⟩
        refine qm_meth (mOk E) (by decide) rfl rfl (Nat.le_of_ble_eq_true rfl) ?_
        intro p e st mm args below meth cc Q C _ _
        exact pre _ p e st mm args below meth cc Q C (qm_step (sM_reckon E) C 158 9999 100 ([1, 0, 0, 0], [], [(none, h)]) ⟨q5, q10, a90, w1, b90, w2, a90, b90, h1, rfl, rfl⟩)
      · have e : aWhs (nI o) (mVA m (J a)) Y = aErr := by
          unfold aWhs
          rw [if_pos (Or.inr (by rw [← vB, mVA_k]; exact w2))]
        rw [e]
        refine ⟨M, ?_, fr, nope⟩
        refine qm_meth (mOk E) (by decide) rfl rfl (Nat.le_of_ble_eq_true rfl) ?_
        intro p e st mm args below meth cc Q C _ _
        exact pre _ p e st mm args below meth cc Q C (qm_step (sM_reckon E) C 158 9999 100 ([1, 0, 0, 1], [], []) ⟨q5, q10, a90, w1, b90, w2, rfl, rfl⟩)
    · have e : aWhs (nI o) (mVA m (J a)) Y = aErr := by
        unfold aWhs
        rw [if_pos (Or.inl (by rw [mVA_k, ← kA]; exact w1))]
      rw [e]
      refine ⟨M, ?_, fr, nope⟩
      refine qm_meth (mOk E) (by decide) rfl rfl (Nat.le_of_ble_eq_true rfl) ?_
      intro p e st mm args below meth cc Q C _ _
      exact pre _ p e st mm args below meth cc Q C (qm_step (sM_reckon E) C 158 9999 100 ([1, 0, 1], [], []) ⟨q5, q10, a90, w1, rfl, rfl⟩)
  have q10 : (10 : Int32) ≤ nI o := (lo 10 (by decide)).mpr (by omega)
  by_cases g15 : o < 15
  · have q15 : ¬ (15 : Int32) ≤ nI o := fun w => by have := (lo 15 (by decide)).mp w; omega
    have hoo : o = 10 ∨ o = 11 ∨ o = 12 ∨ o = 13 ∨ o = 14 := by omega
    have ar1 : nI o = 11 ∨ nI o = 14 → 1 < arN o := by
      rcases hoo with rfl | rfl | rfl | rfl | rfl
      · intro w; rcases w with w | w <;> exact absurd w (by decide)
      · intro _; decide
      · intro w; rcases w with w | w <;> exact absurd w (by decide)
      · intro w; rcases w with w | w <;> exact absurd w (by decide)
      · intro _; decide
    have ar2 : nI o = 11 → 2 < arN o := by
      rcases hoo with rfl | rfl | rfl | rfl | rfl
      · intro w; exact absurd w (by decide)
      · intro _; decide
      · intro w; exact absurd w (by decide)
      · intro w; exact absurd w (by decide)
      · intro w; exact absurd w (by decide)
    have hop : nI o = 10 ∨ nI o = 11 ∨ nI o = 12 ∨ nI o = 13 ∨ nI o = 14 := by
      rcases hoo with rfl | rfl | rfl | rfl | rfl
      · exact Or.inl rfl
      · exact Or.inr (Or.inl rfl)
      · exact Or.inr (Or.inr (Or.inl rfl))
      · exact Or.inr (Or.inr (Or.inr (Or.inl rfl)))
      · exact Or.inr (Or.inr (Or.inr (Or.inr rfl)))
    have eV : ∀ Y', (nI o = 11 ∨ nI o = 14 → Y' = Y) → opV (nI o) (mVA m (J a)) Y Z (mgv m (J a)) = aTxs (nI o) (mVA m (J a)) Y' Z := by
      intro Y' hY'
      rw [opV_x hop]
      rcases hop with w | w | w | w | w
      · rw [w, aTxs_10 (mVA m (J a)) Y Z Y' Z]
      · rw [hY' (Or.inl w)]
      · rw [w, aTxs_12 (mVA m (J a)) Y Z Y' Z]
      · rw [w, aTxs_13 (mVA m (J a)) Y Z Y' Z]
      · rw [hY' (Or.inr w)]
    obtain ⟨h, h1, h2, h3⟩ := xM_texts E M x (nI o) a b c Z x90 a90 (fun w => (B (ar1 w)).1) (fun w => (D (ar2 w)).1) hax (fun w => (B (ar1 (Or.inr w))).2.1) k0 gA (fun w => (B (ar1 w)).2.2.1) (fun w => (D (ar2 w)).2.2.1) hop (fun w => (D (ar2 w)).2.2.2.symm)
    rw [vA, ← eV _ (fun w => (B (ar1 w)).2.2.2)] at h3
    refine ⟨h, ?_, mFr_tr fr h2, h3⟩
    refine qm_meth (mOk E) (by decide) rfl rfl (Nat.le_of_ble_eq_true rfl) ?_
    intro p e st mm args below meth cc Q C _ _
    exact pre _ p e st mm args below meth cc Q C (qm_step (sM_reckon E) C 158 9999 100 ([1, 1, 0], [], [(none, h)]) ⟨q5, q10, q15, h1, rfl, rfl⟩)
  have q15 : (15 : Int32) ≤ nI o := (lo 15 (by decide)).mpr (by omega)
  by_cases g20 : o < 20
  · have q20 : ¬ (20 : Int32) ≤ nI o := fun w => by have := (lo 20 (by decide)).mp w; omega
    have hoo : o = 15 ∨ o = 16 ∨ o = 17 ∨ o = 18 ∨ o = 19 := by omega
    have ar : 1 < arN o := by rcases hoo with rfl | rfl | rfl | rfl | rfl <;> decide
    obtain ⟨b90, hbx, gB, vB⟩ := B ar
    have hop : nI o = 15 ∨ nI o = 16 ∨ nI o = 17 ∨ nI o = 18 ∨ nI o = 19 := by
      rcases hoo with rfl | rfl | rfl | rfl | rfl
      · exact Or.inl rfl
      · exact Or.inr (Or.inl rfl)
      · exact Or.inr (Or.inr (Or.inl rfl))
      · exact Or.inr (Or.inr (Or.inr (Or.inl rfl)))
      · exact Or.inr (Or.inr (Or.inr (Or.inr rfl)))
    rw [opV_k hop, mVA_k, ← kA]
    by_cases w1 : mk M (J a) = 3
    · rw [if_neg (show ¬ ¬ mk M (J a) = 3 from fun w => w w1)]
      by_cases w2 : mk M (J b) = 3
      · by_cases w3 : mtg M (J b) = 0 ∨ mtg M (J b) = mtg M (J a)
        · obtain ⟨h, h1, h2, h3⟩ := xM_places E M x (nI o) a b x90 a90 b90 hax hbx w1 w2 gA gB w3 hop
          rw [vA, vB] at h3
          refine ⟨h, ?_, mFr_tr fr h2, h3⟩
          refine qm_meth (mOk E) (by decide) rfl rfl (Nat.le_of_ble_eq_true rfl) ?_
          intro p e st mm args below meth cc Q C _ _
          by_cases w4 : mtg M (J b) = 0
          · exact pre _ p e st mm args below meth cc Q C (qm_step (sM_reckon E) C 158 9999 100 ([1, 1, 1, 0, 0, 0, 1], [], [(none, h)]) ⟨q5, q10, q15, q20, a90, w1, b90, w2, b90, w4, h1, rfl, rfl⟩)
          · exact pre _ p e st mm args below meth cc Q C (qm_step (sM_reckon E) C 158 9999 100 ([1, 1, 1, 0, 0, 0, 0, 0], [], [(none, h)]) ⟨q5, q10, q15, q20, a90, w1, b90, w2, b90, w4, b90, a90, w3.resolve_left w4, h1, rfl, rfl⟩)
        · have e : aSk (nI o) (mVA m (J a)) Y = aErr := by
            unfold aSk
            rw [if_pos (Or.inr ?_)]
            rw [← vA, ← vB, (mVA_tx w1 gA).2.2.1, (mVA_tx w2 gB).2.2.1]
            exact not_or.mp w3
          rw [e]
          refine ⟨M, ?_, fr, nope⟩
          refine qm_meth (mOk E) (by decide) rfl rfl (Nat.le_of_ble_eq_true rfl) ?_
          intro p e st mm args below meth cc Q C _ _
          have w3' := not_or.mp w3
          exact pre _ p e st mm args below meth cc Q C (qm_step (sM_reckon E) C 158 9999 100 ([1, 1, 1, 0, 0, 0, 0, 1], [], []) ⟨q5, q10, q15, q20, a90, w1, b90, w2, b90, w3'.1, b90, a90, w3'.2, rfl, rfl⟩)
      · have e : aSk (nI o) (mVA m (J a)) Y = aErr := by
          unfold aSk
          rw [if_pos (Or.inl (by rw [← vB, mVA_k]; exact w2))]
        rw [e]
        refine ⟨M, ?_, fr, nope⟩
        refine qm_meth (mOk E) (by decide) rfl rfl (Nat.le_of_ble_eq_true rfl) ?_
        intro p e st mm args below meth cc Q C _ _
        exact pre _ p e st mm args below meth cc Q C (qm_step (sM_reckon E) C 158 9999 100 ([1, 1, 1, 0, 0, 1], [], []) ⟨q5, q10, q15, q20, a90, w1, b90, w2, rfl, rfl⟩)
    · rw [if_pos w1]
      refine ⟨M, ?_, fr, nope⟩
      refine qm_meth (mOk E) (by decide) rfl rfl (Nat.le_of_ble_eq_true rfl) ?_
      intro p e st mm args below meth cc Q C _ _
      exact pre _ p e st mm args below meth cc Q C (qm_step (sM_reckon E) C 158 9999 100 ([1, 1, 1, 0, 1], [], []) ⟨q5, q10, q15, q20, a90, w1, rfl, rfl⟩)
  have q20 : (20 : Int32) ≤ nI o := (lo 20 (by decide)).mpr (by omega)
  by_cases g27 : o < 27
  · have q27 : ¬ (27 : Int32) ≤ nI o := fun w => by have := (lo 27 (by decide)).mp w; omega
    have hoo : o = 20 ∨ o = 21 ∨ o = 22 ∨ o = 23 ∨ o = 24 ∨ o = 25 ∨ o = 26 := by omega
    have ar1 : nI o = 22 ∨ nI o = 23 → 1 < arN o := by
      rcases hoo with rfl | rfl | rfl | rfl | rfl | rfl | rfl
      · intro w; rcases w with w | w <;> exact absurd w (by decide)
      · intro w; rcases w with w | w <;> exact absurd w (by decide)
      · intro _; decide
      · intro _; decide
      · intro w; rcases w with w | w <;> exact absurd w (by decide)
      · intro w; rcases w with w | w <;> exact absurd w (by decide)
      · intro w; rcases w with w | w <;> exact absurd w (by decide)
    have ar2 : nI o = 22 → 2 < arN o := by
      rcases hoo with rfl | rfl | rfl | rfl | rfl | rfl | rfl
      · intro w; exact absurd w (by decide)
      · intro w; exact absurd w (by decide)
      · intro _; decide
      · intro w; exact absurd w (by decide)
      · intro w; exact absurd w (by decide)
      · intro w; exact absurd w (by decide)
      · intro w; exact absurd w (by decide)
    have hop : nI o = 20 ∨ nI o = 21 ∨ nI o = 22 ∨ nI o = 23 ∨ nI o = 24 ∨ nI o = 25 ∨ nI o = 26 := by
      rcases hoo with rfl | rfl | rfl | rfl | rfl | rfl | rfl
      · exact Or.inl rfl
      · exact Or.inr (Or.inl rfl)
      · exact Or.inr (Or.inr (Or.inl rfl))
      · exact Or.inr (Or.inr (Or.inr (Or.inl rfl)))
      · exact Or.inr (Or.inr (Or.inr (Or.inr (Or.inl rfl))))
      · exact Or.inr (Or.inr (Or.inr (Or.inr (Or.inr (Or.inl rfl)))))
      · exact Or.inr (Or.inr (Or.inr (Or.inr (Or.inr (Or.inr rfl)))))
    have eV : ∀ Y' Z', (nI o = 22 ∨ nI o = 23 → Y' = Y) → (nI o = 22 → Z' = Z) → opV (nI o) (mVA m (J a)) Y Z (mgv m (J a)) = opV (nI o) (mVA m (J a)) Y' Z' (mgv m (J a)) := by
      intro Y' Z' hY' hZ'
      rcases hop with w | w | w | w | w | w | w
      · rw [w, opV_20 (mVA m (J a)) Y Z Y' Z']
      · rw [w, opV_c (Or.inl rfl), opV_c (Or.inl rfl), aCas_1 (Or.inl rfl) (mVA m (J a)) Y Z Y' Z']
      · rw [hY' (Or.inl w), hZ' w]
      · rw [hY' (Or.inr w), w, opV_c (Or.inr (Or.inr (Or.inl rfl))), opV_c (Or.inr (Or.inr (Or.inl rfl))), aCas_23 (mVA m (J a)) Y Z Z']
      · rw [w, opV_24 (mVA m (J a)) Y Z Y' Z']
      · rw [w, opV_c (Or.inr (Or.inr (Or.inr (Or.inl rfl)))), opV_c (Or.inr (Or.inr (Or.inr (Or.inl rfl)))), aCas_1 (Or.inr (Or.inl rfl)) (mVA m (J a)) Y Z Y' Z']
      · rw [w, opV_c (Or.inr (Or.inr (Or.inr (Or.inr rfl)))), opV_c (Or.inr (Or.inr (Or.inr (Or.inr rfl)))), aCas_1 (Or.inr (Or.inr rfl)) (mVA m (J a)) Y Z Y' Z']
    obtain ⟨h, h1, h2, h3⟩ := xM_others E M x (nI o) a b c x90 va.1 (fun w => (B (ar1 w)).1) (fun w => (D (ar2 w)).1) hax (fun w => (B (ar1 w)).2.1) (fun w => (D (ar2 w)).2.1) k0 gA (fun w => (B (ar1 w)).2.2.1) (fun w => (D (ar2 w)).2.2.1) hop
    rw [vA, gvA, ← eV _ _ (fun w => (B (ar1 w)).2.2.2) (fun w => (D (ar2 w)).2.2.2)] at h3
    refine ⟨h, ?_, mFr_tr fr h2, h3⟩
    refine qm_meth (mOk E) (by decide) rfl rfl (Nat.le_of_ble_eq_true rfl) ?_
    intro p e st mm args below meth cc Q C _ _
    exact pre _ p e st mm args below meth cc Q C (qm_step (sM_reckon E) C 158 9999 100 ([1, 1, 1, 1, 0], [], [(none, h)]) ⟨q5, q10, q15, q20, q27, h1, rfl, rfl⟩)
  · have q27 : (27 : Int32) ≤ nI o := (lo 27 (by decide)).mpr (by omega)
    have hoo : o = 27 ∨ o = 28 ∨ o = 29 := by omega
    have ar : 1 < arN o := by rcases hoo with rfl | rfl | rfl <;> decide
    obtain ⟨b90, hbx, gB, vB⟩ := B ar
    have ar2 : ¬ nI o = 27 → 2 < arN o := by
      rcases hoo with rfl | rfl | rfl
      · intro w; exact absurd rfl w
      · intro _; decide
      · intro _; decide
    have hop : nI o = 27 ∨ nI o = 28 ∨ nI o = 29 := by
      rcases hoo with rfl | rfl | rfl
      · exact Or.inl rfl
      · exact Or.inr (Or.inl rfl)
      · exact Or.inr (Or.inr rfl)
    obtain ⟨h, h1, h2, h3⟩ := xM_last E M x (nI o) a b c Z x90 a90 b90 (fun w => (D (ar2 w)).1) hax hbx (fun w => (D (ar2 w)).2.1) k0 gA gB (fun w => (D (ar2 w)).2.2.1) (fun w => (D (ar2 w)).2.2.2.symm) hop (mgv m (J a))
    rw [vA, vB] at h3
    refine ⟨h, ?_, mFr_tr fr h2, h3⟩
    refine qm_meth (mOk E) (by decide) rfl rfl (Nat.le_of_ble_eq_true rfl) ?_
    intro p e st mm args below meth cc Q C _ _
    exact pre _ p e st mm args below meth cc Q C (qm_step (sM_reckon E) C 158 9999 100 ([1, 1, 1, 1, 1], [], [(none, h)]) ⟨q5, q10, q15, q20, q27, h1, rfl, rfl⟩)
