/-! reckon of leaves; run of the reference -/
def sVA (m : mG) (e : Nat) : AV := aVw (m.2.1 1 e) (m.2.2.2 0 e) (m.2.1 3 e) (min (m.2.2.2 0 e).toInt.toNat 24) (fun k => m.2.2.1 0 (24 * e + k))
def sGd (m : mG) (e : Nat) : Prop := avOk (sVA m e) ∧ (m.2.1 1 e = 3 → ∃ n : Nat, n ≤ 24 ∧ m.2.2.2 0 e = lN n) ∧ (¬ m.2.1 1 e = 3 → m.2.1 3 e = 0) ∧ ¬ m.2.1 1 e = 0 ∧ ¬ m.2.1 1 e = 5 ∧ ¬ m.2.1 1 e = 6
def skB (m : mG) (e : Nat) : Nat → mG
  | 0 => m
  | k + 1 => mbW (skB m e k) 1 (24 * e + k) ((skB m e k).2.2.1 0 (24 * e + k))
theorem skB_fr (m : mG) (e : Nat) : ∀ k, k ≤ 24 → mFr e m (skB m e k)
  | 0, _ => mFr_rfl _ _
  | k + 1, h => mFr_tr (skB_fr m e k (by omega)) (mFr_b _ _ _ (by omega) _)
theorem skB_i (m : mG) (e : Nat) : ∀ k, (skB m e k).2.1 = m.2.1 ∧ (skB m e k).2.2.2 = m.2.2.2
  | 0 => ⟨rfl, rfl⟩
  | k + 1 => skB_i m e k
theorem skB_b (m : mG) (e : Nat) : ∀ k, k ≤ 24 → ∀ q, q < k → mb (skB m e k) (24 * e + q) = b8 (m.2.2.1 0 (24 * e + q))
  | 0, _, q, hq => by omega
  | k + 1, hk, q, hq => by
    show (mbW _ 1 (24 * e + k) _).2.2.1 1 _ = _
    rw [rB]
    by_cases hqk : q = k
    · subst hqk
      rw [if_pos ⟨rfl, rfl⟩]
      congr 1
      exact (skB_fr m e q (by omega)).2.2.1 0 _ (Or.inl (by decide))
    · rw [if_neg (by omega)]
      exact skB_b m e k (by omega) q (by omega)
theorem x24s {x : Int32} {k : Nat} (h : vp_in x 80) (hk : k < 24) : vp_in (24 * x + nI k) 1920 := by
  obtain ⟨h1, h2⟩ := vp_J h (by decide)
  rw [(x24 (in90 h) hk).1]
  exact vp_in_nI (by omega) (by decide)
set_option maxHeartbeats 2000000 in
theorem xM_reckon_con (E : mEnv) (m : mG) (x : Int32) (hx : vp_in x 80) (h : sGd m (J x)) : mDo E mM_reckon [qR 0 0, qI x] m (J x) (sVA m (J x)) := by
  obtain ⟨s1, s2, s3, s0, s5, s6⟩ := h
  obtain ⟨M, hM⟩ : ∃ M, M = rk0 m (J x) := ⟨_, rfl⟩
  have fr : mFr (J x) m M := by rw [hM]; exact rk0_fr _ _
  have x90 := in90 hx
  have w1 : M.2.1 1 (J x) = m.2.1 1 (J x) := fr.2.1 1 _ (Or.inl ⟨by decide, by decide⟩)
  have w3 : M.2.1 3 (J x) = m.2.1 3 (J x) := fr.2.1 3 _ (Or.inl ⟨by decide, by decide⟩)
  have wS : M.2.2.2 0 (J x) = m.2.2.2 0 (J x) := fr.2.2.2 0 _ (Or.inl (by decide))
  obtain ⟨N, hN⟩ : ∃ N, N = setS M (J x) (m.2.1 1 (J x)) (m.2.2.2 0 (J x)) := ⟨_, rfl⟩
  have frN : mFr (J x) M N := by rw [hN]; exact mFr_set _ _ _ _
  have n3 : N.2.1 3 (J x) = m.2.1 3 (J x) := (frN.2.1 3 _ (Or.inl ⟨by decide, by decide⟩)).trans w3
  obtain ⟨K, hK⟩ : ∃ K, K = miW N 5 (J x) (m.2.1 3 (J x)) := ⟨_, rfl⟩
  have frK : mFr (J x) N K := by rw [hK]; exact mFr_t _ _ _
  have frA := mFr_tr fr (mFr_tr frN frK)
  have kk : mk (skB K (J x) 24) (J x) = m.2.1 1 (J x) := by
    show (skB K (J x) 24).2.1 4 (J x) = _
    rw [(skB_i K (J x) 24).1, hK, rI, if_neg (fun q => absurd q.1 (by decide)), hN]
    exact setS_k _ _ _ _
  have tt : mtg (skB K (J x) 24) (J x) = m.2.1 3 (J x) := by
    show (skB K (J x) 24).2.1 5 (J x) = _
    rw [(skB_i K (J x) 24).1, hK, rI, if_pos ⟨rfl, rfl⟩]
  have nn : mn (skB K (J x) 24) (J x) = m.2.2.2 0 (J x) := by
    show (skB K (J x) 24).2.2.2 1 (J x) = _
    rw [(skB_i K (J x) 24).2, hK, rI3, hN]
    exact setS_n _ _ _ _
  refine ⟨skB K (J x) 24, ?_, mFr_tr frA (skB_fr _ _ _ (by omega)), ?_, by rw [kk, nn]; exact s2, by rw [kk, tt]; exact fun _ => s3⟩
  · refine qm_meth (mOk E) (by decide) rfl rfl (Nat.le_of_ble_eq_true rfl) ?_
    intro p e st mm args below meth c Q C _ _
    have loop : ∀ (d k : Nat) (w : Int32), k + d = 24 → w = nI k → qm_W (mLa E.2.2.2) mV (mHold E) (mA E.2.2.2) 6 p E.1 e (rmL 111) st mm args below meth c Q 82 ([some (qR 0 0), some (qI x), some (qI w), none, none, none], [], skB K (J x) k) := by
      intro d
      induction d with
      | zero =>
        intro k w hk hw
        subst hw
        have hk : k = 24 := by omega
        subst hk
        have hc : (24 : Int32) ≤ nI 24 := by decide
        exact qm_step (sM_reckon E) C 82 9999 100 ([1], [], []) ⟨hc, rfl, rfl⟩
      | succ d ih =>
        intro k w hk hw
        subst hw
        have hc : ¬ (24 : Int32) ≤ nI k := nI_ge (b := 24) (by omega) (by decide)
        obtain ⟨y1, y2, y3⟩ := x24 (k := k) x90 (by omega)
        have y4 := x24s (k := k) hx (by omega)
        refine qm_step (sM_reckon E) C 82 82 100 ([0], [], []) ⟨hc, y4, y2, ?_⟩
        have := ih (k + 1) (nI k + 1) (by omega) (nI_1 k)
        have fin : mbW (skB K (J x) k) 1 (24 * x + nI k).toNatClampNeg ((skB K (J x) k).2.2.1 0 (24 * x + nI k).toNatClampNeg) = skB K (J x) (k + 1) := by rw [y3]; rfl
        rw [← fin] at this
        exact this
    have hs := xM_set E M x (m.2.1 1 (J x)) (m.2.2.2 0 (J x)) x90
    rw [← hN] at hs
    have c5 : ¬ M.2.1 1 (J x) = 5 := by rw [w1]; exact s5
    have c6 : ¬ M.2.1 1 (J x) = 6 := by rw [w1]; exact s6
    have l0 := loop 24 0 0 rfl rfl
    have l0 : qm_W (mLa E.2.2.2) mV (mHold E) (mA E.2.2.2) 6 p E.1 e (rmL 111) st mm args below meth c Q 82 ([some (qR 0 0), some (qI x), some (qI 0), none, none, none], [], miW N 5 (J x) (N.2.1 3 (J x))) := by
      rw [n3, ← hK]; exact l0
    have hs' : mSd E mM_set [qR 0 0, qI x, qI (M.2.1 1 (J x)), qL (M.2.2.2 0 (J x))] M none N := by rw [w1, wS]; exact hs
    rw [hM] at c5 c6 hs'
    exact qm_step (sM_reckon E) C 0 82 100 ([1, 0], [], [(none, N)]) ⟨x90, x90, hx, c5, hx, c6, hx, hx, hs', hx, x90, l0⟩
  · by_cases h3 : m.2.1 1 (J x) = 3
    · obtain ⟨n, hn, en⟩ := s2 h3
      rw [(mVA_3 (kk.trans h3) hn (nn.trans en)).2, tt]
      have e2 : sVA m (J x) = (3, lN n, m.2.1 3 (J x), (List.range' 0 n).map fun k => m.2.2.1 0 (24 * J x + k)) := by
        unfold sVA aVw
        rw [if_neg s0, if_pos h3]
        have : min (m.2.2.2 0 (J x)).toInt.toNat 24 = n := by rw [en, lN_toInt (by omega)]; omega
        rw [this]
      rw [e2]
      have : List.map (fun k => mb (skB K (J x) 24) (24 * J x + k)) (List.range' 0 n) = List.map (fun k => m.2.2.1 0 (24 * J x + k)) (List.range' 0 n) := by
        apply List.map_congr_left
        intro k hk
        rw [List.mem_range'_1] at hk
        rw [skB_b K (J x) 24 (by omega) k (by omega), show K.2.2.1 0 (24 * J x + k) = m.2.2.1 0 (24 * J x + k) from frA.2.2.1 0 _ (Or.inl (by decide))]
        apply okB_8
        have := (av_tx s1 (by rw [e2])).2.2.2
        rw [e2] at this
        exact this _ (List.mem_map.mpr ⟨k, by rw [List.mem_range'_1]; omega, rfl⟩)
      rw [this]
    · rw [mVA_n (by rw [kk]; exact s0) (by rw [kk]; exact h3), kk, nn]
      unfold sVA aVw
      rw [if_neg s0, if_neg h3]
theorem xM_reckon_var (E : mEnv) (m : mG) (x : Int32) (v : Nat) (hx : vp_in x 80) (hw : m.2.1 1 (J x) = 5) (hs : m.2.2.2 0 (J x) = lN v) (hv : v < 8) (g : mGd m (80 + v)) : mDo E mM_reckon [qR 0 0, qI x] m (J x) (mVA m (80 + v)) := by
  obtain ⟨M, hM⟩ : ∃ M, M = rk0 m (J x) := ⟨_, rfl⟩
  have fr : mFr (J x) m M := by rw [hM]; exact rk0_fr _ _
  have x90 := in90 hx
  have hx2 := (vp_J hx (by decide)).2
  have ne : 80 + v ≠ J x := by omega
  have w1 : M.2.1 1 (J x) = 5 := (fr.2.1 1 _ (Or.inl ⟨by decide, by decide⟩)).trans hw
  have wS : M.2.2.2 0 (J x) = lN v := (fr.2.2.2 0 _ (Or.inl (by decide))).trans hs
  have eJ : J (nI (80 + v)) = 80 + v := nI_clamp (by omega)
  have hc := xM_copy E M (nI (80 + v)) x (vp_in_nI (by omega) (by decide)) x90 (by rw [eJ]; exact ne)
  rw [eJ] at hc
  refine ⟨cpM M (80 + v) (J x), ?_, mFr_tr fr (cpM_fr _ _ _), ?_⟩
  · refine qm_meth (mOk E) (by decide) rfl rfl (Nat.le_of_ble_eq_true rfl) ?_
    intro p e st mm args below meth c Q C _ _
    have e8 : 80 + (M.2.2.2 0 (J x)).toInt32 = nI (80 + v) := by rw [wS, lN_i]; exact nI_add 80 v
    have hc' : mSd E mM_copy [qR 0 0, qI (80 + (M.2.2.2 0 (J x)).toInt32), qI x] M none (cpM M (80 + v) (J x)) := by rw [e8]; exact hc
    obtain ⟨K, hK⟩ : ∃ K, K = cpM M (80 + v) (J x) := ⟨_, rfl⟩
    rw [← hK] at hc' C
    rw [hM] at w1 hc'
    exact qm_step (sM_reckon E) C 0 9999 100 ([0], [], [(none, K)]) ⟨x90, x90, hx, w1, hx, hc', rfl, rfl⟩
  · have := mIs_cp (m := M) (a := 80 + v) (e := J x) ne (mFr_g fr ne g)
    rw [mFr_v fr ne] at this
    exact this
/-- frames over all values below k -/
def mFn (k : Nat) (m h : mG) : Prop := (∀ a, a < 2 → h.1 a = m.1 a) ∧ (∀ a i, (a ≠ 4 ∧ a ≠ 5) ∨ k ≤ i → h.2.1 a i = m.2.1 a i) ∧ (∀ a q, a ≠ 1 ∨ 24 * k ≤ q → h.2.2.1 a q = m.2.2.1 a q) ∧ (∀ a i, a ≠ 1 ∨ k ≤ i → h.2.2.2 a i = m.2.2.2 a i)
theorem mFn_rfl (k : Nat) (m : mG) : mFn k m m := ⟨fun _ _ => rfl, fun _ _ _ => rfl, fun _ _ _ => rfl, fun _ _ _ => rfl⟩
theorem mFn_s {k : Nat} {m h h' : mG} (a : mFn k m h) (b : mFr k h h') : mFn (k + 1) m h' := ⟨fun x hx => (b.1 x hx).trans (a.1 x hx), fun x i hx => (b.2.1 x i (by omega)).trans (a.2.1 x i (by omega)), fun x i hx => (b.2.2.1 x i (by omega)).trans (a.2.2.1 x i (by omega)), fun x i hx => (b.2.2.2 x i (by omega)).trans (a.2.2.2 x i (by omega))⟩
theorem mFn_v {k : Nat} {m h : mG} (f : mFn k m h) {j : Nat} (hj : k ≤ j) : mVA h j = mVA m j ∧ (mGd m j → mGd h j) := by
  have e1 : mk h j = mk m j := f.2.1 4 j (Or.inr hj)
  have e2 : mtg h j = mtg m j := f.2.1 5 j (Or.inr hj)
  have e3 : mn h j = mn m j := f.2.2.2 1 j (Or.inr hj)
  have e4 : mN h j = mN m j := by unfold mN; rw [e3]
  have e5 : mVA h j = mVA m j := by
    unfold mVA aVw
    rw [e1, e2, e3, e4]
    have : (fun k => mb h (24 * j + k)) = (fun k => mb m (24 * j + k)) := by
      funext q
      exact f.2.2.1 1 _ (Or.inr (by omega))
    rw [this]
  refine ⟨e5, fun g => ?_⟩
  unfold mGd
  rw [e5, e1, e2, e3]
  exact g
theorem xM_isEx (E : mEnv) (m : mG) (x : Int32) (n : Nat) (hn : n ≤ 80) (e : m.1 1 = nI n) : mSd E mM_isExpression [qR 0 0, qI x] m (some (qI (if ¬ x < 0 ∧ ¬ nI n ≤ x then 1 else 0))) m := by
  have hi := xM_in E m x.toInt64 0 (m.1 1 - 1).toInt64
  have key : (¬ x.toInt64 < 0 ∧ ¬ (m.1 1 - 1).toInt64 < x.toInt64) ↔ (¬ x < 0 ∧ ¬ nI n ≤ x) := by
    have b1 := Int32.le_toInt x
    have b2 := Int32.toInt_lt x
    have t1 : x.toInt64.toInt = x.toInt := Int32.toInt_toInt64 x
    have t0 : (0 : Int64).toInt = 0 := rfl
    have t00 : (0 : Int32).toInt = 0 := rfl
    have tn : (nI n).toInt = n := nI_toInt (by omega)
    have t2 : (m.1 1 - 1).toInt64.toInt = (n : Int) - 1 := by
      rw [Int32.toInt_toInt64, e, Int32.toInt_sub, tn]
      have : (1 : Int32).toInt = 1 := rfl
      rw [this, Int.bmod_def]
      split <;> omega
    rw [Int64.lt_iff_toInt_lt, Int64.lt_iff_toInt_lt, Int32.lt_iff_toInt_lt, Int32.le_iff_toInt_le, t1, t0, t00, tn, t2]
    omega
  have e2 : (if ¬ x.toInt64 < 0 ∧ ¬ (m.1 1 - 1).toInt64 < x.toInt64 then (1 : Int32) else 0) = (if ¬ x < 0 ∧ ¬ nI n ≤ x then 1 else 0) := by
    by_cases w : ¬ x < 0 ∧ ¬ nI n ≤ x
    · rw [if_pos w, if_pos (key.mpr w)]
    · rw [if_neg w, if_neg (fun z => w (key.mp z))]
  rw [e2] at hi
  refine qm_meth (mOk E) (by decide) rfl rfl (Nat.le_of_ble_eq_true rfl) ?_
  intro p e st mm args below meth c Q C _ _
  have z : (if ¬ x < 0 ∧ ¬ nI n ≤ x then (1 : Int32) else 0) = 0 ∨ (if ¬ x < 0 ∧ ¬ nI n ≤ x then (1 : Int32) else 0) = 1 := by
    split
    · exact Or.inr rfl
    · exact Or.inl rfl
  exact qm_step (sM_isExpression E) C 0 9999 100 ([], [], [(some (qI (if ¬ x < 0 ∧ ¬ nI n ≤ x then 1 else 0)), m)]) ⟨hi, z, rfl, rfl⟩
def mFin (m h : mG) : Prop := (∀ a, a < 2 → h.1 a = m.1 a) ∧ (∀ a i, (a ≠ 4 ∧ a ≠ 5) → h.2.1 a i = m.2.1 a i) ∧ (∀ a q, a ≠ 1 → h.2.2.1 a q = m.2.2.1 a q) ∧ (∀ a i, a ≠ 1 → h.2.2.2 a i = m.2.2.2 a i) ∧ (∀ v, v < 8 → mVA h (80 + v) = mVA m (80 + v) ∧ (mGd m (80 + v) → mGd h (80 + v)))
/-- run: value by value, as V says -/
theorem xM_run (E : mEnv) (m : mG) (k n : Nat) (hk : k < n) (hn : n ≤ 80) (e1 : m.1 1 = nI n) (V : Nat → AV) (hV : ∀ j, j ≤ k → avOk (V j)) (step : ∀ (j : Nat) (h : mG), j ≤ k → mFn j m h → (∀ i, i < j → mVA h i = V i ∧ mGd h i) → mDo E mM_reckon [qR 0 0, qI (nI j)] h j (V j)) : ∃ h, mSd E mM_run [qR 0 0, qI (nI k)] m (some (qI (V k).1)) h ∧ mFin m h ∧ mVA h 88 = V k ∧ mGd h 88 := by
  have loop : ∀ (d j : Nat) (h : mG), j + d = k + 1 → mFn j m h → (∀ i, i < j → mVA h i = V i ∧ mGd h i) → ∃ h', (mFin m h' ∧ mVA h' 88 = V k ∧ mGd h' 88) ∧ ∀ (p : Program) (e : Env) (st : State) (mm : MethodId) (args : Array Value) (below : List Frame) (meth : Method) (c : Code) (Q : State → Prop), qm_C (mLa E.2.2.2) mV (mHold E) (mA E.2.2.2) (fun r1 g1 => r1 = some (qI (V k).1) ∧ g1 = h') prog_10_method_46_code 3 yM_run.cls (wsT yM_run prog_10_method_46_code 3 (some .int)) (some .int) p st mm args below meth c Q → qm_W (mLa E.2.2.2) mV (mHold E) (mA E.2.2.2) 3 p E.1 e (rmL 112) st mm args below meth c Q 12 ([some (qR 0 0), some (qI (nI k)), some (qI (nI j))], [], h) := by
    intro d
    induction d with
    | zero =>
      intro j h hj fr hv
      have hj : j = k + 1 := by omega
      subst hj
      have eJ : J (nI k) = k := nI_clamp (by omega)
      have e88 : J (88 : Int32) = 88 := by decide
      have hc := xM_copy E h (nI k) 88 (vp_in_nI (by omega) (by decide)) (vp_in_nI (n := 88) (by omega) (by decide)) (by rw [eJ, e88]; omega)
      rw [eJ, e88] at hc
      have f2 := cpM_fr h k 88
      have is2 := mIs_cp (m := h) (a := k) (e := 88) (by omega) (hv k (by omega)).2
      rw [(hv k (by omega)).1] at is2
      refine ⟨cpM h k 88, ⟨⟨fun a ha => (f2.1 a ha).trans (fr.1 a ha), fun a i ha => (f2.2.1 a i (Or.inl ha)).trans (fr.2.1 a i (Or.inl ha)), fun a q ha => (f2.2.2.1 a q (Or.inl ha)).trans (fr.2.2.1 a q (Or.inl ha)), fun a i ha => (f2.2.2.2 a i (Or.inl ha)).trans (fr.2.2.2 a i (Or.inl ha)), fun v hv8 => ⟨(mFr_v f2 (by omega)).trans (mFn_v fr (by omega)).1, fun g => mFr_g f2 (by omega) ((mFn_v fr (by omega)).2 g)⟩⟩, is2.1, mIs_g is2 (hV k (by omega))⟩, ?_⟩
      intro p e st mm args below meth c Q C
      obtain ⟨K, hK⟩ : ∃ K, K = cpM h k 88 := ⟨_, rfl⟩
      rw [← hK] at hc C is2
      have hcnd : nI k < nI (k + 1) := nI_lt (by omega) (by omega)
      have i88 : vp_in (88 : Int32) 90 := vp_in_nI (n := 88) (by omega) (by decide)
      have fin : (some (qI (mk K (88 : Int32).toNatClampNeg)) : Option qm_v) = some (qI (V k).1) := by
        rw [show (88 : Int32).toNatClampNeg = 88 from e88, ← is2.1, mVA_k]
      exact qm_step (sM_run E) C 12 9999 100 ([1], [], [(none, K)]) ⟨hcnd, hc, i88, fin, rfl⟩
    | succ d ih =>
      intro j h hj fr hv
      obtain ⟨h1, a1, a2, a3⟩ := step j h (by omega) fr hv
      obtain ⟨h', b1, b2⟩ := ih (j + 1) h1 (by omega) (mFn_s fr a2) (by
        intro i hi
        by_cases hij : i = j
        · subst hij
          exact ⟨a3.1, mIs_g a3 (hV i (by omega))⟩
        · obtain ⟨c1, c2⟩ := hv i (by omega)
          exact ⟨(mFr_v a2 hij).trans c1, mFr_g a2 hij c2⟩)
      refine ⟨h', b1, ?_⟩
      intro p e st mm args below meth c Q C
      have hcnd : ¬ nI k < nI j := nI_nlt (by omega) (by omega)
      have nx := b2 p e st mm args below meth c Q C
      rw [← nI_1] at nx
      exact qm_step (sM_run E) C 12 12 100 ([0], [], [(none, h1)]) ⟨hcnd, a1, nx⟩
  obtain ⟨h', b1, b2⟩ := loop (k + 1) 0 m (by omega) (mFn_rfl _ _) (fun i hi => by omega)
  refine ⟨h', ?_, b1⟩
  have hx := xM_isEx E m (nI k) n hn e1
  rw [if_pos ⟨nI_pos (by omega), nI_ge hk (by omega)⟩] at hx
  refine qm_meth (mOk E) (by decide) rfl rfl (Nat.le_of_ble_eq_true rfl) ?_
  intro p e st mm args below meth c Q C _ _
  exact qm_step (sM_run E) C 0 12 100 ([1], [], [(some (qI 1), m)]) ⟨hx, by decide, b2 p e st mm args below meth c Q C⟩
theorem xM_run_bad (E : mEnv) (m : mG) (x : Int32) (n : Nat) (hn : n ≤ 80) (e1 : m.1 1 = nI n) (h : ¬ (¬ x < 0 ∧ ¬ nI n ≤ x)) : mSd E mM_run [qR 0 0, qI x] m (some (qI (-1))) m := by
  have hx := xM_isEx E m x n hn e1
  rw [if_neg h] at hx
  refine qm_meth (mOk E) (by decide) rfl rfl (Nat.le_of_ble_eq_true rfl) ?_
  intro p e st mm args below meth c Q C _ _
  exact qm_step (sM_run E) C 0 9999 100 ([0], [], [(some (qI 0), m)]) ⟨hx, rfl, rfl, rfl⟩
