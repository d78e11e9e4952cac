/-! THE REFERENCE'S VALUES: what it holds of value j, as abstract value; what a change of value e leaves -/
abbrev J (x : Int32) : Nat := x.toNatClampNeg
abbrev mk (m : mG) (j : Nat) : Int32 := m.2.1 4 j
abbrev mtg (m : mG) (j : Nat) : Int32 := m.2.1 5 j
abbrev mn (m : mG) (j : Nat) : Int64 := m.2.2.2 1 j
abbrev mb (m : mG) (q : Nat) : Int32 := m.2.2.1 1 q
def mN (m : mG) (j : Nat) : Nat := min (mn m j).toInt.toNat 24
def mVA (m : mG) (j : Nat) : AV := aVw (mk m j) (mn m j) (mtg m j) (mN m j) (fun k => mb m (24 * j + k))
def mGd (m : mG) (j : Nat) : Prop := avOk (mVA m j) ∧ (mk m j = 3 → ∃ n : Nat, n ≤ 24 ∧ mn m j = lN n) ∧ (¬ mk m j = 0 → ¬ mk m j = 3 → mtg m j = 0)
def mFr (e : Nat) (m h : mG) : Prop := (∀ a, a < 2 → h.1 a = m.1 a) ∧ (∀ a i, (a ≠ 4 ∧ a ≠ 5) ∨ i ≠ e → h.2.1 a i = m.2.1 a i) ∧ (∀ a q, a ≠ 1 ∨ (q < 24 * e ∨ 24 * e + 24 ≤ q) → h.2.2.1 a q = m.2.2.1 a q) ∧ (∀ a i, a ≠ 1 ∨ i ≠ e → h.2.2.2 a i = m.2.2.2 a i)
theorem mFr_rfl (e : Nat) (m : mG) : mFr e m m := ⟨fun _ _ => rfl, fun _ _ _ => rfl, fun _ _ _ => rfl, fun _ _ _ => rfl⟩
theorem mFr_tr {e : Nat} {m h k : mG} (a : mFr e m h) (b : mFr e h k) : mFr e m k := ⟨fun x hx => (b.1 x hx).trans (a.1 x hx), fun x i hx => (b.2.1 x i hx).trans (a.2.1 x i hx), fun x i hx => (b.2.2.1 x i hx).trans (a.2.2.1 x i hx), fun x i hx => (b.2.2.2 x i hx).trans (a.2.2.2 x i hx)⟩
theorem rI (m : mG) (a j : Nat) (v : Int32) (b i : Nat) : (miW m a j v).2.1 b i = if b = a ∧ i = j then v else m.2.1 b i := by
  unfold miW
  dsimp only
  by_cases hb : b = a
  · subst hb
    rw [va_up_self]
    by_cases hi : i = j
    · subst hi; rw [upd_at, if_pos ⟨rfl, rfl⟩]
    · rw [upd_ne2 _ _ hi, if_neg (fun q => hi q.2)]
  · rw [va_up_ne _ _ hb, if_neg (fun q => hb q.1)]
theorem rB (m : mG) (a j : Nat) (v : Int32) (b i : Nat) : (mbW m a j v).2.2.1 b i = if b = a ∧ i = j then b8 v else m.2.2.1 b i := by
  unfold mbW b8
  dsimp only
  by_cases hb : b = a
  · subst hb
    rw [va_up_self]
    by_cases hi : i = j
    · subst hi; rw [upd_at, if_pos ⟨rfl, rfl⟩]
    · rw [upd_ne2 _ _ hi, if_neg (fun q => hi q.2)]
  · rw [va_up_ne _ _ hb, if_neg (fun q => hb q.1)]
theorem rL (m : mG) (a j : Nat) (v : Int64) (b i : Nat) : (mlW m a j v).2.2.2 b i = if b = a ∧ i = j then v else m.2.2.2 b i := by
  unfold mlW
  dsimp only
  by_cases hb : b = a
  · subst hb
    rw [va_up_self]
    unfold vp_updL
    by_cases hi : i = j
    · subst hi; rw [if_pos rfl, if_pos ⟨rfl, rfl⟩]
    · rw [if_neg hi, if_neg (fun q => hi q.2)]
  · rw [va_up_ne _ _ hb, if_neg (fun q => hb q.1)]
theorem rI1 (m : mG) (a j : Nat) (v : Int32) : (miW m a j v).1 = m.1 := rfl
theorem rI3 (m : mG) (a j : Nat) (v : Int32) : (miW m a j v).2.2 = m.2.2 := rfl
theorem rB1 (m : mG) (a j : Nat) (v : Int32) : (mbW m a j v).1 = m.1 := rfl
theorem rB2 (m : mG) (a j : Nat) (v : Int32) : (mbW m a j v).2.1 = m.2.1 := rfl
theorem rB4 (m : mG) (a j : Nat) (v : Int32) : (mbW m a j v).2.2.2 = m.2.2.2 := rfl
theorem rL1 (m : mG) (a j : Nat) (v : Int64) : (mlW m a j v).1 = m.1 := rfl
theorem rL2 (m : mG) (a j : Nat) (v : Int64) : (mlW m a j v).2.1 = m.2.1 := rfl
theorem rL3 (m : mG) (a j : Nat) (v : Int64) : (mlW m a j v).2.2.1 = m.2.2.1 := rfl
theorem mFr_k (m : mG) (e : Nat) (v : Int32) : mFr e m (miW m 4 e v) := ⟨fun _ _ => rfl, fun a i h => by rw [rI, if_neg (by omega)], fun _ _ _ => rfl, fun _ _ _ => rfl⟩
theorem mFr_t (m : mG) (e : Nat) (v : Int32) : mFr e m (miW m 5 e v) := ⟨fun _ _ => rfl, fun a i h => by rw [rI, if_neg (by omega)], fun _ _ _ => rfl, fun _ _ _ => rfl⟩
theorem mFr_n (m : mG) (e : Nat) (v : Int64) : mFr e m (mlW m 1 e v) := ⟨fun _ _ => rfl, fun _ _ _ => rfl, fun _ _ _ => rfl, fun a i h => by rw [rL, if_neg (by omega)]⟩
theorem mFr_b (m : mG) (e k : Nat) (hk : k < 24) (v : Int32) : mFr e m (mbW m 1 (24 * e + k) v) := ⟨fun _ _ => rfl, fun _ _ _ => rfl, fun a i h => by rw [rB, if_neg (by omega)], fun _ _ _ => rfl⟩
/-- other values are as they were -/
theorem mFr_v {e : Nat} {m h : mG} (f : mFr e m h) {j : Nat} (hj : j ≠ e) : mVA h j = mVA m j := by
  have e1 : mk h j = mk m j := f.2.1 4 j (Or.inr hj)
  have e2 : mtg h j = mtg m j := f.2.1 5 j (Or.inr hj)
  have e3 : mn h j = mn m j := f.2.2.2 1 j (Or.inr hj)
  have e4 : mN h j = mN m j := by unfold mN; rw [e3]
  unfold mVA aVw
  rw [e1, e2, e3, e4]
  have e5 : List.map (fun k => mb h (24 * j + k)) (List.range' 0 (mN m j)) = List.map (fun k => mb m (24 * j + k)) (List.range' 0 (mN m j)) := by
    apply List.map_congr_left
    intro k hk
    rw [List.mem_range'_1] at hk
    have : mN m j ≤ 24 := Nat.min_le_right _ _
    exact f.2.2.1 1 _ (Or.inr (by omega))
  rw [e5]
theorem mFr_g {e : Nat} {m h : mG} (f : mFr e m h) {j : Nat} (hj : j ≠ e) (g : mGd m j) : mGd h j := by
  have e1 : mk h j = mk m j := f.2.1 4 j (Or.inr hj)
  have e2 : mtg h j = mtg m j := f.2.1 5 j (Or.inr hj)
  have e3 : mn h j = mn m j := f.2.2.2 1 j (Or.inr hj)
  unfold mGd
  rw [mFr_v f hj, e1, e2, e3]
  exact g
theorem mVA_k (m : mG) (j : Nat) : (mVA m j).1 = mk m j := by
  unfold mVA aVw
  split
  · rename_i h; rw [h]; rfl
  · split
    · rename_i h; rw [h]
    · rfl
theorem mVA_0 {m : mG} {j : Nat} (h : mk m j = 0) : mVA m j = aErr := by
  unfold mVA aVw
  rw [if_pos h]
theorem mVA_n {m : mG} {j : Nat} (h0 : ¬ mk m j = 0) (h : ¬ mk m j = 3) : mVA m j = (mk m j, mn m j, 0, []) := by
  unfold mVA aVw
  rw [if_neg h0, if_neg h]
theorem mVA_am {m : mG} {j : Nat} (h0 : ¬ mk m j = 0) (h : ¬ mk m j = 3) : (mVA m j).2.1 = mn m j := by rw [mVA_n h0 h]
theorem mVA_3 {m : mG} {j n : Nat} (h : mk m j = 3) (hn : n ≤ 24) (e : mn m j = lN n) : mN m j = n ∧ mVA m j = (3, lN n, mtg m j, (List.range' 0 n).map fun k => mb m (24 * j + k)) := by
  have e1 : mN m j = n := by
    unfold mN
    rw [e, lN_toInt (by omega)]
    omega
  refine ⟨e1, ?_⟩
  unfold mVA aVw
  rw [if_neg (by rw [h]; decide), if_pos h, e1]
theorem mVA_tx {m : mG} {j : Nat} (h : mk m j = 3) (g : mGd m j) : mN m j ≤ 24 ∧ lA (mVA m j) = mN m j ∧ (mVA m j).2.2.1 = mtg m j ∧ (∀ k, k < mN m j → bA (mVA m j) k = mb m (24 * j + k) ∧ okB (mb m (24 * j + k))) ∧ mn m j = lN (mN m j) ∧ (mn m j).toInt32 = nI (mN m j) := by
  obtain ⟨n, hn, e⟩ := g.2.1 h
  obtain ⟨e1, e2⟩ := mVA_3 h hn e
  rw [e1]
  have eL : lA (mVA m j) = n := by rw [e2]; unfold lA; simp
  have h3 : (mVA m j).1 = 3 := by rw [mVA_k]; exact h
  obtain ⟨o1, o2, o3, o4⟩ := av_tx g.1 h3
  refine ⟨hn, eL, by rw [e2], fun k hk => ?_, e, by rw [e, lN_i]⟩
  have e3 : bA (mVA m j) k = mb m (24 * j + k) := by
    unfold bA
    rw [e2]
    show (List.map _ _).getD k 0 = _
    rw [List.getD_eq_getElem?_getD, List.getElem?_map, List.getElem?_range' hk]
    simp
  exact ⟨e3, e3 ▸ bA_ok o4 (by omega)⟩
theorem nI_mul (a b : Nat) : nI a * nI b = nI (a * b) := (Int32.ofNat_mul a b).symm
theorem vp_J {x : Int32} {N : Nat} (h : vp_in x N) (hN : N < 2 ^ 31) : x = nI (J x) ∧ J x < N := by
  obtain ⟨j, hj, rfl⟩ := vp_in_of h hN
  unfold J
  rw [nI_clamp (by omega)]
  exact ⟨rfl, hj⟩
theorem x24 {x : Int32} {k : Nat} (h : vp_in x 90) (hk : k < 24) : 24 * x + nI k = nI (24 * J x + k) ∧ vp_in (24 * x + nI k) 2160 ∧ (24 * x + nI k).toNatClampNeg = 24 * J x + k := by
  obtain ⟨h1, h2⟩ := vp_J h (by decide)
  have e : 24 * x + nI k = nI (24 * J x + k) := by
    have e24 : (24 : Int32) * nI (J x) = nI (24 * J x) := nI_mul 24 (J x)
    calc 24 * x + nI k = 24 * nI (J x) + nI k := by rw [← h1]
      _ = nI (24 * J x) + nI k := by rw [e24]
      _ = _ := nI_add _ _
  exact ⟨e, by rw [e]; exact vp_in_nI (by omega) (by decide), by rw [e]; exact nI_clamp (by omega)⟩
theorem xM_in (E : mEnv) (m : mG) (v lo hi : Int64) : mSd E mM_in [qL v, qL lo, qL hi] m (some (qI (if ¬ v < lo ∧ ¬ hi < v then 1 else 0))) m := by
  refine qm_meth (mOk E) (by decide) rfl rfl (Nat.le_of_ble_eq_true rfl) ?_
  intro p e st mm args below meth c Q C _ _
  by_cases h1 : v < lo
  · rw [if_neg (fun q => q.1 h1)] at C
    exact qm_step (sM_in E) C 0 9999 100 ([1], [], []) ⟨h1, Or.inl rfl, rfl, rfl⟩
  · by_cases h2 : hi < v
    · rw [if_neg (fun q => q.2 h2)] at C
      exact qm_step (sM_in E) C 0 9999 100 ([0, 1], [], []) ⟨h1, h2, Or.inl rfl, rfl, rfl⟩
    · rw [if_pos ⟨h1, h2⟩] at C
      exact qm_step (sM_in E) C 0 9999 100 ([0, 0], [], []) ⟨h1, h2, Or.inr rfl, rfl, rfl⟩
theorem xM_length (E : mEnv) (m : mG) (x : Int32) (hx : vp_in x 90) : mSd E mM_length [qR 0 0, qI x] m (some (qI (mn m (J x)).toInt32)) m := by
  refine qm_meth (mOk E) (by decide) rfl rfl (Nat.le_of_ble_eq_true rfl) ?_
  intro p e st mm args below meth c Q C _ _
  exact qm_step (sM_length E) C 0 9999 100 ([], [], []) ⟨hx, rfl, rfl⟩
theorem xM_byteAt (E : mEnv) (m : mG) (x : Int32) (k : Nat) (hx : vp_in x 90) (hk : k < 24) : mSd E mM_byteAt [qR 0 0, qI x, qI (nI k)] m (some (qI (mb m (24 * J x + k)))) m := by
  refine qm_meth (mOk E) (by decide) rfl rfl (Nat.le_of_ble_eq_true rfl) ?_
  intro p e st mm args below meth c Q C _ _
  obtain ⟨e1, e2, e3⟩ := x24 hx hk
  have fin : (some (qI (mb m (24 * x + nI k).toNatClampNeg)) : Option qm_v) = some (qI (mb m (24 * J x + k))) := by rw [e3]
  exact qm_step (sM_byteAt E) C 0 9999 100 ([], [], []) ⟨e2, fin, rfl⟩
/-- a TEXT's length and bytes, as the reference reads them -/
theorem xM_lengthT (E : mEnv) (m : mG) (x : Int32) (hx : vp_in x 90) (h : mk m (J x) = 3) (g : mGd m (J x)) : mSd E mM_length [qR 0 0, qI x] m (some (qI (nI (lA (mVA m (J x)))))) m := by
  have := xM_length E m x hx
  rw [(mVA_tx h g).2.2.2.2.2] at this
  rw [(mVA_tx h g).2.1]
  exact this
theorem xM_byteT (E : mEnv) (m : mG) (x : Int32) (k : Nat) (hx : vp_in x 90) (h : mk m (J x) = 3) (g : mGd m (J x)) (hk : k < lA (mVA m (J x))) : mSd E mM_byteAt [qR 0 0, qI x, qI (nI k)] m (some (qI (bA (mVA m (J x)) k))) m := by
  obtain ⟨o1, o2, o3, o4, o5, o6⟩ := mVA_tx h g
  rw [(o4 k (by omega)).1]
  exact xM_byteAt E m x k hx (by omega)
def setS (m : mG) (j : Nat) (k : Int32) (n : Int64) : mG := miW (mlW (miW m 4 j k) 1 j n) 5 j 0
theorem xM_set (E : mEnv) (m : mG) (x k : Int32) (n : Int64) (hx : vp_in x 90) : mSd E mM_set [qR 0 0, qI x, qI k, qL n] m none (setS m (J x) k n) := by
  refine qm_meth (mOk E) (by decide) rfl rfl (Nat.le_of_ble_eq_true rfl) ?_
  intro p e st mm args below meth c Q C _ _
  exact qm_step (sM_set E) C 0 9999 100 ([], [], []) ⟨hx, hx, hx, rfl, rfl⟩
theorem setS_k (m : mG) (j : Nat) (k : Int32) (n : Int64) : mk (setS m j k n) j = k := by show (miW _ 5 j 0).2.1 4 j = k; rw [rI, if_neg (fun q => absurd q.1 (by decide)), rL2, rI, if_pos ⟨rfl, rfl⟩]
theorem setS_t (m : mG) (j : Nat) (k : Int32) (n : Int64) : mtg (setS m j k n) j = 0 := by show (miW _ 5 j 0).2.1 5 j = 0; rw [rI, if_pos ⟨rfl, rfl⟩]
theorem setS_n (m : mG) (j : Nat) (k : Int32) (n : Int64) : mn (setS m j k n) j = n := by show (mlW _ 1 j n).2.2.2 1 j = n; rw [rL, if_pos ⟨rfl, rfl⟩]
theorem setS_b (m : mG) (j : Nat) (k : Int32) (n : Int64) (q : Nat) : mb (setS m j k n) q = mb m q := rfl
theorem mFr_set (m : mG) (j : Nat) (k : Int32) (n : Int64) : mFr j m (setS m j k n) := mFr_tr (mFr_k _ _ _) (mFr_tr (mFr_n _ _ _) (mFr_t _ _ _))
/-- a value that is set: its abstract value, and that it is good -/
def mIs (m : mG) (j : Nat) (v : AV) : Prop := mVA m j = v ∧ (mk m j = 3 → ∃ n : Nat, n ≤ 24 ∧ mn m j = lN n) ∧ (¬ mk m j = 0 → ¬ mk m j = 3 → mtg m j = 0)
theorem mIs_g {m : mG} {j : Nat} {v : AV} (h : mIs m j v) (o : avOk v) : mGd m j := ⟨h.1 ▸ o, h.2⟩
theorem mIs_of {m : mG} {j : Nat} (h : mGd m j) : mIs m j (mVA m j) := ⟨rfl, h.2⟩
theorem mIs_0 {m : mG} {j : Nat} (h : mk m j = 0) : mIs m j aErr := ⟨mVA_0 h, fun q => by rw [h] at q; exact absurd q (by decide), fun q => absurd h q⟩
theorem mIs_set (m : mG) (j : Nat) {k : Int32} (n : Int64) (h0 : ¬ k = 0) (h3 : ¬ k = 3) : mIs (setS m j k n) j (k, n, 0, []) := by
  have e := setS_k m j k n
  refine ⟨?_, fun q => absurd (e.symm.trans q) h3, fun _ _ => setS_t _ _ _ _⟩
  rw [mVA_n (by rw [e]; exact h0) (by rw [e]; exact h3), e, setS_n]
def stT (m : mG) (j : Nat) (t : Int32) : mG := if t < 0 then miW m 4 j 0 else setS m j 1 t.toInt64
theorem xM_setTruth (E : mEnv) (m : mG) (x t : Int32) (hx : vp_in x 90) : mSd E mM_setTruth [qR 0 0, qI x, qI t] m none (stT m (J x) t) := by
  refine qm_meth (mOk E) (by decide) rfl rfl (Nat.le_of_ble_eq_true rfl) ?_
  intro p e st mm args below meth c Q C _ _
  unfold stT at C
  by_cases h : t < 0
  · rw [if_pos h] at C
    have h' : ¬ 0 ≤ t := Int32.not_le.mpr h
    exact qm_step (sM_setTruth E) C 0 9999 100 ([0], [], []) ⟨h', hx, rfl, rfl⟩
  · rw [if_neg h] at C
    have h' : 0 ≤ t := Int32.not_lt.mp h
    exact qm_step (sM_setTruth E) C 0 9999 100 ([1], [], [(none, setS m (J x) 1 t.toInt64)]) ⟨h', xM_set E m x 1 t.toInt64 hx, rfl, rfl⟩
theorem mFr_stT (m : mG) (j : Nat) (t : Int32) : mFr j m (stT m j t) := by
  unfold stT
  split
  · exact mFr_k _ _ _
  · exact mFr_set _ _ _ _
theorem mIs_tr (m : mG) (j : Nat) {t : Int32} (h : t3 t) : mIs (stT m j t) j (aTr t) := by
  unfold stT aTr
  rcases h with h | h | h
  · subst h
    rw [if_pos (by decide), if_pos rfl]
    exact mIs_0 (by show (miW m 4 j 0).2.1 4 j = 0; rw [rI, if_pos ⟨rfl, rfl⟩])
  · subst h
    rw [if_neg (by decide), if_neg (by decide)]
    exact mIs_set _ _ _ (by decide) (by decide)
  · subst h
    rw [if_neg (by decide), if_neg (by decide)]
    exact mIs_set _ _ _ (by decide) (by decide)
def swM (m : mG) (j : Nat) (v : Int64) : mG := if ¬ v < -1000000000000000 ∧ ¬ 1000000000000000 < v then setS m j 2 v else m
theorem xM_setWhole (E : mEnv) (m : mG) (x : Int32) (v : Int64) (hx : vp_in x 90) : mSd E mM_setWhole [qR 0 0, qI x, qL v] m none (swM m (J x) v) := by
  refine qm_meth (mOk E) (by decide) rfl rfl (Nat.le_of_ble_eq_true rfl) ?_
  intro p e st mm args below meth c Q C _ _
  have hin := xM_in E m v (-1000000000000000) 1000000000000000
  unfold swM at C
  by_cases h : ¬ v < -1000000000000000 ∧ ¬ 1000000000000000 < v
  · rw [if_pos h] at C hin
    exact qm_step (sM_setWhole E) C 0 9999 100 ([0], [], [(some (qI 1), m), (none, setS m (J x) 2 v)]) ⟨hin, by decide, xM_set E m x 2 v hx, rfl, rfl⟩
  · rw [if_neg h] at C hin
    exact qm_step (sM_setWhole E) C 0 9999 100 ([1], [], [(some (qI 0), m)]) ⟨hin, rfl, rfl, rfl⟩
theorem mFr_sw (m : mG) (j : Nat) (v : Int64) : mFr j m (swM m j v) := by
  unfold swM
  split
  · exact mFr_set _ _ _ _
  · exact mFr_rfl _ _
theorem mIs_wh {m : mG} {j : Nat} (v : Int64) (h : mk m j = 0) : mIs (swM m j v) j (aWh v) := by
  unfold swM aWh
  split
  · exact mIs_set _ _ _ (by decide) (by decide)
  · exact mIs_0 h
theorem xM_truth (E : mEnv) (m : mG) (x : Int32) (hx : vp_in x 90) (g : mGd m (J x)) : mSd E mM_truth [qR 0 0, qI x] m (some (qI (aTruth (mVA m (J x))))) m := by
  refine qm_meth (mOk E) (by decide) rfl rfl (Nat.le_of_ble_eq_true rfl) ?_
  intro p e st mm args below meth c Q C _ _
  unfold aTruth at C
  rw [mVA_k] at C
  by_cases h1 : mk m (J x) = 1
  · rw [if_pos (Or.inl h1), mVA_am (by rw [h1]; decide) (by rw [h1]; decide)] at C
    have h4 := av_tr g.1 (by rw [mVA_k]; exact h1)
    rw [mVA_am (by rw [h1]; decide) (by rw [h1]; decide)] at h4
    have fin : (some (qI (mn m (J x)).toInt32) : Option qm_v) = some (qI (if mn m (J x) = 0 then 0 else 1)) := by
      rcases h4 with h4 | h4 <;> rw [h4] <;> rfl
    exact qm_step (sM_truth E) C 0 9999 100 ([0], [], []) ⟨hx, h1, hx, fin, rfl⟩
  · by_cases h2 : mk m (J x) = 2
    · rw [if_pos (Or.inr h2), mVA_am (by rw [h2]; decide) (by rw [h2]; decide)] at C
      by_cases h5 : mn m (J x) = 0
      · rw [if_pos h5] at C
        exact qm_step (sM_truth E) C 0 9999 100 ([1, 0, 1], [], []) ⟨hx, h1, hx, h2, hx, h5, rfl, rfl⟩
      · rw [if_neg h5] at C
        exact qm_step (sM_truth E) C 0 9999 100 ([1, 0, 0], [], []) ⟨hx, h1, hx, h2, hx, h5, rfl, rfl⟩
    · rw [if_neg (by simp [h1, h2])] at C
      by_cases h3 : mk m (J x) = 3
      · rw [if_pos h3] at C
        obtain ⟨o1, o2, o3, o4, o5, o6⟩ := mVA_tx h3 g
        rw [o2] at C
        by_cases h5 : mN m (J x) = 0
        · rw [if_pos h5] at C
          have h6 : mn m (J x) ≤ 0 := by rw [o5, h5]; decide
          exact qm_step (sM_truth E) C 0 9999 100 ([1, 1, 0, 1], [], []) ⟨hx, h1, hx, h2, hx, h3, hx, h6, rfl, rfl⟩
        · rw [if_neg h5] at C
          have h6 : ¬ mn m (J x) ≤ 0 := by
            rw [o5]
            intro q
            exact h5 (by have := (lN_le (a := mN m (J x)) (b := 0) (by omega) (by decide)).mp q; omega)
          exact qm_step (sM_truth E) C 0 9999 100 ([1, 1, 0, 0], [], []) ⟨hx, h1, hx, h2, hx, h3, hx, h6, rfl, rfl⟩
      · rw [if_neg h3] at C
        exact qm_step (sM_truth E) C 0 9999 100 ([1, 1, 1], [], []) ⟨hx, h1, hx, h2, hx, h3, rfl, rfl⟩
