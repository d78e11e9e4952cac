/-! copying and saying -/
def cpB (m : mG) (a e : Nat) : Nat → mG
  | 0 => m
  | k + 1 => mbW (cpB m a e k) 1 (24 * e + k) (mb (cpB m a e k) (24 * a + k))
def cpM (m : mG) (a e : Nat) : mG := cpB (miW (mlW (miW m 4 e (mk m a)) 1 e (mn m a)) 5 e (mtg m a)) a e 24
theorem cpB_fr (m : mG) (a e : Nat) : ∀ k, k ≤ 24 → mFr e m (cpB m a e k)
  | 0, _ => mFr_rfl _ _
  | k + 1, h => mFr_tr (cpB_fr m a e k (by omega)) (mFr_b _ _ _ (by omega) _)
theorem cpB_i (m : mG) (a e : Nat) : ∀ k, (cpB m a e k).2.1 = m.2.1 ∧ (cpB m a e k).2.2.2 = m.2.2.2
  | 0 => ⟨rfl, rfl⟩
  | k + 1 => cpB_i m a e k
theorem cpB_b (m : mG) {a e : Nat} (h : a ≠ e) : ∀ k, k ≤ 24 → ∀ q, q < k → mb (cpB m a e k) (24 * e + q) = b8 (mb m (24 * a + q))
  | 0, _, q, hq => by omega
  | k + 1, hk, q, hq => by
    show (mbW _ 1 (24 * e + k) _).2.2.1 1 _ = _
    rw [rB]
    by_cases hqk : q = k
    · subst hqk
      rw [if_pos ⟨rfl, rfl⟩]
      congr 1
      exact (cpB_fr m a e q (by omega)).2.2.1 1 _ (Or.inr (by omega))
    · rw [if_neg (by omega)]
      exact cpB_b m h k (by omega) q (by omega)
theorem cpM_fr (m : mG) (a e : Nat) : mFr e m (cpM m a e) := mFr_tr (mFr_tr (mFr_k _ _ _) (mFr_tr (mFr_n _ _ _) (mFr_t _ _ _))) (cpB_fr _ _ _ 24 (by omega))
theorem xM_copy (E : mEnv) (m : mG) (x y : Int32) (hx : vp_in x 90) (hy : vp_in y 90) (hxy : J x ≠ J y) : mSd E mM_copy [qR 0 0, qI x, qI y] m none (cpM m (J x) (J y)) := by
  refine qm_meth (mOk E) (by decide) rfl rfl (Nat.le_of_ble_eq_true rfl) ?_
  intro p e st mm args below meth c Q C _ _
  obtain ⟨m1, hm1⟩ : ∃ m1, m1 = miW (mlW (miW m 4 (J y) (mk m (J x))) 1 (J y) (mn m (J x))) 5 (J y) (mtg m (J x)) := ⟨_, rfl⟩
  have loop : ∀ (k a : Nat) (w : Int32), a + k = 24 → w = nI a → qm_W (mLa E.2.2.2) mV (mHold E) (mA E.2.2.2) 4 p E.1 e (rmL 1) st mm args below meth c Q 38 ([some (qR 0 0), some (qI x), some (qI y), some (qI w)], [], cpB m1 (J x) (J y) a) := by
    intro k
    induction k with
    | zero =>
      intro a w ha hw
      subst hw
      have ha : a = 24 := by omega
      subst ha
      have hc : (24 : Int32) ≤ nI 24 := by decide
      have fin : cpB m1 (J x) (J y) 24 = cpM m (J x) (J y) := by rw [hm1]; rfl
      exact qm_step (sM_copy E) C 38 9999 100 ([1], [], []) ⟨hc, rfl, fin⟩
    | succ k ih =>
      intro a w ha hw
      subst hw
      have hc : ¬ (24 : Int32) ≤ nI a := nI_ge (b := 24) (by omega) (by decide)
      obtain ⟨x1, x2, x3⟩ := x24 (k := a) hx (by omega)
      obtain ⟨y1, y2, y3⟩ := x24 (k := a) hy (by omega)
      refine qm_step (sM_copy E) C 38 38 100 ([0], [], []) ⟨hc, x2, y2, ?_⟩
      have := ih (a + 1) (nI a + 1) (by omega) (nI_1 a)
      have fin : mbW (cpB m1 (J x) (J y) a) 1 (24 * y + nI a).toNatClampNeg (mb (cpB m1 (J x) (J y) a) (24 * x + nI a).toNatClampNeg) = cpB m1 (J x) (J y) (a + 1) := by rw [x3, y3]; rfl
      rw [← fin] at this
      exact this
  have e1 : mn (miW m 4 (J y) (mk m (J x))) (J x) = mn m (J x) := rfl
  have e2 : mtg (mlW (miW m 4 (J y) (mk m (J x))) 1 (J y) (mn m (J x))) (J x) = mtg m (J x) := by
    show (miW m 4 (J y) (mk m (J x))).2.1 5 (J x) = m.2.1 5 (J x)
    rw [rI, if_neg (fun q => absurd q.1 (by decide))]
  have := loop 24 0 0 rfl rfl
  have e3 : cpB m1 (J x) (J y) 0 = miW (mlW (miW m 4 (J y) (mk m (J x))) 1 (J y) (mn (miW m 4 (J y) (mk m (J x))) (J x))) 5 (J y) (mtg (mlW (miW m 4 (J y) (mk m (J x))) 1 (J y) (mn m (J x))) (J x)) := by
    rw [e2]; exact hm1
  rw [e3] at this
  exact qm_step (sM_copy E) C 0 38 100 ([], [], []) ⟨hx, hy, hx, hy, hx, hy, this⟩
theorem mIs_cp {m : mG} {a e : Nat} (h : a ≠ e) (g : mGd m a) : mIs (cpM m a e) e (mVA m a) := by
  obtain ⟨m1, hm1⟩ : ∃ m1, m1 = miW (mlW (miW m 4 e (mk m a)) 1 e (mn m a)) 5 e (mtg m a) := ⟨_, rfl⟩
  have c1 : cpM m a e = cpB m1 a e 24 := by rw [hm1]; rfl
  have f1 : mFr e m m1 := by rw [hm1]; exact mFr_tr (mFr_k _ _ _) (mFr_tr (mFr_n _ _ _) (mFr_t _ _ _))
  have k1 : mk (cpM m a e) e = mk m a := by
    rw [c1]
    show (cpB m1 a e 24).2.1 4 e = _
    rw [(cpB_i m1 a e 24).1, hm1, rI, if_neg (fun q => absurd q.1 (by decide)), rL2, rI, if_pos ⟨rfl, rfl⟩]
  have t1 : mtg (cpM m a e) e = mtg m a := by
    rw [c1]
    show (cpB m1 a e 24).2.1 5 e = _
    rw [(cpB_i m1 a e 24).1, hm1, rI, if_pos ⟨rfl, rfl⟩]
  have n1 : mn (cpM m a e) e = mn m a := by
    rw [c1]
    show (cpB m1 a e 24).2.2.2 1 e = _
    rw [(cpB_i m1 a e 24).2, hm1, rI3, rL, if_pos ⟨rfl, rfl⟩]
  refine ⟨?_, by rw [k1, n1]; exact g.2.1, by rw [k1, t1]; exact g.2.2⟩
  by_cases h0 : mk m a = 0
  · rw [mVA_0 h0, mVA_0 (by rw [k1]; exact h0)]
  · by_cases h3 : mk m a = 3
    · obtain ⟨n, hn, en⟩ := g.2.1 h3
      obtain ⟨q1, q2, q3, q4, q5, q6⟩ := mVA_tx h3 g
      rw [(mVA_3 h3 hn en).2, (mVA_3 (by rw [k1]; exact h3) hn (by rw [n1]; exact en)).2, t1]
      have : List.map (fun k => mb (cpM m a e) (24 * e + k)) (List.range' 0 n) = List.map (fun k => mb m (24 * a + k)) (List.range' 0 n) := by
        apply List.map_congr_left
        intro k hk
        rw [List.mem_range'_1] at hk
        rw [c1, cpB_b m1 h 24 (by omega) k (by omega)]
        have e5 : mb m1 (24 * a + k) = mb m (24 * a + k) := f1.2.2.1 1 _ (Or.inr (by omega))
        rw [e5]
        exact okB_8 (q4 k (by rw [(mVA_3 h3 hn en).1]; omega)).2
      rw [this]
    · rw [mVA_n h0 h3, mVA_n (by rw [k1]; exact h0) (by rw [k1]; exact h3), k1, n1]
def saS (m : mG) (j : Nat) (c : Int32) : mG := if ¬ mk m j = 3 ∨ mn m j = 24 then miW m 4 j 0 else mlW (mbW m 1 (24 * j + (mn m j).toInt.toNat) c) 1 j (mn m j + 1)
/-- a TEXT in the making, or none -/
def mTx (m : mG) (j : Nat) : Prop := mk m j = 3 → ∃ n : Nat, n ≤ 24 ∧ mn m j = lN n
theorem xM_say (E : mEnv) (m : mG) (x c : Int32) (hx : vp_in x 90) (h : mTx m (J x)) : mSd E mM_say [qR 0 0, qI x, qI c] m none (saS m (J x) c) := by
  refine qm_meth (mOk E) (by decide) rfl rfl (Nat.le_of_ble_eq_true rfl) ?_
  intro p e st mm args below meth cc Q C _ _
  unfold saS at C
  by_cases h3 : mk m (J x) = 3
  · obtain ⟨n, hn, en⟩ := h h3
    by_cases h4 : mn m (J x) = 24
    · rw [if_pos (Or.inr h4)] at C
      exact qm_step (sM_say E) C 0 9999 100 ([0, 0], [], []) ⟨hx, h3, hx, h4, hx, rfl, rfl⟩
    · rw [if_neg (by simp [h3, h4])] at C
      have hn2 : n < 24 := by
        rcases Nat.lt_or_ge n 24 with q | q
        · exact q
        · have : n = 24 := by omega
          rw [this] at en
          exact absurd en h4
      have e1 : (mn m (J x)).toInt32 = nI n := by rw [en, lN_i]
      have e2 : (mn m (J x)).toInt.toNat = n := by rw [en, lN_toInt (by omega)]; rfl
      obtain ⟨x1, x2, x3⟩ := x24 (k := n) hx hn2
      have i1 : vp_in (24 * x + (mn m (J x)).toInt32) 2160 := by rw [e1]; exact x2
      have fin : mlW (mbW m 1 (24 * x + (mn m (J x)).toInt32).toNatClampNeg c.toInt8.toInt32) 1 (J x) (mn m (J x) + 1) = mlW (mbW m 1 (24 * J x + (mn m (J x)).toInt.toNat) c) 1 (J x) (mn m (J x) + 1) := by
        rw [e1, x3, e2]
        unfold mbW
        rw [i8_8]
      exact qm_step (sM_say E) C 0 9999 100 ([0, 1], [], []) ⟨hx, h3, hx, h4, hx, i1, hx, hx, rfl, fin⟩
  · rw [if_pos (Or.inl h3)] at C
    exact qm_step (sM_say E) C 0 9999 100 ([1], [], []) ⟨hx, h3, hx, rfl, rfl⟩
theorem saS_fr {m : mG} {j : Nat} (h : mTx m j) (c : Int32) : mFr j m (saS m j c) := by
  unfold saS
  by_cases h3 : ¬ mk m j = 3 ∨ mn m j = 24
  · rw [if_pos h3]; exact mFr_k _ _ _
  · rw [if_neg h3]
    have h' := not_or.mp h3
    obtain ⟨n, hn, en⟩ := h (Classical.not_not.mp h'.1)
    have hn2 : (mn m j).toInt.toNat < 24 := by
      rw [en, lN_toInt (by omega)]
      rcases Nat.lt_or_ge n 24 with q | q
      · omega
      · have : n = 24 := by omega
        rw [this] at en
        exact absurd en h'.2
    exact mFr_tr (mFr_b _ _ _ hn2 _) (mFr_n _ _ _)
theorem saS_tx {m : mG} {j : Nat} (h : mTx m j) (c : Int32) : mTx (saS m j c) j := by
  unfold saS
  by_cases h3 : ¬ mk m j = 3 ∨ mn m j = 24
  · rw [if_pos h3]
    intro q
    have : (miW m 4 j 0).2.1 4 j = 0 := by rw [rI, if_pos ⟨rfl, rfl⟩]
    rw [show mk (miW m 4 j 0) j = 0 from this] at q
    exact absurd q (by decide)
  · rw [if_neg h3]
    have h' := not_or.mp h3
    obtain ⟨n, hn, en⟩ := h (Classical.not_not.mp h'.1)
    have hn2 : n < 24 := by
      rcases Nat.lt_or_ge n 24 with q | q
      · omega
      · have : n = 24 := by omega
        rw [this] at en
        exact absurd en h'.2
    intro _
    refine ⟨n + 1, by omega, ?_⟩
    show (mlW _ 1 j _).2.2.2 1 j = _
    rw [rL, if_pos ⟨rfl, rfl⟩, en, lN_1]
def saN (m : mG) (j : Nat) (l : List Int32) : mG := l.foldl (fun m c => saS m j c) m
theorem saN_fr (j : Nat) : ∀ (l : List Int32) {m : mG}, mTx m j → mFr j m (saN m j l) ∧ mTx (saN m j l) j
  | [], m, h => ⟨mFr_rfl _ _, h⟩
  | c :: l, m, h => by
    obtain ⟨h1, h2⟩ := saN_fr j l (saS_tx h c)
    exact ⟨mFr_tr (saS_fr h c) h1, h2⟩
theorem saN_app (m : mG) (j : Nat) (a b : List Int32) : saN m j (a ++ b) = saN (saN m j a) j b := List.foldl_append
theorem saN_0 {m : mG} {j : Nat} (h : mk m j = 0) : ∀ l : List Int32, mk (saN m j l) j = 0
  | [] => h
  | c :: l => by
    show mk (saN (saS m j c) j l) j = 0
    refine saN_0 ?_ l
    have : saS m j c = miW m 4 j 0 := by unfold saS; rw [if_pos (Or.inl (by rw [h]; decide))]
    rw [this]
    show (miW m 4 j 0).2.1 4 j = 0
    rw [rI, if_pos ⟨rfl, rfl⟩]
theorem saN_v (j : Nat) : ∀ (l : List Int32) (m : mG) (n : Nat), mk m j = 3 → n ≤ 24 → mn m j = lN n →
    (n + l.length ≤ 24 → mk (saN m j l) j = 3 ∧ mtg (saN m j l) j = mtg m j ∧ mn (saN m j l) j = lN (n + l.length) ∧ (List.range' 0 (n + l.length)).map (fun k => mb (saN m j l) (24 * j + k)) = (List.range' 0 n).map (fun k => mb m (24 * j + k)) ++ l.map b8) ∧ (24 < n + l.length → mk (saN m j l) j = 0)
  | [], m, n, h3, hn, en => by
    refine ⟨fun _ => ⟨h3, rfl, en, by simp [saN]⟩, fun h => absurd h (by simp; omega)⟩
  | c :: l, m, n, h3, hn, en => by
    by_cases h : n < 24
    · have e0 : ¬ mn m j = 24 := by
        rw [en]
        intro q
        have := (lN_eq (a := n) (b := 24) (by omega) (by decide)).mp q
        omega
      have en2 : (mn m j).toInt.toNat = n := by rw [en, lN_toInt (by omega)]; rfl
      have e1 : saS m j c = mlW (mbW m 1 (24 * j + n) c) 1 j (lN (n + 1)) := by
        unfold saS
        rw [if_neg (by simp [h3, e0]), en2, en, lN_1]
      have k1 : mk (saS m j c) j = 3 := by rw [e1]; exact h3
      have t1 : mtg (saS m j c) j = mtg m j := by rw [e1]; rfl
      have n1 : mn (saS m j c) j = lN (n + 1) := by
        rw [e1]
        show (mlW _ 1 j _).2.2.2 1 j = _
        rw [rL, if_pos ⟨rfl, rfl⟩]
      have ih := saN_v j l (saS m j c) (n + 1) k1 (by omega) n1
      have b1 : (List.range' 0 (n + 1)).map (fun k => mb (saS m j c) (24 * j + k)) = (List.range' 0 n).map (fun k => mb m (24 * j + k)) ++ [b8 c] := by
        rw [List.range'_concat, List.map_append]
        have : List.map (fun k => mb (saS m j c) (24 * j + k)) (List.range' 0 n) = List.map (fun k => mb m (24 * j + k)) (List.range' 0 n) := by
          apply List.map_congr_left
          intro k hk
          rw [List.mem_range'_1] at hk
          rw [e1]
          show (mbW m 1 (24 * j + n) c).2.2.1 1 _ = _
          rw [rB, if_neg (by omega)]
        rw [this]
        have e9 : mb (saS m j c) (24 * j + n) = b8 c := by
          rw [e1]
          show (mbW m 1 (24 * j + n) c).2.2.1 1 _ = _
          rw [rB, if_pos ⟨rfl, rfl⟩]
        simp [e9]
      rw [t1, b1] at ih
      rw [show n + (c :: l).length = n + 1 + l.length by simp; omega]
      refine ⟨fun h5 => ?_, fun h5 => ih.2 h5⟩
      obtain ⟨a1, a2, a3, a4⟩ := ih.1 h5
      exact ⟨a1, a2, a3, a4.trans (by simp)⟩
    · have hn24 : n = 24 := by omega
      have e1 : saS m j c = miW m 4 j 0 := by
        unfold saS
        rw [if_pos (Or.inr (by rw [en, hn24]; rfl))]
      have e2 : mk (saS m j c) j = 0 := by
        rw [e1]
        show (miW m 4 j 0).2.1 4 j = 0
        rw [rI, if_pos ⟨rfl, rfl⟩]
      exact ⟨fun h5 => absurd h5 (by simp; omega), fun _ => saN_0 e2 l⟩
theorem mTx_set (m : mG) (j : Nat) : mTx (setS m j 3 0) j := fun _ => ⟨0, by omega, setS_n _ _ _ _⟩
/-- a TEXT that was said, and then its tag -/
theorem mIs_sa (m : mG) (j : Nat) (l : List Int32) (t : Int32) : mIs (miW (saN (setS m j 3 0) j l) 5 j t) j (aTx t l) ∧ mFr j m (miW (saN (setS m j 3 0) j l) 5 j t) := by
  have fr := mFr_tr (mFr_set m j 3 0) (saN_fr j l (mTx_set m j)).1
  refine ⟨?_, mFr_tr fr (mFr_t _ _ _)⟩
  obtain ⟨h1, h2⟩ := saN_v j l (setS m j 3 0) 0 (setS_k _ _ _ _) (by omega) (setS_n _ _ _ _)
  have kk : mk (miW (saN (setS m j 3 0) j l) 5 j t) j = mk (saN (setS m j 3 0) j l) j := by
    show (miW _ 5 j t).2.1 4 j = _
    rw [rI, if_neg (fun q => absurd q.1 (by decide))]
  have tt : mtg (miW (saN (setS m j 3 0) j l) 5 j t) j = t := by
    show (miW _ 5 j t).2.1 5 j = _
    rw [rI, if_pos ⟨rfl, rfl⟩]
  unfold aTx
  rw [Nat.zero_add] at h1 h2
  by_cases hl : l.length ≤ 24
  · rw [if_pos hl]
    obtain ⟨a1, a2, a3, a4⟩ := h1 hl
    refine ⟨?_, fun _ => ⟨l.length, hl, a3⟩, fun _ q => absurd (kk.trans a1) q⟩
    rw [(mVA_3 (n := l.length) (kk.trans a1) hl a3).2, tt]
    show (_, _, _, List.map (fun k => mb (saN (setS m j 3 0) j l) (24 * j + k)) _) = _
    rw [a4]
    simp
  · rw [if_neg hl]
    exact mIs_0 (kk.trans (h2 (by omega)))
theorem saN_t (j : Nat) : ∀ (l : List Int32) (m : mG), (∀ i, mtg (saN m j l) i = mtg m i)
  | [], _, _ => rfl
  | c :: l, m, i => by
    show mtg (saN (saS m j c) j l) i = _
    rw [saN_t j l (saS m j c) i]
    unfold saS
    split
    · show (miW m 4 j 0).2.1 5 i = _
      rw [rI, if_neg (fun q => absurd q.1 (by decide))]
    · rfl
theorem mIs_sa0 (m : mG) (j : Nat) (l : List Int32) : mIs (saN (setS m j 3 0) j l) j (aTx 0 l) ∧ mFr j m (saN (setS m j 3 0) j l) := by
  have h := mIs_sa m j l 0
  have e : mtg (saN (setS m j 3 0) j l) j = 0 := by rw [saN_t]; exact setS_t _ _ _ _
  have e2 : miW (saN (setS m j 3 0) j l) 5 j 0 = saN (setS m j 3 0) j l := by
    generalize saN (setS m j 3 0) j l = z at e
    unfold miW
    have : va_up z.2.1 5 (upd (z.2.1 5) j 0) = z.2.1 := by
      funext a
      by_cases ha : a = 5
      · subst ha
        rw [va_up_self]
        funext i
        by_cases hi : i = j
        · subst hi; rw [upd_at]; exact e.symm
        · rw [upd_ne2 _ _ hi]
      · rw [va_up_ne _ _ ha]
    rw [this]
  rw [e2] at h
  exact h
