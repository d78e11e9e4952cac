/-! texts of the class are the abstract ones -/
theorem find_ext {P Q : Nat → Bool} {M N : Nat} (h : M ≤ N) (h1 : ∀ p, p < M → P p = Q p) (h2 : ∀ p, M ≤ p → p < N → Q p = false) : (List.range M).find? P = (List.range N).find? Q := by
  have e : List.range N = List.range M ++ List.range' M (N - M) := by
    rw [List.range_eq_range', List.range_eq_range']
    have := List.range'_append_1 (s := 0) (m := M) (n := N - M)
    rw [Nat.zero_add] at this
    rw [this]
    congr 1
    omega
  rw [e, List.find?_append]
  have e1 : (List.range' M (N - M)).find? Q = none := by
    rw [List.find?_eq_none]
    intro p hp
    rw [List.mem_range'_1] at hp
    rw [h2 p hp.1 (by omega)]
    decide
  have e2 : (List.range M).find? P = (List.range M).find? Q := by
    have gen : ∀ l : List Nat, (∀ p ∈ l, P p = Q p) → l.find? P = l.find? Q := by
      intro l
      induction l with
      | nil => intro _; rfl
      | cons c l ih =>
        intro hl
        rw [List.find?_cons, List.find?_cons, hl c List.mem_cons_self, ih fun p hp => hl p (List.mem_cons_of_mem _ hp)]
    exact gen _ fun p hp => h1 p (List.mem_range.mp hp)
  rw [e1, e2]
  simp
theorem hbQ_v {g : cG} {i j p : Nat} (hi : (g.1 i).1 = 3) (hj : (g.1 j).1 = 3) (oi : avOk (cVA g i)) (oj : avOk (cVA g j)) : hbQ g i (lnN g i) p j (lnN g j) = aHas (cVA g i) p (cVA g j) := by
  unfold hbQ
  by_cases h : p + lnN g j ≤ lnN g i
  · rw [decide_eq_true h, Bool.true_and]
    exact hbA_all hi hj oi oj h
  · rw [decide_eq_false h, Bool.false_and]
    unfold aHas
    rw [(cVA_tx hi oi).2.1, (cVA_tx hj oj).2.1, decide_eq_false h, Bool.false_and]
theorem fdP_v {g : cG} {i j : Nat} (hi : (g.1 i).1 = 3) (hj : (g.1 j).1 = 3) (oi : avOk (cVA g i)) (oj : avOk (cVA g j)) : fdP g i j (lnN g i) (lnN g j) = aFind (cVA g i) (cVA g j) := by
  unfold fdP aFind
  rw [(cVA_tx hi oi).2.1]
  refine find_ext (by omega) (fun p hp => hbA_all hi hj oi oj (by omega)) (fun p h1 h2 => ?_)
  unfold aHas
  rw [(cVA_tx hi oi).2.1, (cVA_tx hj oj).2.1, decide_eq_false (by omega), Bool.false_and]
theorem aFind_in {x y : AV} {q : Nat} (h : aFind x y = some q) : q + lA y ≤ lA x ∧ aHas x q y = true := by
  have := List.find?_some h
  refine ⟨?_, this⟩
  unfold aHas at this
  rw [Bool.and_eq_true] at this
  exact of_decide_eq_true this.1
theorem fdZ_v (x y : AV) : fdZ (aFind x y) = if aHas x 0 y then 1 else 0 := by
  unfold aFind
  rw [List.range_eq_range', List.range'_succ, List.find?_cons]
  cases h : aHas x 0 y
  · dsimp only
    cases h2 : (List.range' (0 + 1) (lA x)).find? fun p => aHas x p y
    · rfl
    · rename_i q
      have := List.mem_of_find?_eq_some h2
      rw [List.mem_range'_1] at this
      match q, this with
      | q + 1, _ => rfl
  · rfl
theorem trL_v {g : cG} {a b d : Nat} (ha : (g.1 a).1 = 3) (hb : (g.1 b).1 = 3) (hd : (g.1 d).1 = 3) (oa : avOk (cVA g a)) (ob : avOk (cVA g b)) (od : avOk (cVA g d)) : ∀ r q be, q + r ≤ lnN g a → trL g a (lnN g a) b (lnN g b) d (lnN g d) r q be = aTu (cVA g a) (cVA g b) (cVA g d) r q be
  | 0, _, _, _ => rfl
  | r + 1, q, be, h => by
    rw [trL_s, aTu, trL_v ha hb hd oa ob od r (q + 1) be (by omega), trL_v ha hb hd oa ob od r (q + 1) (q + lnN g b) (by omega), hbQ_v ha hb oa ob, (cVA_tx hb ob).2.1, (cVA_tx hd od).2.2.2.1, ((cVA_tx ha oa).2.2.2.2.1 q (by omega)).1]
theorem skS_v {g : cG} {op : Int32} {i a n b k : Nat} (ha3 : (g.1 a).1 = 3) (ha : vGd g a) (hb : vGd g b) (hn : n = lnN g a) (hk : (g.1 b).1 = 3 → k = lnN g b) : cVA (skS op g i a n b k) i = aSk op (cVA g a) (cVA g b) ∧ okT (skS op g i a n b k) i := by
  subst hn
  unfold skS aSk
  rw [cVA_k]
  by_cases h3 : (g.1 b).1 = 3
  · have hk := hk h3
    subst hk
    obtain ⟨a1, a2, a3, a4, a5, a6⟩ := cVA_tx ha3 ha.1
    obtain ⟨b1, b2, b3, b4, b5, b6⟩ := cVA_tx h3 hb.1
    rw [a3, b3]
    by_cases ht : ¬ (g.1 b).1 = 3 ∨ (¬ (g.1 b).2.2.1 = 0 ∧ ¬ (g.1 b).2.2.1 = (g.1 a).2.2.1)
    · rw [if_pos ht, if_pos ht]; exact seS_v _ _
    · rw [if_neg ht, if_neg ht, fdP_v ha3 h3 ha.1 hb.1]
      by_cases h5 : op = 15
      · rw [if_pos h5, if_pos h5]; exact sTr_v _ _ _
      · rw [if_neg h5, if_neg h5]
        by_cases h6 : op = 16
        · rw [if_pos h6, if_pos h6, fdZ_v]; exact sTr_v _ _ _
        · rw [if_neg h6, if_neg h6]
          by_cases h7 : op = 17
          · rw [if_pos h7, if_pos h7]
            have e : ndB g a (lnN g a) b (lnN g b) = (decide (lA (cVA g b) ≤ lA (cVA g a)) && aHas (cVA g a) (lA (cVA g a) - lA (cVA g b)) (cVA g b)) := by
              unfold ndB
              rw [a2, b2]
              by_cases hl : lnN g b ≤ lnN g a
              · rw [hbA_all ha3 h3 ha.1 hb.1 (by omega)]
              · rw [decide_eq_false hl, Bool.false_and, Bool.false_and]
            rw [e]
            exact sTr_v _ _ _
          · rw [if_neg h7, if_neg h7]
            cases hf : aFind (cVA g a) (cVA g b) with
            | none => exact stS_0 _ _ _
            | some q =>
              have hq := (aFind_in hf).1
              rw [a2, b2] at hq
              dsimp only [spS]
              by_cases h8 : op = 18
              · rw [if_pos h8, if_pos h8, aPart_c ha3 ha.1 (by omega)]; exact stS_tx _ _ _ _
              · rw [if_neg h8, if_neg h8, aPart_c ha3 ha.1 (by omega), a2, b2]; exact stS_tx _ _ _ _
  · rw [if_pos (Or.inl h3), if_pos (Or.inl h3)]; exact seS_v _ _
theorem ptS_v {g : cG} {i a : Nat} {B D : Int64} (ha3 : (g.1 a).1 = 3) (ha : vGd g a) (h1 : -1000000000000000 ≤ B.toInt) (h2 : B.toInt ≤ 1000000000000000) (h3 : -1000000000000000 ≤ D.toInt) (h4 : D.toInt ≤ 1000000000000000) : cVA (ptS g i a (lnN g a) B D) i = aTx (g.1 a).2.2.1 (aPt (cVA g a) B D) ∧ okT (ptS g i a (lnN g a) B D) i := by
  obtain ⟨a1, a2, a3, a4, a5, a6⟩ := cVA_tx ha3 ha.1
  have eB := ptB_in h1 h2
  have eE := ptE_in (n := lnN g a) a1 h1 h2 h3 h4
  unfold ptS aPt
  rw [a2]
  by_cases h : ptE B D (lnN g a) ≤ ptB B
  · have h' := Int64.le_iff_toInt_le.mp h
    rw [eB, eE] at h'
    rw [if_pos h, if_pos h']
    exact stS_0 _ _ _
  · have h' : ¬ min ((lnN g a : Nat) : Int) (B.toInt - 1 + D.toInt) ≤ max B.toInt 1 - 1 := by
      rw [← eB, ← eE]
      exact fun q => h (Int64.le_iff_toInt_le.mpr q)
    rw [if_neg h, if_neg h', eB, eE, aPart_c ha3 ha.1 (by omega)]
    exact stS_tx _ _ _ _
theorem cVA_wh {g : cG} {j : Nat} (h : (g.1 j).1 = 2) (ok : vGd g j) : (cVA g j).2.1 = (g.1 j).2.1 ∧ -1000000000000000 ≤ (g.1 j).2.1.toInt ∧ (g.1 j).2.1.toInt ≤ 1000000000000000 :=
  ⟨cVA_am (by rw [h]; decide) (by rw [h]; decide), (vGd_ok ok).2 h⟩
theorem txS_v {g : cG} {op : Int32} {i a n b k d m : Nat} (ha : vGd g a) (hb : vGd g b) (hd : vGd g d) (hn : (g.1 a).1 = 3 → n = lnN g a) (hk : (g.1 b).1 = 3 → k = lnN g b) (hm : (g.1 d).1 = 3 → m = lnN g d) : cVA (txS op g i a n b k d m) i = aTxs op (cVA g a) (cVA g b) (cVA g d) ∧ okT (txS op g i a n b k d m) i := by
  unfold txS aTxs
  rw [cVA_k, cVA_k, cVA_k]
  by_cases h3 : (g.1 a).1 = 3
  · have hn := hn h3
    subst hn
    obtain ⟨a1, a2, a3, a4, a5, a6⟩ := cVA_tx h3 ha.1
    rw [if_neg (show ¬ ¬ (g.1 a).1 = 3 from fun q => q h3), if_neg (show ¬ ¬ (g.1 a).1 = 3 from fun q => q h3)]
    rw [a2, a3, a4]
    by_cases h : op = 10
    · rw [if_pos h, if_pos h, vGd_len ha h3, nI_l (by omega)]; exact swS_v _ _ _
    rw [if_neg h, if_neg h]
    clear h
    by_cases h : op = 11
    · rw [if_pos h, if_pos h]
      by_cases h2 : ¬ (g.1 b).1 = 2 ∨ ¬ (g.1 d).1 = 2
      · rw [if_pos h2, if_pos h2]; exact seS_v _ _
      · rw [if_neg h2, if_neg h2]
        have h' := not_or.mp h2
        obtain ⟨w1, w2, w3⟩ := cVA_wh (Classical.not_not.mp h'.1) hb
        obtain ⟨v1, v2, v3⟩ := cVA_wh (Classical.not_not.mp h'.2) hd
        rw [w1, v1]
        exact ptS_v h3 ha w2 w3 v2 v3
    rw [if_neg h, if_neg h]
    clear h
    by_cases h : op = 12
    · rw [if_pos h, if_pos h]; exact stS_tx _ _ _ _
    rw [if_neg h, if_neg h]
    clear h
    by_cases h : op = 13
    · rw [if_pos h, if_pos h]; exact stS_tx _ _ _ _
    rw [if_neg h, if_neg h]
    clear h
    by_cases h : op = 14
    · rw [if_pos h, if_pos h]
      by_cases h2 : (g.1 b).1 = 3
      · rw [if_pos h2, if_pos h2, (cVA_tx h2 hb.1).2.2.1, (cVA_tx h2 hb.1).2.2.2.1, ← hk h2]
        exact stS_2 _ _ _ _ _
      · rw [if_neg h2, if_neg h2]; exact seS_v _ _
    rw [if_neg h, if_neg h]
    clear h
    by_cases h : op = 20
    · rw [if_pos h, if_pos h]
      unfold tlS
      split
      · exact stS_0 _ _ _
      · exact stS_1 _ _ _ _
    rw [if_neg h, if_neg h]
    clear h
    by_cases h : op = 28
    · rw [if_pos h, if_pos h]
      unfold tuS
      have e : (¬ ((g.1 b).1 = 3 ∧ (g.1 b).2.2.1 = 0) ∨ ¬ ((g.1 d).1 = 3 ∧ (g.1 d).2.2.1 = 0) ∨ k = 0) ↔ (¬ ((g.1 b).1 = 3 ∧ (cVA g b).2.2.1 = 0) ∨ ¬ ((g.1 d).1 = 3 ∧ (cVA g d).2.2.1 = 0) ∨ lA (cVA g b) = 0) := by
        by_cases hb3 : (g.1 b).1 = 3
        · rw [(cVA_tx hb3 hb.1).2.2.1, (cVA_tx hb3 hb.1).2.1, hk hb3]
          by_cases hd3 : (g.1 d).1 = 3
          · rw [(cVA_tx hd3 hd.1).2.2.1]
          · simp [hd3]
        · simp [hb3]
      by_cases h2 : ¬ ((g.1 b).1 = 3 ∧ (g.1 b).2.2.1 = 0) ∨ ¬ ((g.1 d).1 = 3 ∧ (g.1 d).2.2.1 = 0) ∨ k = 0
      · rw [if_pos h2, if_pos (e.mp h2)]; exact seS_v _ _
      · rw [if_neg h2, if_neg (fun q => h2 (e.mpr q))]
        have q1 := not_or.mp h2
        have q2 := not_or.mp q1.2
        have hb3 := (Classical.not_not.mp q1.1).1
        have hd3 := (Classical.not_not.mp q2.1).1
        rw [hk hb3, hm hd3, trL_v h3 hb3 hd3 ha.1 hb.1 hd.1 _ _ _ (by omega)]
        exact stS_tx _ _ _ _
    rw [if_neg h, if_neg h]
    exact skS_v h3 ha hb rfl hk
  · rw [if_pos h3, if_pos h3]; exact seS_v _ _
