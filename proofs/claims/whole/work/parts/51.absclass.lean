/-! THE CLASS'S OPERATIONS ARE THE ABSTRACT ONES -/
def vGd (g : cG) (j : Nat) : Prop := avOk (cVA g j) ∧ okT g j
theorem vGd_ok {g : cG} {j : Nat} (h : vGd g j) : vOk g j := cVA_vOk h.1 h.2
theorem vGd_len {g : cG} {j : Nat} (h : vGd g j) (h3 : (g.1 j).1 = 3) : (g.1 j).2.2.2 = nI (lnN g j) := (vOk_lnN (vGd_ok h) h3).2
theorem bA_out {x : AV} {k : Nat} (h : lA x ≤ k) : bA x k = 0 := by
  unfold bA
  rw [List.getD_eq_getElem?_getD, List.getElem?_eq_none h]
  rfl
theorem aPart_all (x : AV) : aPart x 0 (lA x) = x.2.2.2 := by
  unfold aPart bA lA
  apply List.ext_getElem?
  intro k
  rw [List.getElem?_map]
  by_cases h : k < x.2.2.2.length
  · rw [List.getElem?_range' h]
    simp [h]
  · rw [List.getElem?_eq_none (by simp; omega), List.getElem?_eq_none (by omega)]
    rfl
theorem aPart_c {g : cG} {j s m : Nat} (h : (g.1 j).1 = 3) (ok : avOk (cVA g j)) (hs : s + m ≤ lnN g j) : bsl g j s m = aPart (cVA g j) s m := by
  obtain ⟨o1, o2, o3, o4, o5, o6⟩ := cVA_tx h ok
  unfold bsl aPart
  apply List.map_congr_left
  intro k hk
  rw [List.mem_range'_1] at hk
  exact ((o5 k (by omega)).1).symm
theorem tOf_v {g : cG} {j : Nat} (h : vGd g j) : tOf (g.1 j) = aTruth (cVA g j) := by
  unfold tOf aTruth
  rw [cVA_k]
  by_cases h1 : (g.1 j).1 = 1 ∨ (g.1 j).1 = 2
  · rw [if_pos h1, if_pos h1]
    rw [cVA_am (by rcases h1 with h1 | h1 <;> rw [h1] <;> decide) (by rcases h1 with h1 | h1 <;> rw [h1] <;> decide)]
  · rw [if_neg h1, if_neg h1]
    by_cases h3 : (g.1 j).1 = 3
    · rw [if_pos h3, if_pos h3, (cVA_tx h3 h.1).2.1, vGd_len h h3]
      have := (cVA_tx h3 h.1).1
      by_cases h4 : lnN g j = 0
      · rw [if_pos h4, h4, if_pos (by decide)]
      · rw [if_neg h4, if_neg (nI_nle (by omega) (by omega))]
    · rw [if_neg h3, if_neg h3]
theorem hbA_all {g : cG} {i j p : Nat} (hi : (g.1 i).1 = 3) (hj : (g.1 j).1 = 3) (oi : avOk (cVA g i)) (oj : avOk (cVA g j)) (h : p + lnN g j ≤ lnN g i) : hbA g i p j (lnN g j) = aHas (cVA g i) p (cVA g j) := by
  obtain ⟨i1, i2, i3, i4, i5, i6⟩ := cVA_tx hi oi
  obtain ⟨j1, j2, j3, j4, j5, j6⟩ := cVA_tx hj oj
  unfold hbA aHas
  rw [i2, j2, decide_eq_true h, Bool.true_and]
  apply Bool.eq_iff_iff.mpr
  rw [List.all_eq_true, List.all_eq_true]
  constructor
  · intro q k hk
    have hk' := List.mem_range.mp hk
    rw [(i5 (p + k) (by omega)).1, (j5 k hk').1]
    exact q k hk
  · intro q k hk
    have hk' := List.mem_range.mp hk
    have := q k hk
    rw [(i5 (p + k) (by omega)).1, (j5 k hk').1] at this
    exact this
theorem bsl_eq {g : cG} {i j : Nat} (n : Nat) : bsl g i 0 n = bsl g j 0 n ↔ hbA g i 0 j n = true := by
  unfold bsl hbA
  rw [List.all_eq_true]
  constructor
  · intro h k hk
    have hk' := List.mem_range.mp hk
    have e := congrArg (fun l => l[k]?) h
    simp only [List.getElem?_map, List.getElem?_range' hk'] at e
    simp at e
    simp [e]
  · intro h
    apply List.map_congr_left
    intro k hk
    rw [List.mem_range'_1] at hk
    have := h k (List.mem_range.mpr (by omega))
    simpa using this
theorem tSame_v {g : cG} {i j n : Nat} (hi : vGd g i) (hj : vGd g j) (hn : (g.1 j).1 = 3 → n = lnN g j) : tSame g i j n = aSame (cVA g i) (cVA g j) := by
  unfold tSame aSame
  rw [cVA_k, cVA_k]
  by_cases h0 : (g.1 i).1 = 0 ∨ (g.1 j).1 = 0
  · rw [if_pos h0, if_pos h0]
  · rw [if_neg h0, if_neg h0]
    by_cases h1 : (g.1 i).1 = (g.1 j).1
    · rw [if_neg (show ¬ ¬ (g.1 i).1 = (g.1 j).1 from fun q => q h1), if_neg (show ¬ ¬ (g.1 i).1 = (g.1 j).1 from fun q => q h1)]
      by_cases h3 : (g.1 i).1 = 3
      · have h3j : (g.1 j).1 = 3 := h1 ▸ h3
        rw [if_pos h3, if_pos h3]
        obtain ⟨i1, i2, i3, i4, i5, i6⟩ := cVA_tx h3 hi.1
        obtain ⟨j1, j2, j3, j4, j5, j6⟩ := cVA_tx h3j hj.1
        rw [i3, j3, i4, j4, hn h3j, vGd_len hi h3, vGd_len hj h3j]
        have key : (nI (lnN g i) = nI (lnN g j) ∧ hbA g i 0 j (lnN g j) = true) ↔ bsl g i 0 (lnN g i) = bsl g j 0 (lnN g j) := by
          constructor
          · rintro ⟨a, b⟩
            rw [(nI_eq (by omega) (by omega)).mp a]
            exact (bsl_eq _).mpr b
          · intro a
            have b : lnN g i = lnN g j := by
              have := congrArg List.length a
              rw [bsl_len, bsl_len] at this
              exact this
            rw [b] at a ⊢
            exact ⟨rfl, (bsl_eq _).mp a⟩
        by_cases ht : (g.1 i).2.2.1 = (g.1 j).2.2.1
        · by_cases hb : bsl g i 0 (lnN g i) = bsl g j 0 (lnN g j)
          · rw [if_pos ⟨ht, key.mpr hb⟩, if_pos ⟨ht, hb⟩]
          · rw [if_neg (fun q => hb (key.mp q.2)), if_neg (fun q => hb q.2)]
        · rw [if_neg (fun q => ht q.1), if_neg (fun q => ht q.1)]
      · rw [if_neg h3, if_neg h3]
        have h0' := not_or.mp h0
        rw [cVA_am h0'.1 h3, cVA_am h0'.2 (h1 ▸ h3)]
    · rw [if_pos h1, if_pos h1]
theorem aBef_f (f h : Nat → Int32) : ∀ (a b s : Nat), (∀ k, s ≤ k → k < s + b → ¬ h k = 0 ∧ 0 < h k) →
    (match (List.range' s b).find? (fun k => !((if k < s + a then f k else 0) == (if k < s + b then h k else 0))) with | some k => decide ((if k < s + a then f k else 0) < (if k < s + b then h k else 0)) | none => false) = aBef ((List.range' s a).map f) ((List.range' s b).map h)
  | 0, 0, s, _ => rfl
  | a + 1, 0, s, _ => rfl
  | 0, b + 1, s, hp => by
    have h1 := hp s (Nat.le_refl _) (by omega)
    rw [List.range'_succ, List.find?_cons]
    have : (!((if s < s + 0 then f s else 0) == (if s < s + (b + 1) then h s else 0))) = true := by
      rw [if_neg (by omega), if_pos (by omega)]
      simp
      exact fun q => h1.1 q.symm
    rw [this]
    dsimp only
    rw [if_neg (by omega), if_pos (by omega)]
    simp [aBef]
    exact h1.2
  | a + 1, b + 1, s, hp => by
    have h1 := hp s (Nat.le_refl _) (by omega)
    have ih := aBef_f f h a b (s + 1) (fun k h2 h3 => hp k (by omega) (by omega))
    rw [show s + 1 + a = s + (a + 1) by omega, show s + 1 + b = s + (b + 1) by omega] at ih
    rw [List.range'_succ, List.find?_cons, List.range'_succ]
    rw [if_pos (show s < s + (a + 1) by omega), if_pos (show s < s + (b + 1) by omega)]
    by_cases e : f s = h s
    · have : (!(f s == h s)) = false := by simp [e]
      rw [this]
      dsimp only
      rw [ih]
      show _ = aBef (f s :: _) (h s :: _)
      rw [aBef, if_pos e]
    · have : (!(f s == h s)) = true := by simp [e]
      rw [this]
      dsimp only
      rw [if_pos (show s < s + (a + 1) by omega), if_pos (show s < s + (b + 1) by omega)]
      show _ = aBef (f s :: _) (h s :: _)
      rw [aBef, if_neg e]
theorem bfB_v {g : cG} {i j : Nat} (hi : (g.1 i).1 = 3) (hj : (g.1 j).1 = 3) (oi : avOk (cVA g i)) (oj : avOk (cVA g j)) : bfB g i (lnN g i) j (lnN g j) = aBef (cVA g i).2.2.2 (cVA g j).2.2.2 := by
  obtain ⟨i1, i2, i3, i4, i5, i6⟩ := cVA_tx hi oi
  obtain ⟨j1, j2, j3, j4, j5, j6⟩ := cVA_tx hj oj
  have := aBef_f (g.2.1 i) (g.2.1 j) (lnN g i) (lnN g j) 0 (fun k _ h => by
    have := (j5 k (by omega)).2
    exact ⟨okB_pos this, Int32.lt_of_lt_of_le (by decide) this.1⟩)
  rw [i4, j4]
  unfold bsl
  rw [← this]
  unfold bfB atV
  rw [List.range_eq_range']
  simp only [Nat.zero_add]
  generalize List.find? _ _ = o
  cases o <;> rfl
theorem tLess_v {g : cG} {i j a b : Nat} (hi : vGd g i) (hj : vGd g j) (ha : (g.1 i).1 = 3 → a = lnN g i) (hb : (g.1 j).1 = 3 → b = lnN g j) : tLess g i a j b = aLess (cVA g i) (cVA g j) := by
  unfold tLess aLess
  rw [cVA_k, cVA_k]
  by_cases h1 : (g.1 i).1 = (g.1 j).1
  · rw [if_neg (show ¬ ¬ (g.1 i).1 = (g.1 j).1 from fun q => q h1), if_neg (show ¬ ¬ (g.1 i).1 = (g.1 j).1 from fun q => q h1)]
    by_cases h2 : (g.1 i).1 = 2 ∨ (g.1 i).1 = 1
    · rw [if_pos h2, if_pos h2]
      have q0 : ¬ (g.1 i).1 = 0 := by rcases h2 with h | h <;> rw [h] <;> decide
      have q3 : ¬ (g.1 i).1 = 3 := by rcases h2 with h | h <;> rw [h] <;> decide
      rw [cVA_am q0 q3, cVA_am (h1 ▸ q0) (h1 ▸ q3)]
    · rw [if_neg h2, if_neg h2]
      by_cases h3 : (g.1 i).1 = 3
      · have h3j : (g.1 j).1 = 3 := h1 ▸ h3
        obtain ⟨i1, i2, i3, i4, i5, i6⟩ := cVA_tx h3 hi.1
        obtain ⟨j1, j2, j3, j4, j5, j6⟩ := cVA_tx h3j hj.1
        rw [i3, j3]
        rw [ha h3, hb h3j, bfB_v h3 h3j hi.1 hj.1]
      · rw [if_neg (fun q => h3 q.1), if_neg (fun q => h3 q.1)]
  · rw [if_pos h1, if_pos h1]
theorem tRk_v {g : cG} {op : Int32} {i j k a b d : Nat} (hi : vGd g i) (hj : op ≠ 0 → vGd g j) (hk : op = 29 → vGd g k) (ha : (g.1 i).1 = 3 → a = lnN g i) (hb : (g.1 j).1 = 3 → b = lnN g j) (hd : (g.1 k).1 = 3 → d = lnN g k) : tRk op g i a j b k d = aTrs op (cVA g i) (cVA g j) (cVA g k) := by
  unfold tRk aTrs
  by_cases h0 : op = 0
  · rw [if_pos h0, if_pos h0, tOf_v hi]
  · have hj := hj h0
    rw [if_neg h0, if_neg h0, tOf_v hi, tOf_v hj, tSame_v hi hj hb, tLess_v hi hj ha hb]
    by_cases h9 : op = 29
    · subst h9
      rw [tSame_v hi (hk rfl) hd]
    · simp only [if_neg h9]
theorem whS_v {g : cG} {op : Int32} {i j k : Nat} : cVA (whS op g i j k) i = aWhs op (cVA g j) (cVA g k) ∧ okT (whS op g i j k) i := by
  unfold whS aWhs
  rw [cVA_k, cVA_k]
  by_cases h : ¬ (g.1 j).1 = 2 ∨ ¬ (g.1 k).1 = 2
  · rw [if_pos h, if_pos h]; exact seS_v _ _
  · rw [if_neg h, if_neg h]
    have h' := not_or.mp h
    have h1 := Classical.not_not.mp h'.1
    have h2 := Classical.not_not.mp h'.2
    rw [cVA_am (by rw [h1]; decide) (by rw [h1]; decide), cVA_am (by rw [h2]; decide) (by rw [h2]; decide)]
    by_cases h5 : op = 5
    · rw [if_pos h5, if_pos h5]; exact swS_v _ _ _
    · rw [if_neg h5, if_neg h5]
      by_cases h6 : op = 6
      · rw [if_pos h6, if_pos h6]; exact swS_v _ _ _
      · rw [if_neg h6, if_neg h6]
        by_cases h7 : op = 7
        · rw [if_pos h7, if_pos h7]
          unfold mulS
          split
          · exact swS_v _ _ _
          · exact seS_v _ _
        · rw [if_neg h7, if_neg h7]
          unfold divS
          split
          · exact seS_v _ _
          · split
            · exact swS_v _ _ _
            · exact swS_v _ _ _
