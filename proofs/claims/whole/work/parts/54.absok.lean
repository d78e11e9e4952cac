/-! what operations answer is a value as it may be -/
def t3 (t : Int32) : Prop := t = -1 ∨ t = 0 ∨ t = 1
theorem aErr_ok : avOk aErr := Or.inl rfl
theorem aTr_ok {t : Int32} (h : t3 t) : avOk (aTr t) := by
  rcases h with h | h | h
  · subst h; exact Or.inl rfl
  · subst h; exact Or.inr (Or.inl ⟨rfl, Or.inl rfl, rfl⟩)
  · subst h; exact Or.inr (Or.inl ⟨rfl, Or.inr rfl, rfl⟩)
theorem t3_ite {c : Prop} [Decidable c] {a b : Int32} (h1 : t3 a) (h2 : t3 b) : t3 (if c then a else b) := by split <;> assumption
theorem t3_0 : t3 0 := Or.inr (Or.inl rfl)
theorem t3_1 : t3 1 := Or.inr (Or.inr rfl)
theorem t3_m : t3 (-1) := Or.inl rfl
theorem t3_01 {c : Prop} [Decidable c] : t3 (if c then 1 else 0) := t3_ite t3_1 t3_0
theorem t3_10 {c : Prop} [Decidable c] : t3 (if c then 0 else 1) := t3_ite t3_0 t3_1
theorem t3_truth (x : AV) : t3 (aTruth x) := t3_ite t3_10 (t3_ite t3_10 t3_m)
theorem t3_same (x y : AV) : t3 (aSame x y) := t3_ite t3_m (t3_ite (t3_ite t3_0 t3_m) (t3_ite t3_01 t3_01))
theorem t3_less (x y : AV) : t3 (aLess x y) := t3_ite t3_m (t3_ite t3_01 (t3_ite t3_01 t3_m))
theorem t3_or (x y : Int32) : t3 (tOr x y) := t3_ite t3_1 (t3_ite t3_0 t3_m)
theorem t3_and (x y : Int32) : t3 (tAnd x y) := t3_ite t3_0 (t3_ite t3_1 t3_m)
theorem t3_not {x : Int32} (h : t3 x) : t3 (tNot x) := by
  rcases h with h | h | h <;> subst h <;> unfold tNot t3 <;> decide
theorem t3_trs (op : Int32) (x y z : AV) : t3 (aTrs op x y z) := t3_ite (t3_not (t3_truth x)) (t3_ite (t3_and _ _) (t3_ite (t3_or _ _) (t3_ite (t3_same _ _) (t3_ite (t3_less _ _) (t3_ite (t3_or _ _) t3_m)))))
theorem t3_go (x y : AV) : t3 (aGo x y) := by
  unfold aGo
  refine t3_ite ?_ t3_m
  unfold goV
  split
  · exact t3_m
  · exact t3_ite t3_10 t3_m
theorem aWh_ok (v : Int64) : avOk (aWh v) := by
  unfold aWh
  split
  · rename_i h
    refine Or.inr (Or.inr (Or.inl ⟨rfl, ?_, ?_, rfl⟩))
    · have e : (-1000000000000000 : Int64).toInt = -1000000000000000 := by decide
      have : ¬ v.toInt < (-1000000000000000 : Int64).toInt := fun q => h.1 (Int64.lt_iff_toInt_lt.mpr q)
      rw [e] at this
      show _ ≤ v.toInt
      omega
    · have e : (1000000000000000 : Int64).toInt = 1000000000000000 := by decide
      have : ¬ (1000000000000000 : Int64).toInt < v.toInt := fun q => h.2 (Int64.lt_iff_toInt_lt.mpr q)
      rw [e] at this
      show v.toInt ≤ _
      omega
  · exact aErr_ok
def tgOk (t : Int32) : Prop := ∃ n : Nat, n ≤ 26 ∧ t = nI n
theorem tgOk_0 : tgOk 0 := ⟨0, by omega, rfl⟩
theorem aTx_ok {t : Int32} {l : List Int32} (ht : tgOk t) (hl : ∀ b ∈ l, okB b) : avOk (aTx t l) := by
  unfold aTx
  split
  · rename_i h
    have e : l.map b8 = l := map_b8 hl
    refine Or.inr (Or.inr (Or.inr (Or.inl ⟨rfl, ?_, ?_, ht, ?_⟩)))
    · show lN l.length = lN (l.map b8).length
      rw [e]
    · show (l.map b8).length ≤ 24
      rw [e]; exact h
    · show ∀ b ∈ l.map b8, okB b
      rw [e]; exact hl
  · exact aErr_ok
/-- a TEXT that may be -/
theorem av_tx {x : AV} (h : avOk x) (h3 : x.1 = 3) : x.2.1 = lN (lA x) ∧ lA x ≤ 24 ∧ tgOk x.2.2.1 ∧ ∀ b ∈ x.2.2.2, okB b := by
  rcases h with o | o | o | o | o
  · rw [o] at h3; exact absurd h3 (by decide)
  · rw [o.1] at h3; exact absurd h3 (by decide)
  · rw [o.1] at h3; exact absurd h3 (by decide)
  · exact o.2
  · rw [o.1] at h3; exact absurd h3 (by decide)
theorem av_wh {x : AV} (h : avOk x) (h3 : x.1 = 2) : -1000000000000000 ≤ x.2.1.toInt ∧ x.2.1.toInt ≤ 1000000000000000 := by
  rcases h with o | o | o | o | o
  · rw [o] at h3; exact absurd h3 (by decide)
  · rw [o.1] at h3; exact absurd h3 (by decide)
  · exact ⟨o.2.1, o.2.2.1⟩
  · rw [o.1] at h3; exact absurd h3 (by decide)
  · rw [o.1] at h3; exact absurd h3 (by decide)
theorem av_tr {x : AV} (h : avOk x) (h3 : x.1 = 1) : x.2.1 = 0 ∨ x.2.1 = 1 := by
  rcases h with o | o | o | o | o
  · rw [o] at h3; exact absurd h3 (by decide)
  · exact o.2.1
  · rw [o.1] at h3; exact absurd h3 (by decide)
  · rw [o.1] at h3; exact absurd h3 (by decide)
  · rw [o.1] at h3; exact absurd h3 (by decide)
theorem av_no {x : AV} (h : avOk x) (h3 : x.1 = 4) : ∃ n : Nat, n ≤ 999 ∧ x.2.1 = lN n := by
  rcases h with o | o | o | o | o
  · rw [o] at h3; exact absurd h3 (by decide)
  · rw [o.1] at h3; exact absurd h3 (by decide)
  · rw [o.1] at h3; exact absurd h3 (by decide)
  · rw [o.1] at h3; exact absurd h3 (by decide)
  · exact o.2.1
theorem av_k {x : AV} (h : avOk x) : x.1 = 0 ∨ x.1 = 1 ∨ x.1 = 2 ∨ x.1 = 3 ∨ x.1 = 4 := by
  rcases h with o | o | o | o | o
  · rw [o]; exact Or.inl rfl
  · exact Or.inr (Or.inl o.1)
  · exact Or.inr (Or.inr (Or.inl o.1))
  · exact Or.inr (Or.inr (Or.inr (Or.inl o.1)))
  · exact Or.inr (Or.inr (Or.inr (Or.inr o.1)))
theorem bA_ok {x : AV} (h : ∀ b ∈ x.2.2.2, okB b) {k : Nat} (hk : k < lA x) : okB (bA x k) := by
  unfold bA
  rw [List.getD_eq_getElem?_getD, List.getElem?_eq_getElem hk]
  exact h _ (List.getElem_mem hk)
theorem aPart_ok {x : AV} (h : ∀ b ∈ x.2.2.2, okB b) {s m : Nat} (hs : s + m ≤ lA x) : ∀ b ∈ aPart x s m, okB b := by
  intro b hb
  obtain ⟨k, hk, rfl⟩ := List.mem_map.mp hb
  rw [List.mem_range'_1] at hk
  exact bA_ok h (by omega)
theorem okB_n {b : Int32} (h : okB b) : ∃ n : Nat, 32 ≤ n ∧ n < 127 ∧ b = nI n := by
  obtain ⟨h1, h2⟩ := h
  obtain ⟨j, hj, rfl⟩ := nI_of2 (x := b) (M := 126) (n := 126) rfl (fun q => by
    have := Int32.lt_of_lt_of_le q (show (0 : Int32) ≤ 32 by decide)
    exact Int32.lt_irrefl (Int32.lt_of_lt_of_le this h1)) h2
  refine ⟨j, ?_, by omega, rfl⟩
  have := (nI_leI (a := 32) (b := j) (by decide) (by omega)).mp h1
  exact this
theorem okB_of {n : Nat} (h1 : 32 ≤ n) (h2 : n < 127) : okB (nI n) := ⟨(nI_leI (a := 32) (by decide) (by omega)).mpr h1, (nI_leI (b := 126) (by omega) (by decide)).mpr (by omega)⟩
theorem rs1 : ∀ n, n < 127 → 32 ≤ n → (32 ≤ rsF 97 (-32) (nI n) ∧ rsF 97 (-32) (nI n) ≤ 126) ∧ (32 ≤ rsF 65 32 (nI n) ∧ rsF 65 32 (nI n) ≤ 126) := by decide +kernel
theorem tg1 : ∀ n, n ≤ 26 → ¬ n = 0 → (32 ≤ 96 + nI n ∧ 96 + nI n ≤ 126) := by decide +kernel
theorem aPt_ok {x : AV} (h : ∀ b ∈ x.2.2.2, okB b) (B D : Int64) : ∀ b ∈ aPt x B D, okB b := by
  unfold aPt
  split
  · intro b hb; cases hb
  · exact aPart_ok h (by omega)
theorem aTu_ok {x y z : AV} (hx : ∀ b ∈ x.2.2.2, okB b) (hz : ∀ b ∈ z.2.2.2, okB b) : ∀ r q be, q + r ≤ lA x → ∀ b ∈ aTu x y z r q be, okB b
  | 0, _, _, _, _, hb => by cases hb
  | r + 1, q, be, h, b, hb => by
    rw [aTu] at hb
    split at hb
    · exact aTu_ok hx hz r (q + 1) be (by omega) b hb
    · split at hb
      · rcases List.mem_append.mp hb with hb | hb
        · exact hz b hb
        · exact aTu_ok hx hz r (q + 1) _ (by omega) b hb
      · rcases List.mem_cons.mp hb with hb | hb
        · subst hb; exact bA_ok hx (by omega)
        · exact aTu_ok hx hz r (q + 1) be (by omega) b hb
theorem l_div {x y : Int64} (hx : 0 ≤ x.toInt) (hy : 0 < y.toInt) : (x / y).toInt = x.toInt / y.toInt := by
  have h2 := x.toInt_lt
  rw [Int64.toInt_div, Int.tdiv_eq_ediv_of_nonneg hx]
  have a1 : 0 ≤ x.toInt / y.toInt := Int.ediv_nonneg hx (by omega)
  have a2 : x.toInt / y.toInt ≤ x.toInt := Int.ediv_le_self _ hx
  rw [Int.bmod_def]
  omega
theorem l_mul {x y : Int64} (h1 : -9223372036854775808 ≤ x.toInt * y.toInt) (h2 : x.toInt * y.toInt < 9223372036854775808) : (x * y).toInt = x.toInt * y.toInt := by
  rw [Int64.toInt_mul, Int.bmod_def]
  omega
/-- the last digit -/
theorem dig {w : Int64} (h : 0 ≤ w.toInt) : (w - w / 10 * 10).toInt = w.toInt % 10 := by
  have h2 := w.toInt_lt
  have e10 : (10 : Int64).toInt = 10 := rfl
  have e1 := l_div (x := w) (y := 10) h (by rw [e10]; omega)
  rw [e10] at e1
  have e2 : (w / 10 * 10).toInt = w.toInt / 10 * 10 := by
    rw [l_mul] <;> rw [e1, e10] <;> omega
  rw [Int64.toInt_sub, e2, Int.bmod_def]
  omega
theorem dig_n {w : Int64} (h : 0 ≤ w.toInt) : ∃ d : Nat, d < 10 ∧ (w - w / 10 * 10).toInt32 = nI d := by
  have e := dig h
  refine ⟨(w.toInt % 10).toNat, by omega, ?_⟩
  have : w - w / 10 * 10 = lN (w.toInt % 10).toNat := l_of (by omega) (by rw [e]; omega)
  rw [this, lN_i]
theorem dL_ok : ∀ (k : Nat) (v u : Int64), 0 ≤ v.toInt → ∀ b ∈ dL k v u, okB b
  | 0, _, _, _, _, hb => by cases hb
  | k + 1, v, u, hv, b, hb => by
    rw [dL_s] at hb
    split at hb
    · cases hb
    · rename_i hu
      have hu' : 0 < u.toInt := by
        have : ¬ u.toInt ≤ (0 : Int64).toInt := fun q => hu (Int64.le_iff_toInt_le.mpr q)
        have e0 : (0 : Int64).toInt = 0 := rfl
        rw [e0] at this
        omega
      rcases List.mem_cons.mp hb with hb | hb
      · have hw : 0 ≤ (v / u).toInt := by rw [l_div hv hu']; exact Int.ediv_nonneg hv (by omega)
        obtain ⟨d, hd, e⟩ := dig_n hw
        subst hb
        rw [e]
        have e48 : (48 : Int32) + nI d = nI (48 + d) := nI_add 48 d
        rw [e48]
        exact okB_of (by omega) (by omega)
      · exact dL_ok k v _ hv b hb
theorem lAbs_n {v : Int64} (h : -1000000000000000 ≤ v.toInt ∧ v.toInt ≤ 1000000000000000) : (lAbs v).toInt = (v.toInt.natAbs : Int) ∧ 0 ≤ (lAbs v).toInt ∧ (lAbs v).toInt ≤ 1000000000000000 := by
  have key : (lAbs v).toInt = (v.toInt.natAbs : Int) := by
    unfold lAbs
    have e0 : (0 : Int64).toInt = 0 := rfl
    split
    · rename_i q
      have := Int64.lt_iff_toInt_lt.mp q
      rw [e0] at this
      omega
    · rename_i q
      have : ¬ (0 : Int64).toInt < v.toInt := fun p => q (Int64.lt_iff_toInt_lt.mpr p)
      rw [e0] at this
      rw [Int64.toInt_neg, Int.bmod_def]
      split <;> omega
  exact ⟨key, by omega, by omega⟩
theorem av_num {x : AV} (h : avOk x) (h0 : ¬ x.1 = 0) : -1000000000000000 ≤ x.2.1.toInt ∧ x.2.1.toInt ≤ 1000000000000000 := by
  rcases h with o | o | o | o | o
  · rw [o] at h0; exact absurd rfl h0
  · rcases o.2.1 with e | e <;> rw [e] <;> decide
  · exact ⟨o.2.1, o.2.2.1⟩
  · rw [o.2.1, lN_toInt (by have := o.2.2.1; omega)]
    have := o.2.2.1
    omega
  · obtain ⟨n, hn, e⟩ := o.2.1
    rw [e, lN_toInt (by omega)]
    omega
theorem aWo_ok {x : AV} (h : avOk x) (h0 : ¬ x.1 = 0) : avOk (aWo x) := by
  have hd := dL_ok 16 (lAbs x.2.1) (dU 15 (lAbs x.2.1) 1) (lAbs_n (av_num h h0)).2.1
  unfold aWo
  split
  · rename_i h3
    exact aTx_ok tgOk_0 (av_tx h h3).2.2.2
  split
  · refine aTx_ok tgOk_0 ?_
    split
    · intro b hb
      simp at hb
      rcases hb with hb | hb | hb | hb <;> subst hb <;> exact ⟨by decide, by decide⟩
    · intro b hb
      simp at hb
      rcases hb with hb | hb | hb | hb | hb <;> subst hb <;> exact ⟨by decide, by decide⟩
  split
  · refine aTx_ok tgOk_0 fun b hb => ?_
    rcases List.mem_cons.mp hb with hb | hb
    · subst hb; exact ⟨by decide, by decide⟩
    · exact hd b hb
  split
  · refine aTx_ok tgOk_0 fun b hb => ?_
    rcases List.mem_cons.mp hb with hb | hb
    · subst hb; exact ⟨by decide, by decide⟩
    · exact hd b hb
  · exact aTx_ok tgOk_0 hd
theorem aNum_ok {x : AV} : avOk (aNum x) := by
  unfold aNum
  split
  · exact aWh_ok _
  split
  · unfold aRd
    by_cases h : bA x 0 = 45
    · rw [if_pos h]
      generalize rdF (bA x) _ _ _ _ = r
      dsimp only
      split
      · exact aErr_ok
      · exact aWh_ok _
    · rw [if_neg h]
      generalize rdF (bA x) _ _ _ _ = r
      dsimp only
      split
      · exact aErr_ok
      · exact aWh_ok _
  · exact aErr_ok
theorem aSk_ok {op : Int32} {x y : AV} (hx : avOk x) (h3 : x.1 = 3) : avOk (aSk op x y) := by
  obtain ⟨x1, x2, x3, x4⟩ := av_tx hx h3
  unfold aSk
  split
  · exact aErr_ok
  split
  · refine aTr_ok ?_
    cases aFind x y
    · exact t3_0
    · exact t3_1
  split
  · exact aTr_ok t3_01
  split
  · exact aTr_ok t3_01
  · split
    · exact aTx_ok tgOk_0 (fun b hb => by cases hb)
    · rename_i q hq
      have := (aFind_in hq).1
      split
      · exact aTx_ok x3 (aPart_ok x4 (by omega))
      · exact aTx_ok x3 (aPart_ok x4 (by omega))
theorem aTxs_ok {op : Int32} {x y z : AV} (hx : avOk x) (hy : avOk y) (hz : avOk z) : avOk (aTxs op x y z) := by
  unfold aTxs
  by_cases h3 : x.1 = 3
  · rw [if_neg (show ¬ ¬ x.1 = 3 from fun q => q h3)]
    obtain ⟨x1, x2, x3, x4⟩ := av_tx hx h3
    split
    · exact aWh_ok _
    split
    · split
      · exact aErr_ok
      · exact aTx_ok x3 (aPt_ok x4 _ _)
    split
    · refine aTx_ok x3 fun b hb => ?_
      obtain ⟨c, hc, rfl⟩ := List.mem_map.mp hb
      obtain ⟨n, n1, n2, rfl⟩ := okB_n (x4 c hc)
      exact (rs1 n n2 n1).1
    split
    · refine aTx_ok x3 fun b hb => ?_
      obtain ⟨c, hc, rfl⟩ := List.mem_map.mp hb
      obtain ⟨n, n1, n2, rfl⟩ := okB_n (x4 c hc)
      exact (rs1 n n2 n1).2
    split
    · split
      · rename_i hy3
        refine aTx_ok ?_ fun b hb => ?_
        · split
          · exact x3
          · exact tgOk_0
        · rcases List.mem_append.mp hb with hb | hb
          · exact x4 b hb
          · exact (av_tx hy hy3).2.2.2 b hb
      · exact aErr_ok
    split
    · split
      · exact aTx_ok tgOk_0 (fun b hb => by cases hb)
      · rename_i ht
        refine aTx_ok tgOk_0 fun b hb => ?_
        obtain ⟨n, hn, e⟩ := x3
        rw [List.mem_singleton] at hb
        subst hb
        rw [e] at ht ⊢
        exact tg1 n hn (fun q => ht (by rw [q]; rfl))
    split
    · split
      · exact aErr_ok
      · rename_i hh
        have q1 := not_or.mp hh
        have q2 := not_or.mp q1.2
        exact aTx_ok x3 (aTu_ok x4 (av_tx hz (Classical.not_not.mp q2.1).1).2.2.2 _ _ _ (by omega))
    · exact aSk_ok hx h3
  · rw [if_pos h3]; exact aErr_ok
theorem opV_ok {op : Int32} {x y z : AV} {gv : Int32} (hx : avOk x) (hy : avOk y) (hz : avOk z) (hg : t3 gv) : avOk (opV op x y z gv) := by
  unfold opV
  split
  · exact aTr_ok hg
  split
  · exact aTr_ok (t3_go _ _)
  split
  · unfold aWhs
    split
    · exact aErr_ok
    split
    · exact aWh_ok _
    split
    · exact aWh_ok _
    split
    · split
      · exact aWh_ok _
      · exact aErr_ok
    split
    · exact aErr_ok
    split
    · exact aWh_ok _
    · exact aWh_ok _
  split
  · exact aTxs_ok hx hy hz
  split
  · unfold aCas
    split
    · split
      · exact hy
      · exact hx
    split
    · split
      · exact aErr_ok
      split
      · exact hy
      · exact hz
    split
    · exact aErr_ok
    split
    · exact aWh_ok _
    split
    · exact aNum_ok
    · rename_i h0 _ _
      exact aWo_ok hx h0
  · exact aTr_ok (t3_trs _ _ _ _)
theorem gvI_3 (g : cG) (a : Nat) : t3 (gvI g a) := t3_ite (t3_ite t3_0 t3_1) t3_m
