/-! Search: one step of reading, over what its cells stand for -/
def fit (x : Int32) : Prop := ∀ p, bt x p = true → p < 24
theorem fit_ne {x : Int32} (h : fit x) : ¬ x = -1 := by
  intro e
  subst e
  have := h 24 (bt_m1 (by omega))
  omega
theorem fit_or {x y : Int32} (h : fit x) (k : fit y) : fit (x ||| y) := fun p q => by
  rw [bt_or, Bool.or_eq_true] at q
  exact q.elim (h p) (k p)
theorem fit_and {x y : Int32} (h : fit x) : fit (x &&& y) := fun p q => by
  rw [bt_and, Bool.and_eq_true] at q
  exact h p q.1
theorem fit_0 : fit 0 := fun p q => by rw [bt_0] at q; cases q
/-- the places of bytes from lo to hi, by bits -/
theorem plF_bt (f : Nat → Int32) (lo hi : Int32) : ∀ (r k : Nat) (acc : Int32) (p : Nat), k + r ≤ 24 → (bt (plF f lo hi r k acc) p = true ↔ bt acc p = true ∨ (k ≤ p ∧ p < k + r ∧ ¬ f p < lo ∧ ¬ hi < f p))
  | 0, k, acc, p, _ => by
    show bt acc p = true ↔ _
    constructor
    · exact Or.inl
    · rintro (h | ⟨h1, h2, _⟩)
      · exact h
      · omega
  | r + 1, k, acc, p, hk => by
    rw [plF_s, plF_bt f lo hi r (k + 1) _ p (by omega)]
    by_cases h : ¬ f k < lo ∧ ¬ hi < f k
    · rw [if_pos h, bt_or, bt_one (by omega), Bool.or_eq_true, decide_eq_true_eq]
      constructor
      · rintro ((q | q) | ⟨q1, q2, q3⟩)
        · exact Or.inl q
        · subst q; exact Or.inr ⟨Nat.le_refl _, by omega, h⟩
        · exact Or.inr ⟨by omega, by omega, q3⟩
      · rintro (q | ⟨q1, q2, q3⟩)
        · exact Or.inl (Or.inl q)
        · by_cases e : p = k
          · exact Or.inl (Or.inr e)
          · exact Or.inr ⟨by omega, by omega, q3⟩
    · rw [if_neg h]
      constructor
      · rintro (q | ⟨q1, q2, q3⟩)
        · exact Or.inl q
        · exact Or.inr ⟨by omega, by omega, q3⟩
      · rintro (q | ⟨q1, q2, q3⟩)
        · exact Or.inl q
        · by_cases e : p = k
          · subst e; exact absurd q3 h
          · exact Or.inr ⟨by omega, by omega, q3⟩
theorem riT_bt (g : cG) (i tl : Nat) (h : tl ≤ 24) (lo hi : Int32) (p : Nat) : bt (riT g i tl lo hi) p = true ↔ p < tl ∧ ¬ g.2.1 i p < lo ∧ ¬ hi < g.2.1 i p := by
  unfold riT
  rw [plF_bt _ _ _ _ _ _ _ (by omega), bt_0]
  constructor
  · rintro (q | ⟨_, q1, q2⟩)
    · cases q
    · exact ⟨by omega, q2⟩
  · rintro ⟨q1, q2⟩
    exact Or.inr ⟨Nat.zero_le _, by omega, q2⟩
theorem riT_fit (g : cG) (i tl : Nat) (h : tl ≤ 24) (lo hi : Int32) : fit (riT g i tl lo hi) := fun p q => by
  have := ((riT_bt g i tl h lo hi p).mp q).1
  omega
theorem riF_fit {P : Nat → Int32} {T : Int32 → Int32 → Int32} (hT : ∀ lo hi, fit (T lo hi)) : ∀ (r q : Nat) (acc : Int32) (c : Nat), fit acc → fit (riF P T r q acc c).2.1
  | 0, q, acc, c, h => h
  | r + 1, q, acc, c, h => by
    rw [riF_s]
    split
    · exact h
    · split
      · exact riF_fit hT r _ _ _ (fit_or h (hT _ _))
      · exact h
/-- the items in brackets from q on: their places, and where they end -/
def itZ (P : Nat → Int32) (T : Int32 → Int32 → Int32) (m q : Nat) : Bool × Int32 × Nat × Nat := riF P T m (if P q = 94 then q + 1 else q) 0 0
def itG (P : Nat → Int32) (T : Int32 → Int32 → Int32) (m q : Nat) : Bool := (itZ P T m q).1 && !((itZ P T m q).2.2.2 == 0) && (P (itZ P T m q).2.2.1 == 93)
def itP (P : Nat → Int32) (T : Int32 → Int32 → Int32) (m q : Nat) : Int32 := if P q = 94 then T 32 126 &&& ((itZ P T m q).2.1 ^^^ (-1)) else (itZ P T m q).2.1
def itQ (P : Nat → Int32) (T : Int32 → Int32 → Int32) (m q : Nat) : Nat := (itZ P T m q).2.2.1 + 1
theorem itP_fit {P : Nat → Int32} {T : Int32 → Int32 → Int32} (hT : ∀ lo hi, fit (T lo hi)) (m q : Nat) : fit (itP P T m q) := by
  unfold itP
  split
  · exact fit_and (hT _ _)
  · exact riF_fit hT _ _ _ _ fit_0
/-- an atom that stands at the places pl, the place behind it q, the byte there b -/
def atT (s : aS) (pl b : Int32) (q : Nat) : aS := (s.1 + 2, s.2.1 ++ [(s.2.2.2.2.2.1, s.1, -1, 0)] ++ [(s.1, s.1 + 1, pl, 1)] ++ sgW b s.1 (s.1 + 1), s.2.2.1, s.2.2.2.1, s.2.2.2.2.1, sgC b s.1 (s.1 + 1), sgQ b q)
def stp (P : Nat → Int32) (T : Int32 → Int32 → Int32) (tl m : Nat) (s : aS) : Option aS :=
  if P s.2.2.2.2.2.2 = 40 then some (s.1 + 2, s.2.1 ++ [(s.2.2.2.2.2.1, s.1, -1, 0)], (s.2.2.2.1, s.2.2.2.2.1) :: s.2.2.1, s.1, s.1 + 1, s.1, s.2.2.2.2.2.2 + 1)
  else if P s.2.2.2.2.2.2 = 41 then (match s.2.2.1 with
    | [] => none
    | x :: st => some (s.1, s.2.1 ++ [(s.2.2.2.2.2.1, s.2.2.2.2.1, -1, 0)] ++ sgW (P (s.2.2.2.2.2.2 + 1)) s.2.2.2.1 s.2.2.2.2.1, st, x.1, x.2, sgC (P (s.2.2.2.2.2.2 + 1)) s.2.2.2.1 s.2.2.2.2.1, sgQ (P (s.2.2.2.2.2.2 + 1)) (s.2.2.2.2.2.2 + 1)))
  else if P s.2.2.2.2.2.2 = 124 then some (s.1, s.2.1 ++ [(s.2.2.2.2.2.1, s.2.2.2.2.1, -1, 0)], s.2.2.1, s.2.2.2.1, s.2.2.2.2.1, s.2.2.2.1, s.2.2.2.2.2.2 + 1)
  else if P s.2.2.2.2.2.2 = 94 then some (s.1 + 1, s.2.1 ++ [(s.2.2.2.2.2.1, s.1, 1, 0)], s.2.2.1, s.2.2.2.1, s.2.2.2.2.1, s.1, s.2.2.2.2.2.2 + 1)
  else if P s.2.2.2.2.2.2 = 36 then some (s.1 + 1, s.2.1 ++ [(s.2.2.2.2.2.1, s.1, 1 <<< (nI tl &&& 31), 0)], s.2.2.1, s.2.2.2.1, s.2.2.2.2.1, s.1, s.2.2.2.2.2.2 + 1)
  else if P s.2.2.2.2.2.2 = 46 then some (atT s (T 32 126) (P (s.2.2.2.2.2.2 + 1)) (s.2.2.2.2.2.2 + 1))
  else if P s.2.2.2.2.2.2 = 91 then (if itG P T m (s.2.2.2.2.2.2 + 1) then some (atT s (itP P T m (s.2.2.2.2.2.2 + 1)) (P (itQ P T m (s.2.2.2.2.2.2 + 1))) (itQ P T m (s.2.2.2.2.2.2 + 1))) else none)
  else if P s.2.2.2.2.2.2 = 92 then (if s.2.2.2.2.2.2 + 1 < m then some (atT s (T (P (s.2.2.2.2.2.2 + 1)) (P (s.2.2.2.2.2.2 + 1))) (P (s.2.2.2.2.2.2 + 2)) (s.2.2.2.2.2.2 + 2)) else none)
  else if P s.2.2.2.2.2.2 = 93 ∨ P s.2.2.2.2.2.2 = 42 ∨ P s.2.2.2.2.2.2 = 43 ∨ P s.2.2.2.2.2.2 = 63 then none
  else some (atT s (T (P s.2.2.2.2.2.2) (P s.2.2.2.2.2.2)) (P (s.2.2.2.2.2.2 + 1)) (s.2.2.2.2.2.2 + 1))
def wOk (n : Nat) (e : aW) : Prop := e.1 < n ∧ e.2.1 < n ∧ (e.2.2.2 = 0 ∨ (e.2.2.2 = 1 ∧ fit e.2.2.1))
def aBd (m : Nat) (s : aS) : Prop := 2 ≤ s.1 ∧ s.1 ≤ 2 * s.2.2.2.2.2.2 + 2 ∧ s.2.1.length ≤ 2 * s.2.2.2.2.2.2 ∧ s.2.2.1.length ≤ s.2.2.2.2.2.2 ∧ s.2.2.2.2.2.2 ≤ m ∧ s.2.2.2.1 < s.1 ∧ s.2.2.2.2.1 < s.1 ∧ s.2.2.2.2.2.1 < s.1 ∧ (∀ e ∈ s.2.1, wOk s.1 e) ∧ (∀ e ∈ s.2.2.1, e.1 < s.1 ∧ e.2 < s.1)
theorem wOk_mono {n k : Nat} (h : n ≤ k) {e : aW} (w : wOk n e) : wOk k e := ⟨Nat.lt_of_lt_of_le w.1 h, Nat.lt_of_lt_of_le w.2.1 h, w.2.2⟩
theorem sgW_ok {n e t : Nat} (b : Int32) (he : e < n) (ht : t < n) : ∀ x ∈ sgW b e t, wOk n x := by
  intro x hx
  unfold sgW at hx
  split at hx
  · rw [List.mem_singleton] at hx; subst hx; exact ⟨ht, he, Or.inl rfl⟩
  · split at hx
    · rw [List.mem_singleton] at hx; subst hx; exact ⟨ht, he, Or.inl rfl⟩
    · split at hx
      · rw [List.mem_singleton] at hx; subst hx; exact ⟨he, ht, Or.inl rfl⟩
      · cases hx
theorem sgC_lt {n e t : Nat} (b : Int32) (he : e < n) (ht : t < n) : sgC b e t < n := by unfold sgC; split <;> assumption
theorem sg_len (b : Int32) (e t q : Nat) : (sgW b e t).length + q = sgQ b q := by
  unfold sgW sgQ
  by_cases b1 : b = 42
  · rw [if_pos b1, if_pos (Or.inl b1), List.length_singleton]; omega
  rw [if_neg b1]
  by_cases b2 : b = 43
  · rw [if_pos b2, if_pos (Or.inr (Or.inl b2)), List.length_singleton]; omega
  rw [if_neg b2]
  by_cases b3 : b = 63
  · rw [if_pos b3, if_pos (Or.inr (Or.inr b3)), List.length_singleton]; omega
  · rw [if_neg b3, if_neg (by rintro (h | h | h) <;> contradiction), List.length_nil, Nat.zero_add]
theorem sgQ_le {P : Nat → Int32} {m q : Nat} (hP : ∀ k, m ≤ k → P k = 0) (h : q ≤ m) : sgQ (P q) q ≤ m ∧ q ≤ sgQ (P q) q := by
  unfold sgQ
  split
  · rename_i hb
    have : q < m := by
      apply Classical.byContradiction
      intro hc
      rw [hP q (by omega)] at hb
      rcases hb with h | h | h <;> exact absurd h (by decide)
    omega
  · omega
theorem atT_bd {P : Nat → Int32} {m : Nat} (hP : ∀ k, m ≤ k → P k = 0) {s : aS} (h : aBd m s) {pl : Int32} (hp : fit pl) {q : Nat} (h1 : s.2.2.2.2.2.2 < q) (h2 : q ≤ m) : aBd m (atT s pl (P q) q) ∧ s.2.2.2.2.2.2 < (atT s pl (P q) q).2.2.2.2.2.2 := by
  obtain ⟨n, W, st, f, l, c, q0⟩ := s
  obtain ⟨a0, a1, a2, a3, a4, a5, a6, a7, a8, a9⟩ := h
  dsimp only at a0 a1 a2 a3 a4 a5 a6 a7 a8 a9 h1
  obtain ⟨s1, s2⟩ := sgQ_le hP h2
  have s3 := sg_len (P q) n (n + 1) q
  unfold atT
  refine ⟨⟨?_, ?_, ?_, ?_, ?_, ?_, ?_, ?_, ?_, ?_⟩, ?_⟩ <;> dsimp only
  · omega
  · omega
  · rw [List.length_append, List.length_append, List.length_append, List.length_singleton, List.length_singleton]; omega
  · omega
  · omega
  · omega
  · omega
  · exact sgC_lt _ (by omega) (by omega)
  · intro e he
    rw [List.mem_append, List.mem_append, List.mem_append, List.mem_singleton, List.mem_singleton] at he
    rcases he with ((he | he) | he) | he
    · exact wOk_mono (by omega) (a8 e he)
    · subst he; exact ⟨by show c < n + 2; omega, by show n < n + 2; omega, Or.inl rfl⟩
    · subst he; exact ⟨by show n < n + 2; omega, by show n + 1 < n + 2; omega, Or.inr ⟨rfl, hp⟩⟩
    · exact sgW_ok _ (by omega) (by omega) e he
  · intro e he
    have := a9 e he
    omega
  · omega
theorem itQ_gt {P : Nat → Int32} {T : Int32 → Int32 → Int32} : ∀ (r q : Nat) (acc : Int32) (c : Nat), q ≤ (riF P T r q acc c).2.2.1
  | 0, q, acc, c => Nat.le_refl _
  | r + 1, q, acc, c => by
    rw [riF_s]
    split
    · exact Nat.le_refl _
    · split
      · have := itQ_gt (P := P) (T := T) r (riQ P q) (acc ||| T (P q) (riH P q)) (c + 1)
        have h2 : q ≤ riQ P q := by unfold riQ; split <;> omega
        omega
      · exact Nat.le_refl _
theorem itQ_b {P : Nat → Int32} {T : Int32 → Int32 → Int32} {m q : Nat} (hP : ∀ k, m ≤ k → P k = 0) (h : itG P T m q = true) : q < itQ P T m q ∧ itQ P T m q ≤ m := by
  unfold itG at h
  rw [Bool.and_eq_true, beq_iff_eq] at h
  have h1 : (itZ P T m q).2.2.1 < m := by
    apply Classical.byContradiction
    intro hc
    have := hP (itZ P T m q).2.2.1 (by omega)
    rw [h.2] at this
    exact absurd this (by decide)
  have h2 := itQ_gt (P := P) (T := T) m (if P q = 94 then q + 1 else q) 0 0
  have h3 : q ≤ (if P q = 94 then q + 1 else q) := by split <;> omega
  unfold itQ
  have h4 : (itZ P T m q).2.2.1 = (riF P T m (if P q = 94 then q + 1 else q) 0 0).2.2.1 := rfl
  omega
theorem stp_bd {P : Nat → Int32} {T : Int32 → Int32 → Int32} {tl m : Nat} (hP : ∀ k, m ≤ k → P k = 0) (hT : ∀ lo hi, fit (T lo hi)) {s s' : aS} (h : aBd m s) (hq : s.2.2.2.2.2.2 < m) (he : stp P T tl m s = some s') : aBd m s' ∧ s.2.2.2.2.2.2 < s'.2.2.2.2.2.2 := by
  have AT : ∀ {pl : Int32} {q : Nat}, fit pl → s.2.2.2.2.2.2 < q → q ≤ m → some (atT s pl (P q) q) = some s' → aBd m s' ∧ s.2.2.2.2.2.2 < s'.2.2.2.2.2.2 := by
    intro pl q hp h1 h2 e
    injection e with e
    subst e
    exact atT_bd hP h hp h1 h2
  have h' := h
  obtain ⟨n, W, st, f, l, c, q⟩ := s
  obtain ⟨a0, a1, a2, a3, a4, a5, a6, a7, a8, a9⟩ := h
  dsimp only at a0 a1 a2 a3 a4 a5 a6 a7 a8 a9 hq AT
  unfold stp at he
  dsimp only at he ⊢
  by_cases c1 : P q = 40
  · rw [if_pos c1] at he
    injection he with he
    subst he
    refine ⟨⟨?_, ?_, ?_, ?_, ?_, ?_, ?_, ?_, ?_, ?_⟩, ?_⟩ <;> dsimp only
    · omega
    · omega
    · rw [List.length_append, List.length_singleton]; omega
    · rw [List.length_cons]; omega
    · omega
    · omega
    · omega
    · omega
    · intro e he
      rw [List.mem_append, List.mem_singleton] at he
      rcases he with he | he
      · exact wOk_mono (by omega) (a8 e he)
      · subst he; exact ⟨by show c < n + 2; omega, by show n < n + 2; omega, Or.inl rfl⟩
    · intro e he
      rcases List.mem_cons.mp he with he | he
      · subst he; exact ⟨by show f < n + 2; omega, by show l < n + 2; omega⟩
      · have := a9 e he; omega
    · omega
  rw [if_neg c1] at he
  by_cases c2 : P q = 41
  · rw [if_pos c2] at he
    cases st with
    | nil => cases he
    | cons x st =>
      injection he with he
      subst he
      obtain ⟨s1, s2⟩ := sgQ_le (q := q + 1) hP (by omega)
      have s3 := sg_len (P (q + 1)) f l (q + 1)
      have s4 := a9 x List.mem_cons_self
      rw [List.length_cons] at a3
      refine ⟨⟨?_, ?_, ?_, ?_, ?_, ?_, ?_, ?_, ?_, ?_⟩, ?_⟩ <;> dsimp only
      · omega
      · omega
      · rw [List.length_append, List.length_append, List.length_singleton]; omega
      · omega
      · omega
      · omega
      · omega
      · exact sgC_lt _ a5 a6
      · intro e he
        rw [List.mem_append, List.mem_append, List.mem_singleton] at he
        rcases he with (he | he) | he
        · exact a8 e he
        · subst he; exact ⟨a7, a6, Or.inl rfl⟩
        · exact sgW_ok _ a5 a6 e he
      · intro e he
        exact a9 e (List.mem_cons_of_mem _ he)
      · omega
  rw [if_neg c2] at he
  by_cases c3 : P q = 124
  · rw [if_pos c3] at he
    injection he with he
    subst he
    refine ⟨⟨?_, ?_, ?_, ?_, ?_, ?_, ?_, ?_, ?_, ?_⟩, ?_⟩ <;> dsimp only
    · omega
    · omega
    · rw [List.length_append, List.length_singleton]; omega
    · omega
    · omega
    · omega
    · omega
    · omega
    · intro e he
      rw [List.mem_append, List.mem_singleton] at he
      rcases he with he | he
      · exact a8 e he
      · subst he; exact ⟨a7, a6, Or.inl rfl⟩
    · exact a9
    · omega
  rw [if_neg c3] at he
  have ANC : ∀ mk : Int32, some (n + 1, W ++ [(c, n, mk, 0)], st, f, l, n, q + 1) = some s' → aBd m s' ∧ q < s'.2.2.2.2.2.2 := by
    intro mk he
    injection he with he
    subst he
    refine ⟨⟨?_, ?_, ?_, ?_, ?_, ?_, ?_, ?_, ?_, ?_⟩, ?_⟩ <;> dsimp only
    · omega
    · omega
    · rw [List.length_append, List.length_singleton]; omega
    · omega
    · omega
    · omega
    · omega
    · omega
    · intro e he
      rw [List.mem_append, List.mem_singleton] at he
      rcases he with he | he
      · exact wOk_mono (by omega) (a8 e he)
      · subst he; exact ⟨by show c < n + 1; omega, by show n < n + 1; omega, Or.inl rfl⟩
    · intro e he
      have := a9 e he
      omega
    · omega
  by_cases c4 : P q = 94
  · rw [if_pos c4] at he; exact ANC _ he
  rw [if_neg c4] at he
  by_cases c5 : P q = 36
  · rw [if_pos c5] at he; exact ANC _ he
  rw [if_neg c5] at he
  by_cases c6 : P q = 46
  · rw [if_pos c6] at he; exact AT (hT _ _) (by omega) (by omega) he
  rw [if_neg c6] at he
  by_cases c7 : P q = 91
  · rw [if_pos c7] at he
    by_cases hg : itG P T m (q + 1) = true
    · rw [if_pos hg] at he
      obtain ⟨i1, i2⟩ := itQ_b hP hg
      exact AT (itP_fit hT _ _) (by omega) i2 he
    · rw [if_neg hg] at he; cases he
  rw [if_neg c7] at he
  by_cases c8 : P q = 92
  · rw [if_pos c8] at he
    by_cases hg : q + 1 < m
    · rw [if_pos hg] at he; exact AT (hT _ _) (by omega) (by omega) he
    · rw [if_neg hg] at he; cases he
  rw [if_neg c8] at he
  by_cases c9 : P q = 93 ∨ P q = 42 ∨ P q = 43 ∨ P q = 63
  · rw [if_pos c9] at he; cases he
  · rw [if_neg c9] at he; exact AT (hT _ _) (by omega) (by omega) he
