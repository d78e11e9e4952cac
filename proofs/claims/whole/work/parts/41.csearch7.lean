/-! Search: what its cells stand for -/
/-- a way: from, to, where it is open, how far it moves -/
abbrev aW : Type := Nat × Nat × Int32 × Nat
/-- states, ways, what stands open, first, last, current, place -/
abbrev aS : Type := Nat × List aW × List (Nat × Nat) × Nat × Nat × Nat × Nat
def aRp (g : cG) (s : aS) : Prop :=
  nN g 0 = nI s.1 ∧ nN g 1 = nI s.2.1.length ∧ nN g 2 = nI s.2.2.1.length ∧ nN g 3 = nI s.2.2.2.1 ∧ nN g 4 = nI s.2.2.2.2.1 ∧ nN g 5 = nI s.2.2.2.2.2.1 ∧ nN g 6 = nI s.2.2.2.2.2.2 ∧
  (∀ k, k < s.1 → nA g 0 k = 0) ∧
  (∀ k e, s.2.1[k]? = some e → nA g 1 k = nI e.1 ∧ nA g 2 k = nI e.2.1 ∧ nA g 3 k = e.2.2.1 ∧ nA g 4 k = nI e.2.2.2) ∧
  (∀ k e, s.2.2.1.reverse[k]? = some e → nA g 5 k = nI e.1 ∧ nA g 6 k = nI e.2)
/-- all that isn't the search's is as it was -/
def aFr (g h : cG) : Prop := h.1 = g.1 ∧ h.2.1 = g.2.1 ∧ h.2.2.1 = g.2.2.1 ∧ h.2.2.2.1 = g.2.2.2.1 ∧ h.2.2.2.2.1 = g.2.2.2.2.1
theorem aFr_rfl (g : cG) : aFr g g := ⟨rfl, rfl, rfl, rfl, rfl⟩
theorem aFr_tr {g h k : cG} (a : aFr g h) (b : aFr h k) : aFr g k := ⟨b.1.trans a.1, b.2.1.trans a.2.1, b.2.2.1.trans a.2.2.1, b.2.2.2.1.trans a.2.2.2.1, b.2.2.2.2.trans a.2.2.2.2⟩
theorem aFr_uN (g : cG) (j : Nat) (x : Int32) : aFr g (uN g j x) := ⟨rfl, rfl, rfl, rfl, rfl⟩
theorem aFr_uA (g : cG) (j : Nat) (x : Nat → Int32) : aFr g (uA g j x) := ⟨rfl, rfl, rfl, rfl, rfl⟩
theorem aFr_ns (g : cG) (n : Nat) : aFr g (nsS g n) := ⟨rfl, rfl, rfl, rfl, rfl⟩
theorem aFr_cn (g : cG) (w : Nat) (a b m v : Int32) : aFr g (cnS g w a b m v) := by
  unfold cnS
  split <;> exact ⟨rfl, rfl, rfl, rfl, rfl⟩
theorem aRp_3 {g : cG} {n : Nat} {W : List aW} {st : List (Nat × Nat)} {f l c q : Nat} (h : aRp g (n, W, st, f, l, c, q)) (x : Nat) : aRp (uN g 3 (nI x)) (n, W, st, x, l, c, q) := by
  obtain ⟨a0, a1, a2, a3, a4, a5, a6, a7, a8, a9⟩ := h
  exact ⟨(uN_ne _ _ (by decide)).trans a0, (uN_ne _ _ (by decide)).trans a1, (uN_ne _ _ (by decide)).trans a2, uN_at _ _ _, (uN_ne _ _ (by decide)).trans a4, (uN_ne _ _ (by decide)).trans a5, (uN_ne _ _ (by decide)).trans a6, a7, a8, a9⟩
theorem aRp_4 {g : cG} {n : Nat} {W : List aW} {st : List (Nat × Nat)} {f l c q : Nat} (h : aRp g (n, W, st, f, l, c, q)) (x : Nat) : aRp (uN g 4 (nI x)) (n, W, st, f, x, c, q) := by
  obtain ⟨a0, a1, a2, a3, a4, a5, a6, a7, a8, a9⟩ := h
  exact ⟨(uN_ne _ _ (by decide)).trans a0, (uN_ne _ _ (by decide)).trans a1, (uN_ne _ _ (by decide)).trans a2, (uN_ne _ _ (by decide)).trans a3, uN_at _ _ _, (uN_ne _ _ (by decide)).trans a5, (uN_ne _ _ (by decide)).trans a6, a7, a8, a9⟩
theorem aRp_5 {g : cG} {n : Nat} {W : List aW} {st : List (Nat × Nat)} {f l c q : Nat} (h : aRp g (n, W, st, f, l, c, q)) (x : Nat) : aRp (uN g 5 (nI x)) (n, W, st, f, l, x, q) := by
  obtain ⟨a0, a1, a2, a3, a4, a5, a6, a7, a8, a9⟩ := h
  exact ⟨(uN_ne _ _ (by decide)).trans a0, (uN_ne _ _ (by decide)).trans a1, (uN_ne _ _ (by decide)).trans a2, (uN_ne _ _ (by decide)).trans a3, (uN_ne _ _ (by decide)).trans a4, uN_at _ _ _, (uN_ne _ _ (by decide)).trans a6, a7, a8, a9⟩
theorem aRp_6 {g : cG} {n : Nat} {W : List aW} {st : List (Nat × Nat)} {f l c q : Nat} (h : aRp g (n, W, st, f, l, c, q)) (x : Nat) : aRp (uN g 6 (nI x)) (n, W, st, f, l, c, x) := by
  obtain ⟨a0, a1, a2, a3, a4, a5, a6, a7, a8, a9⟩ := h
  exact ⟨(uN_ne _ _ (by decide)).trans a0, (uN_ne _ _ (by decide)).trans a1, (uN_ne _ _ (by decide)).trans a2, (uN_ne _ _ (by decide)).trans a3, (uN_ne _ _ (by decide)).trans a4, (uN_ne _ _ (by decide)).trans a5, uN_at _ _ _, a7, a8, a9⟩
theorem upd_at (f : Nat → Int32) (k : Nat) (v : Int32) : upd f k v k = v := by simp [upd]
theorem upd_ne2 (f : Nat → Int32) {k j : Nat} (v : Int32) (h : j ≠ k) : upd f k v j = f j := by simp [upd, h]
theorem uN_A (g : cG) (j : Nat) (x : Int32) (k : Nat) : nA (uN g j x) k = nA g k := rfl
theorem uA_N (g : cG) (j : Nat) (x : Nat → Int32) (k : Nat) : nN (uA g j x) k = nN g k := rfl
theorem nsS_A (g : cG) (n j : Nat) (h : j ≠ 0) : nA (nsS g n) j = nA g j := by
  unfold nsS
  rw [uN_A, uA_ne _ _ h]
theorem aRp_ns {g : cG} {n : Nat} {W : List aW} {st : List (Nat × Nat)} {f l c q : Nat} (h : aRp g (n, W, st, f, l, c, q)) (hn : n < 64) : nsK n = n ∧ aRp (nsS g n) (n + 1, W, st, f, l, c, q) := by
  obtain ⟨a0, a1, a2, a3, a4, a5, a6, a7, a8, a9⟩ := h
  have hk : nsK n = n := by unfold nsK; omega
  refine ⟨hk, ?_, (uN_ne _ _ (by decide)).trans a1, (uN_ne _ _ (by decide)).trans a2, (uN_ne _ _ (by decide)).trans a3, (uN_ne _ _ (by decide)).trans a4, (uN_ne _ _ (by decide)).trans a5, (uN_ne _ _ (by decide)).trans a6, ?_, ?_, ?_⟩
  · exact (uN_at _ _ _).trans (by rw [hk])
  · intro k hk2
    show nA (uA g 0 (upd (nA g 0) (nsK n) 0)) 0 k = 0
    rw [uA_at, hk]
    by_cases q : k = n
    · subst q; exact upd_at _ _ _
    · rw [upd_ne2 _ _ q]; exact a7 k (by show k < n; have : k < n + 1 := hk2; omega)
  · intro k e he
    rw [nsS_A _ _ _ (by decide), nsS_A _ _ _ (by decide), nsS_A _ _ _ (by decide), nsS_A _ _ _ (by decide)]
    exact a8 k e he
  · intro k e he
    rw [nsS_A _ _ _ (by decide), nsS_A _ _ _ (by decide)]
    exact a9 k e he
theorem get_app {α : Type} {l : List α} {x e : α} {k : Nat} (h : (l ++ [x])[k]? = some e) : (k < l.length ∧ l[k]? = some e) ∨ (k = l.length ∧ e = x) := by
  by_cases q : k < l.length
  · rw [List.getElem?_append_left q] at h
    exact Or.inl ⟨q, h⟩
  · rw [List.getElem?_append_right (by omega)] at h
    have h2 : k - l.length = 0 := by
      apply Classical.byContradiction
      intro h3
      rw [List.getElem?_eq_none (by rw [List.length_singleton]; omega)] at h
      cases h
    rw [h2] at h
    injection h with h
    exact Or.inr ⟨by omega, h.symm⟩
theorem aRp_cn {g : cG} {n : Nat} {W : List aW} {st : List (Nat × Nat)} {f l c q : Nat} (h : aRp g (n, W, st, f, l, c, q)) (hw : W.length < 64) (a b v : Nat) (m : Int32) : aRp (cnS g W.length (nI a) (nI b) m (nI v)) (n, W ++ [(a, b, m, v)], st, f, l, c, q) := by
  obtain ⟨a0, a1, a2, a3, a4, a5, a6, a7, a8, a9⟩ := h
  have A5 : ∀ j, 5 ≤ j → nA (cnS g W.length (nI a) (nI b) m (nI v)) j = nA g j := fun j hj => cnS_A _ _ _ _ _ _ _ hj
  have a7' : ∀ k, k < n → nA g 0 k = 0 := a7
  have a8' : ∀ k e, W[k]? = some e → nA g 1 k = nI e.1 ∧ nA g 2 k = nI e.2.1 ∧ nA g 3 k = e.2.2.1 ∧ nA g 4 k = nI e.2.2.2 := a8
  have B : cnS g W.length (nI a) (nI b) m (nI v) = uN (uA (uA (uA (uA g 1 (upd (nA g 1) W.length (nI a))) 2 (upd (nA g 2) W.length (nI b))) 3 (upd (nA g 3) W.length m)) 4 (upd (nA g 4) W.length (nI v))) 1 (nI (W.length + 1)) := if_pos hw
  refine ⟨(cnS_N _ _ _ _ _ _ _ (by decide)).trans a0, ?_, (cnS_N _ _ _ _ _ _ _ (by decide)).trans a2, (cnS_N _ _ _ _ _ _ _ (by decide)).trans a3, (cnS_N _ _ _ _ _ _ _ (by decide)).trans a4, (cnS_N _ _ _ _ _ _ _ (by decide)).trans a5, (cnS_N _ _ _ _ _ _ _ (by decide)).trans a6, ?_, ?_, ?_⟩
  · rw [B, uN_at]
    show nI (W.length + 1) = nI (W ++ [(a, b, m, v)]).length
    rw [List.length_append, List.length_singleton]
  · intro k hk
    rw [B, uN_A, uA_ne _ _ (by decide), uA_ne _ _ (by decide), uA_ne _ _ (by decide), uA_ne _ _ (by decide)]
    exact a7' k hk
  · intro k e he
    have c1 : nA (cnS g W.length (nI a) (nI b) m (nI v)) 1 = upd (nA g 1) W.length (nI a) := by
      rw [B, uN_A, uA_ne _ _ (by decide), uA_ne _ _ (by decide), uA_ne _ _ (by decide), uA_at]
    have c2 : nA (cnS g W.length (nI a) (nI b) m (nI v)) 2 = upd (nA g 2) W.length (nI b) := by
      rw [B, uN_A, uA_ne _ _ (by decide), uA_ne _ _ (by decide), uA_at]
    have c3 : nA (cnS g W.length (nI a) (nI b) m (nI v)) 3 = upd (nA g 3) W.length m := by
      rw [B, uN_A, uA_ne _ _ (by decide), uA_at]
    have c4 : nA (cnS g W.length (nI a) (nI b) m (nI v)) 4 = upd (nA g 4) W.length (nI v) := by
      rw [B, uN_A, uA_at]
    rw [c1, c2, c3, c4]
    rcases get_app he with ⟨q1, q2⟩ | ⟨q1, q2⟩
    · rw [upd_ne2 _ _ (by omega), upd_ne2 _ _ (by omega), upd_ne2 _ _ (by omega), upd_ne2 _ _ (by omega)]
      exact a8' k e q2
    · subst q1 q2
      rw [upd_at, upd_at, upd_at, upd_at]
      exact ⟨rfl, rfl, rfl, rfl⟩
  · intro k e he
    rw [A5 5 (by omega), A5 6 (by omega)]
    exact a9 k e he
/-- the sign behind an atom or a group -/
def sgW (b : Int32) (e t : Nat) : List aW := if b = 42 then [(t, e, -1, 0)] else if b = 43 then [(t, e, -1, 0)] else if b = 63 then [(e, t, -1, 0)] else []
def sgC (b : Int32) (e t : Nat) : Nat := if b = 42 then e else t
def sgQ (b : Int32) (q : Nat) : Nat := if b = 42 ∨ b = 43 ∨ b = 63 then q + 1 else q
theorem aRp_rp {g : cG} {n : Nat} {W : List aW} {st : List (Nat × Nat)} {f l c q : Nat} (h : aRp g (n, W, st, f, l, c, q)) (hw : W.length < 64) (e t : Nat) (b : Int32) : aRp (rpS g W.length (nI e) (nI t) b q) (n, W ++ sgW b e t, st, f, l, sgC b e t, sgQ b q) := by
  unfold rpS sgW sgC sgQ
  by_cases b1 : b = 42
  · rw [if_pos b1, if_pos b1, if_pos b1, if_pos (Or.inl b1)]
    exact aRp_6 (aRp_cn (aRp_5 h e) hw t e 0 (-1)) (q + 1)
  rw [if_neg b1, if_neg b1, if_neg b1]
  by_cases b2 : b = 43
  · rw [if_pos b2, if_pos b2, if_pos (Or.inr (Or.inl b2))]
    exact aRp_6 (aRp_cn (aRp_5 h t) hw t e 0 (-1)) (q + 1)
  rw [if_neg b2, if_neg b2]
  by_cases b3 : b = 63
  · rw [if_pos b3, if_pos b3, if_pos (Or.inr (Or.inr b3))]
    exact aRp_6 (aRp_cn (aRp_5 h t) hw e t 0 (-1)) (q + 1)
  · rw [if_neg b3, if_neg b3, if_neg (by rintro (h | h | h) <;> contradiction), List.append_nil]
    exact aRp_5 h t
theorem aFr_rp (g : cG) (w : Nat) (e t b : Int32) (q : Nat) : aFr g (rpS g w e t b q) := by
  unfold rpS
  split
  · exact aFr_tr (aFr_uN _ _ _) (aFr_tr (aFr_cn _ _ _ _ _ _) (aFr_uN _ _ _))
  · split
    · exact aFr_tr (aFr_uN _ _ _) (aFr_tr (aFr_cn _ _ _ _ _ _) (aFr_uN _ _ _))
    · split
      · exact aFr_tr (aFr_uN _ _ _) (aFr_tr (aFr_cn _ _ _ _ _ _) (aFr_uN _ _ _))
      · exact aFr_uN _ _ _
