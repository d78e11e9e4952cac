/-! Patterns: pieces; what goes answers -/
theorem clA_2 {P : Nat → Int32} {T : Int32 → Int32 → Int32} {tl m d : Nat} (hP : ∀ k, m ≤ k → P k = 0) (hP2 : ∀ k, k < m → ¬ P k = 0) (hT : ∀ lo hi, fit (T lo hi)) (c0 : clA0 P T tl m d) : clA2 P T tl m (d + 2) := by
  intro s r hb hqm hr n124 n41 n94 n36 hd
  rw [pr_2, pr_3]
  have hb' := hb
  obtain ⟨n, W, st, f, l, c, q⟩ := s
  dsimp only at hqm hr n124 n41 n94 n36 hd ⊢
  have AT : ∀ (pl : Int32) (x : Nat), fit pl → q < x → x ≤ m → stp P T tl m (n, W, st, f, l, c, q) = some (atT (n, W, st, f, l, c, q) pl (P x) x) → adv (sgF (P x) (atF pl)) ∧ ∃ s' r', q < sgQ (P x) x ∧ s'.2.2.2.2.2.2 = sgQ (P x) x ∧ m ≤ sgQ (P x) x + r' ∧ rnA P T tl m r (n, W, st, f, l, c, q) = rnA P T tl m r' s' ∧ relA m (n, W, st, f, l, c, q) s' (sgF (P x) (atF pl)) := by
    intro pl x hp h1 h2 hs
    obtain ⟨r', e1, e2⟩ := rnA_step (r := r) hqm hr hs
    have h3 := (sgQ_le hP h2).2
    exact ⟨sgF_adv _ (atF_adv pl), _, r', by omega, rfl, by omega, e2, relA_at hP hb hp h1 h2⟩
  have BAD : stp P T tl m (n, W, st, f, l, c, q) = none → fls (rnA P T tl m r (n, W, st, f, l, c, q)) := fun hs => Or.inl (rnA_fail hqm hr hs)
  by_cases e46 : P q = 46
  · rw [if_pos e46]
    exact AT _ _ (hT _ _) (by omega) (by omega) (by unfold stp; dsimp only; rw [if_neg (by rw [e46]; decide), if_neg n41, if_neg n124, if_neg n94, if_neg n36, if_pos e46])
  rw [if_neg e46]
  by_cases e40 : P q = 40
  · rw [if_pos e40]
    have hs : stp P T tl m (n, W, st, f, l, c, q) = some (n + 2, W ++ [(c, n, -1, 0)], (f, l) :: st, n, n + 1, n, q + 1) := by unfold stp; dsimp only; rw [if_pos e40]
    obtain ⟨b1, b2⟩ := stp_bd hP hT hb hqm hs
    obtain ⟨r1, r2, r3⟩ := rnA_step (r := r) hqm hr hs
    have i := c0 _ r1 b1 rfl (by dsimp only; omega) (by dsimp only; omega)
    dsimp only at i
    cases hp : pr P T tl m d 0 (q + 1) with
    | none =>
      rw [hp] at i
      dsimp only at i ⊢
      rw [r3]
      exact i
    | some z =>
      rw [hp] at i
      obtain ⟨i1, i2, s1, r4, i3, i4, i5, i6, i7, i8, i9, i10, i11, i12, i13, i14⟩ := i
      obtain ⟨n1, W1, st1, f1, l1, c1, q1⟩ := s1
      dsimp only at i3 i7 i8 i9 i10 i11 i12 i13 i14 ⊢
      obtain ⟨zF, zq⟩ := z
      dsimp only at i3
      have i8' := i8.symm
      subst i7 i8' i9 i3
      by_cases e : P q1 = 41
      · rw [if_pos e]
        dsimp only
        have hq1 : q1 < m := by
          apply Classical.byContradiction
          intro h
          rw [hP q1 (by omega)] at e
          exact absurd e (by decide)
        have hs2 : stp P T tl m (n1, W1, (f, l) :: st, n, n + 1, c1, q1) = some (n1, W1 ++ [(c1, n + 1, -1, 0)] ++ sgW (P (q1 + 1)) n (n + 1), st, f, l, sgC (P (q1 + 1)) n (n + 1), sgQ (P (q1 + 1)) (q1 + 1)) := by
          unfold stp
          dsimp only
          rw [if_neg (by rw [e]; decide), if_pos e]
        obtain ⟨b3, b4⟩ := stp_bd hP hT i6 hq1 hs2
        obtain ⟨r5, r6, r7⟩ := rnA_step (r := r4) hq1 i4 hs2
        have h3 := (sgQ_le (q := q1 + 1) hP (by omega)).2
        obtain ⟨a0, a1, a2, a3, a4, a5, a6, a7, a8, a9⟩ := hb'
        dsimp only at a0 a1 a2 a3 a4 a5 a6 a7 a8 a9 b4
        refine ⟨sgF_adv _ i1, _, r5, by omega, rfl, by omega, r3.trans (i5.trans r7), b3, rfl, rfl, rfl, by dsimp only; omega, by dsimp only; omega, ?_, ?_, ?_⟩
        · intro e he
          exact List.mem_append_left _ (List.mem_append_left _ (i12 e (List.mem_append_left _ he)))
        · intro X cl x hx
          dsimp only at cl hx ⊢
          rw [clX_app] at cl
          have cw : clX W1 X := (clX_app.mp cl.1).1
          have ce : clX (W ++ [(c, n, -1, 0)]) X := clX_sub i12 cw
          rw [clX_app, clX_ev] at ce
          exact sgn_comp (fun y hy => i13 X cl.1 y hy) cl.2 x (sb_tr hx ce.2)
        · intro X cl
          dsimp only at cl ⊢
          obtain ⟨Y, Z, y1, y2, y3, y4, y5⟩ := sgn_sound (P (q1 + 1)) i1 (X c)
          obtain ⟨U, u1, u2, u3⟩ := i14 (up2 X n Y Z) (by
            rw [clX_app, clX_ev, up2_a, up2_lt X Y Z c a7]
            exact ⟨clX_agree a8 (up2_lt X Y Z) cl, y1⟩) (by rw [up2_a, up2_b]; exact y2)
          rw [up2_b] at u3
          have un : U n = Y := (u1 n (by omega)).trans (up2_a _ _ _ _)
          have un1 : U (n + 1) = Z := (u1 (n + 1) (by omega)).trans (up2_b _ _ _ _)
          refine ⟨U, fun k hk => (u1 k (by omega)).trans (up2_lt X Y Z k hk), ?_, ?_⟩
          · rw [clX_app, clX_app, clX_ev, sgW_cl, un, un1]
            exact ⟨⟨u2, u3⟩, y3, y4⟩
          · unfold sgC
            by_cases b1 : P (q1 + 1) = 42
            · rw [if_pos b1] at y5 ⊢; rw [un]; exact y5
            · rw [if_neg b1] at y5 ⊢; rw [un1]; exact y5
      · rw [if_neg e]
        dsimp only
        have e0 : P q1 = 0 := i2.resolve_right e
        have hq1 : m ≤ q1 := by
          apply Classical.byContradiction
          intro h
          exact hP2 q1 (by omega) e0
        rw [r3, i5, rnA_end _ hq1]
        exact Or.inr ⟨_, rfl, by dsimp only; exact List.cons_ne_nil _ _⟩
  rw [if_neg e40]
  by_cases e92 : P q = 92
  · rw [if_pos e92]
    have hs0 : stp P T tl m (n, W, st, f, l, c, q) = if q + 1 < m then some (atT (n, W, st, f, l, c, q) (T (P (q + 1)) (P (q + 1))) (P (q + 2)) (q + 2)) else none := by
      unfold stp
      dsimp only
      rw [if_neg e40, if_neg n41, if_neg n124, if_neg n94, if_neg n36, if_neg e46, if_neg (by rw [e92]; decide), if_pos e92]
    by_cases hl : q + 1 < m
    · rw [if_neg (hP2 _ hl)]
      rw [if_pos hl] at hs0
      exact AT _ _ (hT _ _) (by omega) (by omega) hs0
    · rw [if_pos (hP _ (by omega))]
      rw [if_neg hl] at hs0
      exact BAD hs0
  rw [if_neg e92]
  by_cases e91 : P q = 91
  · rw [if_pos e91]
    have hs0 : stp P T tl m (n, W, st, f, l, c, q) = if itG P T m (q + 1) then some (atT (n, W, st, f, l, c, q) (itP P T m (q + 1)) (P (itQ P T m (q + 1))) (itQ P T m (q + 1))) else none := by
      unfold stp
      dsimp only
      rw [if_neg e40, if_neg n41, if_neg n124, if_neg n94, if_neg n36, if_neg e46, if_pos e91]
    by_cases hl : itG P T m (q + 1) = true
    · rw [if_pos hl]
      rw [if_pos hl] at hs0
      obtain ⟨i1, i2⟩ := itQ_b hP hl
      exact AT _ _ (itP_fit hT _ _) (by omega) i2 hs0
    · rw [if_neg hl]
      rw [if_neg hl] at hs0
      exact BAD hs0
  rw [if_neg e91]
  by_cases eb : P q = 41 ∨ P q = 93 ∨ P q = 42 ∨ P q = 43 ∨ P q = 63 ∨ P q = 0
  · rw [if_pos eb]
    have eb2 : P q = 93 ∨ P q = 42 ∨ P q = 43 ∨ P q = 63 := by
      rcases eb with h | h | h | h | h | h
      · exact absurd h n41
      · exact Or.inl h
      · exact Or.inr (Or.inl h)
      · exact Or.inr (Or.inr (Or.inl h))
      · exact Or.inr (Or.inr (Or.inr h))
      · exact absurd h (hP2 q hqm)
    exact BAD (by unfold stp; dsimp only; rw [if_neg e40, if_neg n41, if_neg n124, if_neg n94, if_neg n36, if_neg e46, if_neg e91, if_neg e92, if_pos eb2])
  · rw [if_neg eb]
    have eb2 : ¬ (P q = 93 ∨ P q = 42 ∨ P q = 43 ∨ P q = 63) := by
      rintro (h | h | h | h)
      · exact eb (Or.inr (Or.inl h))
      · exact eb (Or.inr (Or.inr (Or.inl h)))
      · exact eb (Or.inr (Or.inr (Or.inr (Or.inl h))))
      · exact eb (Or.inr (Or.inr (Or.inr (Or.inr (Or.inl h)))))
    exact AT _ _ (hT _ _) (by omega) (by omega) (by unfold stp; dsimp only; rw [if_neg e40, if_neg n41, if_neg n124, if_neg n94, if_neg n36, if_neg e46, if_neg e91, if_neg e92, if_neg eb2])
theorem clA_all {P : Nat → Int32} {T : Int32 → Int32 → Int32} {tl m : Nat} (hP : ∀ k, m ≤ k → P k = 0) (hP2 : ∀ k, k < m → ¬ P k = 0) (hT : ∀ lo hi, fit (T lo hi)) (d : Nat) : clA0 P T tl m d ∧ clA1 P T tl m d ∧ clA2 P T tl m d ∧ clA2 P T tl m (d + 1) := by
  induction d with
  | zero =>
    refine ⟨?_, ?_, ?_, ?_⟩
    · intro s r _ _ _ h; omega
    · intro s r _ _ h; omega
    · intro s r _ _ _ _ _ _ _ h; omega
    · intro s r _ _ _ _ _ _ _ h; omega
  | succ d ih =>
    obtain ⟨i0, i1, i2, i3⟩ := ih
    exact ⟨clA_0 hP hT i1 i0, clA_1 hP hP2 hT i1 i2, i3, clA_2 hP hP2 hT i0⟩
/-- what a search answers: of places all, by what is read -/
def goV (P : Nat → Int32) (T : Int32 → Int32 → Int32) (tl m : Nat) : Int32 := match pr P T tl m 130 0 0 with
  | none => -1
  | some z => if z.2 = m then (if z.1 ((1 <<< (nI (tl + 1) &&& 31)) - 1) = 0 then 0 else 1) else -1
theorem goA_V (g : cG) (i j : Nat) (h1 : (g.1 i).1 = 3) (h2 : (g.1 j).1 = 3) (h3 : (g.1 j).2.2.1 = 0) (hi : lnN g i ≤ 24) (hj : lnN g j ≤ 24) (hP2 : ∀ k, k < lnN g j → ¬ g.2.1 j k = 0) : (goA g i j).1 = goV (riP g j (lnN g j)) (riT g i (lnN g i)) (lnN g i) (lnN g j) ∧ aFr g (goA g i j).2 := by
  unfold goA
  rw [if_pos ⟨h1, h2, h3⟩]
  generalize lnN g i = tl at hi
  generalize lnN g j = m at hj hP2
  obtain ⟨b1, b2⟩ := bgS_rp g
  obtain ⟨g1, g2, g3⟩ := glA_ok (i := i) (j := j) hj hi m (bgS g) aS0 b1 (aS0_bd m)
  rw [riP_fr b2, riT_fr b2] at g2
  generalize glA i tl j m m (bgS g) aS0 = z at g1 g2 g3
  have hP := riP_0 g j m
  have hP3 : ∀ k, k < m → ¬ riP g j m k = 0 := fun k hk => by
    unfold riP atV
    rw [if_pos hk]
    exact hP2 k hk
  have hT := riT_fit g i tl hi
  generalize riP g j m = P at hP hP3 g2
  generalize riT g i tl = T at hT g2
  have fz : aFr g z.1 := aFr_tr b2 g1
  have cl := (clA_all (tl := tl) hP hP3 hT 130).1 aS0 m (aS0_bd m) rfl (by unfold aS0; dsimp only; omega) (by unfold aS0; dsimp only; omega)
  have e0 : aS0.2.2.2.2.2.2 = 0 := rfl
  rw [e0] at cl
  unfold goV
  have FB : fls z.2 → (glC tl z).1 = -1 ∧ aFr g (glC tl z).2 := by
    rintro (h | ⟨s, h, h'⟩)
    · unfold glC; rw [h]; exact ⟨rfl, fz⟩
    · unfold glC
      rw [h]
      dsimp only
      cases hst : s.2.2.1 with
      | nil => exact absurd hst h'
      | cons a b => exact ⟨rfl, fz⟩
  cases hp : pr P T tl m 130 0 0 with
  | none =>
    rw [hp] at cl
    dsimp only at cl ⊢
    rw [← g2] at cl
    exact FB cl
  | some y =>
    rw [hp] at cl
    obtain ⟨c1, c2, s', r', c3, c4, c5, c6, c7, c8, c9, c10, c11, c12, c13, c14⟩ := cl
    dsimp only
    by_cases e : P y.2 = 41
    · have hy : y.2 < m := by
        apply Classical.byContradiction
        intro h
        rw [hP y.2 (by omega)] at e
        exact absurd e (by decide)
      rw [if_neg (by omega)]
      apply FB
      rw [g2, c5]
      refine Or.inl (rnA_fail (by omega) (by omega) ?_)
      obtain ⟨n', W', st', f', l', c', q'⟩ := s'
      dsimp only at c3 c7
      have c7' : st' = [] := c7
      subst c3 c7'
      unfold stp
      dsimp only
      rw [if_neg (by rw [e]; decide), if_pos e]
    · have e1 : P y.2 = 0 := c2.resolve_right e
      have hy : y.2 = m := by
        apply Classical.byContradiction
        intro h
        have h5 : s'.2.2.2.2.2.2 ≤ m := c6.2.2.2.2.1
        exact hP3 y.2 (by omega) e1
      rw [if_pos hy]
      rw [c5, rnA_end _ (by omega)] at g2
      obtain ⟨rp, -⟩ := g3 s' g2
      have h7 : s'.2.2.1 = [] := c7
      unfold glC
      rw [g2]
      dsimp only
      rw [h7]
      dsimp only
      have fB : aFr g (glB z.1 s' tl) := aFr_tr (aFr_tr fz (aFr_cn _ _ _ _ _ _)) (aFr_uA _ _ _)
      refine ⟨?_, fB⟩
      have c8' : s'.2.2.2.1 = 0 := c8
      have c9' : s'.2.2.2.2.1 = 1 := c9
      have c6' := c6
      obtain ⟨a0, a1, a2, a3, a4, a5, a6, a7, a8, a9⟩ := c6'
      have rp3 := aRp_cn (n := s'.1) (W := s'.2.1) (st := s'.2.2.1) (f := s'.2.2.2.1) (l := s'.2.2.2.2.1) (c := s'.2.2.2.2.2.1) (q := s'.2.2.2.2.2.2) rp (by omega) s'.2.2.2.2.2.1 s'.2.2.2.2.1 0 (-1)
      unfold glB sdS
      rw [uA_at]
      generalize cnS z.1 s'.2.1.length (nI s'.2.2.2.2.2.1) (nI s'.2.2.2.2.1) (-1) (nI 0) = h at rp3
      have hWl : (s'.2.1 ++ [((s'.2.2.2.2.2.1, s'.2.2.2.2.1, -1, 0) : aW)]).length = s'.2.1.length + 1 := by rw [List.length_append, List.length_singleton]
      rw [← hWl]
      have hA : wAr (s'.2.1 ++ [(s'.2.2.2.2.2.1, s'.2.2.2.2.1, -1, 0)]) (nA h 3) (nA h 4) := fun k ee he => ⟨(rp3.2.2.2.2.2.2.2.2.1 k ee he).2.2.1, (rp3.2.2.2.2.2.2.2.2.1 k ee he).2.2.2⟩
      have hW : ∀ ee ∈ s'.2.1 ++ [((s'.2.2.2.2.2.1, s'.2.2.2.2.1, -1, 0) : aW)], wOk s'.1 ee := by
        intro ee he
        rcases List.mem_append.mp he with q | q
        · exact a8 ee q
        · rw [List.mem_singleton] at q; subst q; exact ⟨a7, a6, Or.inl rfl⟩
      have hz0 : ∀ k, k < s'.1 → nA h 0 k = 0 := rp3.2.2.2.2.2.2.2.1
      have hlow : ∀ p, bt ((1 <<< ((nI tl + 1) &&& 31)) - 1) p = true → p < 25 := by
        intro p hb
        rw [nI_1, bt_low (by omega) (bt_lt hb), decide_eq_true_eq] at hb
        omega
      have hf : f25 s'.1 (upd (nA h 0) 0 ((1 <<< ((nI tl + 1) &&& 31)) - 1)) := by
        intro k hk p hb
        by_cases hk0 : k = 0
        · subst hk0; rw [upd_at] at hb; exact hlow p hb
        · rw [upd_ne2 _ _ hk0, hz0 k hk, bt_0] at hb; cases hb
      have hcn : 1600 < 1600 + cnR (upd (nA h 0) 0 ((1 <<< ((nI tl + 1) &&& 31)) - 1)) := by
        have : cnR (fun _ => 0) < cnR (upd (nA h 0) 0 ((1 <<< ((nI tl + 1) &&& 31)) - 1)) := by
          refine cnR_lt (s := 0) (p := 0) (fun s => sb_0 _) (by omega) (by omega) (bt_0 _) ?_
          rw [upd_at, nI_1, bt_low (by omega) (by omega), decide_eq_true_eq]
          omega
        omega
      obtain ⟨x1, x2, x3⟩ := spR_fix hA (N := 1600) cnR_le (by omega) hW 1600 _ 1 (by decide) hf hcn
      generalize spR (wFr (s'.2.1 ++ [(s'.2.2.2.2.2.1, s'.2.2.2.2.1, -1, 0)])) (wTo (s'.2.1 ++ [(s'.2.2.2.2.2.1, s'.2.2.2.2.1, -1, 0)])) (nA h 3) (nA h 4) (s'.2.1 ++ [(s'.2.2.2.2.2.1, s'.2.2.2.2.1, -1, 0)]).length 1600 (upd (nA h 0) 0 ((1 <<< ((nI tl + 1) &&& 31)) - 1)) 1 = R at x1 x2 x3
      have key : R 1 = y.1 ((1 <<< (nI (tl + 1) &&& 31)) - 1) := by
        rw [← nI_1]
        apply sb_anti
        · obtain ⟨Y, y1, y2, y3⟩ := c14 (up2 (fun _ => 0) 0 ((1 <<< ((nI tl + 1) &&& 31)) - 1) (y.1 ((1 <<< ((nI tl + 1) &&& 31)) - 1))) (clX_nil _) (by
            show sb (y.1 (up2 _ 0 _ _ 0)) (up2 _ 0 _ _ (0 + 1))
            rw [up2_a, up2_b]
            exact sb_rfl _)
          have hy0 : Y 0 = (1 <<< ((nI tl + 1) &&& 31)) - 1 := (y1 0 (by decide)).trans (up2_a _ _ _ _)
          have hy1 : Y 1 = y.1 ((1 <<< ((nI tl + 1) &&& 31)) - 1) := (y1 1 (by decide)).trans (up2_b _ 0 _ _)
          have y3' : sb (Y s'.2.2.2.2.2.1) (y.1 ((1 <<< ((nI tl + 1) &&& 31)) - 1)) := by
            have : up2 (fun _ => 0) 0 ((1 <<< ((nI tl + 1) &&& 31)) - 1) (y.1 ((1 <<< ((nI tl + 1) &&& 31)) - 1)) aS0.2.2.2.2.1 = y.1 ((1 <<< ((nI tl + 1) &&& 31)) - 1) := up2_b _ 0 _ _
            rw [this] at y3
            exact y3
          have := x3 Y (by rw [clX_app, clX_ev, c9', hy1]; exact ⟨y2, y3'⟩) (by
            intro k hk
            by_cases hk0 : k = 0
            · subst hk0; rw [upd_at, hy0]; exact sb_rfl _
            · rw [upd_ne2 _ _ hk0, hz0 k hk]; exact sb_0 _) 1 (by omega)
          rw [hy1] at this
          exact this
        · have h0 := x2 0
          rw [upd_at] at h0
          rw [c9'] at x1
          exact c13 R x1 _ h0
      rw [key]
      by_cases h0 : y.1 ((1 <<< (nI (tl + 1) &&& 31)) - 1) = 0
      · rw [if_pos h0]; rfl
      · rw [if_neg h0]; rfl
