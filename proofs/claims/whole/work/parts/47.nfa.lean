/-! Patterns: the class's graph does what is read -/
def fls (o : Option aS) : Prop := o = none ∨ ∃ s, o = some s ∧ s.2.2.1 ≠ []
def relA (m : Nat) (s s' : aS) (F : Int32 → Int32) : Prop := aBd m s' ∧ s'.2.2.1 = s.2.2.1 ∧ s'.2.2.2.1 = s.2.2.2.1 ∧ s'.2.2.2.2.1 = s.2.2.2.2.1 ∧ s.1 ≤ s'.1 ∧ s.2.2.2.2.2.2 ≤ s'.2.2.2.2.2.2 ∧ (∀ e ∈ s.2.1, e ∈ s'.2.1) ∧
  (∀ X, clX s'.2.1 X → ∀ x, sb x (X s.2.2.2.2.2.1) → sb (F x) (X s'.2.2.2.2.2.1)) ∧
  (∀ X, clX s.2.1 X → ∃ Y : Nat → Int32, (∀ k, k < s.1 → Y k = X k) ∧ clX s'.2.1 Y ∧ sb (Y s'.2.2.2.2.2.1) (F (X s.2.2.2.2.2.1)))
theorem relA_id {m : Nat} {s : aS} (h : aBd m s) : relA m s s (fun x => x) := ⟨h, rfl, rfl, rfl, Nat.le_refl _, Nat.le_refl _, fun _ q => q, fun _ _ _ q => q, fun X c => ⟨X, fun _ _ => rfl, c, sb_rfl _⟩⟩
theorem clX_sub {A B : List aW} (h : ∀ e ∈ A, e ∈ B) {X : Nat → Int32} (c : clX B X) : clX A X := fun e he => c e (h e he)
theorem relA_tr {m : Nat} {s t u : aS} {F G : Int32 → Int32} (a : relA m s t F) (b : relA m t u G) (hG : adv G) : relA m s u (fun x => G (F x)) := by
  obtain ⟨a0, a1, a2, a3, a4, a5, a6, a7, a8⟩ := a
  obtain ⟨b0, b1, b2, b3, b4, b5, b6, b7, b8⟩ := b
  refine ⟨b0, b1.trans a1, b2.trans a2, b3.trans a3, Nat.le_trans a4 b4, Nat.le_trans a5 b5, fun e he => b6 e (a6 e he), ?_, ?_⟩
  · intro X c x hx
    exact b7 X c _ (a7 X (clX_sub b6 c) x hx)
  · intro X c
    obtain ⟨Y, y1, y2, y3⟩ := a8 X c
    obtain ⟨Z, z1, z2, z3⟩ := b8 Y y2
    exact ⟨Z, fun k hk => (z1 k (by omega)).trans (y1 k hk), z2, sb_tr z3 (adv_mono hG y3)⟩
def up2 (X : Nat → Int32) (n : Nat) (Y Z : Int32) : Nat → Int32 := fun k => if k = n then Y else if k = n + 1 then Z else X k
theorem up2_lt (X : Nat → Int32) {n : Nat} (Y Z : Int32) : ∀ k, k < n → up2 X n Y Z k = X k := fun k hk => by
  unfold up2
  rw [if_neg (by omega), if_neg (by omega)]
theorem up2_a (X : Nat → Int32) (n : Nat) (Y Z : Int32) : up2 X n Y Z n = Y := if_pos rfl
theorem up2_b (X : Nat → Int32) (n : Nat) (Y Z : Int32) : up2 X n Y Z (n + 1) = Z := by
  unfold up2
  rw [if_neg (by omega), if_pos rfl]
theorem relA_at {P : Nat → Int32} {m : Nat} (hP : ∀ k, m ≤ k → P k = 0) {s : aS} (h : aBd m s) {pl : Int32} (hp : fit pl) {q : Nat} (h1 : s.2.2.2.2.2.2 < q) (h2 : q ≤ m) : relA m s (atT s pl (P q) q) (sgF (P q) (atF pl)) := by
  obtain ⟨b1, b2⟩ := atT_bd hP h hp h1 h2
  obtain ⟨n, W, st, f, l, c, q0⟩ := s
  obtain ⟨a0, a1, a2, a3, a4, a5, a6, a7, a8, a9⟩ := h
  dsimp only at a0 a1 a2 a3 a4 a5 a6 a7 a8 a9 h1
  refine ⟨b1, rfl, rfl, rfl, Nat.le_add_right _ _, Nat.le_of_lt b2, ?_, ?_, ?_⟩
  · intro e he
    unfold atT
    dsimp only
    exact List.mem_append_left _ (List.mem_append_left _ (List.mem_append_left _ he))
  · intro X cl x hx
    unfold atT at cl ⊢
    dsimp only at cl hx ⊢
    rw [clX_app, clX_app, clX_app, clX_ev, clX_at hp] at cl
    obtain ⟨⟨⟨-, c1⟩, c2⟩, c3⟩ := cl
    exact sgn_comp (fun y hy => sb_tr (adv_mono (atF_adv pl) hy) c2) c3 x (sb_tr hx c1)
  · intro X cl
    unfold atT
    dsimp only at cl ⊢
    obtain ⟨Y, Z, y1, y2, y3, y4, y5⟩ := sgn_sound (P q) (atF_adv pl) (X c)
    refine ⟨up2 X n Y Z, up2_lt X Y Z, ?_, ?_⟩
    · rw [clX_app, clX_app, clX_app, clX_ev, clX_at hp, sgW_cl, up2_a, up2_b, up2_lt X Y Z c a7]
      exact ⟨⟨⟨clX_agree a8 (up2_lt X Y Z) cl, y1⟩, y2⟩, y3, y4⟩
    · unfold sgC
      by_cases b1 : P q = 42
      · rw [if_pos b1] at y5 ⊢; rw [up2_a]; exact y5
      · rw [if_neg b1] at y5 ⊢; rw [up2_b]; exact y5
theorem relA_an {m : Nat} {s : aS} (mk : Int32) (h : aBd m s) (hb : aBd m (s.1 + 1, s.2.1 ++ [(s.2.2.2.2.2.1, s.1, mk, 0)], s.2.2.1, s.2.2.2.1, s.2.2.2.2.1, s.1, s.2.2.2.2.2.2 + 1)) : relA m s (s.1 + 1, s.2.1 ++ [(s.2.2.2.2.2.1, s.1, mk, 0)], s.2.2.1, s.2.2.2.1, s.2.2.2.2.1, s.1, s.2.2.2.2.2.2 + 1) (fun x => x &&& mk) := by
  obtain ⟨n, W, st, f, l, c, q0⟩ := s
  obtain ⟨a0, a1, a2, a3, a4, a5, a6, a7, a8, a9⟩ := h
  dsimp only at a0 a1 a2 a3 a4 a5 a6 a7 a8 a9 hb
  refine ⟨hb, rfl, rfl, rfl, Nat.le_add_right _ _, Nat.le_add_right _ _, fun e he => List.mem_append_left _ he, ?_, ?_⟩
  · intro X cl x hx
    dsimp only at cl hx ⊢
    rw [clX_app, clX_mk] at cl
    exact sb_tr (adv_mono (and_adv mk) hx) cl.2
  · intro X cl
    dsimp only at cl ⊢
    refine ⟨up2 X n (X c &&& mk) 0, up2_lt X _ _, ?_, ?_⟩
    · rw [clX_app, clX_mk, up2_a, up2_lt X _ _ c a7]
      exact ⟨clX_agree a8 (up2_lt X _ _) cl, sb_rfl _⟩
    · rw [up2_a]; exact sb_rfl _
theorem rnA_step {P : Nat → Int32} {T : Int32 → Int32 → Int32} {tl m : Nat} {s s' : aS} {r : Nat} (hq : s.2.2.2.2.2.2 < m) (hr : m ≤ s.2.2.2.2.2.2 + r) (h : stp P T tl m s = some s') : ∃ r', r = r' + 1 ∧ rnA P T tl m r s = rnA P T tl m r' s' := by
  cases r with
  | zero => omega
  | succ r =>
    refine ⟨r, rfl, ?_⟩
    rw [rnA_s, if_pos hq, h]
theorem rnA_fail {P : Nat → Int32} {T : Int32 → Int32 → Int32} {tl m : Nat} {s : aS} {r : Nat} (hq : s.2.2.2.2.2.2 < m) (hr : m ≤ s.2.2.2.2.2.2 + r) (h : stp P T tl m s = none) : rnA P T tl m r s = none := by
  cases r with
  | zero => omega
  | succ r => rw [rnA_s, if_pos hq, h]
theorem rnA_end {P : Nat → Int32} {T : Int32 → Int32 → Int32} {tl m : Nat} {s : aS} (r : Nat) (hq : m ≤ s.2.2.2.2.2.2) : rnA P T tl m r s = some s := by
  cases r with
  | zero => rfl
  | succ r => rw [rnA_s, if_neg (by omega)]
def clA1 (P : Nat → Int32) (T : Int32 → Int32 → Int32) (tl m d : Nat) : Prop := ∀ (s : aS) (r : Nat), aBd m s → m ≤ s.2.2.2.2.2.2 + r → 5 * (m - s.2.2.2.2.2.2) + 4 ≤ d → match pr P T tl m d 1 s.2.2.2.2.2.2 with
  | none => fls (rnA P T tl m r s)
  | some z => adv z.1 ∧ (P z.2 = 0 ∨ P z.2 = 124 ∨ P z.2 = 41) ∧ ∃ s' r', s'.2.2.2.2.2.2 = z.2 ∧ m ≤ z.2 + r' ∧ rnA P T tl m r s = rnA P T tl m r' s' ∧ relA m s s' z.1
def clA2 (P : Nat → Int32) (T : Int32 → Int32 → Int32) (tl m d : Nat) : Prop := ∀ (s : aS) (r : Nat), aBd m s → s.2.2.2.2.2.2 < m → m ≤ s.2.2.2.2.2.2 + r → ¬ P s.2.2.2.2.2.2 = 124 → ¬ P s.2.2.2.2.2.2 = 41 → ¬ P s.2.2.2.2.2.2 = 94 → ¬ P s.2.2.2.2.2.2 = 36 → 5 * (m - s.2.2.2.2.2.2) + 3 ≤ d → match pr P T tl m d 2 s.2.2.2.2.2.2 with
  | none => fls (rnA P T tl m r s)
  | some z => adv z.1 ∧ ∃ s' r', s.2.2.2.2.2.2 < z.2 ∧ s'.2.2.2.2.2.2 = z.2 ∧ m ≤ z.2 + r' ∧ rnA P T tl m r s = rnA P T tl m r' s' ∧ relA m s s' z.1
def clA0 (P : Nat → Int32) (T : Int32 → Int32 → Int32) (tl m d : Nat) : Prop := ∀ (s : aS) (r : Nat), aBd m s → s.2.2.2.2.2.1 = s.2.2.2.1 → m ≤ s.2.2.2.2.2.2 + r → 5 * (m - s.2.2.2.2.2.2) + 5 ≤ d → match pr P T tl m d 0 s.2.2.2.2.2.2 with
  | none => fls (rnA P T tl m r s)
  | some z => adv z.1 ∧ (P z.2 = 0 ∨ P z.2 = 41) ∧ ∃ s' r', s'.2.2.2.2.2.2 = z.2 ∧ m ≤ z.2 + r' ∧ rnA P T tl m r s = rnA P T tl m r' s' ∧ aBd m s' ∧ s'.2.2.1 = s.2.2.1 ∧ s'.2.2.2.1 = s.2.2.2.1 ∧ s'.2.2.2.2.1 = s.2.2.2.2.1 ∧ s.1 ≤ s'.1 ∧ s.2.2.2.2.2.2 ≤ s'.2.2.2.2.2.2 ∧ (∀ e ∈ s.2.1, e ∈ s'.2.1) ∧
    (∀ X, clX (s'.2.1 ++ [(s'.2.2.2.2.2.1, s.2.2.2.2.1, -1, 0)]) X → ∀ x, sb x (X s.2.2.2.1) → sb (z.1 x) (X s.2.2.2.2.1)) ∧
    (∀ X, clX s.2.1 X → sb (z.1 (X s.2.2.2.1)) (X s.2.2.2.2.1) → ∃ Y : Nat → Int32, (∀ k, k < s.1 → Y k = X k) ∧ clX s'.2.1 Y ∧ sb (Y s'.2.2.2.2.2.1) (X s.2.2.2.2.1))
theorem clA_1 {P : Nat → Int32} {T : Int32 → Int32 → Int32} {tl m d : Nat} (hP : ∀ k, m ≤ k → P k = 0) (hP2 : ∀ k, k < m → ¬ P k = 0) (hT : ∀ lo hi, fit (T lo hi)) (c1 : clA1 P T tl m d) (c2 : clA2 P T tl m d) : clA1 P T tl m (d + 1) := by
  intro s r hb hr hd
  rw [pr_1]
  generalize hq : s.2.2.2.2.2.2 = q at *
  by_cases e0 : P q = 0 ∨ P q = 124 ∨ P q = 41
  · rw [if_pos e0]
    exact ⟨id_adv, e0, s, r, hq, hr, rfl, relA_id hb⟩
  rw [if_neg e0]
  have hqm : q < m := by
    apply Classical.byContradiction
    intro hc
    exact e0 (Or.inl (hP q (by omega)))
  have n124 : ¬ P q = 124 := fun h => e0 (Or.inr (Or.inl h))
  have n41 : ¬ P q = 41 := fun h => e0 (Or.inr (Or.inr h))
  have ANC : ∀ mk : Int32, stp P T tl m s = some (s.1 + 1, s.2.1 ++ [(s.2.2.2.2.2.1, s.1, mk, 0)], s.2.2.1, s.2.2.2.1, s.2.2.2.2.1, s.1, s.2.2.2.2.2.2 + 1) → match (match pr P T tl m d 1 (q + 1) with
      | none => none
      | some y => some (fun x => y.1 (x &&& mk), y.2)) with
      | none => fls (rnA P T tl m r s)
      | some z => adv z.1 ∧ (P z.2 = 0 ∨ P z.2 = 124 ∨ P z.2 = 41) ∧ ∃ s' r', s'.2.2.2.2.2.2 = z.2 ∧ m ≤ z.2 + r' ∧ rnA P T tl m r s = rnA P T tl m r' s' ∧ relA m s s' z.1 := by
    intro mk hs
    obtain ⟨b1, b2⟩ := stp_bd hP hT hb (by omega) hs
    obtain ⟨r', r1, r2⟩ := rnA_step (r := r) (by omega) (by omega) hs
    have rl := relA_an mk hb b1
    have i := c1 _ r' b1 (by dsimp only; omega) (by dsimp only; omega)
    dsimp only at i
    rw [hq] at i
    cases hp : pr P T tl m d 1 (q + 1) with
    | none =>
      rw [hp] at i
      dsimp only at i ⊢
      rw [r2, hq]
      exact i
    | some z =>
      rw [hp] at i
      obtain ⟨i1, i2, s', r'', i3, i4, i5, i6⟩ := i
      rw [hq] at r2 rl
      exact ⟨cp_adv (F := fun x => x &&& mk) (G := z.1) (and_adv mk) i1, i2, s', r'', i3, i4, r2.trans i5, relA_tr (F := fun x => x &&& mk) (G := z.1) rl i6 i1⟩
  by_cases e1 : P q = 94
  · rw [if_pos e1]
    refine ANC 1 ?_
    unfold stp
    rw [hq, if_neg (by rw [e1]; decide), if_neg n41, if_neg n124, if_pos e1]
  rw [if_neg e1]
  by_cases e2 : P q = 36
  · rw [if_pos e2]
    refine ANC _ ?_
    unfold stp
    rw [hq, if_neg (by rw [e2]; decide), if_neg n41, if_neg n124, if_neg e1, if_pos e2]
  rw [if_neg e2]
  have j := c2 s r hb (by omega) (by omega) (by rw [hq]; exact n124) (by rw [hq]; exact n41) (by rw [hq]; exact e1) (by rw [hq]; exact e2) (by omega)
  rw [hq] at j
  cases hp : pr P T tl m d 2 q with
  | none =>
    rw [hp] at j
    exact j
  | some z =>
    rw [hp] at j
    obtain ⟨j1, s1, r1, j2, j3, j4, j5, j6⟩ := j
    dsimp only
    have i := c1 s1 r1 j6.1 (by omega) (by omega)
    rw [j3] at i
    cases hp2 : pr P T tl m d 1 z.2 with
    | none =>
      rw [hp2] at i
      dsimp only at i ⊢
      rw [j5]
      exact i
    | some y =>
      rw [hp2] at i
      obtain ⟨i1, i2, s', r'', i3, i4, i5, i6⟩ := i
      exact ⟨cp_adv (F := z.1) (G := y.1) j1 i1, i2, s', r'', i3, i4, j5.trans i5, relA_tr (F := z.1) (G := y.1) j6 i6 i1⟩
theorem clA_0 {P : Nat → Int32} {T : Int32 → Int32 → Int32} {tl m d : Nat} (hP : ∀ k, m ≤ k → P k = 0) (hT : ∀ lo hi, fit (T lo hi)) (c1 : clA1 P T tl m d) (c0 : clA0 P T tl m d) : clA0 P T tl m (d + 1) := by
  intro s r hb hc hr hd
  rw [pr_0]
  have j := c1 s r hb hr (by omega)
  cases hp : pr P T tl m d 1 s.2.2.2.2.2.2 with
  | none =>
    rw [hp] at j
    exact j
  | some z =>
    rw [hp] at j
    obtain ⟨j1, j2, s1, r1, j3, j4, j5, j6⟩ := j
    obtain ⟨k0, k1, k2, k3, k4, k5, k6, k7, k8⟩ := j6
    rw [hc] at k7 k8
    dsimp only
    by_cases e : P z.2 = 124
    · rw [if_pos e]
      have hqm : z.2 < m := by
        apply Classical.byContradiction
        intro h
        rw [hP z.2 (by omega)] at e
        exact absurd e (by decide)
      have hs : stp P T tl m s1 = some (s1.1, s1.2.1 ++ [(s1.2.2.2.2.2.1, s1.2.2.2.2.1, -1, 0)], s1.2.2.1, s1.2.2.2.1, s1.2.2.2.2.1, s1.2.2.2.1, s1.2.2.2.2.2.2 + 1) := by
        unfold stp
        rw [j3, if_neg (by rw [e]; decide), if_neg (by rw [e]; decide), if_pos e]
      obtain ⟨b1, b2⟩ := stp_bd hP hT k0 (by omega) hs
      obtain ⟨r2, r3, r4⟩ := rnA_step (r := r1) (by omega) (by omega) hs
      have i := c0 _ r2 b1 rfl (by dsimp only; omega) (by dsimp only; omega)
      dsimp only at i
      rw [j3] at i r4
      cases hp2 : pr P T tl m d 0 (z.2 + 1) with
      | none =>
        rw [hp2] at i
        dsimp only at i ⊢
        rw [j5, r4]
        exact i
      | some y =>
        rw [hp2] at i
        obtain ⟨i1, i2, s', r'', i3, i4, i5, i6, i7, i8, i9, i10, i11, i12, i13, i14⟩ := i
        dsimp only
        rw [k2, k3] at i13 i14
        refine ⟨or_adv j1 i1, i2, s', r'', i3, i4, j5.trans (r4.trans i5), i6, i7.trans k1, i8.trans k2, i9.trans k3, Nat.le_trans k4 i10, by omega, ?_, ?_, ?_⟩
        · intro e he
          exact i12 e (List.mem_append_left _ (k6 e he))
        · intro X cl x hx
          refine sb_or.mpr ⟨?_, i13 X cl x hx⟩
          have cl1 : clX (s1.2.1 ++ [(s1.2.2.2.2.2.1, s.2.2.2.2.1, -1, 0)]) X := by
            refine clX_sub (fun e he => ?_) (clX_app.mp cl).1
            exact i12 e (by rw [k3]; exact he)
          rw [clX_app, clX_ev] at cl1
          exact sb_tr (k7 X cl1.1 x hx) cl1.2
        · intro X cl hx
          obtain ⟨hx1, hx2⟩ := sb_or.mp hx
          obtain ⟨Y, y1, y2, y3⟩ := k8 X cl
          have ef : Y s.2.2.2.1 = X s.2.2.2.1 := y1 _ hb.2.2.2.2.2.1
          have el : Y s.2.2.2.2.1 = X s.2.2.2.2.1 := y1 _ hb.2.2.2.2.2.2.1
          obtain ⟨Z, z1, z2, z3⟩ := i14 Y (by rw [clX_app, clX_ev, el]; exact ⟨y2, sb_tr y3 hx1⟩) (by rw [ef, el]; exact hx2)
          rw [el] at z3
          exact ⟨Z, fun k hk => (z1 k (by omega)).trans (y1 k hk), z2, z3⟩
    · rw [if_neg e]
      have j2' : P z.2 = 0 ∨ P z.2 = 41 := by
        rcases j2 with h | h | h
        · exact Or.inl h
        · exact absurd h e
        · exact Or.inr h
      refine ⟨j1, j2', s1, r1, j3, j4, j5, k0, k1, k2, k3, k4, k5, k6, ?_, ?_⟩
      · intro X cl x hx
        rw [clX_app, clX_ev] at cl
        exact sb_tr (k7 X cl.1 x hx) cl.2
      · intro X cl hx
        obtain ⟨Y, y1, y2, y3⟩ := k8 X cl
        exact ⟨Y, y1, y2, sb_tr y3 hx⟩
