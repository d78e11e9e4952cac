/-! Patterns: what both sides read -/
def sgF (b : Int32) (F : Int32 → Int32) : Int32 → Int32 := if b = 42 then fun x => itr F 33 (x ||| F x) else if b = 43 then fun x => itr F 33 (F x) else if b = 63 then fun x => x ||| F x else F
def atF (pl : Int32) : Int32 → Int32 := fun x => (x &&& pl) <<< 1
/-- modes: 0 alternatives, 1 pieces, 2 a piece, 3 an atom; what it does to places, and where it ends -/
def pr (P : Nat → Int32) (T : Int32 → Int32 → Int32) (tl m : Nat) : Nat → Nat → Nat → Option ((Int32 → Int32) × Nat)
  | 0, _, _ => none
  | d + 1, 0, q => match pr P T tl m d 1 q with
    | none => none
    | some z => if P z.2 = 124 then (match pr P T tl m d 0 (z.2 + 1) with
      | none => none
      | some y => some (fun x => z.1 x ||| y.1 x, y.2)) else some z
  | d + 1, 1, q => if P q = 0 ∨ P q = 124 ∨ P q = 41 then some (fun x => x, q)
    else if P q = 94 then (match pr P T tl m d 1 (q + 1) with
      | none => none
      | some y => some (fun x => y.1 (x &&& 1), y.2))
    else if P q = 36 then (match pr P T tl m d 1 (q + 1) with
      | none => none
      | some y => some (fun x => y.1 (x &&& (1 <<< (nI tl &&& 31))), y.2))
    else (match pr P T tl m d 2 q with
      | none => none
      | some z => (match pr P T tl m d 1 z.2 with
        | none => none
        | some y => some (fun x => y.1 (z.1 x), y.2)))
  | d + 1, 2, q => match pr P T tl m d 3 q with
    | none => none
    | some z => some (sgF (P z.2) z.1, sgQ (P z.2) z.2)
  | d + 1, _ + 3, q => if P q = 46 then some (atF (T 32 126), q + 1)
    else if P q = 40 then (match pr P T tl m d 0 (q + 1) with
      | none => none
      | some z => if P z.2 = 41 then some (z.1, z.2 + 1) else none)
    else if P q = 92 then (if P (q + 1) = 0 then none else some (atF (T (P (q + 1)) (P (q + 1))), q + 2))
    else if P q = 91 then (if itG P T m (q + 1) then some (atF (itP P T m (q + 1)), itQ P T m (q + 1)) else none)
    else if P q = 41 ∨ P q = 93 ∨ P q = 42 ∨ P q = 43 ∨ P q = 63 ∨ P q = 0 then none
    else some (atF (T (P q) (P q)), q + 1)
theorem pr_0 (P : Nat → Int32) (T : Int32 → Int32 → Int32) (tl m d q : Nat) : pr P T tl m (d + 1) 0 q = match pr P T tl m d 1 q with
    | none => none
    | some z => if P z.2 = 124 then (match pr P T tl m d 0 (z.2 + 1) with
      | none => none
      | some y => some (fun x => z.1 x ||| y.1 x, y.2)) else some z := rfl
theorem pr_1 (P : Nat → Int32) (T : Int32 → Int32 → Int32) (tl m d q : Nat) : pr P T tl m (d + 1) 1 q = if P q = 0 ∨ P q = 124 ∨ P q = 41 then some (fun x => x, q)
    else if P q = 94 then (match pr P T tl m d 1 (q + 1) with
      | none => none
      | some y => some (fun x => y.1 (x &&& 1), y.2))
    else if P q = 36 then (match pr P T tl m d 1 (q + 1) with
      | none => none
      | some y => some (fun x => y.1 (x &&& (1 <<< (nI tl &&& 31))), y.2))
    else (match pr P T tl m d 2 q with
      | none => none
      | some z => (match pr P T tl m d 1 z.2 with
        | none => none
        | some y => some (fun x => y.1 (z.1 x), y.2))) := rfl
theorem pr_2 (P : Nat → Int32) (T : Int32 → Int32 → Int32) (tl m d q : Nat) : pr P T tl m (d + 1) 2 q = match pr P T tl m d 3 q with
    | none => none
    | some z => some (sgF (P z.2) z.1, sgQ (P z.2) z.2) := rfl
theorem pr_3 (P : Nat → Int32) (T : Int32 → Int32 → Int32) (tl m d q : Nat) : pr P T tl m (d + 1) 3 q = if P q = 46 then some (atF (T 32 126), q + 1)
    else if P q = 40 then (match pr P T tl m d 0 (q + 1) with
      | none => none
      | some z => if P z.2 = 41 then some (z.1, z.2 + 1) else none)
    else if P q = 92 then (if P (q + 1) = 0 then none else some (atF (T (P (q + 1)) (P (q + 1))), q + 2))
    else if P q = 91 then (if itG P T m (q + 1) then some (atF (itP P T m (q + 1)), itQ P T m (q + 1)) else none)
    else if P q = 41 ∨ P q = 93 ∨ P q = 42 ∨ P q = 43 ∨ P q = 63 ∨ P q = 0 then none
    else some (atF (T (P q) (P q)), q + 1) := rfl
theorem atF_adv (pl : Int32) : adv (atF pl) := by
  intro x y
  apply bt_ext
  intro p _
  unfold atF
  rw [bt_or, bt_shl, bt_shl, bt_shl, bt_and, bt_and, bt_and, bt_or]
  cases bt x (p - 1) <;> cases bt y (p - 1) <;> cases bt pl (p - 1) <;> simp
theorem and_adv (mk : Int32) : adv (fun x => x &&& mk) := by
  intro x y
  apply bt_ext
  intro p _
  show bt ((x ||| y) &&& mk) p = bt ((x &&& mk) ||| (y &&& mk)) p
  rw [bt_or, bt_and, bt_and, bt_and, bt_or]
  cases bt x p <;> cases bt y p <;> cases bt mk p <;> rfl
theorem id_adv : adv (fun x => x) := fun _ _ => rfl
theorem cp_adv {F G : Int32 → Int32} (h : adv F) (k : adv G) : adv (fun x => G (F x)) := fun x y => by
  show G (F (x ||| y)) = _
  rw [h, k]
theorem or_adv {F G : Int32 → Int32} (h : adv F) (k : adv G) : adv (fun x => F x ||| G x) := fun x y => by
  show F (x ||| y) ||| G (x ||| y) = (F x ||| G x) ||| (F y ||| G y)
  rw [h, k]
  apply bt_ext
  intro p _
  simp only [bt_or]
  cases bt (F x) p <;> cases bt (F y) p <;> cases bt (G x) p <;> cases bt (G y) p <;> rfl
theorem sgF_adv (b : Int32) {F : Int32 → Int32} (h : adv F) : adv (sgF b F) := by
  unfold sgF
  split
  · exact cp_adv (or_adv id_adv h) (itr_adv h)
  · split
    · exact cp_adv h (itr_adv h)
    · split
      · exact or_adv id_adv h
      · exact h
/-! graphs -/
theorem clX_app {A B : List aW} {X : Nat → Int32} : clX (A ++ B) X ↔ clX A X ∧ clX B X := by
  constructor
  · intro h
    exact ⟨fun e he => h e (List.mem_append_left _ he), fun e he => h e (List.mem_append_right _ he)⟩
  · rintro ⟨h, k⟩ e he
    rcases List.mem_append.mp he with q | q
    · exact h e q
    · exact k e q
theorem clX_nil (X : Nat → Int32) : clX [] X := fun e he => by cases he
theorem clX_mk {a b : Nat} {mk : Int32} {X : Nat → Int32} : clX [(a, b, mk, 0)] X ↔ sb (X a &&& mk) (X b) := by
  constructor
  · intro h p hp
    rw [bt_and, Bool.and_eq_true] at hp
    exact h _ List.mem_cons_self p hp.1 hp.2
  · intro h e he p h1 h2
    rw [List.mem_singleton] at he
    subst he
    exact h p (by rw [bt_and, h1, h2]; rfl)
theorem clX_ev {a b : Nat} {X : Nat → Int32} : clX [(a, b, -1, 0)] X ↔ sb (X a) (X b) := by
  rw [clX_mk]
  have : X a &&& (-1) = X a := bt_ext fun p hp => by rw [bt_and, bt_m1 hp, Bool.and_true]
  rw [this]
theorem clX_at {a b : Nat} {pl : Int32} (hp : fit pl) {X : Nat → Int32} : clX [(a, b, pl, 1)] X ↔ sb (atF pl (X a)) (X b) := by
  unfold atF
  constructor
  · intro h p hq
    rw [bt_shl, Bool.and_eq_true, Bool.and_eq_true, decide_eq_true_eq, decide_eq_true_eq, bt_and, Bool.and_eq_true] at hq
    have := h _ List.mem_cons_self (p - 1) hq.2.1 hq.2.2
    rwa [show p - 1 + 1 = p by omega] at this
  · intro h e he p h1 h2
    rw [List.mem_singleton] at he
    subst he
    have h3 := hp p h2
    exact h (p + 1) (by rw [bt_shl' _ (by omega), bt_and, h1, h2]; rfl)
theorem clX_agree {n : Nat} {W : List aW} (hW : ∀ e ∈ W, wOk n e) {X Y : Nat → Int32} (h : ∀ k, k < n → Y k = X k) (c : clX W X) : clX W Y := by
  intro e he p h1 h2
  rw [h _ (hW e he).1] at h1
  rw [h _ (hW e he).2.1]
  exact c e he p h1 h2
/-- a sign: sets for the atom's entry and target -/
theorem sgn_sound (b : Int32) {F : Int32 → Int32} (h : adv F) (x : Int32) : ∃ Y Z, sb x Y ∧ sb (F Y) Z ∧ ((b = 42 ∨ b = 43) → sb Z Y) ∧ (b = 63 → sb Y Z) ∧ sb (if b = 42 then Y else Z) (sgF b F x) := by
  have fx : ∀ x, sb (F (itr F 33 x)) (itr F 33 x) := fun x => sb_eq.mp (itr_fix F 33 x (by omega))
  unfold sgF
  by_cases b1 : b = 42
  · rw [if_pos b1]
    refine ⟨itr F 33 (x ||| F x), F (itr F 33 (x ||| F x)), sb_tr (sb_l _ _) (itr_sb F 33 _), sb_rfl _, fun _ => fx _, ?_, ?_⟩
    · intro q; subst b1; exact absurd q (by decide)
    · rw [if_pos b1]; exact sb_rfl _
  rw [if_neg b1]
  by_cases b2 : b = 43
  · rw [if_pos b2]
    refine ⟨x ||| itr F 33 (F x), itr F 33 (F x), sb_l _ _, ?_, fun _ => sb_r _ _, ?_, by rw [if_neg b1]; exact sb_rfl _⟩
    · rw [h]; exact sb_or.mpr ⟨itr_sb F 33 _, fx _⟩
    · intro q; subst b2; exact absurd q (by decide)
  rw [if_neg b2]
  by_cases b3 : b = 63
  · rw [if_pos b3]
    refine ⟨x, x ||| F x, sb_rfl _, sb_r _ _, ?_, fun _ => sb_l _ _, by rw [if_neg b1]; exact sb_rfl _⟩
    rintro (q | q) <;> contradiction
  · rw [if_neg b3]
    refine ⟨x, F x, sb_rfl _, sb_rfl _, ?_, fun q => absurd q b3, by rw [if_neg b1]; exact sb_rfl _⟩
    rintro (q | q) <;> contradiction
theorem sgW_cl {b : Int32} {e t : Nat} {X : Nat → Int32} : clX (sgW b e t) X ↔ (((b = 42 ∨ b = 43) → sb (X t) (X e)) ∧ (b = 63 → sb (X e) (X t))) := by
  unfold sgW
  by_cases b1 : b = 42
  · rw [if_pos b1, clX_ev]
    constructor
    · intro h; exact ⟨fun _ => h, fun q => by subst b1; exact absurd q (by decide)⟩
    · intro h; exact h.1 (Or.inl b1)
  rw [if_neg b1]
  by_cases b2 : b = 43
  · rw [if_pos b2, clX_ev]
    constructor
    · intro h; exact ⟨fun _ => h, fun q => by subst b2; exact absurd q (by decide)⟩
    · intro h; exact h.1 (Or.inr b2)
  rw [if_neg b2]
  by_cases b3 : b = 63
  · rw [if_pos b3, clX_ev]
    constructor
    · intro h; exact ⟨fun q => by rcases q with q | q <;> contradiction, fun _ => h⟩
    · intro h; exact h.2 b3
  · rw [if_neg b3]
    constructor
    · intro _; exact ⟨fun q => by rcases q with q | q <;> contradiction, fun q => absurd q b3⟩
    · intro _; exact clX_nil X
theorem sgn_comp {b : Int32} {F : Int32 → Int32} {e t : Nat} {X : Nat → Int32} (h : ∀ x, sb x (X e) → sb (F x) (X t)) (c : clX (sgW b e t) X) (x : Int32) (hx : sb x (X e)) : sb (sgF b F x) (X (sgC b e t)) := by
  obtain ⟨c1, c2⟩ := sgW_cl.mp c
  unfold sgF sgC
  by_cases b1 : b = 42
  · rw [if_pos b1, if_pos b1]
    have b4 := c1 (Or.inl b1)
    exact itr_le F _ (fun y hy => sb_tr (h y hy) b4) 33 _ (sb_or.mpr ⟨hx, sb_tr (h x hx) b4⟩)
  rw [if_neg b1, if_neg b1]
  by_cases b2 : b = 43
  · rw [if_pos b2]
    have b4 := c1 (Or.inr b2)
    exact itr_le F _ (fun y hy => h y (sb_tr hy b4)) 33 _ (h x hx)
  rw [if_neg b2]
  by_cases b3 : b = 63
  · rw [if_pos b3]
    exact sb_or.mpr ⟨sb_tr hx (c2 b3), h x hx⟩
  · rw [if_neg b3]; exact h x hx
