/-! A PURE MACHINE over places: values are ints, longs, and references to places (kind, index); an instruction is a function of states (with an oracle for its branches and calls); 'qm_px' runs them, and 'qm_run' says that the JVM's walk W follows it. -/
abbrev qm_v : Type := Int32 ⊕ (Int64 ⊕ Option (Nat × Nat))
abbrev qI (x : Int32) : qm_v := .inl x
abbrev qL (x : Int64) : qm_v := .inr (.inl x)
abbrev qR (k i : Nat) : qm_v := .inr (.inr (some (k, i)))
abbrev qN : qm_v := .inr (.inr none)
def qm_cv (Λ : Nat → Nat → Nat) : qm_v → Value
  | .inl x => .int x
  | .inr (.inl x) => .long x
  | .inr (.inr none) => .null
  | .inr (.inr (some q)) => .ref (Λ q.1 q.2)
def qm_ok (V : Nat → Nat → Prop) : qm_v → Prop
  | .inr (.inr (some q)) => V q.1 q.2
  | _ => True
abbrev qm_S (G : Type) : Type := List (Option qm_v) × List qm_v × G
abbrev qm_O (G : Type) : Type := List Nat × List (Option (Nat × Nat)) × List (Option qm_v × G)
abbrev qm_R (G : Type) : Type := List Prop × Option (Option Nat) × qm_S G × qm_O G
abbrev qm_op (G : Type) : Type := qm_O G → qm_S G → qm_R G
def qm_all : List Prop → Prop
  | [] => True
  | [c] => c
  | c :: d :: r => c ∧ qm_all (d :: r)
theorem qm_all_cons {c : Prop} {r : List Prop} (h : qm_all (c :: r)) : c ∧ qm_all r := by
  cases r with
  | nil => exact ⟨h, trivial⟩
  | cons d r => exact h
theorem qm_all_app : ∀ {a b : List Prop}, qm_all (a ++ b) → qm_all a ∧ qm_all b
  | [], _, h => ⟨trivial, h⟩
  | [c], _, h => qm_all_cons h
  | c :: d :: r, b, h => by
    obtain ⟨h1, h2⟩ := qm_all_cons (r := (d :: r) ++ b) h
    obtain ⟨h3, h4⟩ := qm_all_app (a := d :: r) h2
    exact ⟨⟨h1, h3⟩, h4⟩
/-- locals -/
def qm_nth : List (Option qm_v) → Nat → Option qm_v
  | [], _ => none
  | a :: _, 0 => a
  | _ :: l, n + 1 => qm_nth l n
def qm_kl : Option qm_v → Option qm_v
  | some (.inr (.inl _)) => none
  | x => x
def qm_st1 : List (Option qm_v) → Nat → qm_v → List (Option qm_v)
  | [], _, _ => []
  | _ :: l, 0, v => some v :: l
  | a :: l, 1, v => qm_kl a :: qm_st1 l 0 v
  | a :: l, n + 2, v => a :: qm_st1 l (n + 1) v
def qm_st2 : List (Option qm_v) → Nat → qm_v → List (Option qm_v)
  | [], _, _ => []
  | [_], _, _ => []
  | _ :: _ :: l, 0, v => some v :: none :: l
  | a :: b :: l, 1, v => qm_kl a :: qm_st2 (b :: l) 0 v
  | a :: b :: l, n + 2, v => a :: qm_st2 (b :: l) (n + 1) v
def qm_ll (Λ : Nat → Nat → Nat) : Nat → List (Option qm_v) → List (Nat × Value)
  | _, [] => []
  | i, none :: l => qm_ll Λ (i + 1) l
  | i, some v :: l => (i, qm_cv Λ v) :: qm_ll Λ (i + 1) l
theorem qm_ll_mem {Λ : Nat → Nat → Nat} : ∀ {L : List (Option qm_v)} {i k : Nat} {v : qm_v}, qm_nth L k = some v → (i + k, qm_cv Λ v) ∈ qm_ll Λ i L
  | [], _, _, _, h => by cases h
  | none :: l, i, 0, v, h => by cases h
  | some u :: l, i, 0, v, h => by cases h; exact List.mem_cons_self
  | none :: l, i, k + 1, v, h => by
    have := qm_ll_mem (Λ := Λ) (L := l) (i := i + 1) (k := k) (v := v) h
    rw [show i + 1 + k = i + (k + 1) by omega] at this
    exact this
  | some u :: l, i, k + 1, v, h => by
    have := qm_ll_mem (Λ := Λ) (L := l) (i := i + 1) (k := k) (v := v) h
    rw [show i + 1 + k = i + (k + 1) by omega] at this
    exact List.mem_cons_of_mem _ this
theorem qm_ll_of {Λ : Nat → Nat → Nat} : ∀ {L : List (Option qm_v)} {i : Nat} {q : Nat × Value}, q ∈ qm_ll Λ i L → ∃ k v, q = (i + k, qm_cv Λ v) ∧ qm_nth L k = some v
  | [], _, _, h => by cases h
  | none :: l, i, q, h => by
    obtain ⟨k, v, h1, h2⟩ := qm_ll_of (L := l) (i := i + 1) h
    exact ⟨k + 1, v, by rw [h1]; congr 1; omega, h2⟩
  | some u :: l, i, q, h => by
    rcases List.mem_cons.mp h with h | h
    · exact ⟨0, u, h, rfl⟩
    · obtain ⟨k, v, h1, h2⟩ := qm_ll_of (L := l) (i := i + 1) h
      exact ⟨k + 1, v, by rw [h1]; congr 1; omega, h2⟩
def qm_lo (Λ : Nat → Nat → Nat) (nL : Nat) (ls : Array Slot) (L : List (Option qm_v)) : Prop := lv_has ls nL (qm_ll Λ 0 L) ∧ L.length = nL
theorem qm_lo.at {Λ : Nat → Nat → Nat} {nL : Nat} {ls : Array Slot} {L : List (Option qm_v)} (h : qm_lo Λ nL ls L) {k : Nat} {v : qm_v} (hk : qm_nth L k = some v) : ls[k]? = some (.val (qm_cv Λ v)) := by
  have := h.1.2.2 _ (qm_ll_mem (Λ := Λ) (i := 0) hk)
  rw [Nat.zero_add] at this
  exact this
theorem qm_st1_len : ∀ (L : List (Option qm_v)) (k : Nat) (v : qm_v), (qm_st1 L k v).length = L.length
  | [], _, _ => rfl
  | _ :: _, 0, _ => rfl
  | a :: l, 1, v => by show (qm_st1 l 0 v).length + 1 = _; rw [qm_st1_len l 0 v]; rfl
  | a :: l, n + 2, v => by show (qm_st1 l (n + 1) v).length + 1 = _; rw [qm_st1_len l (n + 1) v]; rfl
theorem qm_kl_of {a : Option qm_v} {u : qm_v} (h : qm_kl a = some u) : a = some u ∧ ∀ x, u ≠ .inr (.inl x) := by
  rcases a with _ | ⟨x | ⟨x | x⟩⟩
  · cases h
  · cases h; exact ⟨rfl, fun _ q => by cases q⟩
  · cases h
  · cases h; exact ⟨rfl, fun _ q => by cases q⟩
theorem qm_st1_nth : ∀ {L : List (Option qm_v)} {k i : Nat} {v u : qm_v}, qm_nth (qm_st1 L k v) i = some u → (i = k ∧ u = v) ∨ (i ≠ k ∧ qm_nth L i = some u ∧ (i + 1 = k → ∀ x, u ≠ .inr (.inl x)))
  | [], _, _, _, _, h => by cases h
  | a :: l, 0, 0, v, u, h => by cases h; exact Or.inl ⟨rfl, rfl⟩
  | a :: l, 0, i + 1, v, u, h => Or.inr ⟨by omega, h, fun q => by omega⟩
  | a :: l, 1, 0, v, u, h => by
    obtain ⟨h1, h2⟩ := qm_kl_of h
    exact Or.inr ⟨by omega, h1, fun _ => h2⟩
  | a :: l, 1, i + 1, v, u, h => by
    rcases qm_st1_nth (L := l) (k := 0) (i := i) h with ⟨h1, h2⟩ | ⟨h1, h2, h3⟩
    · exact Or.inl ⟨by omega, h2⟩
    · exact Or.inr ⟨by omega, h2, fun q => h3 (by omega)⟩
  | a :: l, n + 2, 0, v, u, h => Or.inr ⟨by omega, h, fun q => by omega⟩
  | a :: l, n + 2, i + 1, v, u, h => by
    rcases qm_st1_nth (L := l) (k := n + 1) (i := i) h with ⟨h1, h2⟩ | ⟨h1, h2, h3⟩
    · exact Or.inl ⟨by omega, h2⟩
    · exact Or.inr ⟨by omega, h2, fun q => h3 (by omega)⟩
theorem qm_st2_len : ∀ (L : List (Option qm_v)) (k : Nat) (v : qm_v), k + 1 < L.length → (qm_st2 L k v).length = L.length
  | [], _, _, h => by simp at h
  | [_], _, _, h => by simp at h
  | _ :: _ :: _, 0, _, _ => rfl
  | a :: b :: l, 1, v, h => by
    show (qm_st2 (b :: l) 0 v).length + 1 = _
    rw [qm_st2_len (b :: l) 0 v (by simp at h ⊢; omega)]; rfl
  | a :: b :: l, n + 2, v, h => by
    show (qm_st2 (b :: l) (n + 1) v).length + 1 = _
    rw [qm_st2_len (b :: l) (n + 1) v (by simp at h ⊢; omega)]; rfl
theorem qm_st2_nth : ∀ {L : List (Option qm_v)} {k i : Nat} {v u : qm_v}, qm_nth (qm_st2 L k v) i = some u → (i = k ∧ u = v) ∨ (i ≠ k ∧ i ≠ k + 1 ∧ qm_nth L i = some u ∧ (i + 1 = k → ∀ x, u ≠ .inr (.inl x)))
  | [], _, _, _, _, h => by cases h
  | [_], _, _, _, _, h => by cases h
  | a :: b :: l, 0, 0, v, u, h => by cases h; exact Or.inl ⟨rfl, rfl⟩
  | a :: b :: l, 0, 1, v, u, h => by cases h
  | a :: b :: l, 0, i + 2, v, u, h => Or.inr ⟨by omega, by omega, h, fun q => by omega⟩
  | a :: b :: l, 1, 0, v, u, h => by
    obtain ⟨h1, h2⟩ := qm_kl_of h
    exact Or.inr ⟨by omega, by omega, h1, fun _ => h2⟩
  | a :: b :: l, 1, i + 1, v, u, h => by
    rcases qm_st2_nth (L := b :: l) (k := 0) (i := i) h with ⟨h1, h2⟩ | ⟨h1, h2, h3, h4⟩
    · exact Or.inl ⟨by omega, h2⟩
    · exact Or.inr ⟨by omega, by omega, h3, fun q => h4 (by omega)⟩
  | a :: b :: l, n + 2, 0, v, u, h => Or.inr ⟨by omega, by omega, h, fun q => by omega⟩
  | a :: b :: l, n + 2, i + 1, v, u, h => by
    rcases qm_st2_nth (L := b :: l) (k := n + 1) (i := i) h with ⟨h1, h2⟩ | ⟨h1, h2, h3, h4⟩
    · exact Or.inl ⟨by omega, h2⟩
    · exact Or.inr ⟨by omega, by omega, h3, fun q => h4 (by omega)⟩
theorem qm_cat {Λ : Nat → Nat → Nat} {u : qm_v} (h : ∀ x, u ≠ .inr (.inl x)) : (qm_cv Λ u).category = 1 := by
  rcases u with x | ⟨x | ⟨_ | x⟩⟩
  · rfl
  · exact absurd rfl (h x)
  · rfl
  · rfl
theorem qm_lo.st1 {Λ : Nat → Nat → Nat} {nL : Nat} {ls ls' : Array Slot} {L : List (Option qm_v)} {k : Nat} {v : qm_v} (h : qm_lo Λ nL ls L) (h' : lv_has ls' nL ((k, qm_cv Λ v) :: (qm_ll Λ 0 L).filter (fun q => !(q.1 == k) && !(q.1 + 1 == k && q.2.category == 2)))) : qm_lo Λ nL ls' (qm_st1 L k v) := by
  refine ⟨⟨h'.1, h'.2.1, fun q hq => ?_⟩, (qm_st1_len L k v).trans h.2⟩
  obtain ⟨i, u, rfl, hn⟩ := qm_ll_of hq
  refine h'.2.2 _ ?_
  rw [Nat.zero_add]
  rcases qm_st1_nth hn with ⟨rfl, rfl⟩ | ⟨h1, h2, h3⟩
  · exact List.mem_cons_self
  · refine List.mem_cons_of_mem _ (List.mem_filter.mpr ⟨?_, ?_⟩)
    · have := qm_ll_mem (Λ := Λ) (i := 0) h2
      rw [Nat.zero_add] at this
      exact this
    · by_cases hk : i + 1 = k
      · have hc := qm_cat (Λ := Λ) (h3 hk)
        simp [h1, hc]
      · simp [h1, hk]
theorem qm_lo.st2 {Λ : Nat → Nat → Nat} {nL : Nat} {ls ls' : Array Slot} {L : List (Option qm_v)} {k : Nat} {v : qm_v} (h : qm_lo Λ nL ls L) (hk1 : k + 1 < nL) (h' : lv_has ls' nL ((k, qm_cv Λ v) :: (qm_ll Λ 0 L).filter (fun q => !(q.1 == k) && (!(q.1 == k + 1) && !(q.1 + 1 == k && q.2.category == 2))))) : qm_lo Λ nL ls' (qm_st2 L k v) := by
  refine ⟨⟨h'.1, h'.2.1, fun q hq => ?_⟩, (qm_st2_len L k v (by rw [h.2]; exact hk1)).trans h.2⟩
  obtain ⟨i, u, rfl, hn⟩ := qm_ll_of hq
  refine h'.2.2 _ ?_
  rw [Nat.zero_add]
  rcases qm_st2_nth hn with ⟨rfl, rfl⟩ | ⟨h1, h1b, h2, h3⟩
  · exact List.mem_cons_self
  · refine List.mem_cons_of_mem _ (List.mem_filter.mpr ⟨?_, ?_⟩)
    · have := qm_ll_mem (Λ := Λ) (i := 0) h2
      rw [Nat.zero_add] at this
      exact this
    · by_cases hk : i + 1 = k
      · have hc := qm_cat (Λ := Λ) (h3 hk)
        simp [h1, h1b, hc]
      · simp [h1, h1b, hk]
