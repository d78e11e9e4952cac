/-! THE CLASS'S STATE: values (0 .. 79 of the expressions, 80 .. 87 of the row, 88 the latest), their bytes, expressions, count and taped, the tape, the search's numbers and arrays. -/
abbrev cVR : Type := Int32 × Int64 × Int32 × Int32
abbrev cER : Type := Int32 × Nat × Int32 × Option Nat × Option Nat × Option Nat × Int32 × Int32 × Int32
abbrev cG : Type := (Nat → cVR) × (Nat → Nat → Int32) × (Nat → cER) × (Int32 × Int32) × (Nat → Int32) × (Nat → Int32) × (Nat → Nat → Int32)
def cV : Nat → Nat → Prop
  | 0, i => i = 0
  | 1, i => i < 89
  | 2, i => i < 89
  | 3, i => i < 80
  | 4, i => i = 0
  | 5, i => i = 0
  | 6, i => i = 0
  | 7, i => i = 0
  | 8, i => i < 7
  | _, _ => False
/-- where each cell lies, by the order in which the constructor makes them -/
def cLa (a : Nat) : Nat → Nat → Nat
  | 0, _ => a
  | 1, i => if i < 80 then a + 15 + 3 * i else if i < 88 then a + 94 + 2 * i else a + 3
  | 2, i => if i < 80 then a + 16 + 3 * i else if i < 88 then a + 95 + 2 * i else a + 4
  | 3, i => a + 14 + 3 * i
  | 4, _ => a + 1
  | 5, _ => a + 2
  | 6, _ => a + 5
  | 7, _ => a + 6
  | 8, i => a + 7 + i
  | _, _ => a
def cA (a : Nat) : Nat → Prop := fun q => a ≤ q ∧ q < a + 270
def cSl (j : Nat) : Nat := if j < 5 then 64 else 24
theorem cLa_1 (a i : Nat) : cLa a 1 i = if i < 80 then a + 15 + 3 * i else if i < 88 then a + 94 + 2 * i else a + 3 := rfl
theorem cLa_2 (a i : Nat) : cLa a 2 i = if i < 80 then a + 16 + 3 * i else if i < 88 then a + 95 + 2 * i else a + 4 := rfl
theorem cLa_in (a : Nat) : ∀ k i, cV k i → cA a (cLa a k i)
  | 0, i, h => ⟨Nat.le_refl _, by show a < a + 270; omega⟩
  | 1, i, h => by
    have h : i < 89 := h
    rw [cLa_1]
    unfold cA
    by_cases h1 : i < 80
    · simp only [if_pos h1]; omega
    · by_cases h2 : i < 88
      · simp only [if_neg h1, if_pos h2]; omega
      · simp only [if_neg h1, if_neg h2]; omega
  | 2, i, h => by
    have h : i < 89 := h
    rw [cLa_2]
    unfold cA
    by_cases h1 : i < 80
    · simp only [if_pos h1]; omega
    · by_cases h2 : i < 88
      · simp only [if_neg h1, if_pos h2]; omega
      · simp only [if_neg h1, if_neg h2]; omega
  | 3, i, h => by have h : i < 80 := h; show a ≤ a + 14 + 3 * i ∧ a + 14 + 3 * i < a + 270; omega
  | 4, i, h => by show a ≤ a + 1 ∧ a + 1 < a + 270; omega
  | 5, i, h => by show a ≤ a + 2 ∧ a + 2 < a + 270; omega
  | 6, i, h => by show a ≤ a + 5 ∧ a + 5 < a + 270; omega
  | 7, i, h => by show a ≤ a + 6 ∧ a + 6 < a + 270; omega
  | 8, i, h => by have h : i < 7 := h; show a ≤ a + 7 + i ∧ a + 7 + i < a + 270; omega
  | n + 9, i, h => h.elim
/-- a place's number, and back: what lies at a cell -/
def cWh (n : Nat) : Nat × Nat :=
  if n = 0 then (0, 0) else if n = 1 then (4, 0) else if n = 2 then (5, 0) else if n = 3 then (1, 88) else if n = 4 then (2, 88) else if n = 5 then (6, 0) else if n = 6 then (7, 0) else if n < 14 then (8, n - 7)
  else if n < 254 then (if n % 3 = 2 then (3, (n - 14) / 3) else if n % 3 = 0 then (1, (n - 15) / 3) else (2, (n - 16) / 3))
  else (if n % 2 = 0 then (1, (n - 94) / 2) else (2, (n - 95) / 2))
theorem cWh_of (a : Nat) : ∀ k i, cV k i → cWh (cLa a k i - a) = (k, i)
  | 0, i, h => by have h : i = 0 := h; subst h; simp [cLa, cWh]
  | 1, i, h => by
    have h : i < 89 := h
    rw [cLa_1]
    by_cases h1 : i < 80
    · rw [if_pos h1]
      unfold cWh
      rw [show a + 15 + 3 * i - a = 15 + 3 * i by omega]
      simp only [show ¬ 15 + 3 * i = 0 by omega, show ¬ 15 + 3 * i = 1 by omega, show ¬ 15 + 3 * i = 2 by omega, show ¬ 15 + 3 * i = 3 by omega, show ¬ 15 + 3 * i = 4 by omega, show ¬ 15 + 3 * i = 5 by omega, show ¬ 15 + 3 * i = 6 by omega, show ¬ 15 + 3 * i < 14 by omega, show 15 + 3 * i < 254 by omega, show ¬ (15 + 3 * i) % 3 = 2 by omega, show (15 + 3 * i) % 3 = 0 by omega, if_true, if_false]
      exact Prod.ext rfl (by show (_ - _) / 3 = i; omega)
    · rw [if_neg h1]
      by_cases h2 : i < 88
      · rw [if_pos h2]
        unfold cWh
        rw [show a + 94 + 2 * i - a = 94 + 2 * i by omega]
        simp only [show ¬ 94 + 2 * i = 0 by omega, show ¬ 94 + 2 * i = 1 by omega, show ¬ 94 + 2 * i = 2 by omega, show ¬ 94 + 2 * i = 3 by omega, show ¬ 94 + 2 * i = 4 by omega, show ¬ 94 + 2 * i = 5 by omega, show ¬ 94 + 2 * i = 6 by omega, show ¬ 94 + 2 * i < 14 by omega, show ¬ 94 + 2 * i < 254 by omega, show (94 + 2 * i) % 2 = 0 by omega, if_true, if_false]
        exact Prod.ext rfl (by show (_ - _) / 2 = i; omega)
      · rw [if_neg h2]
        have : i = 88 := by omega
        subst this
        simp [cWh, show a + 3 - a = 3 by omega]
  | 2, i, h => by
    have h : i < 89 := h
    rw [cLa_2]
    by_cases h1 : i < 80
    · rw [if_pos h1]
      unfold cWh
      rw [show a + 16 + 3 * i - a = 16 + 3 * i by omega]
      simp only [show ¬ 16 + 3 * i = 0 by omega, show ¬ 16 + 3 * i = 1 by omega, show ¬ 16 + 3 * i = 2 by omega, show ¬ 16 + 3 * i = 3 by omega, show ¬ 16 + 3 * i = 4 by omega, show ¬ 16 + 3 * i = 5 by omega, show ¬ 16 + 3 * i = 6 by omega, show ¬ 16 + 3 * i < 14 by omega, show 16 + 3 * i < 254 by omega, show ¬ (16 + 3 * i) % 3 = 2 by omega, show ¬ (16 + 3 * i) % 3 = 0 by omega, if_true, if_false]
      exact Prod.ext rfl (by show (_ - _) / 3 = i; omega)
    · rw [if_neg h1]
      by_cases h2 : i < 88
      · rw [if_pos h2]
        unfold cWh
        rw [show a + 95 + 2 * i - a = 95 + 2 * i by omega]
        simp only [show ¬ 95 + 2 * i = 0 by omega, show ¬ 95 + 2 * i = 1 by omega, show ¬ 95 + 2 * i = 2 by omega, show ¬ 95 + 2 * i = 3 by omega, show ¬ 95 + 2 * i = 4 by omega, show ¬ 95 + 2 * i = 5 by omega, show ¬ 95 + 2 * i = 6 by omega, show ¬ 95 + 2 * i < 14 by omega, show ¬ 95 + 2 * i < 254 by omega, show ¬ (95 + 2 * i) % 2 = 0 by omega, if_false]
        exact Prod.ext rfl (by show (_ - _) / 2 = i; omega)
      · rw [if_neg h2]
        have : i = 88 := by omega
        subst this
        simp [cWh, show a + 4 - a = 4 by omega]
  | 3, i, h => by
    have h : i < 80 := h
    show cWh (a + 14 + 3 * i - a) = _
    unfold cWh
    rw [show a + 14 + 3 * i - a = 14 + 3 * i by omega]
    simp only [show ¬ 14 + 3 * i = 0 by omega, show ¬ 14 + 3 * i = 1 by omega, show ¬ 14 + 3 * i = 2 by omega, show ¬ 14 + 3 * i = 3 by omega, show ¬ 14 + 3 * i = 4 by omega, show ¬ 14 + 3 * i = 5 by omega, show ¬ 14 + 3 * i = 6 by omega, show ¬ 14 + 3 * i < 14 by omega, show 14 + 3 * i < 254 by omega, show (14 + 3 * i) % 3 = 2 by omega, if_true, if_false]
    exact Prod.ext rfl (by show (_ - _) / 3 = i; omega)
  | 4, i, h => by have h : i = 0 := h; subst h; simp [cLa, cWh, show a + 1 - a = 1 by omega]
  | 5, i, h => by have h : i = 0 := h; subst h; simp [cLa, cWh, show a + 2 - a = 2 by omega]
  | 6, i, h => by have h : i = 0 := h; subst h; simp [cLa, cWh, show a + 5 - a = 5 by omega]
  | 7, i, h => by have h : i = 0 := h; subst h; simp [cLa, cWh, show a + 6 - a = 6 by omega]
  | 8, i, h => by
    have h : i < 7 := h
    show cWh (a + 7 + i - a) = _
    unfold cWh
    rw [show a + 7 + i - a = 7 + i by omega]
    simp only [show ¬ 7 + i = 0 by omega, show ¬ 7 + i = 1 by omega, show ¬ 7 + i = 2 by omega, show ¬ 7 + i = 3 by omega, show ¬ 7 + i = 4 by omega, show ¬ 7 + i = 5 by omega, show ¬ 7 + i = 6 by omega, show 7 + i < 14 by omega, if_true, if_false]
    exact Prod.ext rfl (by show _ - _ = i; omega)
  | n + 9, i, h => h.elim
theorem cLa_inj (a : Nat) (k i k' i' : Nat) (h : cV k i) (h' : cV k' i') (e : cLa a k i = cLa a k' i') : k = k' ∧ i = i' := by
  have h1 := cWh_of a k i h
  rw [e, cWh_of a k' i' h'] at h1
  cases h1
  exact ⟨rfl, rfl⟩
def cRf (x : Option Nat) : Option (Nat × Nat) := x.map (fun j => (3, j))
abbrev cQ : Type := ClassId × ClassId × ClassId × ClassId
abbrev cTys (q : cQ) : List (ClassId × FieldType) := [(q.1, .byte), (q.2.1, .int), (q.2.2.1, .object "FunctionRows$Expression"), (q.2.2.2, .object "FunctionRows$Value")]
def c_ce (a : Nat) (q : cQ) (g : cG) : Nat → Nat → va_E
  | 0, _ => .inr (3, [.ref (cLa a 4 0), .int g.2.2.2.1.1, .ref (cLa a 5 0), .ref (cLa a 1 88), .ref (cLa a 6 0), .int g.2.2.2.1.2, .ref (cLa a 7 0)])
  | 1, i => .inr (0, [.int (g.1 i).1, .long (g.1 i).2.1, .int (g.1 i).2.2.1, .int (g.1 i).2.2.2, .ref (cLa a 2 i)])
  | 2, i => .inl (q.1, 24, .inl (g.2.1 i))
  | 3, i => .inr (1, [.ref (cLa a 1 i), .int (g.2.2.1 i).1, .ref (cLa a 1 (g.2.2.1 i).2.1), .int (g.2.2.1 i).2.2.1, qm_cv (cLa a) (.inr (.inr (cRf (g.2.2.1 i).2.2.2.1))), qm_cv (cLa a) (.inr (.inr (cRf (g.2.2.1 i).2.2.2.2.1))), qm_cv (cLa a) (.inr (.inr (cRf (g.2.2.1 i).2.2.2.2.2.1))), .int (g.2.2.1 i).2.2.2.2.2.2.1, .int (g.2.2.1 i).2.2.2.2.2.2.2.1, .int (g.2.2.1 i).2.2.2.2.2.2.2.2])
  | 4, _ => .inl (q.2.2.1, 80, .inr (.inr (.inr (.inr (fun j => some (cLa a 3 j))))))
  | 5, _ => .inl (q.2.2.2, 8, .inr (.inr (.inr (.inr (fun j => some (cLa a 1 (80 + j)))))))
  | 6, _ => .inl (q.1, 48, .inl g.2.2.2.2.1)
  | 7, _ => .inr (2, [.ref (cLa a 8 0), .int (g.2.2.2.2.2.1 0), .ref (cLa a 8 1), .ref (cLa a 8 2), .ref (cLa a 8 3), .ref (cLa a 8 4), .int (g.2.2.2.2.2.1 1), .ref (cLa a 8 5), .ref (cLa a 8 6), .int (g.2.2.2.2.2.1 2), .int (g.2.2.2.2.2.1 3), .int (g.2.2.2.2.2.1 4), .int (g.2.2.2.2.2.1 5), .int (g.2.2.2.2.2.1 6)])
  | 8, j => .inl (q.2.1, cSl j, .inl (g.2.2.2.2.2.2 j))
  | _, _ => .inl (q.1, 0, .inl (fun _ => 0))
def c_ok (g : cG) : Prop := ∀ i, i < 80 → (g.2.2.1 i).2.1 < 89 ∧ (∀ j, (g.2.2.1 i).2.2.2.1 = some j → j < 80) ∧ (∀ j, (g.2.2.1 i).2.2.2.2.1 = some j → j < 80) ∧ (∀ j, (g.2.2.1 i).2.2.2.2.2.1 = some j → j < 80)
abbrev cEnv : Type := Launch × va_G × cQ × Nat × (State → Heap → Prop)
abbrev cHold (E : cEnv) : State → cG → Heap → Prop := qm_hold E.2.1 tcl (cTys E.2.2.1) (cLa E.2.2.2.1) cV (c_ce E.2.2.2.1 E.2.2.1) c_ok E.2.2.2.2
abbrev cK (E : cEnv) (R : Room) (cc : ByteArray) (nL : Nat) (own : String) (Ts : List Cond) (ret : Option FieldType) : Nat → Nat → qm_op cG → Prop := qm_K (cLa E.2.2.2.1) cV (cHold E) (cA E.2.2.2.1) E.1 R cc nL own Ts ret
abbrev cSd (E : cEnv) (mt : MethodName × List Cond × Room) : List qm_v → cG → Option qm_v → cG → Prop := qm_Sd (cLa E.2.2.2.1) cV (cHold E) (cA E.2.2.2.1) E.1 mt
abbrev cOk (E : cEnv) : Prop := qm_sys (cLa E.2.2.2.1) cV E.2.2.2.2 (cA E.2.2.2.1)
theorem ce_uV {a : Nat} {q : cQ} {g : cG} {i : Nat} {x : cVR} (k j : Nat) (h : k ≠ 1 ∨ j ≠ i) : c_ce a q (va_up g.1 i x, g.2) k j = c_ce a q g k j := by
  match k, h with
  | 0, _ => rfl
  | 1, h =>
    have hj : j ≠ i := h.resolve_left (fun z => z rfl)
    simp only [c_ce, va_up_ne _ _ hj]
  | 2, _ => rfl
  | 3, _ => rfl
  | 4, _ => rfl
  | 5, _ => rfl
  | 6, _ => rfl
  | 7, _ => rfl
  | 8, _ => rfl
  | n + 9, _ => rfl
theorem ce_uB {a : Nat} {q : cQ} {g : cG} {i : Nat} {x : Nat → Int32} (k j : Nat) (h : k ≠ 2 ∨ j ≠ i) : c_ce a q (g.1, va_up g.2.1 i x, g.2.2) k j = c_ce a q g k j := by
  match k, h with
  | 0, _ => rfl
  | 1, _ => rfl
  | 2, h =>
    have hj : j ≠ i := h.resolve_left (fun z => z rfl)
    simp only [c_ce, va_up_ne _ _ hj]
  | 3, _ => rfl
  | 4, _ => rfl
  | 5, _ => rfl
  | 6, _ => rfl
  | 7, _ => rfl
  | 8, _ => rfl
  | n + 9, _ => rfl
theorem ce_uE {a : Nat} {q : cQ} {g : cG} {i : Nat} {x : cER} (k j : Nat) (h : k ≠ 3 ∨ j ≠ i) : c_ce a q (g.1, g.2.1, va_up g.2.2.1 i x, g.2.2.2) k j = c_ce a q g k j := by
  match k, h with
  | 0, _ => rfl
  | 1, _ => rfl
  | 2, _ => rfl
  | 3, h =>
    have hj : j ≠ i := h.resolve_left (fun z => z rfl)
    simp only [c_ce, va_up_ne _ _ hj]
  | 4, _ => rfl
  | 5, _ => rfl
  | 6, _ => rfl
  | 7, _ => rfl
  | 8, _ => rfl
  | n + 9, _ => rfl
theorem ce_uC {a : Nat} {q : cQ} {g : cG} {x : Int32 × Int32} (k j : Nat) (hv : cV k j) (h : k ≠ 0 ∨ j ≠ 0) : c_ce a q (g.1, g.2.1, g.2.2.1, x, g.2.2.2.2) k j = c_ce a q g k j := by
  match k, h, hv with
  | 0, h, hv => exact absurd hv (h.resolve_left (fun z => z rfl))
  | 1, _, _ => rfl
  | 2, _, _ => rfl
  | 3, _, _ => rfl
  | 4, _, _ => rfl
  | 5, _, _ => rfl
  | 6, _, _ => rfl
  | 7, _, _ => rfl
  | 8, _, _ => rfl
  | n + 9, _, _ => rfl
theorem ce_uT {a : Nat} {q : cQ} {g : cG} {x : Nat → Int32} (k j : Nat) (hv : cV k j) (h : k ≠ 6 ∨ j ≠ 0) : c_ce a q (g.1, g.2.1, g.2.2.1, g.2.2.2.1, x, g.2.2.2.2.2) k j = c_ce a q g k j := by
  match k, h, hv with
  | 0, _, _ => rfl
  | 1, _, _ => rfl
  | 2, _, _ => rfl
  | 3, _, _ => rfl
  | 4, _, _ => rfl
  | 5, _, _ => rfl
  | 6, h, hv => exact absurd hv (h.resolve_left (fun z => z rfl))
  | 7, _, _ => rfl
  | 8, _, _ => rfl
  | n + 9, _, _ => rfl
theorem ce_uN {a : Nat} {q : cQ} {g : cG} {x : Nat → Int32} (k j : Nat) (hv : cV k j) (h : k ≠ 7 ∨ j ≠ 0) : c_ce a q (g.1, g.2.1, g.2.2.1, g.2.2.2.1, g.2.2.2.2.1, x, g.2.2.2.2.2.2) k j = c_ce a q g k j := by
  match k, h, hv with
  | 0, _, _ => rfl
  | 1, _, _ => rfl
  | 2, _, _ => rfl
  | 3, _, _ => rfl
  | 4, _, _ => rfl
  | 5, _, _ => rfl
  | 6, _, _ => rfl
  | 7, h, hv => exact absurd hv (h.resolve_left (fun z => z rfl))
  | 8, _, _ => rfl
  | n + 9, _, _ => rfl
theorem ce_uA {a : Nat} {q : cQ} {g : cG} {i : Nat} {x : Nat → Int32} (k j : Nat) (h : k ≠ 8 ∨ j ≠ i) : c_ce a q (g.1, g.2.1, g.2.2.1, g.2.2.2.1, g.2.2.2.2.1, g.2.2.2.2.2.1, va_up g.2.2.2.2.2.2 i x) k j = c_ce a q g k j := by
  match k, h with
  | 0, _ => rfl
  | 1, _ => rfl
  | 2, _ => rfl
  | 3, _ => rfl
  | 4, _ => rfl
  | 5, _ => rfl
  | 6, _ => rfl
  | 7, _ => rfl
  | 8, h =>
    have hj : j ≠ i := h.resolve_left (fun z => z rfl)
    simp only [c_ce, va_up_ne _ _ hj]
  | n + 9, _ => rfl
def rdV0 (g : cG) (i : Nat) : qm_v := qI (g.1 i).1
theorem glV0 {a : Nat} {q : cQ} (g : cG) (i : Nat) (hV : cV 1 i) (hk : c_ok g) : ∃ fs, c_ce a q g 1 i = .inr (0, fs) ∧ fs[0]? = some (qm_cv (cLa a) (rdV0 g i)) ∧ qm_ok cV (rdV0 g i) := ⟨_, rfl, rfl, trivial⟩
def rdV1 (g : cG) (i : Nat) : qm_v := qL (g.1 i).2.1
theorem glV1 {a : Nat} {q : cQ} (g : cG) (i : Nat) (hV : cV 1 i) (hk : c_ok g) : ∃ fs, c_ce a q g 1 i = .inr (0, fs) ∧ fs[1]? = some (qm_cv (cLa a) (rdV1 g i)) ∧ qm_ok cV (rdV1 g i) := ⟨_, rfl, rfl, trivial⟩
def rdV2 (g : cG) (i : Nat) : qm_v := qI (g.1 i).2.2.1
theorem glV2 {a : Nat} {q : cQ} (g : cG) (i : Nat) (hV : cV 1 i) (hk : c_ok g) : ∃ fs, c_ce a q g 1 i = .inr (0, fs) ∧ fs[2]? = some (qm_cv (cLa a) (rdV2 g i)) ∧ qm_ok cV (rdV2 g i) := ⟨_, rfl, rfl, trivial⟩
def rdV3 (g : cG) (i : Nat) : qm_v := qI (g.1 i).2.2.2
theorem glV3 {a : Nat} {q : cQ} (g : cG) (i : Nat) (hV : cV 1 i) (hk : c_ok g) : ∃ fs, c_ce a q g 1 i = .inr (0, fs) ∧ fs[3]? = some (qm_cv (cLa a) (rdV3 g i)) ∧ qm_ok cV (rdV3 g i) := ⟨_, rfl, rfl, trivial⟩
def rdV4 (g : cG) (i : Nat) : qm_v := qR 2 i
theorem glV4 {a : Nat} {q : cQ} (g : cG) (i : Nat) (hV : cV 1 i) (hk : c_ok g) : ∃ fs, c_ce a q g 1 i = .inr (0, fs) ∧ fs[4]? = some (qm_cv (cLa a) (rdV4 g i)) ∧ qm_ok cV (rdV4 g i) := ⟨_, rfl, rfl, hV⟩
def rdE0 (g : cG) (i : Nat) : qm_v := qR 1 i
theorem glE0 {a : Nat} {q : cQ} (g : cG) (i : Nat) (hV : cV 3 i) (hk : c_ok g) : ∃ fs, c_ce a q g 3 i = .inr (1, fs) ∧ fs[0]? = some (qm_cv (cLa a) (rdE0 g i)) ∧ qm_ok cV (rdE0 g i) := ⟨_, rfl, rfl, (show i < 89 from Nat.lt_trans hV (by decide))⟩
def rdE1 (g : cG) (i : Nat) : qm_v := qI (g.2.2.1 i).1
theorem glE1 {a : Nat} {q : cQ} (g : cG) (i : Nat) (hV : cV 3 i) (hk : c_ok g) : ∃ fs, c_ce a q g 3 i = .inr (1, fs) ∧ fs[1]? = some (qm_cv (cLa a) (rdE1 g i)) ∧ qm_ok cV (rdE1 g i) := ⟨_, rfl, rfl, trivial⟩
def rdE2 (g : cG) (i : Nat) : qm_v := qR 1 (g.2.2.1 i).2.1
theorem glE2 {a : Nat} {q : cQ} (g : cG) (i : Nat) (hV : cV 3 i) (hk : c_ok g) : ∃ fs, c_ce a q g 3 i = .inr (1, fs) ∧ fs[2]? = some (qm_cv (cLa a) (rdE2 g i)) ∧ qm_ok cV (rdE2 g i) := ⟨_, rfl, rfl, (hk i hV).1⟩
def rdE3 (g : cG) (i : Nat) : qm_v := qI (g.2.2.1 i).2.2.1
theorem glE3 {a : Nat} {q : cQ} (g : cG) (i : Nat) (hV : cV 3 i) (hk : c_ok g) : ∃ fs, c_ce a q g 3 i = .inr (1, fs) ∧ fs[3]? = some (qm_cv (cLa a) (rdE3 g i)) ∧ qm_ok cV (rdE3 g i) := ⟨_, rfl, rfl, trivial⟩
def rdE4 (g : cG) (i : Nat) : Option (Nat × Nat) := cRf (g.2.2.1 i).2.2.2.1
theorem glE4 {a : Nat} {q : cQ} (g : cG) (i : Nat) (hV : cV 3 i) (hk : c_ok g) : ∃ fs, c_ce a q g 3 i = .inr (1, fs) ∧ fs[4]? = some (qm_cv (cLa a) (.inr (.inr (rdE4 g i)))) ∧ qm_ok cV (.inr (.inr (rdE4 g i))) := by
  refine ⟨_, rfl, rfl, ?_⟩
  unfold rdE4
  rcases hx : (g.2.2.1 i).2.2.2.1 with _ | j
  · trivial
  · exact (hk i hV).2.1 j hx
def rdE5 (g : cG) (i : Nat) : Option (Nat × Nat) := cRf (g.2.2.1 i).2.2.2.2.1
theorem glE5 {a : Nat} {q : cQ} (g : cG) (i : Nat) (hV : cV 3 i) (hk : c_ok g) : ∃ fs, c_ce a q g 3 i = .inr (1, fs) ∧ fs[5]? = some (qm_cv (cLa a) (.inr (.inr (rdE5 g i)))) ∧ qm_ok cV (.inr (.inr (rdE5 g i))) := by
  refine ⟨_, rfl, rfl, ?_⟩
  unfold rdE5
  rcases hx : (g.2.2.1 i).2.2.2.2.1 with _ | j
  · trivial
  · exact (hk i hV).2.2.1 j hx
def rdE6 (g : cG) (i : Nat) : Option (Nat × Nat) := cRf (g.2.2.1 i).2.2.2.2.2.1
theorem glE6 {a : Nat} {q : cQ} (g : cG) (i : Nat) (hV : cV 3 i) (hk : c_ok g) : ∃ fs, c_ce a q g 3 i = .inr (1, fs) ∧ fs[6]? = some (qm_cv (cLa a) (.inr (.inr (rdE6 g i)))) ∧ qm_ok cV (.inr (.inr (rdE6 g i))) := by
  refine ⟨_, rfl, rfl, ?_⟩
  unfold rdE6
  rcases hx : (g.2.2.1 i).2.2.2.2.2.1 with _ | j
  · trivial
  · exact (hk i hV).2.2.2 j hx
def rdE7 (g : cG) (i : Nat) : qm_v := qI (g.2.2.1 i).2.2.2.2.2.2.1
theorem glE7 {a : Nat} {q : cQ} (g : cG) (i : Nat) (hV : cV 3 i) (hk : c_ok g) : ∃ fs, c_ce a q g 3 i = .inr (1, fs) ∧ fs[7]? = some (qm_cv (cLa a) (rdE7 g i)) ∧ qm_ok cV (rdE7 g i) := ⟨_, rfl, rfl, trivial⟩
def rdE8 (g : cG) (i : Nat) : qm_v := qI (g.2.2.1 i).2.2.2.2.2.2.2.1
theorem glE8 {a : Nat} {q : cQ} (g : cG) (i : Nat) (hV : cV 3 i) (hk : c_ok g) : ∃ fs, c_ce a q g 3 i = .inr (1, fs) ∧ fs[8]? = some (qm_cv (cLa a) (rdE8 g i)) ∧ qm_ok cV (rdE8 g i) := ⟨_, rfl, rfl, trivial⟩
def rdE9 (g : cG) (i : Nat) : qm_v := qI (g.2.2.1 i).2.2.2.2.2.2.2.2
theorem glE9 {a : Nat} {q : cQ} (g : cG) (i : Nat) (hV : cV 3 i) (hk : c_ok g) : ∃ fs, c_ce a q g 3 i = .inr (1, fs) ∧ fs[9]? = some (qm_cv (cLa a) (rdE9 g i)) ∧ qm_ok cV (rdE9 g i) := ⟨_, rfl, rfl, trivial⟩
def rdS0 (g : cG) (i : Nat) : qm_v := qR 8 0
theorem glS0 {a : Nat} {q : cQ} (g : cG) (i : Nat) (hV : cV 7 i) (hk : c_ok g) : ∃ fs, c_ce a q g 7 i = .inr (2, fs) ∧ fs[0]? = some (qm_cv (cLa a) (rdS0 g i)) ∧ qm_ok cV (rdS0 g i) := ⟨_, rfl, rfl, (show 0 < 7 by decide)⟩
def rdS2 (g : cG) (i : Nat) : qm_v := qR 8 1
theorem glS2 {a : Nat} {q : cQ} (g : cG) (i : Nat) (hV : cV 7 i) (hk : c_ok g) : ∃ fs, c_ce a q g 7 i = .inr (2, fs) ∧ fs[2]? = some (qm_cv (cLa a) (rdS2 g i)) ∧ qm_ok cV (rdS2 g i) := ⟨_, rfl, rfl, (show 1 < 7 by decide)⟩
def rdS3 (g : cG) (i : Nat) : qm_v := qR 8 2
theorem glS3 {a : Nat} {q : cQ} (g : cG) (i : Nat) (hV : cV 7 i) (hk : c_ok g) : ∃ fs, c_ce a q g 7 i = .inr (2, fs) ∧ fs[3]? = some (qm_cv (cLa a) (rdS3 g i)) ∧ qm_ok cV (rdS3 g i) := ⟨_, rfl, rfl, (show 2 < 7 by decide)⟩
def rdS4 (g : cG) (i : Nat) : qm_v := qR 8 3
theorem glS4 {a : Nat} {q : cQ} (g : cG) (i : Nat) (hV : cV 7 i) (hk : c_ok g) : ∃ fs, c_ce a q g 7 i = .inr (2, fs) ∧ fs[4]? = some (qm_cv (cLa a) (rdS4 g i)) ∧ qm_ok cV (rdS4 g i) := ⟨_, rfl, rfl, (show 3 < 7 by decide)⟩
def rdS5 (g : cG) (i : Nat) : qm_v := qR 8 4
theorem glS5 {a : Nat} {q : cQ} (g : cG) (i : Nat) (hV : cV 7 i) (hk : c_ok g) : ∃ fs, c_ce a q g 7 i = .inr (2, fs) ∧ fs[5]? = some (qm_cv (cLa a) (rdS5 g i)) ∧ qm_ok cV (rdS5 g i) := ⟨_, rfl, rfl, (show 4 < 7 by decide)⟩
def rdS7 (g : cG) (i : Nat) : qm_v := qR 8 5
theorem glS7 {a : Nat} {q : cQ} (g : cG) (i : Nat) (hV : cV 7 i) (hk : c_ok g) : ∃ fs, c_ce a q g 7 i = .inr (2, fs) ∧ fs[7]? = some (qm_cv (cLa a) (rdS7 g i)) ∧ qm_ok cV (rdS7 g i) := ⟨_, rfl, rfl, (show 5 < 7 by decide)⟩
def rdS8 (g : cG) (i : Nat) : qm_v := qR 8 6
theorem glS8 {a : Nat} {q : cQ} (g : cG) (i : Nat) (hV : cV 7 i) (hk : c_ok g) : ∃ fs, c_ce a q g 7 i = .inr (2, fs) ∧ fs[8]? = some (qm_cv (cLa a) (rdS8 g i)) ∧ qm_ok cV (rdS8 g i) := ⟨_, rfl, rfl, (show 6 < 7 by decide)⟩
def rdS1 (g : cG) (i : Nat) : qm_v := qI (g.2.2.2.2.2.1 0)
theorem glS1 {a : Nat} {q : cQ} (g : cG) (i : Nat) (hV : cV 7 i) (hk : c_ok g) : ∃ fs, c_ce a q g 7 i = .inr (2, fs) ∧ fs[1]? = some (qm_cv (cLa a) (rdS1 g i)) ∧ qm_ok cV (rdS1 g i) := ⟨_, rfl, rfl, trivial⟩
def rdS6 (g : cG) (i : Nat) : qm_v := qI (g.2.2.2.2.2.1 1)
theorem glS6 {a : Nat} {q : cQ} (g : cG) (i : Nat) (hV : cV 7 i) (hk : c_ok g) : ∃ fs, c_ce a q g 7 i = .inr (2, fs) ∧ fs[6]? = some (qm_cv (cLa a) (rdS6 g i)) ∧ qm_ok cV (rdS6 g i) := ⟨_, rfl, rfl, trivial⟩
def rdS9 (g : cG) (i : Nat) : qm_v := qI (g.2.2.2.2.2.1 2)
theorem glS9 {a : Nat} {q : cQ} (g : cG) (i : Nat) (hV : cV 7 i) (hk : c_ok g) : ∃ fs, c_ce a q g 7 i = .inr (2, fs) ∧ fs[9]? = some (qm_cv (cLa a) (rdS9 g i)) ∧ qm_ok cV (rdS9 g i) := ⟨_, rfl, rfl, trivial⟩
def rdS10 (g : cG) (i : Nat) : qm_v := qI (g.2.2.2.2.2.1 3)
theorem glS10 {a : Nat} {q : cQ} (g : cG) (i : Nat) (hV : cV 7 i) (hk : c_ok g) : ∃ fs, c_ce a q g 7 i = .inr (2, fs) ∧ fs[10]? = some (qm_cv (cLa a) (rdS10 g i)) ∧ qm_ok cV (rdS10 g i) := ⟨_, rfl, rfl, trivial⟩
def rdS11 (g : cG) (i : Nat) : qm_v := qI (g.2.2.2.2.2.1 4)
theorem glS11 {a : Nat} {q : cQ} (g : cG) (i : Nat) (hV : cV 7 i) (hk : c_ok g) : ∃ fs, c_ce a q g 7 i = .inr (2, fs) ∧ fs[11]? = some (qm_cv (cLa a) (rdS11 g i)) ∧ qm_ok cV (rdS11 g i) := ⟨_, rfl, rfl, trivial⟩
def rdS12 (g : cG) (i : Nat) : qm_v := qI (g.2.2.2.2.2.1 5)
theorem glS12 {a : Nat} {q : cQ} (g : cG) (i : Nat) (hV : cV 7 i) (hk : c_ok g) : ∃ fs, c_ce a q g 7 i = .inr (2, fs) ∧ fs[12]? = some (qm_cv (cLa a) (rdS12 g i)) ∧ qm_ok cV (rdS12 g i) := ⟨_, rfl, rfl, trivial⟩
def rdS13 (g : cG) (i : Nat) : qm_v := qI (g.2.2.2.2.2.1 6)
theorem glS13 {a : Nat} {q : cQ} (g : cG) (i : Nat) (hV : cV 7 i) (hk : c_ok g) : ∃ fs, c_ce a q g 7 i = .inr (2, fs) ∧ fs[13]? = some (qm_cv (cLa a) (rdS13 g i)) ∧ qm_ok cV (rdS13 g i) := ⟨_, rfl, rfl, trivial⟩
def rdR0 (g : cG) (i : Nat) : qm_v := qR 4 0
theorem glR0 {a : Nat} {q : cQ} (g : cG) (i : Nat) (hV : cV 0 i) (hk : c_ok g) : ∃ fs, c_ce a q g 0 i = .inr (3, fs) ∧ fs[0]? = some (qm_cv (cLa a) (rdR0 g i)) ∧ qm_ok cV (rdR0 g i) := ⟨_, rfl, rfl, (show 0 = 0 from rfl)⟩
def rdR1 (g : cG) (i : Nat) : qm_v := qI g.2.2.2.1.1
theorem glR1 {a : Nat} {q : cQ} (g : cG) (i : Nat) (hV : cV 0 i) (hk : c_ok g) : ∃ fs, c_ce a q g 0 i = .inr (3, fs) ∧ fs[1]? = some (qm_cv (cLa a) (rdR1 g i)) ∧ qm_ok cV (rdR1 g i) := ⟨_, rfl, rfl, trivial⟩
def rdR2 (g : cG) (i : Nat) : qm_v := qR 5 0
theorem glR2 {a : Nat} {q : cQ} (g : cG) (i : Nat) (hV : cV 0 i) (hk : c_ok g) : ∃ fs, c_ce a q g 0 i = .inr (3, fs) ∧ fs[2]? = some (qm_cv (cLa a) (rdR2 g i)) ∧ qm_ok cV (rdR2 g i) := ⟨_, rfl, rfl, (show 0 = 0 from rfl)⟩
def rdR3 (g : cG) (i : Nat) : qm_v := qR 1 88
theorem glR3 {a : Nat} {q : cQ} (g : cG) (i : Nat) (hV : cV 0 i) (hk : c_ok g) : ∃ fs, c_ce a q g 0 i = .inr (3, fs) ∧ fs[3]? = some (qm_cv (cLa a) (rdR3 g i)) ∧ qm_ok cV (rdR3 g i) := ⟨_, rfl, rfl, (show 88 < 89 by decide)⟩
def rdR4 (g : cG) (i : Nat) : qm_v := qR 6 0
theorem glR4 {a : Nat} {q : cQ} (g : cG) (i : Nat) (hV : cV 0 i) (hk : c_ok g) : ∃ fs, c_ce a q g 0 i = .inr (3, fs) ∧ fs[4]? = some (qm_cv (cLa a) (rdR4 g i)) ∧ qm_ok cV (rdR4 g i) := ⟨_, rfl, rfl, (show 0 = 0 from rfl)⟩
def rdR5 (g : cG) (i : Nat) : qm_v := qI g.2.2.2.1.2
theorem glR5 {a : Nat} {q : cQ} (g : cG) (i : Nat) (hV : cV 0 i) (hk : c_ok g) : ∃ fs, c_ce a q g 0 i = .inr (3, fs) ∧ fs[5]? = some (qm_cv (cLa a) (rdR5 g i)) ∧ qm_ok cV (rdR5 g i) := ⟨_, rfl, rfl, trivial⟩
def rdR6 (g : cG) (i : Nat) : qm_v := qR 7 0
theorem glR6 {a : Nat} {q : cQ} (g : cG) (i : Nat) (hV : cV 0 i) (hk : c_ok g) : ∃ fs, c_ce a q g 0 i = .inr (3, fs) ∧ fs[6]? = some (qm_cv (cLa a) (rdR6 g i)) ∧ qm_ok cV (rdR6 g i) := ⟨_, rfl, rfl, (show 0 = 0 from rfl)⟩
def wrV0 (g : cG) (i : Nat) (v : qm_v) : Option (List Prop × cG) := match v with
  | .inl x => some ([], (va_up g.1 i (x, (g.1 i).2), g.2))
  | _ => none
theorem plV0 {a : Nat} {q : cQ} (g : cG) (i : Nat) (v : qm_v) (cs : List Prop) (g' : cG) (hV : cV 1 i) (hk : c_ok g) (hv : qm_ok cV v) (h : wrV0 g i v = some (cs, g')) (hc : qm_all cs) : c_ok g' ∧ (∃ fs, c_ce a q g 1 i = .inr (0, fs) ∧ 0 < fs.length ∧ c_ce a q g' 1 i = .inr (0, fs.set 0 (qm_cv (cLa a) v))) ∧ (∀ k j, cV k j → (k ≠ 1 ∨ j ≠ i) → c_ce a q g' k j = c_ce a q g k j) ∧ narrow .int (qm_cv (cLa a) v) = qm_cv (cLa a) v ∧ fits .int (qm_cv (cLa a) v) = true := by
  rcases v with x | x | x
  case inl =>
    cases h
    refine ⟨hk, ⟨_, rfl, Nat.le_of_ble_eq_true rfl, ?_⟩, ?_, rfl, rfl⟩
    · simp only [c_ce, va_up_self]; rfl
    · exact fun k j _ hne => ce_uV k j hne
  all_goals cases h
def wrV1 (g : cG) (i : Nat) (v : qm_v) : Option (List Prop × cG) := match v with
  | .inr (.inl x) => some ([], (va_up g.1 i ((g.1 i).1, x, (g.1 i).2.2), g.2))
  | _ => none
theorem plV1 {a : Nat} {q : cQ} (g : cG) (i : Nat) (v : qm_v) (cs : List Prop) (g' : cG) (hV : cV 1 i) (hk : c_ok g) (hv : qm_ok cV v) (h : wrV1 g i v = some (cs, g')) (hc : qm_all cs) : c_ok g' ∧ (∃ fs, c_ce a q g 1 i = .inr (0, fs) ∧ 1 < fs.length ∧ c_ce a q g' 1 i = .inr (0, fs.set 1 (qm_cv (cLa a) v))) ∧ (∀ k j, cV k j → (k ≠ 1 ∨ j ≠ i) → c_ce a q g' k j = c_ce a q g k j) ∧ narrow .long (qm_cv (cLa a) v) = qm_cv (cLa a) v ∧ fits .long (qm_cv (cLa a) v) = true := by
  rcases v with x | x | x
  case inr.inl =>
    cases h
    refine ⟨hk, ⟨_, rfl, Nat.le_of_ble_eq_true rfl, ?_⟩, ?_, rfl, rfl⟩
    · simp only [c_ce, va_up_self]; rfl
    · exact fun k j _ hne => ce_uV k j hne
  all_goals cases h
def wrV2 (g : cG) (i : Nat) (v : qm_v) : Option (List Prop × cG) := match v with
  | .inl x => some ([], (va_up g.1 i ((g.1 i).1, (g.1 i).2.1, x, (g.1 i).2.2.2), g.2))
  | _ => none
theorem plV2 {a : Nat} {q : cQ} (g : cG) (i : Nat) (v : qm_v) (cs : List Prop) (g' : cG) (hV : cV 1 i) (hk : c_ok g) (hv : qm_ok cV v) (h : wrV2 g i v = some (cs, g')) (hc : qm_all cs) : c_ok g' ∧ (∃ fs, c_ce a q g 1 i = .inr (0, fs) ∧ 2 < fs.length ∧ c_ce a q g' 1 i = .inr (0, fs.set 2 (qm_cv (cLa a) v))) ∧ (∀ k j, cV k j → (k ≠ 1 ∨ j ≠ i) → c_ce a q g' k j = c_ce a q g k j) ∧ narrow .int (qm_cv (cLa a) v) = qm_cv (cLa a) v ∧ fits .int (qm_cv (cLa a) v) = true := by
  rcases v with x | x | x
  case inl =>
    cases h
    refine ⟨hk, ⟨_, rfl, Nat.le_of_ble_eq_true rfl, ?_⟩, ?_, rfl, rfl⟩
    · simp only [c_ce, va_up_self]; rfl
    · exact fun k j _ hne => ce_uV k j hne
  all_goals cases h
def wrV3 (g : cG) (i : Nat) (v : qm_v) : Option (List Prop × cG) := match v with
  | .inl x => some ([], (va_up g.1 i ((g.1 i).1, (g.1 i).2.1, (g.1 i).2.2.1, x), g.2))
  | _ => none
theorem plV3 {a : Nat} {q : cQ} (g : cG) (i : Nat) (v : qm_v) (cs : List Prop) (g' : cG) (hV : cV 1 i) (hk : c_ok g) (hv : qm_ok cV v) (h : wrV3 g i v = some (cs, g')) (hc : qm_all cs) : c_ok g' ∧ (∃ fs, c_ce a q g 1 i = .inr (0, fs) ∧ 3 < fs.length ∧ c_ce a q g' 1 i = .inr (0, fs.set 3 (qm_cv (cLa a) v))) ∧ (∀ k j, cV k j → (k ≠ 1 ∨ j ≠ i) → c_ce a q g' k j = c_ce a q g k j) ∧ narrow .int (qm_cv (cLa a) v) = qm_cv (cLa a) v ∧ fits .int (qm_cv (cLa a) v) = true := by
  rcases v with x | x | x
  case inl =>
    cases h
    refine ⟨hk, ⟨_, rfl, Nat.le_of_ble_eq_true rfl, ?_⟩, ?_, rfl, rfl⟩
    · simp only [c_ce, va_up_self]; rfl
    · exact fun k j _ hne => ce_uV k j hne
  all_goals cases h
theorem c_ok_E {g : cG} {i : Nat} {x : cER} (h : c_ok g) (hx : i < 80 → x.2.1 < 89 ∧ (∀ j, x.2.2.2.1 = some j → j < 80) ∧ (∀ j, x.2.2.2.2.1 = some j → j < 80) ∧ (∀ j, x.2.2.2.2.2.1 = some j → j < 80)) : c_ok (g.1, g.2.1, va_up g.2.2.1 i x, g.2.2.2) := by
  intro k hk
  by_cases e : k = i
  · subst e
    show (va_up g.2.2.1 k x k).2.1 < 89 ∧ (∀ j, (va_up g.2.2.1 k x k).2.2.2.1 = some j → j < 80) ∧ (∀ j, (va_up g.2.2.1 k x k).2.2.2.2.1 = some j → j < 80) ∧ (∀ j, (va_up g.2.2.1 k x k).2.2.2.2.2.1 = some j → j < 80)
    rw [va_up_self]
    exact hx hk
  · show (va_up g.2.2.1 i x k).2.1 < 89 ∧ (∀ j, (va_up g.2.2.1 i x k).2.2.2.1 = some j → j < 80) ∧ (∀ j, (va_up g.2.2.1 i x k).2.2.2.2.1 = some j → j < 80) ∧ (∀ j, (va_up g.2.2.1 i x k).2.2.2.2.2.1 = some j → j < 80)
    rw [va_up_ne _ _ e]
    exact h k hk
def wrE1 (g : cG) (i : Nat) (v : qm_v) : Option (List Prop × cG) := match v with
  | .inl x => some ([], (g.1, g.2.1, va_up g.2.2.1 i (x, (g.2.2.1 i).2), g.2.2.2))
  | _ => none
theorem plE1 {a : Nat} {q : cQ} (g : cG) (i : Nat) (v : qm_v) (cs : List Prop) (g' : cG) (hV : cV 3 i) (hk : c_ok g) (hv : qm_ok cV v) (h : wrE1 g i v = some (cs, g')) (hc : qm_all cs) : c_ok g' ∧ (∃ fs, c_ce a q g 3 i = .inr (1, fs) ∧ 1 < fs.length ∧ c_ce a q g' 3 i = .inr (1, fs.set 1 (qm_cv (cLa a) v))) ∧ (∀ k j, cV k j → (k ≠ 3 ∨ j ≠ i) → c_ce a q g' k j = c_ce a q g k j) ∧ narrow .int (qm_cv (cLa a) v) = qm_cv (cLa a) v ∧ fits .int (qm_cv (cLa a) v) = true := by
  rcases v with x | x | x
  case inl =>
    cases h
    refine ⟨c_ok_E hk (fun _ => hk i hV), ⟨_, rfl, Nat.le_of_ble_eq_true rfl, ?_⟩, ?_, rfl, rfl⟩
    · simp only [c_ce, va_up_self]; rfl
    · exact fun k j _ hne => ce_uE k j hne
  all_goals cases h
def wrE2 (g : cG) (i : Nat) (v : qm_v) : Option (List Prop × cG) := match v with
  | .inr (.inr (some (1, n))) => some ([], (g.1, g.2.1, va_up g.2.2.1 i ((g.2.2.1 i).1, n, (g.2.2.1 i).2.2), g.2.2.2))
  | _ => none
theorem plE2 {a : Nat} {q : cQ} (g : cG) (i : Nat) (v : qm_v) (cs : List Prop) (g' : cG) (hV : cV 3 i) (hk : c_ok g) (hv : qm_ok cV v) (h : wrE2 g i v = some (cs, g')) (hc : qm_all cs) : c_ok g' ∧ (∃ fs, c_ce a q g 3 i = .inr (1, fs) ∧ 2 < fs.length ∧ c_ce a q g' 3 i = .inr (1, fs.set 2 (qm_cv (cLa a) v))) ∧ (∀ k j, cV k j → (k ≠ 3 ∨ j ≠ i) → c_ce a q g' k j = c_ce a q g k j) ∧ narrow (.object "FunctionRows$Value") (qm_cv (cLa a) v) = qm_cv (cLa a) v ∧ fits (.object "FunctionRows$Value") (qm_cv (cLa a) v) = true := by
  rcases v with x | x | _ | ⟨_ | _ | m, n⟩
  case inr.inr.some.succ.zero =>
    cases h
    refine ⟨c_ok_E hk (fun _ => ⟨hv, (hk i hV).2⟩), ⟨_, rfl, Nat.le_of_ble_eq_true rfl, ?_⟩, ?_, rfl, rfl⟩
    · simp only [c_ce, va_up_self]; rfl
    · exact fun k j _ hne => ce_uE k j hne
  all_goals cases h
def wrE3 (g : cG) (i : Nat) (v : qm_v) : Option (List Prop × cG) := match v with
  | .inl x => some ([], (g.1, g.2.1, va_up g.2.2.1 i ((g.2.2.1 i).1, (g.2.2.1 i).2.1, x, (g.2.2.1 i).2.2.2), g.2.2.2))
  | _ => none
theorem plE3 {a : Nat} {q : cQ} (g : cG) (i : Nat) (v : qm_v) (cs : List Prop) (g' : cG) (hV : cV 3 i) (hk : c_ok g) (hv : qm_ok cV v) (h : wrE3 g i v = some (cs, g')) (hc : qm_all cs) : c_ok g' ∧ (∃ fs, c_ce a q g 3 i = .inr (1, fs) ∧ 3 < fs.length ∧ c_ce a q g' 3 i = .inr (1, fs.set 3 (qm_cv (cLa a) v))) ∧ (∀ k j, cV k j → (k ≠ 3 ∨ j ≠ i) → c_ce a q g' k j = c_ce a q g k j) ∧ narrow .int (qm_cv (cLa a) v) = qm_cv (cLa a) v ∧ fits .int (qm_cv (cLa a) v) = true := by
  rcases v with x | x | x
  case inl =>
    cases h
    refine ⟨c_ok_E hk (fun _ => hk i hV), ⟨_, rfl, Nat.le_of_ble_eq_true rfl, ?_⟩, ?_, rfl, rfl⟩
    · simp only [c_ce, va_up_self]; rfl
    · exact fun k j _ hne => ce_uE k j hne
  all_goals cases h
def wrE4 (g : cG) (i : Nat) (v : qm_v) : Option (List Prop × cG) := match v with
  | .inr (.inr (some (3, n))) => some ([], (g.1, g.2.1, va_up g.2.2.1 i ((g.2.2.1 i).1, (g.2.2.1 i).2.1, (g.2.2.1 i).2.2.1, some n, (g.2.2.1 i).2.2.2.2), g.2.2.2))
  | _ => none
theorem plE4 {a : Nat} {q : cQ} (g : cG) (i : Nat) (v : qm_v) (cs : List Prop) (g' : cG) (hV : cV 3 i) (hk : c_ok g) (hv : qm_ok cV v) (h : wrE4 g i v = some (cs, g')) (hc : qm_all cs) : c_ok g' ∧ (∃ fs, c_ce a q g 3 i = .inr (1, fs) ∧ 4 < fs.length ∧ c_ce a q g' 3 i = .inr (1, fs.set 4 (qm_cv (cLa a) v))) ∧ (∀ k j, cV k j → (k ≠ 3 ∨ j ≠ i) → c_ce a q g' k j = c_ce a q g k j) ∧ narrow (.object "FunctionRows$Expression") (qm_cv (cLa a) v) = qm_cv (cLa a) v ∧ fits (.object "FunctionRows$Expression") (qm_cv (cLa a) v) = true := by
  rcases v with x | x | _ | ⟨_ | _ | _ | _ | m, n⟩
  case inr.inr.some.succ.succ.succ.zero =>
    cases h
    refine ⟨c_ok_E hk (fun _ => ⟨(hk i hV).1, (fun j hj => by cases hj; exact hv), (hk i hV).2.2⟩), ⟨_, rfl, Nat.le_of_ble_eq_true rfl, ?_⟩, ?_, rfl, rfl⟩
    · simp only [c_ce, va_up_self]; rfl
    · exact fun k j _ hne => ce_uE k j hne
  all_goals cases h
def wrE5 (g : cG) (i : Nat) (v : qm_v) : Option (List Prop × cG) := match v with
  | .inr (.inr (some (3, n))) => some ([], (g.1, g.2.1, va_up g.2.2.1 i ((g.2.2.1 i).1, (g.2.2.1 i).2.1, (g.2.2.1 i).2.2.1, (g.2.2.1 i).2.2.2.1, some n, (g.2.2.1 i).2.2.2.2.2), g.2.2.2))
  | _ => none
theorem plE5 {a : Nat} {q : cQ} (g : cG) (i : Nat) (v : qm_v) (cs : List Prop) (g' : cG) (hV : cV 3 i) (hk : c_ok g) (hv : qm_ok cV v) (h : wrE5 g i v = some (cs, g')) (hc : qm_all cs) : c_ok g' ∧ (∃ fs, c_ce a q g 3 i = .inr (1, fs) ∧ 5 < fs.length ∧ c_ce a q g' 3 i = .inr (1, fs.set 5 (qm_cv (cLa a) v))) ∧ (∀ k j, cV k j → (k ≠ 3 ∨ j ≠ i) → c_ce a q g' k j = c_ce a q g k j) ∧ narrow (.object "FunctionRows$Expression") (qm_cv (cLa a) v) = qm_cv (cLa a) v ∧ fits (.object "FunctionRows$Expression") (qm_cv (cLa a) v) = true := by
  rcases v with x | x | _ | ⟨_ | _ | _ | _ | m, n⟩
  case inr.inr.some.succ.succ.succ.zero =>
    cases h
    refine ⟨c_ok_E hk (fun _ => ⟨(hk i hV).1, (hk i hV).2.1, (fun j hj => by cases hj; exact hv), (hk i hV).2.2.2⟩), ⟨_, rfl, Nat.le_of_ble_eq_true rfl, ?_⟩, ?_, rfl, rfl⟩
    · simp only [c_ce, va_up_self]; rfl
    · exact fun k j _ hne => ce_uE k j hne
  all_goals cases h
def wrE6 (g : cG) (i : Nat) (v : qm_v) : Option (List Prop × cG) := match v with
  | .inr (.inr (some (3, n))) => some ([], (g.1, g.2.1, va_up g.2.2.1 i ((g.2.2.1 i).1, (g.2.2.1 i).2.1, (g.2.2.1 i).2.2.1, (g.2.2.1 i).2.2.2.1, (g.2.2.1 i).2.2.2.2.1, some n, (g.2.2.1 i).2.2.2.2.2.2), g.2.2.2))
  | _ => none
theorem plE6 {a : Nat} {q : cQ} (g : cG) (i : Nat) (v : qm_v) (cs : List Prop) (g' : cG) (hV : cV 3 i) (hk : c_ok g) (hv : qm_ok cV v) (h : wrE6 g i v = some (cs, g')) (hc : qm_all cs) : c_ok g' ∧ (∃ fs, c_ce a q g 3 i = .inr (1, fs) ∧ 6 < fs.length ∧ c_ce a q g' 3 i = .inr (1, fs.set 6 (qm_cv (cLa a) v))) ∧ (∀ k j, cV k j → (k ≠ 3 ∨ j ≠ i) → c_ce a q g' k j = c_ce a q g k j) ∧ narrow (.object "FunctionRows$Expression") (qm_cv (cLa a) v) = qm_cv (cLa a) v ∧ fits (.object "FunctionRows$Expression") (qm_cv (cLa a) v) = true := by
  rcases v with x | x | _ | ⟨_ | _ | _ | _ | m, n⟩
  case inr.inr.some.succ.succ.succ.zero =>
    cases h
    refine ⟨c_ok_E hk (fun _ => ⟨(hk i hV).1, (hk i hV).2.1, (hk i hV).2.2.1, (fun j hj => by cases hj; exact hv)⟩), ⟨_, rfl, Nat.le_of_ble_eq_true rfl, ?_⟩, ?_, rfl, rfl⟩
    · simp only [c_ce, va_up_self]; rfl
    · exact fun k j _ hne => ce_uE k j hne
  all_goals cases h
def wrE7 (g : cG) (i : Nat) (v : qm_v) : Option (List Prop × cG) := match v with
  | .inl x => some ([], (g.1, g.2.1, va_up g.2.2.1 i ((g.2.2.1 i).1, (g.2.2.1 i).2.1, (g.2.2.1 i).2.2.1, (g.2.2.1 i).2.2.2.1, (g.2.2.1 i).2.2.2.2.1, (g.2.2.1 i).2.2.2.2.2.1, x, (g.2.2.1 i).2.2.2.2.2.2.2), g.2.2.2))
  | _ => none
theorem plE7 {a : Nat} {q : cQ} (g : cG) (i : Nat) (v : qm_v) (cs : List Prop) (g' : cG) (hV : cV 3 i) (hk : c_ok g) (hv : qm_ok cV v) (h : wrE7 g i v = some (cs, g')) (hc : qm_all cs) : c_ok g' ∧ (∃ fs, c_ce a q g 3 i = .inr (1, fs) ∧ 7 < fs.length ∧ c_ce a q g' 3 i = .inr (1, fs.set 7 (qm_cv (cLa a) v))) ∧ (∀ k j, cV k j → (k ≠ 3 ∨ j ≠ i) → c_ce a q g' k j = c_ce a q g k j) ∧ narrow .int (qm_cv (cLa a) v) = qm_cv (cLa a) v ∧ fits .int (qm_cv (cLa a) v) = true := by
  rcases v with x | x | x
  case inl =>
    cases h
    refine ⟨c_ok_E hk (fun _ => hk i hV), ⟨_, rfl, Nat.le_of_ble_eq_true rfl, ?_⟩, ?_, rfl, rfl⟩
    · simp only [c_ce, va_up_self]; rfl
    · exact fun k j _ hne => ce_uE k j hne
  all_goals cases h
def wrE8 (g : cG) (i : Nat) (v : qm_v) : Option (List Prop × cG) := match v with
  | .inl x => some ([], (g.1, g.2.1, va_up g.2.2.1 i ((g.2.2.1 i).1, (g.2.2.1 i).2.1, (g.2.2.1 i).2.2.1, (g.2.2.1 i).2.2.2.1, (g.2.2.1 i).2.2.2.2.1, (g.2.2.1 i).2.2.2.2.2.1, (g.2.2.1 i).2.2.2.2.2.2.1, x, (g.2.2.1 i).2.2.2.2.2.2.2.2), g.2.2.2))
  | _ => none
theorem plE8 {a : Nat} {q : cQ} (g : cG) (i : Nat) (v : qm_v) (cs : List Prop) (g' : cG) (hV : cV 3 i) (hk : c_ok g) (hv : qm_ok cV v) (h : wrE8 g i v = some (cs, g')) (hc : qm_all cs) : c_ok g' ∧ (∃ fs, c_ce a q g 3 i = .inr (1, fs) ∧ 8 < fs.length ∧ c_ce a q g' 3 i = .inr (1, fs.set 8 (qm_cv (cLa a) v))) ∧ (∀ k j, cV k j → (k ≠ 3 ∨ j ≠ i) → c_ce a q g' k j = c_ce a q g k j) ∧ narrow .int (qm_cv (cLa a) v) = qm_cv (cLa a) v ∧ fits .int (qm_cv (cLa a) v) = true := by
  rcases v with x | x | x
  case inl =>
    cases h
    refine ⟨c_ok_E hk (fun _ => hk i hV), ⟨_, rfl, Nat.le_of_ble_eq_true rfl, ?_⟩, ?_, rfl, rfl⟩
    · simp only [c_ce, va_up_self]; rfl
    · exact fun k j _ hne => ce_uE k j hne
  all_goals cases h
def wrE9 (g : cG) (i : Nat) (v : qm_v) : Option (List Prop × cG) := match v with
  | .inl x => some ([x = 0 ∨ x = 1], (g.1, g.2.1, va_up g.2.2.1 i ((g.2.2.1 i).1, (g.2.2.1 i).2.1, (g.2.2.1 i).2.2.1, (g.2.2.1 i).2.2.2.1, (g.2.2.1 i).2.2.2.2.1, (g.2.2.1 i).2.2.2.2.2.1, (g.2.2.1 i).2.2.2.2.2.2.1, (g.2.2.1 i).2.2.2.2.2.2.2.1, x), g.2.2.2))
  | _ => none
theorem plE9 {a : Nat} {q : cQ} (g : cG) (i : Nat) (v : qm_v) (cs : List Prop) (g' : cG) (hV : cV 3 i) (hk : c_ok g) (hv : qm_ok cV v) (h : wrE9 g i v = some (cs, g')) (hc : qm_all cs) : c_ok g' ∧ (∃ fs, c_ce a q g 3 i = .inr (1, fs) ∧ 9 < fs.length ∧ c_ce a q g' 3 i = .inr (1, fs.set 9 (qm_cv (cLa a) v))) ∧ (∀ k j, cV k j → (k ≠ 3 ∨ j ≠ i) → c_ce a q g' k j = c_ce a q g k j) ∧ narrow .boolean (qm_cv (cLa a) v) = qm_cv (cLa a) v ∧ fits .boolean (qm_cv (cLa a) v) = true := by
  rcases v with x | x | x
  case inl =>
    cases h
    refine ⟨c_ok_E hk (fun _ => hk i hV), ⟨_, rfl, Nat.le_of_ble_eq_true rfl, ?_⟩, ?_, (show narrow .boolean (.int x) = .int x from by rcases (show x = 0 ∨ x = 1 from hc) with rfl | rfl <;> decide +kernel), (show fits .boolean (.int x) = true from by rcases (show x = 0 ∨ x = 1 from hc) with rfl | rfl <;> decide +kernel)⟩
    · simp only [c_ce, va_up_self]; rfl
    · exact fun k j _ hne => ce_uE k j hne
  all_goals cases h
def wrS1 (g : cG) (i : Nat) (v : qm_v) : Option (List Prop × cG) := match v with
  | .inl x => some ([], (g.1, g.2.1, g.2.2.1, g.2.2.2.1, g.2.2.2.2.1, va_up g.2.2.2.2.2.1 0 x, g.2.2.2.2.2.2))
  | _ => none
theorem plS1 {a : Nat} {q : cQ} (g : cG) (i : Nat) (v : qm_v) (cs : List Prop) (g' : cG) (hV : cV 7 i) (hk : c_ok g) (hv : qm_ok cV v) (h : wrS1 g i v = some (cs, g')) (hc : qm_all cs) : c_ok g' ∧ (∃ fs, c_ce a q g 7 i = .inr (2, fs) ∧ 1 < fs.length ∧ c_ce a q g' 7 i = .inr (2, fs.set 1 (qm_cv (cLa a) v))) ∧ (∀ k j, cV k j → (k ≠ 7 ∨ j ≠ i) → c_ce a q g' k j = c_ce a q g k j) ∧ narrow .int (qm_cv (cLa a) v) = qm_cv (cLa a) v ∧ fits .int (qm_cv (cLa a) v) = true := by
  rcases v with x | x | x
  case inl =>
    cases h
    refine ⟨hk, ⟨_, rfl, Nat.le_of_ble_eq_true rfl, ?_⟩, ?_, rfl, rfl⟩
    · rfl
    · exact fun k j hv hne => ce_uN k j hv (by rw [show i = 0 from hV] at hne; exact hne)
  all_goals cases h
def wrS6 (g : cG) (i : Nat) (v : qm_v) : Option (List Prop × cG) := match v with
  | .inl x => some ([], (g.1, g.2.1, g.2.2.1, g.2.2.2.1, g.2.2.2.2.1, va_up g.2.2.2.2.2.1 1 x, g.2.2.2.2.2.2))
  | _ => none
theorem plS6 {a : Nat} {q : cQ} (g : cG) (i : Nat) (v : qm_v) (cs : List Prop) (g' : cG) (hV : cV 7 i) (hk : c_ok g) (hv : qm_ok cV v) (h : wrS6 g i v = some (cs, g')) (hc : qm_all cs) : c_ok g' ∧ (∃ fs, c_ce a q g 7 i = .inr (2, fs) ∧ 6 < fs.length ∧ c_ce a q g' 7 i = .inr (2, fs.set 6 (qm_cv (cLa a) v))) ∧ (∀ k j, cV k j → (k ≠ 7 ∨ j ≠ i) → c_ce a q g' k j = c_ce a q g k j) ∧ narrow .int (qm_cv (cLa a) v) = qm_cv (cLa a) v ∧ fits .int (qm_cv (cLa a) v) = true := by
  rcases v with x | x | x
  case inl =>
    cases h
    refine ⟨hk, ⟨_, rfl, Nat.le_of_ble_eq_true rfl, ?_⟩, ?_, rfl, rfl⟩
    · rfl
    · exact fun k j hv hne => ce_uN k j hv (by rw [show i = 0 from hV] at hne; exact hne)
  all_goals cases h
def wrS9 (g : cG) (i : Nat) (v : qm_v) : Option (List Prop × cG) := match v with
  | .inl x => some ([], (g.1, g.2.1, g.2.2.1, g.2.2.2.1, g.2.2.2.2.1, va_up g.2.2.2.2.2.1 2 x, g.2.2.2.2.2.2))
  | _ => none
theorem plS9 {a : Nat} {q : cQ} (g : cG) (i : Nat) (v : qm_v) (cs : List Prop) (g' : cG) (hV : cV 7 i) (hk : c_ok g) (hv : qm_ok cV v) (h : wrS9 g i v = some (cs, g')) (hc : qm_all cs) : c_ok g' ∧ (∃ fs, c_ce a q g 7 i = .inr (2, fs) ∧ 9 < fs.length ∧ c_ce a q g' 7 i = .inr (2, fs.set 9 (qm_cv (cLa a) v))) ∧ (∀ k j, cV k j → (k ≠ 7 ∨ j ≠ i) → c_ce a q g' k j = c_ce a q g k j) ∧ narrow .int (qm_cv (cLa a) v) = qm_cv (cLa a) v ∧ fits .int (qm_cv (cLa a) v) = true := by
  rcases v with x | x | x
  case inl =>
    cases h
    refine ⟨hk, ⟨_, rfl, Nat.le_of_ble_eq_true rfl, ?_⟩, ?_, rfl, rfl⟩
    · rfl
    · exact fun k j hv hne => ce_uN k j hv (by rw [show i = 0 from hV] at hne; exact hne)
  all_goals cases h
def wrS10 (g : cG) (i : Nat) (v : qm_v) : Option (List Prop × cG) := match v with
  | .inl x => some ([], (g.1, g.2.1, g.2.2.1, g.2.2.2.1, g.2.2.2.2.1, va_up g.2.2.2.2.2.1 3 x, g.2.2.2.2.2.2))
  | _ => none
theorem plS10 {a : Nat} {q : cQ} (g : cG) (i : Nat) (v : qm_v) (cs : List Prop) (g' : cG) (hV : cV 7 i) (hk : c_ok g) (hv : qm_ok cV v) (h : wrS10 g i v = some (cs, g')) (hc : qm_all cs) : c_ok g' ∧ (∃ fs, c_ce a q g 7 i = .inr (2, fs) ∧ 10 < fs.length ∧ c_ce a q g' 7 i = .inr (2, fs.set 10 (qm_cv (cLa a) v))) ∧ (∀ k j, cV k j → (k ≠ 7 ∨ j ≠ i) → c_ce a q g' k j = c_ce a q g k j) ∧ narrow .int (qm_cv (cLa a) v) = qm_cv (cLa a) v ∧ fits .int (qm_cv (cLa a) v) = true := by
  rcases v with x | x | x
  case inl =>
    cases h
    refine ⟨hk, ⟨_, rfl, Nat.le_of_ble_eq_true rfl, ?_⟩, ?_, rfl, rfl⟩
    · rfl
    · exact fun k j hv hne => ce_uN k j hv (by rw [show i = 0 from hV] at hne; exact hne)
  all_goals cases h
def wrS11 (g : cG) (i : Nat) (v : qm_v) : Option (List Prop × cG) := match v with
  | .inl x => some ([], (g.1, g.2.1, g.2.2.1, g.2.2.2.1, g.2.2.2.2.1, va_up g.2.2.2.2.2.1 4 x, g.2.2.2.2.2.2))
  | _ => none
theorem plS11 {a : Nat} {q : cQ} (g : cG) (i : Nat) (v : qm_v) (cs : List Prop) (g' : cG) (hV : cV 7 i) (hk : c_ok g) (hv : qm_ok cV v) (h : wrS11 g i v = some (cs, g')) (hc : qm_all cs) : c_ok g' ∧ (∃ fs, c_ce a q g 7 i = .inr (2, fs) ∧ 11 < fs.length ∧ c_ce a q g' 7 i = .inr (2, fs.set 11 (qm_cv (cLa a) v))) ∧ (∀ k j, cV k j → (k ≠ 7 ∨ j ≠ i) → c_ce a q g' k j = c_ce a q g k j) ∧ narrow .int (qm_cv (cLa a) v) = qm_cv (cLa a) v ∧ fits .int (qm_cv (cLa a) v) = true := by
  rcases v with x | x | x
  case inl =>
    cases h
    refine ⟨hk, ⟨_, rfl, Nat.le_of_ble_eq_true rfl, ?_⟩, ?_, rfl, rfl⟩
    · rfl
    · exact fun k j hv hne => ce_uN k j hv (by rw [show i = 0 from hV] at hne; exact hne)
  all_goals cases h
def wrS12 (g : cG) (i : Nat) (v : qm_v) : Option (List Prop × cG) := match v with
  | .inl x => some ([], (g.1, g.2.1, g.2.2.1, g.2.2.2.1, g.2.2.2.2.1, va_up g.2.2.2.2.2.1 5 x, g.2.2.2.2.2.2))
  | _ => none
theorem plS12 {a : Nat} {q : cQ} (g : cG) (i : Nat) (v : qm_v) (cs : List Prop) (g' : cG) (hV : cV 7 i) (hk : c_ok g) (hv : qm_ok cV v) (h : wrS12 g i v = some (cs, g')) (hc : qm_all cs) : c_ok g' ∧ (∃ fs, c_ce a q g 7 i = .inr (2, fs) ∧ 12 < fs.length ∧ c_ce a q g' 7 i = .inr (2, fs.set 12 (qm_cv (cLa a) v))) ∧ (∀ k j, cV k j → (k ≠ 7 ∨ j ≠ i) → c_ce a q g' k j = c_ce a q g k j) ∧ narrow .int (qm_cv (cLa a) v) = qm_cv (cLa a) v ∧ fits .int (qm_cv (cLa a) v) = true := by
  rcases v with x | x | x
  case inl =>
    cases h
    refine ⟨hk, ⟨_, rfl, Nat.le_of_ble_eq_true rfl, ?_⟩, ?_, rfl, rfl⟩
    · rfl
    · exact fun k j hv hne => ce_uN k j hv (by rw [show i = 0 from hV] at hne; exact hne)
  all_goals cases h
def wrS13 (g : cG) (i : Nat) (v : qm_v) : Option (List Prop × cG) := match v with
  | .inl x => some ([], (g.1, g.2.1, g.2.2.1, g.2.2.2.1, g.2.2.2.2.1, va_up g.2.2.2.2.2.1 6 x, g.2.2.2.2.2.2))
  | _ => none
theorem plS13 {a : Nat} {q : cQ} (g : cG) (i : Nat) (v : qm_v) (cs : List Prop) (g' : cG) (hV : cV 7 i) (hk : c_ok g) (hv : qm_ok cV v) (h : wrS13 g i v = some (cs, g')) (hc : qm_all cs) : c_ok g' ∧ (∃ fs, c_ce a q g 7 i = .inr (2, fs) ∧ 13 < fs.length ∧ c_ce a q g' 7 i = .inr (2, fs.set 13 (qm_cv (cLa a) v))) ∧ (∀ k j, cV k j → (k ≠ 7 ∨ j ≠ i) → c_ce a q g' k j = c_ce a q g k j) ∧ narrow .int (qm_cv (cLa a) v) = qm_cv (cLa a) v ∧ fits .int (qm_cv (cLa a) v) = true := by
  rcases v with x | x | x
  case inl =>
    cases h
    refine ⟨hk, ⟨_, rfl, Nat.le_of_ble_eq_true rfl, ?_⟩, ?_, rfl, rfl⟩
    · rfl
    · exact fun k j hv hne => ce_uN k j hv (by rw [show i = 0 from hV] at hne; exact hne)
  all_goals cases h
def wrR1 (g : cG) (i : Nat) (v : qm_v) : Option (List Prop × cG) := match v with
  | .inl x => some ([], (g.1, g.2.1, g.2.2.1, (x, g.2.2.2.1.2), g.2.2.2.2))
  | _ => none
theorem plR1 {a : Nat} {q : cQ} (g : cG) (i : Nat) (v : qm_v) (cs : List Prop) (g' : cG) (hV : cV 0 i) (hk : c_ok g) (hv : qm_ok cV v) (h : wrR1 g i v = some (cs, g')) (hc : qm_all cs) : c_ok g' ∧ (∃ fs, c_ce a q g 0 i = .inr (3, fs) ∧ 1 < fs.length ∧ c_ce a q g' 0 i = .inr (3, fs.set 1 (qm_cv (cLa a) v))) ∧ (∀ k j, cV k j → (k ≠ 0 ∨ j ≠ i) → c_ce a q g' k j = c_ce a q g k j) ∧ narrow .int (qm_cv (cLa a) v) = qm_cv (cLa a) v ∧ fits .int (qm_cv (cLa a) v) = true := by
  rcases v with x | x | x
  case inl =>
    cases h
    refine ⟨hk, ⟨_, rfl, Nat.le_of_ble_eq_true rfl, ?_⟩, ?_, rfl, rfl⟩
    · rfl
    · exact fun k j hv hne => ce_uC k j hv (by rw [show i = 0 from hV] at hne; exact hne)
  all_goals cases h
def wrR5 (g : cG) (i : Nat) (v : qm_v) : Option (List Prop × cG) := match v with
  | .inl x => some ([], (g.1, g.2.1, g.2.2.1, (g.2.2.2.1.1, x), g.2.2.2.2))
  | _ => none
theorem plR5 {a : Nat} {q : cQ} (g : cG) (i : Nat) (v : qm_v) (cs : List Prop) (g' : cG) (hV : cV 0 i) (hk : c_ok g) (hv : qm_ok cV v) (h : wrR5 g i v = some (cs, g')) (hc : qm_all cs) : c_ok g' ∧ (∃ fs, c_ce a q g 0 i = .inr (3, fs) ∧ 5 < fs.length ∧ c_ce a q g' 0 i = .inr (3, fs.set 5 (qm_cv (cLa a) v))) ∧ (∀ k j, cV k j → (k ≠ 0 ∨ j ≠ i) → c_ce a q g' k j = c_ce a q g k j) ∧ narrow .int (qm_cv (cLa a) v) = qm_cv (cLa a) v ∧ fits .int (qm_cv (cLa a) v) = true := by
  rcases v with x | x | x
  case inl =>
    cases h
    refine ⟨hk, ⟨_, rfl, Nat.le_of_ble_eq_true rfl, ?_⟩, ?_, rfl, rfl⟩
    · rfl
    · exact fun k j hv hne => ce_uC k j hv (by rw [show i = 0 from hV] at hne; exact hne)
  all_goals cases h
