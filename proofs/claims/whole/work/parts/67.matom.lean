/-! alternatives, pieces, piece, atom of the reference do what 'pr' says -/
theorem RS_le {m : mG} {B B' : Nat} {o : Option ((Int32 → Int32) × Nat)} {x r : Int32} {g : mG} (h : B ≤ B') (a : RS m B o x r g) : RS m B' o x r g := by
  cases o with
  | some z => exact a
  | none => obtain ⟨q, q1, q2⟩ := a; exact ⟨q, by omega, q2⟩
theorem pr_pos {P : Nat → Int32} {T : Int32 → Int32 → Int32} {tl n : Nat} (hP : ∀ k, n ≤ k → P k = 0) : ∀ (d mode q : Nat) (z : (Int32 → Int32) × Nat), pr P T tl n d mode q = some z → q ≤ n → z.2 ≤ n ∧ q ≤ z.2 ∧ (2 ≤ mode → q < z.2)
  | 0, _, _, _, h, _ => by cases h
  | d + 1, 0, q, z, h, hq => by
    rw [pr_0] at h
    cases h1 : pr P T tl n d 1 q with
    | none => rw [h1] at h; cases h
    | some y =>
      rw [h1] at h
      dsimp only at h
      obtain ⟨a1, a2, a3⟩ := pr_pos hP d 1 q y h1 hq
      by_cases hb : P y.2 = 124
      · rw [if_pos hb] at h
        have hy : y.2 < n := by
          rcases Nat.lt_or_ge y.2 n with w | w
          · exact w
          · rw [hP _ w] at hb; exact absurd hb (by decide)
        cases h2 : pr P T tl n d 0 (y.2 + 1) with
        | none => rw [h2] at h; cases h
        | some w =>
          rw [h2] at h
          cases h
          obtain ⟨b1, b2, b3⟩ := pr_pos hP d 0 (y.2 + 1) w h2 (by omega)
          exact ⟨b1, by show q ≤ w.2; omega, by omega⟩
      · rw [if_neg hb] at h
        cases h
        exact ⟨a1, a2, by omega⟩
  | d + 1, 1, q, z, h, hq => by
    rw [pr_1] at h
    by_cases c0 : P q = 0 ∨ P q = 124 ∨ P q = 41
    · rw [if_pos c0] at h
      cases h
      exact ⟨hq, Nat.le_refl _, by omega⟩
    · rw [if_neg c0] at h
      have hqn : q < n := by
        rcases Nat.lt_or_ge q n with w | w
        · exact w
        · exact absurd (Or.inl (hP _ w)) c0
      by_cases c1 : P q = 94
      · rw [if_pos c1] at h
        cases h2 : pr P T tl n d 1 (q + 1) with
        | none => rw [h2] at h; cases h
        | some w =>
          rw [h2] at h
          cases h
          obtain ⟨b1, b2, b3⟩ := pr_pos hP d 1 (q + 1) w h2 (by omega)
          exact ⟨b1, by show q ≤ w.2; omega, by omega⟩
      · rw [if_neg c1] at h
        by_cases c2 : P q = 36
        · rw [if_pos c2] at h
          cases h2 : pr P T tl n d 1 (q + 1) with
          | none => rw [h2] at h; cases h
          | some w =>
            rw [h2] at h
            cases h
            obtain ⟨b1, b2, b3⟩ := pr_pos hP d 1 (q + 1) w h2 (by omega)
            exact ⟨b1, by show q ≤ w.2; omega, by omega⟩
        · rw [if_neg c2] at h
          cases h1 : pr P T tl n d 2 q with
          | none => rw [h1] at h; cases h
          | some y =>
            rw [h1] at h
            dsimp only at h
            obtain ⟨a1, a2, a3⟩ := pr_pos hP d 2 q y h1 hq
            cases h2 : pr P T tl n d 1 y.2 with
            | none => rw [h2] at h; cases h
            | some w =>
              rw [h2] at h
              cases h
              obtain ⟨b1, b2, b3⟩ := pr_pos hP d 1 y.2 w h2 a1
              exact ⟨b1, by show q ≤ w.2; omega, by omega⟩
  | d + 1, 2, q, z, h, hq => by
    rw [pr_2] at h
    cases h1 : pr P T tl n d 3 q with
    | none => rw [h1] at h; cases h
    | some y =>
      rw [h1] at h
      cases h
      obtain ⟨a1, a2, a3⟩ := pr_pos hP d 3 q y h1 hq
      have a3 := a3 (by omega)
      show sgQ (P y.2) y.2 ≤ n ∧ q ≤ sgQ (P y.2) y.2 ∧ (2 ≤ 2 → q < sgQ (P y.2) y.2)
      unfold sgQ
      split
      · rename_i w
        have hy : y.2 < n := by
          rcases Nat.lt_or_ge y.2 n with u | u
          · exact u
          · rw [hP _ u] at w
            rcases w with w | w | w <;> exact absurd w (by decide)
        omega
      · omega
  | d + 1, k + 3, q, z, h, hq => by
    have h : (if P q = 46 then some (atF (T 32 126), q + 1)
      else if P q = 40 then (match pr P T tl n d 0 (q + 1) with
        | none => none
        | some z => if P z.2 = 41 then some (z.1, z.2 + 1) else none)
      else if P q = 92 then (if P (q + 1) = 0 then none else some (atF (T (P (q + 1)) (P (q + 1))), q + 2))
      else if P q = 91 then (if itG P T n (q + 1) then some (atF (itP P T n (q + 1)), itQ P T n (q + 1)) else none)
      else if P q = 41 ∨ P q = 93 ∨ P q = 42 ∨ P q = 43 ∨ P q = 63 ∨ P q = 0 then none
      else some (atF (T (P q) (P q)), q + 1)) = some z := h
    have lt : ∀ k, ¬ P k = 0 → k < n := fun k hk => by
      rcases Nat.lt_or_ge k n with w | w
      · exact w
      · exact absurd (hP _ w) hk
    by_cases c1 : P q = 46
    · rw [if_pos c1] at h
      have := lt q (by rw [c1]; decide)
      cases h
      exact ⟨by show q + 1 ≤ n; omega, by show q ≤ q + 1; omega, fun _ => by show q < q + 1; omega⟩
    rw [if_neg c1] at h
    by_cases c2 : P q = 40
    · rw [if_pos c2] at h
      have hqn := lt q (by rw [c2]; decide)
      cases h2 : pr P T tl n d 0 (q + 1) with
      | none => rw [h2] at h; cases h
      | some w =>
        rw [h2] at h
        dsimp only at h
        obtain ⟨b1, b2, b3⟩ := pr_pos hP d 0 (q + 1) w h2 (by omega)
        by_cases c3 : P w.2 = 41
        · rw [if_pos c3] at h
          have := lt w.2 (by rw [c3]; decide)
          cases h
          exact ⟨by show w.2 + 1 ≤ n; omega, by show q ≤ w.2 + 1; omega, fun _ => by show q < w.2 + 1; omega⟩
        · rw [if_neg c3] at h; cases h
    rw [if_neg c2] at h
    by_cases c3 : P q = 92
    · rw [if_pos c3] at h
      by_cases c4 : P (q + 1) = 0
      · rw [if_pos c4] at h; cases h
      · rw [if_neg c4] at h
        have := lt _ c4
        cases h
        exact ⟨by show q + 2 ≤ n; omega, by show q ≤ q + 2; omega, fun _ => by show q < q + 2; omega⟩
    rw [if_neg c3] at h
    by_cases c4 : P q = 91
    · rw [if_pos c4] at h
      by_cases c5 : itG P T n (q + 1) = true
      · rw [if_pos c5] at h
        obtain ⟨b1, b2⟩ := itQ_b hP c5
        cases h
        exact ⟨b2, by show q ≤ itQ P T n (q + 1); omega, fun _ => by show q < itQ P T n (q + 1); omega⟩
      · rw [if_neg c5] at h; cases h
    rw [if_neg c4] at h
    by_cases c5 : P q = 41 ∨ P q = 93 ∨ P q = 42 ∨ P q = 43 ∨ P q = 63 ∨ P q = 0
    · rw [if_pos c5] at h; cases h
    · rw [if_neg c5] at h
      have := lt q (fun w => c5 (Or.inr (Or.inr (Or.inr (Or.inr (Or.inr w))))))
      cases h
      exact ⟨by show q + 1 ≤ n; omega, by show q ≤ q + 1; omega, fun _ => by show q < q + 1; omega⟩
abbrev prA (X Y : AV) (d mode q : Nat) : Option ((Int32 → Int32) × Nat) := pr (bA Y) (aTt X) (lA X) (lA Y) d mode q
def ATM (E : mEnv) (m : mG) (X Y : AV) (d : Nat) : Prop := ∀ (v q : Nat) (x : Int32), 4 ≤ v → 4 + 4 * (lA Y - q) ≤ v → q < lA Y → 5 * (lA Y - q) + 2 ≤ d → ∃ r g, RS m (40 + d) (prA X Y d 3 q) x r g ∧ mSd E (mM_atom (v + 1)) [qR 0 0, qI x] (pst m q 0) (some (qI r)) g
def PCE (E : mEnv) (m : mG) (X Y : AV) (d : Nat) : Prop := ∀ (v q : Nat) (x : Int32), 4 ≤ v → 4 + 4 * (lA Y - q) ≤ v → q < lA Y → 5 * (lA Y - q) + 3 ≤ d → ∃ r g, RS m (40 + d) (prA X Y d 2 q) x r g ∧ mSd E (mM_piece (v + 2)) [qR 0 0, qI x] (pst m q 0) (some (qI r)) g
def LPP (E : mEnv) (m : mG) (X Y : AV) (d : Nat) : Prop := ∀ (v q : Nat) (x : Int32), 4 ≤ v → 4 + 4 * (lA Y - q) ≤ v → q ≤ lA Y → 5 * (lA Y - q) + 4 ≤ d → ∃ r g, RS m (40 + d) (prA X Y d 1 q) x r g ∧ ∀ (x0 : Int32) (p : Program) (e : Env) (st : State) (mm : MethodId) (args : Array Value) (below : List Frame) (meth : Method) (c : Code) (Q : State → Prop), qm_C (mLa E.2.2.2) mV (mHold E) (mA E.2.2.2) (fun r1 g1 => r1 = some (qI r) ∧ g1 = g) prog_10_method_40_code 3 yM_pieces.cls (wsT yM_pieces prog_10_method_40_code 3 (some .int)) (some .int) p st mm args below meth c Q → qm_W (mLa E.2.2.2) mV (mHold E) (mA E.2.2.2) 3 p E.1 e (rmL (v + 3)) st mm args below meth c Q 2 ([some (qR 0 0), some (qI x0), some (qI x)], [], pst m q 0)
def ALT (E : mEnv) (m : mG) (X Y : AV) (d : Nat) : Prop := ∀ (v q : Nat) (x : Int32), 4 ≤ v → 4 + 4 * (lA Y - q) ≤ v → q ≤ lA Y → 5 * (lA Y - q) + 5 ≤ d → ∃ r g, RS m (40 + d) (prA X Y d 0 q) x r g ∧ mSd E (mM_alternatives (v + 4)) [qR 0 0, qI x] (pst m q 0) (some (qI r)) g
/-- behind one alternative: what comes after a stroke is added -/
def LPA (E : mEnv) (m : mG) (X Y : AV) (d : Nat) : Prop := ∀ (v q : Nat) (x acc : Int32), 4 ≤ v → 4 + 4 * (lA Y - q) ≤ v → q ≤ lA Y → 5 * (lA Y - q) ≤ d → ∃ r g, (if bA Y q = 124 then RS m (40 + d) (match prA X Y d 0 (q + 1) with | none => none | some y => some (fun x => acc ||| y.1 x, y.2)) x r g else r = acc ∧ g = pst m q 0) ∧ ∀ (p : Program) (e : Env) (st : State) (mm : MethodId) (args : Array Value) (below : List Frame) (meth : Method) (c : Code) (Q : State → Prop), qm_C (mLa E.2.2.2) mV (mHold E) (mA E.2.2.2) (fun r1 g1 => r1 = some (qI r) ∧ g1 = g) prog_10_method_39_code 3 yM_alternatives.cls (wsT yM_alternatives prog_10_method_39_code 3 (some .int)) (some .int) p st mm args below meth c Q → qm_W (mLa E.2.2.2) mV (mHold E) (mA E.2.2.2) 3 p E.1 e (rmL (v + 4)) st mm args below meth c Q 6 ([some (qR 0 0), some (qI x), some (qI acc)], [], pst m q 0)
theorem pst_pp (m : mG) (q : Nat) (bd : Int32) : (va_up (pst m q bd).1 3 ((pst m q bd).1 3 + 1), (pst m q bd).2) = pst m (q + 1) bd := by rw [pst_3, nI_1]; exact pst_at m q (q + 1) bd
theorem pst_bp (m : mG) (q : Nat) (bd b2 : Int32) : (va_up (va_up (pst m q bd).1 4 b2) 3 ((va_up (pst m q bd).1 4 b2) 3 + 1), (pst m q bd).2) = pst m (q + 1) b2 := by
  have e := pst_bd m q bd b2
  have e1 : va_up (pst m q bd).1 4 b2 = (pst m q b2).1 := congrArg Prod.fst e
  have e2 : (pst m q bd).2 = (pst m q b2).2 := rfl
  rw [e1, e2]
  exact pst_pp m q b2
set_option maxHeartbeats 4000000 in
theorem ATM_s {E : mEnv} {m : mG} {X Y : AV} (h : pOk m X Y) {d : Nat} (hd : d ≤ 200) (A : ALT E m X Y d) : ATM E m X Y (d + 1) := by
  intro v q x hv hl hq hf
  obtain ⟨l1, l2, l3, l4⟩ := pOk_len h
  unfold prA
  rw [pr_3]
  have hh := xM_here E h q (by omega) 0
  have e1 := pst_pp m q 0
  obtain ⟨P, hP⟩ : ∃ P, P = bA Y := ⟨_, rfl⟩
  obtain ⟨T, hT⟩ : ∃ T, T = aTt X := ⟨_, rfl⟩
  rw [← hP, ← hT]
  rw [← hP] at hh
  have n0 : ¬ P q = 0 := by rw [hP]; exact okB_pos (bA_ok l4 hq)
  have sA : ∀ (q1 : Nat) (bd c : Int32), mSd E mM_step [qR 0 0, qI x, qI 1, qI c] (pst m q1 bd) (some (qI (atF (T 32 126) x))) (pst m q1 bd) := fun q1 bd c => by rw [hT]; exact xM_stepA E h q1 bd x c
  have sC : ∀ (q1 : Nat) (bd c : Int32), mSd E mM_step [qR 0 0, qI x, qI 0, qI c] (pst m q1 bd) (some (qI (atF (T c c) x))) (pst m q1 bd) := fun q1 bd c => by rw [hT]; exact xM_stepC E h q1 bd x c
  by_cases c1 : P q = 46
  · rw [if_pos c1]
    refine ⟨atF (T 32 126) x, pst m (q + 1) 0, ⟨rfl, rfl⟩, ?_⟩
    refine qm_meth (mOk E) (by decide) rfl rfl (Nat.le_of_ble_eq_true rfl) ?_
    intro p e st mm args below meth cc Q C _ _
    have hs : mSd E mM_step [qR 0 0, qI x, qI 1, qI 0] (va_up (pst m q 0).1 3 ((pst m q 0).1 3 + 1), (pst m q 0).2) (some (qI (atF (T 32 126) x))) (pst m (q + 1) 0) := by rw [e1]; exact sA _ _ _
    exact qm_step (sM_atom E v hv) C 0 9999 100 ([6], [], [(some (qI (P q)), pst m q 0), (some (qI (atF (T 32 126) x)), pst m (q + 1) 0)]) ⟨hh, c1, hs, rfl, rfl⟩
  rw [if_neg c1]
  by_cases c2 : P q = 40
  · rw [if_pos c2]
    obtain ⟨v', rfl⟩ : ∃ v', v = v' + 4 := ⟨v - 4, by omega⟩
    obtain ⟨r, g, i1, i2⟩ := A v' (q + 1) x (by omega) (by omega) (by omega) (by omega)
    unfold prA at i1
    rw [← hP, ← hT] at i1
    have hA : mSd E (mM_alternatives (v' + 4)) [qR 0 0, qI x] (va_up (pst m q 0).1 3 ((pst m q 0).1 3 + 1), (pst m q 0).2) (some (qI r)) g := by rw [e1]; exact i2
    cases hp : pr P T (lA X) (lA Y) d 0 (q + 1) with
    | none =>
      rw [hp] at i1
      obtain ⟨q2, q3, rfl⟩ := i1
      refine ⟨r, pst m (q2 + 1) 1, ⟨q2 + 1, by omega, rfl⟩, ?_⟩
      refine qm_meth (mOk E) (by decide) rfl rfl (Nat.le_of_ble_eq_true rfl) ?_
      intro p e st mm args below meth cc Q C _ _
      have b1 : ¬ (pst m q2 1).1 4 = 0 := by rw [pst_4]; decide
      have fin := pst_bp m q2 1 1
      exact qm_step (sM_atom E (v' + 4) hv) C 0 9999 100 ([2, 1], [], [(some (qI (P q)), pst m q 0), (some (qI r), pst m q2 1)]) ⟨hh, c2, hA, b1, Or.inr rfl, rfl, fin⟩
    | some z =>
      rw [hp] at i1
      obtain ⟨rfl, rfl⟩ := i1
      have hz := pr_pos (fun k hk => by rw [hP]; exact bA_out hk) d 0 (q + 1) z hp (by omega)
      have hz1 : z.2 < 1000 := by omega
      have hh2 := xM_here E h z.2 hz1 0
      rw [← hP] at hh2
      have b0 : (pst m z.2 0).1 4 = 0 := pst_4 _ _ _
      dsimp only
      by_cases c3 : P z.2 = 41
      · rw [if_pos c3]
        refine ⟨z.1 x, pst m (z.2 + 1) 0, ⟨rfl, rfl⟩, ?_⟩
        refine qm_meth (mOk E) (by decide) rfl rfl (Nat.le_of_ble_eq_true rfl) ?_
        intro p e st mm args below meth cc Q C _ _
        have fin := pst_bp m z.2 0 0
        exact qm_step (sM_atom E (v' + 4) hv) C 0 9999 100 ([2, 0, 1], [], [(some (qI (P q)), pst m q 0), (some (qI (z.1 x)), pst m z.2 0), (some (qI (P z.2)), pst m z.2 0)]) ⟨hh, c2, hA, b0, hh2, c3, Or.inl rfl, rfl, fin⟩
      · rw [if_neg c3]
        refine ⟨z.1 x, pst m (z.2 + 1) 1, ⟨z.2 + 1, by omega, rfl⟩, ?_⟩
        refine qm_meth (mOk E) (by decide) rfl rfl (Nat.le_of_ble_eq_true rfl) ?_
        intro p e st mm args below meth cc Q C _ _
        have fin := pst_bp m z.2 0 1
        exact qm_step (sM_atom E (v' + 4) hv) C 0 9999 100 ([2, 0, 0], [], [(some (qI (P q)), pst m q 0), (some (qI (z.1 x)), pst m z.2 0), (some (qI (P z.2)), pst m z.2 0)]) ⟨hh, c2, hA, b0, hh2, c3, Or.inr rfl, rfl, fin⟩
  rw [if_neg c2]
  by_cases c3 : P q = 92
  · rw [if_pos c3]
    have hh2 := xM_here E h (q + 1) (by omega) 0
    rw [← hP] at hh2
    have hh2' : mSd E mM_here [qR 0 0] (va_up (pst m q 0).1 3 ((pst m q 0).1 3 + 1), (pst m q 0).2) (some (qI (P (q + 1)))) (pst m (q + 1) 0) := by rw [e1]; exact hh2
    have b0 : (pst m (q + 1) 0).1 4 = 0 := pst_4 _ _ _
    by_cases c4 : P (q + 1) = 0
    · rw [if_pos c4]
      refine ⟨atF (T (P (q + 1)) (P (q + 1))) x, pst m (q + 2) 1, ⟨q + 2, by omega, rfl⟩, ?_⟩
      refine qm_meth (mOk E) (by decide) rfl rfl (Nat.le_of_ble_eq_true rfl) ?_
      intro p e st mm args below meth cc Q C _ _
      have e2 := pst_bp m (q + 1) 0 1
      have hs : mSd E mM_step [qR 0 0, qI x, qI 0, qI (P (q + 1))] (va_up (va_up (pst m (q + 1) 0).1 4 1) 3 ((va_up (pst m (q + 1) 0).1 4 1) 3 + 1), (pst m (q + 1) 0).2) (some (qI (atF (T (P (q + 1)) (P (q + 1))) x))) (pst m (q + 2) 1) := by rw [e2]; exact sC _ _ _
      exact qm_step (sM_atom E v hv) C 0 9999 100 ([9, 0, 0], [], [(some (qI (P q)), pst m q 0), (some (qI (P (q + 1))), pst m (q + 1) 0), (some (qI (atF (T (P (q + 1)) (P (q + 1))) x)), pst m (q + 2) 1)]) ⟨hh, c3, hh2', b0, c4, Or.inr rfl, hs, rfl, rfl⟩
    · rw [if_neg c4]
      refine ⟨atF (T (P (q + 1)) (P (q + 1))) x, pst m (q + 2) 0, ⟨rfl, rfl⟩, ?_⟩
      refine qm_meth (mOk E) (by decide) rfl rfl (Nat.le_of_ble_eq_true rfl) ?_
      intro p e st mm args below meth cc Q C _ _
      have e2 := pst_bp m (q + 1) 0 0
      have hs : mSd E mM_step [qR 0 0, qI x, qI 0, qI (P (q + 1))] (va_up (va_up (pst m (q + 1) 0).1 4 0) 3 ((va_up (pst m (q + 1) 0).1 4 0) 3 + 1), (pst m (q + 1) 0).2) (some (qI (atF (T (P (q + 1)) (P (q + 1))) x))) (pst m (q + 2) 0) := by rw [e2]; exact sC _ _ _
      exact qm_step (sM_atom E v hv) C 0 9999 100 ([9, 0, 1], [], [(some (qI (P q)), pst m q 0), (some (qI (P (q + 1))), pst m (q + 1) 0), (some (qI (atF (T (P (q + 1)) (P (q + 1))) x)), pst m (q + 2) 0)]) ⟨hh, c3, hh2', b0, c4, Or.inl rfl, hs, rfl, rfl⟩
  rw [if_neg c3]
  by_cases c4 : P q = 91
  · rw [if_pos c4]
    obtain ⟨r, g, i1, i2⟩ := xM_items E h (q + 1) (by omega) x
    rw [← hP, ← hT] at i1
    refine ⟨r, g, ?_, ?_⟩
    · exact RS_le (by omega) i1
    · refine qm_meth (mOk E) (by decide) rfl rfl (Nat.le_of_ble_eq_true rfl) ?_
      intro p e st mm args below meth cc Q C _ _
      have hI : mSd E mM_items [qR 0 0, qI x] (va_up (pst m q 0).1 3 ((pst m q 0).1 3 + 1), (pst m q 0).2) (some (qI r)) g := by rw [e1]; exact i2
      exact qm_step (sM_atom E v hv) C 0 9999 100 ([8], [], [(some (qI (P q)), pst m q 0), (some (qI r), g)]) ⟨hh, c4, hI, rfl, rfl⟩
  rw [if_neg c4]
  -- signs that can't stand there
  have bad : ∀ k, (k = 3 ∧ P q = 41) ∨ (k = 4 ∧ P q = 42) ∨ (k = 5 ∧ P q = 43) ∨ (k = 7 ∧ P q = 63) ∨ (k = 10 ∧ P q = 93) → mSd E (mM_atom (v + 1)) [qR 0 0, qI x] (pst m q 0) (some (qI 0)) (pst m (q + 1) 1) := by
    intro k hk
    refine qm_meth (mOk E) (by decide) rfl rfl (Nat.le_of_ble_eq_true rfl) ?_
    intro p e st mm args below meth cc Q C _ _
    have fin : (va_up (va_up (pst m q 0).1 3 ((pst m q 0).1 3 + 1)) 4 1, (pst m q 0).2) = pst m (q + 1) 1 := by
      have e2 : va_up (pst m q 0).1 3 ((pst m q 0).1 3 + 1) = (pst m (q + 1) 0).1 := congrArg Prod.fst e1
      rw [e2]
      exact pst_bd m (q + 1) 0 1
    rcases hk with ⟨rfl, w⟩ | ⟨rfl, w⟩ | ⟨rfl, w⟩ | ⟨rfl, w⟩ | ⟨rfl, w⟩
    · exact qm_step (sM_atom E v hv) C 0 9999 100 ([3], [], [(some (qI (P q)), pst m q 0)]) ⟨hh, w, Or.inr rfl, rfl, fin⟩
    · exact qm_step (sM_atom E v hv) C 0 9999 100 ([4], [], [(some (qI (P q)), pst m q 0)]) ⟨hh, w, Or.inr rfl, rfl, fin⟩
    · exact qm_step (sM_atom E v hv) C 0 9999 100 ([5], [], [(some (qI (P q)), pst m q 0)]) ⟨hh, w, Or.inr rfl, rfl, fin⟩
    · exact qm_step (sM_atom E v hv) C 0 9999 100 ([7], [], [(some (qI (P q)), pst m q 0)]) ⟨hh, w, Or.inr rfl, rfl, fin⟩
    · exact qm_step (sM_atom E v hv) C 0 9999 100 ([10], [], [(some (qI (P q)), pst m q 0)]) ⟨hh, w, Or.inr rfl, rfl, fin⟩
  by_cases c5 : P q = 41 ∨ P q = 93 ∨ P q = 42 ∨ P q = 43 ∨ P q = 63 ∨ P q = 0
  · rw [if_pos c5]
    refine ⟨0, pst m (q + 1) 1, ⟨q + 1, by omega, rfl⟩, ?_⟩
    rcases c5 with w | w | w | w | w | w
    · exact bad 3 (Or.inl ⟨rfl, w⟩)
    · exact bad 10 (Or.inr (Or.inr (Or.inr (Or.inr ⟨rfl, w⟩))))
    · exact bad 4 (Or.inr (Or.inl ⟨rfl, w⟩))
    · exact bad 5 (Or.inr (Or.inr (Or.inl ⟨rfl, w⟩)))
    · exact bad 7 (Or.inr (Or.inr (Or.inr (Or.inl ⟨rfl, w⟩))))
    · exact absurd w n0
  · rw [if_neg c5]
    refine ⟨atF (T (P q) (P q)) x, pst m (q + 1) 0, ⟨rfl, rfl⟩, ?_⟩
    refine qm_meth (mOk E) (by decide) rfl rfl (Nat.le_of_ble_eq_true rfl) ?_
    intro p e st mm args below meth cc Q C _ _
    have hs : mSd E mM_step [qR 0 0, qI x, qI 0, qI (P q)] (va_up (pst m q 0).1 3 ((pst m q 0).1 3 + 1), (pst m q 0).2) (some (qI (atF (T (P q) (P q)) x))) (pst m (q + 1) 0) := by rw [e1]; exact sC _ _ _
    have hdef : ∀ w ∈ ([(0, 211), (40, 116), (41, 211), (42, 211), (43, 211), (46, 108), (63, 211), (91, 205), (92, 159), (93, 211)] : List (Int32 × Nat)), ¬ P q = w.1 := by
      intro w hw
      simp only [List.mem_cons, List.not_mem_nil, or_false] at hw
      rcases hw with rfl | rfl | rfl | rfl | rfl | rfl | rfl | rfl | rfl | rfl
      · exact n0
      · exact c2
      · exact fun w => c5 (Or.inl w)
      · exact fun w => c5 (Or.inr (Or.inr (Or.inl w)))
      · exact fun w => c5 (Or.inr (Or.inr (Or.inr (Or.inl w))))
      · exact c1
      · exact fun w => c5 (Or.inr (Or.inr (Or.inr (Or.inr (Or.inl w)))))
      · exact c4
      · exact c3
      · exact fun w => c5 (Or.inr (Or.inl w))
    exact qm_step (sM_atom E v hv) C 0 9999 100 ([0], [], [(some (qI (P q)), pst m q 0), (some (qI (atF (T (P q) (P q)) x)), pst m (q + 1) 0)]) ⟨hh, hdef, hs, rfl, rfl⟩
