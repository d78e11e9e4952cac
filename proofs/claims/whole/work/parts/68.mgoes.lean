/-! piece, pieces, alternatives, goes of the reference -/
theorem itr_s (F : Int32 → Int32) (k : Nat) (x : Int32) : itr F (k + 1) x = if x ||| F x = x then x else itr F k (x ||| F x) := rfl
set_option maxHeartbeats 4000000 in
theorem PCE_s {E : mEnv} {m : mG} {X Y : AV} (h : pOk m X Y) {d : Nat} (hd : d ≤ 200) (A : ATM E m X Y d) : PCE E m X Y (d + 1) := by
  intro v q x hv hl hq hf
  obtain ⟨l1, l2, l3, l4⟩ := pOk_len h
  unfold prA
  rw [pr_2]
  obtain ⟨P, hP⟩ : ∃ P, P = bA Y := ⟨_, rfl⟩
  have A := fun x => A v q x hv hl hq (by omega)
  unfold prA at A
  rw [← hP] at A ⊢
  cases hp : pr P (aTt X) (lA X) (lA Y) d 3 q with
  | none =>
    obtain ⟨r, g, i1, i2⟩ := A x
    rw [hp] at i1
    obtain ⟨q2, q3, rfl⟩ := i1
    refine ⟨r, pst m q2 1, ⟨q2, by omega, rfl⟩, ?_⟩
    refine qm_meth (mOk E) (by decide) rfl rfl (Nat.le_of_ble_eq_true rfl) ?_
    intro p e st mm args below meth cc Q C _ _
    have b1 : ¬ (pst m q2 1).1 4 = 0 := by rw [pst_4]; decide
    have hh := xM_here E h q2 (by omega) 1
    exact qm_step (sM_piece E v hv) C 0 9999 100 ([1], [], [(some (qI r), pst m q2 1), (some (qI (bA Y q2)), pst m q2 1)]) ⟨i2, hh, b1, rfl, rfl⟩
  | some z =>
    dsimp only
    have hz := pr_pos (fun k hk => by rw [hP]; exact bA_out hk) d 3 q z hp (by omega)
    have AA : ∀ y, mSd E (mM_atom (v + 1)) [qR 0 0, qI y] (pst m q 0) (some (qI (z.1 y))) (pst m z.2 0) := by
      intro y
      obtain ⟨r, g, i1, i2⟩ := A y
      rw [hp] at i1
      obtain ⟨rfl, rfl⟩ := i1
      exact i2
    have hh := xM_here E h z.2 (by omega) 0
    rw [← hP] at hh
    have b0 : (pst m z.2 0).1 4 = 0 := pst_4 _ _ _
    have e3 : (pst m q 0).1 3 = nI q := pst_3 _ _ _
    -- the loop of * and +
    have loop : ∀ (k : Nat) (a F : Int32) (L8 : Option qm_v), 33 ≤ k + bcn a → itr z.1 k a = F → ∀ (bg bh o sg : Int32), bg = nI q → bh = nI (z.2 + 1) → ∀ (p : Program) (e : Env) (st : State) (mm : MethodId) (args : Array Value) (below : List Frame) (meth : Method) (c : Code) (Q : State → Prop), qm_C (mLa E.2.2.2) mV (mHold E) (mA E.2.2.2) (fun r1 g1 => r1 = some (qI F) ∧ g1 = pst m (z.2 + 1) 0) prog_10_method_41_code 9 yM_piece.cls (wsT yM_piece prog_10_method_41_code 9 (some .int)) (some .int) p st mm args below meth c Q → qm_W (mLa E.2.2.2) mV (mHold E) (mA E.2.2.2) 9 p E.1 e (rmL (v + 2)) st mm args below meth c Q 85 ([some (qR 0 0), some (qI x), some (qI bg), some (qI o), some (qI sg), some (qI bh), some (qI a), some (qI 1), L8], [], pst m z.2 0) := by
      intro k
      induction k with
      | zero => intro a F L8 hk; exact absurd (bcn_le a) (by omega)
      | succ k ih =>
        intro a F L8 hk hF bg bh o sg hbg hbh p e st mm args below meth c Q C
        have e1 : (va_up (pst m z.2 0).1 3 bg, (pst m z.2 0).2) = pst m q 0 := by rw [hbg]; exact pst_at _ _ _ _
        have hA : mSd E (mM_atom (v + 1)) [qR 0 0, qI a] (va_up (pst m z.2 0).1 3 bg, (pst m z.2 0).2) (some (qI (z.1 a))) (pst m z.2 0) := by rw [e1]; exact AA a
        rw [itr_s] at hF
        by_cases hx : a ||| z.1 a = a
        · rw [if_pos hx] at hF
          have fin : (va_up (pst m z.2 0).1 3 bh, (pst m z.2 0).2) = pst m (z.2 + 1) 0 := by rw [hbh]; exact pst_at _ _ _ _
          have fr : (some (qI (a ||| z.1 a)) : Option qm_v) = some (qI F) := by rw [hx, hF]
          exact qm_step (sM_piece E v hv) C 85 9999 100 ([0, 1, 1], [], [(some (qI (z.1 a)), pst m z.2 0)]) ⟨by decide, hA, hx, rfl, fr, fin⟩
        · rw [if_neg hx] at hF
          have hb := bcn_lt (sb_l a (z.1 a)) hx
          refine qm_step (sM_piece E v hv) C 85 85 100 ([0, 0], [], [(some (qI (z.1 a)), pst m z.2 0)]) ⟨by decide, hA, hx, ?_⟩
          exact ih (a ||| z.1 a) F _ (by omega) hF bg bh o sg hbg hbh p e st mm args below meth c Q C
    by_cases c1 : P z.2 = 42
    · have eF : sgF (P z.2) z.1 = fun x => itr z.1 33 (x ||| z.1 x) := by unfold sgF; rw [if_pos c1]
      have eQ : sgQ (P z.2) z.2 = z.2 + 1 := by unfold sgQ; rw [if_pos (Or.inl c1)]
      rw [eF, eQ]
      refine ⟨_, _, ⟨rfl, rfl⟩, ?_⟩
      refine qm_meth (mOk E) (by decide) rfl rfl (Nat.le_of_ble_eq_true rfl) ?_
      intro p e st mm args below meth cc Q C _ _
      have nx := loop 33 (x ||| z.1 x) _ none (by omega) rfl ((pst m q 0).1 3) ((pst m z.2 0).1 3 + 1) (z.1 x) (P z.2) e3 (by rw [pst_3, nI_1]) p e st mm args below meth cc Q C
      have d43 : ¬ P z.2 = 43 := by rw [c1]; decide
      have d63 : ¬ P z.2 = 63 := by rw [c1]; decide
      exact qm_step (sM_piece E v hv) C 0 85 100 ([0, 1, 1, 0], [], [(some (qI (z.1 x)), pst m z.2 0), (some (qI (P z.2)), pst m z.2 0)]) ⟨AA x, hh, b0, c1, d43, d63, nx⟩
    by_cases c2 : P z.2 = 43
    · have eF : sgF (P z.2) z.1 = fun x => itr z.1 33 (z.1 x) := by unfold sgF; rw [if_neg c1, if_pos c2]
      have eQ : sgQ (P z.2) z.2 = z.2 + 1 := by unfold sgQ; rw [if_pos (Or.inr (Or.inl c2))]
      rw [eF, eQ]
      refine ⟨_, _, ⟨rfl, rfl⟩, ?_⟩
      refine qm_meth (mOk E) (by decide) rfl rfl (Nat.le_of_ble_eq_true rfl) ?_
      intro p e st mm args below meth cc Q C _ _
      have nx := loop 33 (z.1 x) _ none (by omega) rfl ((pst m q 0).1 3) ((pst m z.2 0).1 3 + 1) (z.1 x) (P z.2) e3 (by rw [pst_3, nI_1]) p e st mm args below meth cc Q C
      have d63 : ¬ P z.2 = 63 := by rw [c2]; decide
      exact qm_step (sM_piece E v hv) C 0 85 100 ([0, 0, 1, 0, 0], [], [(some (qI (z.1 x)), pst m z.2 0), (some (qI (P z.2)), pst m z.2 0)]) ⟨AA x, hh, b0, c1, c2, c2, d63, nx⟩
    by_cases c3 : P z.2 = 63
    · have eF : sgF (P z.2) z.1 = fun x => x ||| z.1 x := by unfold sgF; rw [if_neg c1, if_neg c2, if_pos c3]
      have eQ : sgQ (P z.2) z.2 = z.2 + 1 := by unfold sgQ; rw [if_pos (Or.inr (Or.inr c3))]
      rw [eF, eQ]
      refine ⟨_, _, ⟨rfl, rfl⟩, ?_⟩
      refine qm_meth (mOk E) (by decide) rfl rfl (Nat.le_of_ble_eq_true rfl) ?_
      intro p e st mm args below meth cc Q C _ _
      have fin := pst_pp m z.2 0
      exact qm_step (sM_piece E v hv) C 0 9999 100 ([0, 0, 0, 1, 1, 1, 1], [], [(some (qI (z.1 x)), pst m z.2 0), (some (qI (P z.2)), pst m z.2 0)]) ⟨AA x, hh, b0, c1, c2, c3, c2, c3, rfl, rfl, fin⟩
    · have eF : sgF (P z.2) z.1 = z.1 := by unfold sgF; rw [if_neg c1, if_neg c2, if_neg c3]
      have eQ : sgQ (P z.2) z.2 = z.2 := by unfold sgQ; rw [if_neg (by rintro (w | w | w); exact c1 w; exact c2 w; exact c3 w)]
      rw [eF, eQ]
      refine ⟨_, _, ⟨rfl, rfl⟩, ?_⟩
      refine qm_meth (mOk E) (by decide) rfl rfl (Nat.le_of_ble_eq_true rfl) ?_
      intro p e st mm args below meth cc Q C _ _
      exact qm_step (sM_piece E v hv) C 0 9999 100 ([0, 0, 0, 0], [], [(some (qI (z.1 x)), pst m z.2 0), (some (qI (P z.2)), pst m z.2 0)]) ⟨AA x, hh, b0, c1, c2, c3, rfl, rfl⟩
set_option maxHeartbeats 4000000 in
theorem LPP_s {E : mEnv} {m : mG} {X Y : AV} (h : pOk m X Y) {d : Nat} (hd : d ≤ 200) (A : PCE E m X Y d) (L : LPP E m X Y d) : LPP E m X Y (d + 1) := by
  intro v q x hv hl hq hf
  obtain ⟨l1, l2, l3, l4⟩ := pOk_len h
  unfold prA
  rw [pr_1]
  obtain ⟨P, hP⟩ : ∃ P, P = bA Y := ⟨_, rfl⟩
  have hh := xM_here E h q (by omega) 0
  rw [← hP] at hh ⊢
  have b0 : (pst m q 0).1 4 = 0 := pst_4 _ _ _
  by_cases c0 : P q = 0 ∨ P q = 124 ∨ P q = 41
  · rw [if_pos c0]
    refine ⟨x, pst m q 0, ⟨rfl, rfl⟩, ?_⟩
    intro x0 p e st mm args below meth c Q C
    by_cases w0 : P q = 0
    · exact qm_step (sM_pieces E v hv) C 2 9999 100 ([0, 1], [], [(some (qI (P q)), pst m q 0)]) ⟨b0, hh, w0, rfl, rfl⟩
    by_cases w1 : P q = 124
    · exact qm_step (sM_pieces E v hv) C 2 9999 100 ([0, 0, 1], [], [(some (qI (P q)), pst m q 0), (some (qI (P q)), pst m q 0)]) ⟨b0, hh, w0, hh, w1, rfl, rfl⟩
    · have w2 : P q = 41 := (c0.resolve_left w0).resolve_left w1
      exact qm_step (sM_pieces E v hv) C 2 9999 100 ([0, 0, 0, 1], [], [(some (qI (P q)), pst m q 0), (some (qI (P q)), pst m q 0), (some (qI (P q)), pst m q 0)]) ⟨b0, hh, w0, hh, w1, hh, w2, rfl, rfl⟩
  rw [if_neg c0]
  have w0 : ¬ P q = 0 := fun w => c0 (Or.inl w)
  have w1 : ¬ P q = 124 := fun w => c0 (Or.inr (Or.inl w))
  have w2 : ¬ P q = 41 := fun w => c0 (Or.inr (Or.inr w))
  have hqn : q < lA Y := by
    rcases Nat.lt_or_ge q (lA Y) with w | w
    · exact w
    · rw [hP, bA_out w] at w0; exact absurd rfl w0
  have e1 := pst_pp m q 0
  by_cases c1 : P q = 94
  · rw [if_pos c1]
    obtain ⟨r, g, i1, i2⟩ := L v (q + 1) (x &&& 1) hv (by omega) (by omega) (by omega)
    unfold prA at i1
    rw [← hP] at i1
    refine ⟨r, g, ?_, ?_⟩
    · cases hp : pr P (aTt X) (lA X) (lA Y) d 1 (q + 1) with
      | none => rw [hp] at i1; exact RS_le (by omega) i1
      | some y => rw [hp] at i1; exact i1
    · intro x0 p e st mm args below meth c Q C
      have nx := i2 x0 p e st mm args below meth c Q C
      rw [← e1] at nx
      exact qm_step (sM_pieces E v hv) C 2 2 100 ([0, 0, 0, 0, 0], [], [(some (qI (P q)), pst m q 0), (some (qI (P q)), pst m q 0), (some (qI (P q)), pst m q 0), (some (qI (P q)), pst m q 0)]) ⟨b0, hh, w0, hh, w1, hh, w2, hh, c1, nx⟩
  rw [if_neg c1]
  by_cases c2 : P q = 36
  · rw [if_pos c2]
    obtain ⟨r, g, i1, i2⟩ := L v (q + 1) (x &&& (1 <<< (nI (lA X) &&& 31))) hv (by omega) (by omega) (by omega)
    unfold prA at i1
    rw [← hP] at i1
    refine ⟨r, g, ?_, ?_⟩
    · cases hp : pr P (aTt X) (lA X) (lA Y) d 1 (q + 1) with
      | none => rw [hp] at i1; exact RS_le (by omega) i1
      | some y => rw [hp] at i1; exact i1
    · intro x0 p e st mm args below meth c Q C
      have nx := i2 x0 p e st mm args below meth c Q C
      obtain ⟨o1, o2, o3⟩ := xM_over E h (q + 1) 0
      have o2' : mSd E mM_length [qR 0 0, qI ((va_up (pst m q 0).1 3 ((pst m q 0).1 3 + 1)) 5)] (va_up (pst m q 0).1 3 ((pst m q 0).1 3 + 1), (pst m q 0).2) (some (qI (nI (lA X)))) (pst m (q + 1) 0) := by
        have e2 : va_up (pst m q 0).1 3 ((pst m q 0).1 3 + 1) = (pst m (q + 1) 0).1 := congrArg Prod.fst e1
        rw [e1, e2]
        exact o2
      exact qm_step (sM_pieces E v hv) C 2 2 100 ([0, 0, 0, 0, 1, 0], [], [(some (qI (P q)), pst m q 0), (some (qI (P q)), pst m q 0), (some (qI (P q)), pst m q 0), (some (qI (P q)), pst m q 0), (some (qI (P q)), pst m q 0), (some (qI (nI (lA X))), pst m (q + 1) 0)]) ⟨b0, hh, w0, hh, w1, hh, w2, hh, c1, hh, c2, o2', nx⟩
  rw [if_neg c2]
  obtain ⟨r1, g1, j1, j2⟩ := A v q x hv hl hqn (by omega)
  unfold prA at j1
  rw [← hP] at j1
  cases hp1 : pr P (aTt X) (lA X) (lA Y) d 2 q with
  | none =>
    rw [hp1] at j1
    obtain ⟨q2, q3, rfl⟩ := j1
    refine ⟨r1, pst m q2 1, ⟨q2, by omega, rfl⟩, ?_⟩
    intro x0 p e st mm args below meth c Q C
    have b1 : ¬ (pst m q2 1).1 4 = 0 := by rw [pst_4]; decide
    exact qm_step (sM_pieces E v hv) C 2 9999 100 ([0, 0, 0, 0, 1, 1, 1], [], [(some (qI (P q)), pst m q 0), (some (qI (P q)), pst m q 0), (some (qI (P q)), pst m q 0), (some (qI (P q)), pst m q 0), (some (qI (P q)), pst m q 0), (some (qI r1), pst m q2 1)]) ⟨b0, hh, w0, hh, w1, hh, w2, hh, c1, hh, c2, j2, b1, rfl, rfl⟩
  | some z =>
    rw [hp1] at j1
    obtain ⟨rfl, rfl⟩ := j1
    have hz := pr_pos (fun k hk => by rw [hP]; exact bA_out hk) d 2 q z hp1 (by omega)
    have hz2 := hz.2.2 (by omega)
    obtain ⟨r, g, i1, i2⟩ := L v z.2 (z.1 x) hv (by omega) (by omega) (by omega)
    unfold prA at i1
    rw [← hP] at i1
    refine ⟨r, g, ?_, ?_⟩
    · dsimp only
      cases hp : pr P (aTt X) (lA X) (lA Y) d 1 z.2 with
      | none => rw [hp] at i1; exact RS_le (by omega) i1
      | some y => rw [hp] at i1; exact i1
    · intro x0 p e st mm args below meth c Q C
      have nx := i2 x0 p e st mm args below meth c Q C
      exact qm_step (sM_pieces E v hv) C 2 2 100 ([0, 0, 0, 0, 1, 1], [], [(some (qI (P q)), pst m q 0), (some (qI (P q)), pst m q 0), (some (qI (P q)), pst m q 0), (some (qI (P q)), pst m q 0), (some (qI (P q)), pst m q 0), (some (qI (z.1 x)), pst m z.2 0)]) ⟨b0, hh, w0, hh, w1, hh, w2, hh, c1, hh, c2, j2, nx⟩
/-- pieces, as a call -/
theorem LPP_c {E : mEnv} {m : mG} {X Y : AV} {d : Nat} (L : LPP E m X Y d) {v q : Nat} {x : Int32} (hv : 4 ≤ v) (hl : 4 + 4 * (lA Y - q) ≤ v) (hq : q ≤ lA Y) (hf : 5 * (lA Y - q) + 4 ≤ d) : ∃ r g, RS m (40 + d) (prA X Y d 1 q) x r g ∧ mSd E (mM_pieces (v + 3)) [qR 0 0, qI x] (pst m q 0) (some (qI r)) g := by
  obtain ⟨r, g, i1, i2⟩ := L v q x hv hl hq hf
  refine ⟨r, g, i1, ?_⟩
  refine qm_meth (mOk E) (by decide) rfl rfl (Nat.le_of_ble_eq_true rfl) ?_
  intro p e st mm args below meth cc Q C _ _
  exact qm_step (sM_pieces E v hv) C 0 2 100 ([], [], []) (i2 x p e st mm args below meth cc Q C)
set_option maxHeartbeats 4000000 in
theorem LPA_s {E : mEnv} {m : mG} {X Y : AV} (h : pOk m X Y) {d : Nat} (hd : d ≤ 200) (L : LPP E m X Y d) (A : LPA E m X Y d) : LPA E m X Y (d + 1) := by
  intro v q x acc hv hl hq hf
  obtain ⟨l1, l2, l3, l4⟩ := pOk_len h
  have hh := xM_here E h q (by omega) 0
  have b0 : (pst m q 0).1 4 = 0 := pst_4 _ _ _
  by_cases c0 : bA Y q = 124
  · simp only [if_pos c0]
    have hqn : q < lA Y := by
      rcases Nat.lt_or_ge q (lA Y) with w | w
      · exact w
      · rw [bA_out w] at c0; exact absurd c0 (by decide)
    unfold prA
    rw [pr_0]
    have e1 := pst_pp m q 0
    obtain ⟨r1, g1, j1, j2⟩ := LPP_c L (v := v) (q := q + 1) (x := x) hv (by omega) (by omega) (by omega)
    unfold prA at j1
    have j2' : mSd E (mM_pieces (v + 3)) [qR 0 0, qI x] (va_up (pst m q 0).1 3 ((pst m q 0).1 3 + 1), (pst m q 0).2) (some (qI r1)) g1 := by rw [e1]; exact j2
    cases hp1 : pr (bA Y) (aTt X) (lA X) (lA Y) d 1 (q + 1) with
    | none =>
      rw [hp1] at j1
      obtain ⟨q2, q3, rfl⟩ := j1
      refine ⟨acc ||| r1, pst m q2 1, ⟨q2, by omega, rfl⟩, ?_⟩
      intro p e st mm args below meth c Q C
      have b1 : ¬ (pst m q2 1).1 4 = 0 := by rw [pst_4]; decide
      exact qm_step (sM_alternatives E v hv) C 6 9999 100 ([0, 0, 1], [], [(some (qI (bA Y q)), pst m q 0), (some (qI r1), pst m q2 1)]) ⟨b0, hh, c0, j2', b1, rfl, rfl⟩
    | some z =>
      rw [hp1] at j1
      obtain ⟨rfl, rfl⟩ := j1
      have hz := pr_pos (fun k hk => bA_out hk) d 1 (q + 1) z hp1 (by omega)
      obtain ⟨r, g, i1, i2⟩ := A v z.2 x (acc ||| z.1 x) hv (by omega) (by omega) (by omega)
      refine ⟨r, g, ?_, ?_⟩
      · dsimp only
        by_cases c1 : bA Y z.2 = 124
        · rw [if_pos c1] at i1 ⊢
          unfold prA at i1
          cases hp : pr (bA Y) (aTt X) (lA X) (lA Y) d 0 (z.2 + 1) with
          | none => rw [hp] at i1; exact RS_le (by omega) i1
          | some y =>
            rw [hp] at i1
            refine ⟨?_, i1.2⟩
            show r = acc ||| (z.1 x ||| y.1 x)
            rw [← or_a]
            exact i1.1
        · rw [if_neg c1] at i1 ⊢
          exact i1
      · intro p e st mm args below meth c Q C
        have nx := i2 p e st mm args below meth c Q C
        exact qm_step (sM_alternatives E v hv) C 6 6 100 ([0, 0], [], [(some (qI (bA Y q)), pst m q 0), (some (qI (z.1 x)), pst m z.2 0)]) ⟨b0, hh, c0, j2', nx⟩
  · simp only [if_neg c0]
    refine ⟨acc, pst m q 0, ⟨rfl, rfl⟩, ?_⟩
    intro p e st mm args below meth c Q C
    exact qm_step (sM_alternatives E v hv) C 6 9999 100 ([0, 1], [], [(some (qI (bA Y q)), pst m q 0)]) ⟨b0, hh, c0, rfl, rfl⟩
/-- with no fuel there is no stroke -/
theorem LPA_0 {E : mEnv} {m : mG} {X Y : AV} (h : pOk m X Y) : LPA E m X Y 0 := by
  intro v q x acc hv hl hq hf
  obtain ⟨l1, l2, l3, l4⟩ := pOk_len h
  have hh := xM_here E h q (by omega) 0
  have b0 : (pst m q 0).1 4 = 0 := pst_4 _ _ _
  have c0 : ¬ bA Y q = 124 := by rw [bA_out (by omega)]; decide
  simp only [if_neg c0]
  refine ⟨acc, pst m q 0, ⟨rfl, rfl⟩, ?_⟩
  intro p e st mm args below meth c Q C
  exact qm_step (sM_alternatives E v hv) C 6 9999 100 ([0, 1], [], [(some (qI (bA Y q)), pst m q 0)]) ⟨b0, hh, c0, rfl, rfl⟩
set_option maxHeartbeats 4000000 in
theorem ALT_s {E : mEnv} {m : mG} {X Y : AV} (h : pOk m X Y) {d : Nat} (hd : d ≤ 200) (L : LPP E m X Y d) (A : LPA E m X Y d) : ALT E m X Y (d + 1) := by
  intro v q x hv hl hq hf
  obtain ⟨l1, l2, l3, l4⟩ := pOk_len h
  unfold prA
  rw [pr_0]
  obtain ⟨r1, g1, j1, j2⟩ := LPP_c L (v := v) (q := q) (x := x) hv hl hq (by omega)
  unfold prA at j1
  cases hp1 : pr (bA Y) (aTt X) (lA X) (lA Y) d 1 q with
  | none =>
    rw [hp1] at j1
    obtain ⟨q2, q3, rfl⟩ := j1
    refine ⟨r1, pst m q2 1, ⟨q2, by omega, rfl⟩, ?_⟩
    refine qm_meth (mOk E) (by decide) rfl rfl (Nat.le_of_ble_eq_true rfl) ?_
    intro p e st mm args below meth c Q C _ _
    have b1 : ¬ (pst m q2 1).1 4 = 0 := by rw [pst_4]; decide
    exact qm_step (sM_alternatives E v hv) C 0 9999 100 ([1], [], [(some (qI r1), pst m q2 1)]) ⟨j2, b1, rfl, rfl⟩
  | some z =>
    rw [hp1] at j1
    obtain ⟨rfl, rfl⟩ := j1
    have hz := pr_pos (fun k hk => bA_out hk) d 1 q z hp1 (by omega)
    obtain ⟨r, g, i1, i2⟩ := A v z.2 x (z.1 x) hv (by omega) (by omega) (by omega)
    refine ⟨r, g, ?_, ?_⟩
    · dsimp only
      by_cases c1 : bA Y z.2 = 124
      · rw [if_pos c1] at i1 ⊢
        unfold prA at i1
        cases hp : pr (bA Y) (aTt X) (lA X) (lA Y) d 0 (z.2 + 1) with
        | none => rw [hp] at i1; exact RS_le (by omega) i1
        | some y => rw [hp] at i1; exact i1
      · rw [if_neg c1] at i1 ⊢
        exact i1
    · refine qm_meth (mOk E) (by decide) rfl rfl (Nat.le_of_ble_eq_true rfl) ?_
      intro p e st mm args below meth c Q C _ _
      exact qm_step (sM_alternatives E v hv) C 0 6 100 ([], [], [(some (qI (z.1 x)), pst m z.2 0)]) ⟨j2, i2 p e st mm args below meth c Q C⟩
theorem pat_all {E : mEnv} {m : mG} {X Y : AV} (h : pOk m X Y) : ∀ d, d ≤ 200 → ATM E m X Y d ∧ PCE E m X Y d ∧ LPP E m X Y d ∧ LPA E m X Y d ∧ ALT E m X Y d := by
  intro d
  induction d with
  | zero =>
    intro _
    refine ⟨?_, ?_, ?_, LPA_0 h, ?_⟩
    · intro v q x _ _ _ hf; omega
    · intro v q x _ _ _ hf; omega
    · intro v q x _ _ _ hf; omega
    · intro v q x _ _ _ hf; omega
  | succ d ih =>
    intro hd
    obtain ⟨i1, i2, i3, i4, i5⟩ := ih (by omega)
    exact ⟨ATM_s h (by omega) i5, PCE_s h (by omega) i1, LPP_s h (by omega) i2 i3, LPA_s h (by omega) i3 i4, ALT_s h (by omega) i3 i4⟩
theorem pst_fr (m : mG) (q : Nat) (bd : Int32) (e : Nat) : mFr e m (pst m q bd) := ⟨fun a ha => pst_n m q bd (by omega) (by omega), fun _ _ _ => rfl, fun _ _ _ => rfl, fun _ _ _ => rfl⟩
set_option maxHeartbeats 4000000 in
theorem xM_goes (E : mEnv) (m : mG) (x a b : Int32) (hx : vp_in x 90) (ha : vp_in a 90) (hb : vp_in b 90) (h0 : mk m (J x) = 0) (h3 : mk m (J a) = 3) (k3 : mk m (J b) = 3) (g : mGd m (J a)) (gb : mGd m (J b)) (tb : mtg m (J b) = 0) : mDo E mM_goes [qR 0 0, qI x, qI a, qI b] m (J x) (aTr (aGo (mVA m (J a)) (mVA m (J b)))) := by
  obtain ⟨M, hM⟩ : ∃ M : mG, M = (va_up (va_up m.1 2 b) 5 a, m.2) := ⟨_, rfl⟩
  have M5 : M.1 5 = a := by rw [hM]; show va_up (va_up m.1 2 b) 5 a 5 = a; rw [va_up_self]
  have M2 : M.1 2 = b := by rw [hM]; show va_up (va_up m.1 2 b) 5 a 2 = b; rw [va_up_ne _ _ (by decide), va_up_self]
  have MM : M.2 = m.2 := by rw [hM]
  have frM : mFr (J x) m M := by
    refine ⟨fun k hk => ?_, fun _ _ _ => by rw [MM], fun _ _ _ => by rw [MM], fun _ _ _ => by rw [MM]⟩
    rw [hM]
    show va_up (va_up m.1 2 b) 5 a k = _
    rw [va_up_ne _ _ (by omega), va_up_ne _ _ (by omega)]
  have vM : ∀ j, mVA M j = mVA m j := fun j => by rw [hM]; rfl
  have gM : ∀ j, mGd m j → mGd M j := fun j hj => by
    unfold mGd
    rw [vM]
    rw [show mk M j = mk m j by show M.2.1 4 j = _; rw [MM], show mn M j = mn m j by show M.2.2.2 1 j = _; rw [MM], show mtg M j = mtg m j by show M.2.1 5 j = _; rw [MM]]
    exact hj
  have kM : ∀ j, mk M j = mk m j := fun j => by show M.2.1 4 j = _; rw [MM]
  have hOk : pOk M (mVA m (J a)) (mVA m (J b)) := ⟨a, b, M5, M2, ha, hb, (kM _).trans h3, (kM _).trans k3, gM _ g, gM _ gb, vM _, vM _⟩
  obtain ⟨l1, l2, l3, l4⟩ := pOk_len hOk
  have eStart : (va_up (va_up (va_up (va_up m.1 2 b) 5 a) 3 0) 4 0, m.2) = pst M 0 0 := by
    unfold pst
    rw [hM]
    rfl
  have hL := (xM_over E hOk 0 0).2.1
  rw [pst_n _ _ _ (by decide) (by decide), M5] at hL
  have hL' : mSd E mM_length [qR 0 0, qI a] (va_up (va_up (va_up (va_up m.1 2 b) 5 a) 3 0) 4 0, m.2) (some (qI (nI (lA (mVA m (J a)))))) (pst M 0 0) := by rw [eStart]; exact hL
  obtain ⟨r, g', i1, i2⟩ := (pat_all (E := E) hOk 130 (by omega)).2.2.2.2 104 0 ((1 <<< ((nI (lA (mVA m (J a))) + 1) &&& 31)) - 1) (by omega) (by omega) (by omega) (by omega)
  have eAns : aGo (mVA m (J a)) (mVA m (J b)) = goV (bA (mVA m (J b))) (aTt (mVA m (J a))) (lA (mVA m (J a))) (lA (mVA m (J b))) := by
    unfold aGo
    rw [mVA_k, mVA_k, (mVA_tx k3 gb).2.2.1, if_pos ⟨h3, k3, tb⟩]
  rw [eAns]
  unfold goV
  unfold prA at i1
  cases hp : pr (bA (mVA m (J b))) (aTt (mVA m (J a))) (lA (mVA m (J a))) (lA (mVA m (J b))) 130 0 0 with
  | none =>
    rw [hp] at i1
    obtain ⟨q2, q3, rfl⟩ := i1
    have fr : mFr (J x) m (pst M q2 1) := mFr_tr frM (pst_fr _ _ _ _)
    refine ⟨pst M q2 1, ?_, fr, mIs_0 ((kM _).trans h0)⟩
    refine qm_meth (mOk E) (by decide) rfl rfl (Nat.le_of_ble_eq_true rfl) ?_
    intro p e st mm args below meth cc Q C _ _
    have b1 : ¬ (pst M q2 1).1 4 = 0 := by rw [pst_4]; decide
    exact qm_step (sM_goes E) C 0 9999 100 ([1], [], [(some (qI (nI (lA (mVA m (J a))))), pst M 0 0), (some (qI r), pst M q2 1)]) ⟨Or.inl rfl, hL', i2, b1, rfl, rfl⟩
  | some z =>
    rw [hp] at i1
    obtain ⟨rfl, rfl⟩ := i1
    have hz := pr_pos (fun k hk => bA_out hk) 130 0 0 z hp (by omega)
    have fr : mFr (J x) m (pst M z.2 0) := mFr_tr frM (pst_fr _ _ _ _)
    have b0 : (pst M z.2 0).1 4 = 0 := pst_4 _ _ _
    have hLb : mSd E mM_length [qR 0 0, qI b] (pst M z.2 0) (some (qI (nI (lA (mVA m (J b)))))) (pst M z.2 0) := by
      have := xM_lengthT E (pst M z.2 0) b hb ((kM _).trans k3) (gM _ gb)
      rw [show mVA (pst M z.2 0) (J b) = mVA m (J b) from vM _] at this
      exact this
    dsimp only
    by_cases c1 : z.2 = lA (mVA m (J b))
    · rw [if_pos c1]
      have c1' : (pst M z.2 0).1 3 = nI (lA (mVA m (J b))) := by rw [pst_3, c1]
      have e32 : ((1 : Int32) <<< (nI (lA (mVA m (J a)) + 1) &&& 31)) - 1 = ((1 : Int32) <<< ((nI (lA (mVA m (J a))) + 1) &&& 31)) - 1 := by rw [nI_1]
      rw [e32]
      by_cases c2 : z.1 (((1 : Int32) <<< ((nI (lA (mVA m (J a))) + 1) &&& 31)) - 1) = 0
      · rw [if_pos c2]
        refine ⟨setS (pst M z.2 0) (J x) 1 0, ?_, mFr_tr fr (mFr_set _ _ _ _), mIs_set _ _ _ (by decide) (by decide)⟩
        refine qm_meth (mOk E) (by decide) rfl rfl (Nat.le_of_ble_eq_true rfl) ?_
        intro p e st mm args below meth cc Q C _ _
        exact qm_step (sM_goes E) C 0 9999 100 ([0, 0, 1], [], [(some (qI (nI (lA (mVA m (J a))))), pst M 0 0), (some (qI (z.1 ((1 <<< ((nI (lA (mVA m (J a))) + 1) &&& 31)) - 1))), pst M z.2 0), (some (qI (nI (lA (mVA m (J b))))), pst M z.2 0), (none, setS (pst M z.2 0) (J x) 1 0)]) ⟨Or.inl rfl, hL', i2, b0, hLb, c1', c2, xM_set E _ x 1 0 hx, rfl, rfl⟩
      · rw [if_neg c2]
        refine ⟨setS (pst M z.2 0) (J x) 1 1, ?_, mFr_tr fr (mFr_set _ _ _ _), mIs_set _ _ _ (by decide) (by decide)⟩
        refine qm_meth (mOk E) (by decide) rfl rfl (Nat.le_of_ble_eq_true rfl) ?_
        intro p e st mm args below meth cc Q C _ _
        exact qm_step (sM_goes E) C 0 9999 100 ([0, 0, 0], [], [(some (qI (nI (lA (mVA m (J a))))), pst M 0 0), (some (qI (z.1 ((1 <<< ((nI (lA (mVA m (J a))) + 1) &&& 31)) - 1))), pst M z.2 0), (some (qI (nI (lA (mVA m (J b))))), pst M z.2 0), (none, setS (pst M z.2 0) (J x) 1 1)]) ⟨Or.inl rfl, hL', i2, b0, hLb, c1', c2, xM_set E _ x 1 1 hx, rfl, rfl⟩
    · rw [if_neg c1]
      have c1' : ¬ (pst M z.2 0).1 3 = nI (lA (mVA m (J b))) := by
        rw [pst_3]
        intro w
        exact c1 ((nI_eq (by omega) (by omega)).mp w)
      refine ⟨pst M z.2 0, ?_, fr, mIs_0 ((kM _).trans h0)⟩
      refine qm_meth (mOk E) (by decide) rfl rfl (Nat.le_of_ble_eq_true rfl) ?_
      intro p e st mm args below meth cc Q C _ _
      exact qm_step (sM_goes E) C 0 9999 100 ([0, 1], [], [(some (qI (nI (lA (mVA m (J a))))), pst M 0 0), (some (qI (z.1 ((1 <<< ((nI (lA (mVA m (J a))) + 1) &&& 31)) - 1))), pst M z.2 0), (some (qI (nI (lA (mVA m (J b))))), pst M z.2 0)]) ⟨Or.inl rfl, hL', i2, b0, hLb, c1', rfl, rfl⟩
