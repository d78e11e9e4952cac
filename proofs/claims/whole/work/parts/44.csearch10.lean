/-! Search: goes -/
def rnA (P : Nat → Int32) (T : Int32 → Int32 → Int32) (tl m : Nat) : Nat → aS → Option aS
  | 0, s => some s
  | r + 1, s => if s.2.2.2.2.2.2 < m then (match stp P T tl m s with | none => none | some s' => rnA P T tl m r s') else some s
theorem rnA_s (P : Nat → Int32) (T : Int32 → Int32 → Int32) (tl m r : Nat) (s : aS) : rnA P T tl m (r + 1) s = if s.2.2.2.2.2.2 < m then (match stp P T tl m s with | none => none | some s' => rnA P T tl m r s') else some s := rfl
def glA (i tl j m : Nat) : Nat → cG → aS → cG × Option aS
  | 0, g, s => (g, some s)
  | r + 1, g, s => if s.2.2.2.2.2.2 < m then (match stp (riP g j m) (riT g i tl) tl m s with | none => ((reF g i tl j m s.1 s.2.1.length s.2.2.1.length s.2.2.2.2.2.2).2, none) | some s' => glA i tl j m r (reF g i tl j m s.1 s.2.1.length s.2.2.1.length s.2.2.2.2.2.2).2 s') else (g, some s)
theorem glA_s (i tl j m r : Nat) (g : cG) (s : aS) : glA i tl j m (r + 1) g s = if s.2.2.2.2.2.2 < m then (match stp (riP g j m) (riT g i tl) tl m s with | none => ((reF g i tl j m s.1 s.2.1.length s.2.2.1.length s.2.2.2.2.2.2).2, none) | some s' => glA i tl j m r (reF g i tl j m s.1 s.2.1.length s.2.2.1.length s.2.2.2.2.2.2).2 s') else (g, some s) := rfl
theorem riP_fr {g h : cG} (f : aFr g h) (j m : Nat) : riP h j m = riP g j m := by unfold riP atV; rw [f.2.1]
theorem riT_fr {g h : cG} (f : aFr g h) (i tl : Nat) : riT h i tl = riT g i tl := by unfold riT; rw [f.2.1]
theorem riP_0 (g : cG) (j m : Nat) : ∀ k, m ≤ k → riP g j m k = 0 := fun k hk => if_neg (by omega)
theorem glA_ok {i tl j m : Nat} (hm : m ≤ 24) (htl : tl ≤ 24) : ∀ (r : Nat) (g : cG) (s : aS), aRp g s → aBd m s → aFr g (glA i tl j m r g s).1 ∧ (glA i tl j m r g s).2 = rnA (riP g j m) (riT g i tl) tl m r s ∧ ∀ s', (glA i tl j m r g s).2 = some s' → aRp (glA i tl j m r g s).1 s' ∧ aBd m s'
  | 0, g, s, h, hb => ⟨aFr_rfl g, rfl, fun s' e => by injection e with e; subst e; exact ⟨h, hb⟩⟩
  | r + 1, g, s, h, hb => by
    rw [glA_s, rnA_s]
    by_cases hq : s.2.2.2.2.2.2 < m
    · rw [if_pos hq, if_pos hq]
      have ok := reF_ok (i := i) (j := j) h hb hq hm htl
      cases hs : stp (riP g j m) (riT g i tl) tl m s with
      | none =>
        rw [hs] at ok
        exact ⟨ok.1, rfl, fun s' e => by cases e⟩
      | some s' =>
        rw [hs] at ok
        obtain ⟨o1, o2, o3⟩ := ok
        obtain ⟨b1, b2⟩ := stp_bd (riP_0 g j m) (riT_fit g i tl htl) hb hq hs
        obtain ⟨i1, i2, i3⟩ := glA_ok (i := i) (j := j) hm htl r _ s' o3 b1
        rw [riP_fr o1, riT_fr o1] at i2
        exact ⟨aFr_tr o1 i1, i2, i3⟩
    · rw [if_neg hq, if_neg hq]
      exact ⟨aFr_rfl g, rfl, fun s' e => by injection e with e; subst e; exact ⟨h, hb⟩⟩
def aS0 : aS := (2, [], [], 0, 1, 0, 0)
theorem bgS_rp (g : cG) : aRp (bgS g) aS0 ∧ aFr g (bgS g) := by
  have f0 : aFr g (bgA g) := aFr_tr (aFr_tr (aFr_tr (aFr_uN _ _ _) (aFr_uN _ _ _)) (aFr_uN _ _ _)) (aFr_uN _ _ _)
  have f1 : aFr g (bgB g) := aFr_tr (aFr_tr f0 (aFr_ns _ _)) (aFr_uN _ _ _)
  have f2 : aFr g (bgC g) := aFr_tr (aFr_tr f1 (aFr_ns _ _)) (aFr_uN _ _ _)
  refine ⟨⟨?_, ?_, ?_, ?_, ?_, ?_, ?_, ?_, ?_, ?_⟩, aFr_tr f2 (aFr_uN _ _ _)⟩
  · unfold bgS bgC; rw [uN_ne _ _ (by decide), uN_ne _ _ (by decide), nsS_s]; rfl
  · unfold bgS bgC bgB bgA; rw [uN_ne _ _ (by decide), uN_ne _ _ (by decide), nsS_N _ _ _ (by decide), uN_ne _ _ (by decide), nsS_N _ _ _ (by decide), uN_ne _ _ (by decide), uN_ne _ _ (by decide), uN_at]; rfl
  · unfold bgS bgC bgB bgA; rw [uN_ne _ _ (by decide), uN_ne _ _ (by decide), nsS_N _ _ _ (by decide), uN_ne _ _ (by decide), nsS_N _ _ _ (by decide), uN_ne _ _ (by decide), uN_at]; rfl
  · unfold bgS bgC bgB; rw [uN_ne _ _ (by decide), uN_ne _ _ (by decide), nsS_N _ _ _ (by decide), uN_at]; rfl
  · unfold bgS bgC; rw [uN_ne _ _ (by decide), uN_at]; rfl
  · unfold bgS; rw [uN_at]; rfl
  · unfold bgS bgC bgB bgA; rw [uN_ne _ _ (by decide), uN_ne _ _ (by decide), nsS_N _ _ _ (by decide), uN_ne _ _ (by decide), nsS_N _ _ _ (by decide), uN_at]; rfl
  · intro k hk
    have hk2 : k < 2 := hk
    unfold bgS bgC bgB
    rw [uN_A, uN_A]
    unfold nsS
    rw [uN_A, uA_at, uN_A, uN_A, uA_at, show nsK 1 = 1 from rfl, show nsK 0 = 0 from rfl]
    by_cases h1 : k = 1
    · subst h1; exact upd_at _ _ _
    · rw [upd_ne2 _ _ h1]
      have h0 : k = 0 := by omega
      subst h0
      exact upd_at _ _ _
  · intro k e he
    have : ([] : List aW)[k]? = some e := he
    rw [List.getElem?_nil] at this
    cases this
  · intro k e he
    have : ([] : List (Nat × Nat))[k]? = some e := he
    rw [List.getElem?_nil] at this
    cases this
theorem aS0_bd (m : Nat) : aBd m aS0 := by
  refine ⟨?_, ?_, ?_, ?_, ?_, ?_, ?_, ?_, ?_, ?_⟩
  · exact Nat.le_refl 2
  · exact Nat.le_refl 2
  · exact Nat.le_refl 0
  · exact Nat.le_refl 0
  · exact Nat.zero_le m
  · exact Nat.zero_lt_two
  · exact Nat.one_lt_two
  · exact Nat.zero_lt_two
  · intro e he; cases he
  · intro e he; cases he
def wFr (W : List aW) (k : Nat) : Nat := (W[k]?.getD (0, 0, 0, 0)).1
def wTo (W : List aW) (k : Nat) : Nat := (W[k]?.getD (0, 0, 0, 0)).2.1
/-- the last way, and the spreading -/
def glB (g : cG) (s : aS) (tl : Nat) : cG := sdS (cnS g s.2.1.length (nI s.2.2.2.2.2.1) (nI s.2.2.2.2.1) (-1) (nI 0)) (wFr (s.2.1 ++ [(s.2.2.2.2.2.1, s.2.2.2.2.1, -1, 0)])) (wTo (s.2.1 ++ [(s.2.2.2.2.2.1, s.2.2.2.2.1, -1, 0)])) (s.2.1.length + 1) tl
/-- what goes answers, and leaves, for a TEXT and a plain TEXT -/
def glC (tl : Nat) (z : cG × Option aS) : Int32 × cG := match z.2 with
  | none => (-1, z.1)
  | some s => match s.2.2.1 with
    | [] => (tB (if nA (glB z.1 s tl) 0 1 = 0 then 0 else 1), glB z.1 s tl)
    | _ :: _ => (-1, z.1)
def goA (g : cG) (i j : Nat) : Int32 × cG := if (g.1 i).1 = 3 ∧ (g.1 j).1 = 3 ∧ (g.1 j).2.2.1 = 0 then glC (lnN g i) (glA i (lnN g i) j (lnN g j) (lnN g j) (bgS g) aS0) else (-1, g)
set_option maxHeartbeats 1000000 in
theorem xS_goes {E : cEnv} (hE : cOk E) (g : cG) (i j : Nat) (vi : vOk g i) (vj : vOk g j) : cSd E mS_goes [qR 7 0, qR 1 i, qR 1 j] g (some (qI (goA g i j).1)) (goA g i j).2 := by
  refine qm_meth hE (by decide) rfl rfl (Nat.le_of_ble_eq_true rfl) ?_
  intro p e st mm args below meth c Q C _ _
  unfold goA at C
  by_cases h1 : (g.1 i).1 = 3
  case neg =>
    rw [if_neg (fun h => h1 h.1)] at C
    exact qm_step (sS_goes hE) C 0 9999 100 ([1], [], []) ⟨h1, rfl, rfl⟩
  have hpl := xT_isPlain hE g j
  by_cases h2 : (g.1 j).1 = 3 ∧ (g.1 j).2.2.1 = 0
  case neg =>
    rw [if_neg (fun h => h2 h.2)] at C
    rw [if_neg h2] at hpl
    exact qm_step (sS_goes hE) C 0 9999 100 ([0, 0], [], [(_, g)]) ⟨h1, hpl, rfl, rfl, rfl⟩
  rw [if_pos ⟨h1, h2⟩] at C
  rw [if_pos h2] at hpl
  obtain ⟨l1, l2⟩ := vOk_lnN vi h1
  obtain ⟨m1, m2⟩ := vOk_lnN vj h2.1
  generalize lnN g i = tl at l1 l2 C
  generalize lnN g j = m at m1 m2 C
  obtain ⟨b1, b2⟩ := bgS_rp g
  generalize hz : glA i tl j m m (bgS g) aS0 = z at C
  -- behind the loop
  have bad : ∀ (w3 : Int32) (w4 : Option qm_v), z.2 = none → w3 = 0 → qm_W (cLa E.2.2.2.1) cV (cHold E) (cA E.2.2.2.1) 5 p E.1 e (rmL 5) st mm args below meth c Q 63 ([some (qR 7 0), some (qR 1 i), some (qR 1 j), some (qI w3), w4], [], z.1) := by
    intro w3 w4 h3 h4
    subst h4
    unfold glC at C
    rw [h3] at C
    exact qm_step (sS_goes hE) C 63 9999 100 ([1], [], []) ⟨rfl, rfl, rfl⟩
  have good : ∀ (s : aS) (w4 : Option qm_v), z.2 = some s → aRp z.1 s → aBd m s → aFr g z.1 → qm_W (cLa E.2.2.2.1) cV (cHold E) (cA E.2.2.2.1) 5 p E.1 e (rmL 5) st mm args below meth c Q 63 ([some (qR 7 0), some (qR 1 i), some (qR 1 j), some (qI 1), w4], [], z.1) := by
    intro s w4 h3 rp bd fr
    unfold glC at C
    rw [h3] at C
    dsimp only at C
    obtain ⟨n, W, stk, f, l, cu, q⟩ := s
    obtain ⟨a0, a1, a2, a3, a4, a5, a6, a7, a8, a9⟩ := bd
    have rp2 := rp
    obtain ⟨r0, r1, r2, r3, r4, r5, r6, r7, r8, r9⟩ := rp
    dsimp only at a0 a1 a2 a3 a4 a5 a6 a7 a8 a9 r0 r1 r2 r3 r4 r5 r6 r7 r8 r9 C
    cases stk with
    | cons x stk =>
      have hc : ¬ nN z.1 2 ≤ 0 := by rw [r2, List.length_cons]; exact nI_nle (by omega) (by rw [List.length_cons] at a3; omega)
      exact qm_step (sS_goes hE) C 63 9999 100 ([0, 0], [], []) ⟨(by decide : ¬ (1 : Int32) = 0), hc, rfl, rfl⟩
    | nil =>
      have hc : nN z.1 2 ≤ 0 := by rw [r2]; decide
      have c1 := xS_connect hE z.1 W.length (nN z.1 5) (nN z.1 4) (-1) 0 (by omega) r1
      have rp3 := aRp_cn rp2 (by omega) cu l 0 (-1)
      have e1 : cnS z.1 W.length (nN z.1 5) (nN z.1 4) (-1) 0 = cnS z.1 W.length (nI cu) (nI l) (-1) (nI 0) := by rw [r5, r4]; rfl
      rw [e1] at c1
      have hWl : (W ++ [((cu, l, -1, 0) : aW)]).length = W.length + 1 := by rw [List.length_append, List.length_singleton]
      have c2 := xS_spread hE (cnS z.1 W.length (nI cu) (nI l) (-1) (nI 0)) (wFr (W ++ [(cu, l, -1, 0)])) (wTo (W ++ [(cu, l, -1, 0)])) (W.length + 1) i tl (by omega) (by rw [← hWl]; exact rp3.2.1) (by
        intro k hk
        obtain ⟨ee, he⟩ : ∃ ee, (W ++ [((cu, l, -1, 0) : aW)])[k]? = some ee := ⟨_, List.getElem?_eq_getElem (by omega)⟩
        obtain ⟨x1, x2, -, -⟩ := rp3.2.2.2.2.2.2.2.2.1 k ee he
        have hm2 : ee ∈ W ++ [((cu, l, -1, 0) : aW)] := List.mem_of_getElem? he
        have hok : ee.1 < n ∧ ee.2.1 < n := by
          rcases List.mem_append.mp hm2 with q | q
          · exact ⟨(a8 ee q).1, (a8 ee q).2.1⟩
          · rw [List.mem_singleton] at q; subst q; exact ⟨a7, a6⟩
        unfold wFr wTo
        rw [he]
        exact ⟨x1, by show ee.1 < 64; omega, x2, by show ee.2.1 < 64; omega⟩) (by
          have := (aFr_cn z.1 W.length (nI cu) (nI l) (-1) (nI 0)).1
          rw [this, fr.1]
          exact l2)
      have hin : vp_in (1 : Int32) 64 := vp_in_nI (n := 1) (by decide) (by decide)
      have eB : sdS (cnS z.1 W.length (nI cu) (nI l) (-1) (nI 0)) (wFr (W ++ [(cu, l, -1, 0)])) (wTo (W ++ [(cu, l, -1, 0)])) (W.length + 1) tl = glB z.1 (n, W, [], f, l, cu, q) tl := rfl
      rw [eB] at c2
      generalize glB z.1 (n, W, [], f, l, cu, q) tl = y at c2 C
      by_cases h0 : nA y 0 1 = 0
      · rw [if_pos h0] at C
        exact qm_step (sS_goes hE) C 63 9999 100 ([0, 1, 1], [], [(none, cnS z.1 W.length (nI cu) (nI l) (-1) (nI 0)), (none, y), (some (qI (tB 0)), y)]) ⟨(by decide : ¬ (1 : Int32) = 0), hc, c1, c2, hin, h0, xU_truth hE y 0, rfl, rfl⟩
      · rw [if_neg h0] at C
        exact qm_step (sS_goes hE) C 63 9999 100 ([0, 1, 0], [], [(none, cnS z.1 W.length (nI cu) (nI l) (-1) (nI 0)), (none, y), (some (qI (tB 1)), y)]) ⟨(by decide : ¬ (1 : Int32) = 0), hc, c1, c2, hin, h0, xU_truth hE y 1, rfl, rfl⟩
  have loop : ∀ (r y : Nat) (h : cG) (s : aS), y + r = m → z = glA i tl j m r h s → aRp h s → aBd m s → aFr g h → qm_W (cLa E.2.2.2.1) cV (cHold E) (cA E.2.2.2.1) 5 p E.1 e (rmL 5) st mm args below meth c Q 26 ([some (qR 7 0), some (qR 1 i), some (qR 1 j), some (qI 1), some (qI (nI y))], [], h) := by
    intro r
    induction r with
    | zero =>
      intro y h s hy hz2 rp bd fr
      have hc : (h.1 j).2.2.2 ≤ nI y := by rw [fr.1, m2]; exact nI_le (by omega) (by omega)
      subst hz2
      exact qm_step (sS_goes hE) C 26 63 100 ([1], [], []) ⟨hc, good s _ rfl rp bd fr⟩
    | succ r ih =>
      intro y h s hy hz2 rp bd fr
      have hc : ¬ (h.1 j).2.2.2 ≤ nI y := by rw [fr.1, m2]; exact nI_ge (by omega) (by omega)
      have r6 : nN h 6 = nI s.2.2.2.2.2.2 := rp.2.2.2.2.2.2.1
      have bd2 := bd
      obtain ⟨a0, a1, a2, a3, a4, -⟩ := bd2
      rw [glA_s] at hz2
      by_cases hq : s.2.2.2.2.2.2 < m
      · rw [if_pos hq] at hz2
        have hc2 : ¬ (h.1 j).2.2.2 ≤ nN h 6 := by rw [fr.1, m2, r6]; exact nI_ge hq (by omega)
        have rd := xS_read hE h i tl j m s.1 s.2.1.length s.2.2.1.length s.2.2.2.2.2.2 l1 m1 (by omega) (by omega) (by omega) (by omega) (by rw [fr.1]; exact l2) (by rw [fr.1]; exact m2) rp.1 rp.2.1 rp.2.2.1 r6
        have ok := reF_ok (i := i) (j := j) rp bd hq m1 l1
        have bdn := fun s' => stp_bd (s' := s') (tl := tl) (riP_0 h j m) (riT_fit h i tl l1) bd hq
        cases hs : stp (riP h j m) (riT h i tl) tl m s with
        | none =>
          rw [hs] at hz2 ok
          dsimp only at hz2
          rw [ok.2] at rd
          rw [show (reF h i tl j m s.1 s.2.1.length s.2.2.1.length s.2.2.2.2.2.2).2 = z.1 by rw [hz2]] at rd
          have fin0 := bad 0 (some (qI (nI y + 1))) (by rw [hz2]) rfl
          have fin : qm_W (cLa E.2.2.2.1) cV (cHold E) (cA E.2.2.2.1) 5 p E.1 e (rmL 5) st mm args below meth c Q 26 ([some (qR 7 0), some (qR 1 i), some (qR 1 j), some (qI 0), some (qI (nI y + 1))], [], z.1) := by
            by_cases hcc : (z.1.1 j).2.2.2 ≤ nI y + 1
            · exact qm_step (sS_goes hE) C 26 63 100 ([1], [], []) ⟨hcc, fin0⟩
            · exact qm_step (sS_goes hE) C 26 63 100 ([0, 1], [], []) ⟨hcc, rfl, fin0⟩
          exact qm_step (sS_goes hE) C 26 26 100 ([0, 0, 0], [], [(some (qI 0), z.1)]) ⟨hc, (by decide : ¬ (1 : Int32) = 0), hc2, rd, fin⟩
        | some s' =>
          rw [hs] at hz2 ok
          dsimp only at hz2
          obtain ⟨o1, o2, o3⟩ := ok
          rw [o2] at rd
          have fin := ih (y + 1) _ s' (by omega) hz2 o3 (bdn s' hs).1 (aFr_tr fr o1)
          rw [← nI_1 y] at fin
          exact qm_step (sS_goes hE) C 26 26 100 ([0, 0, 0], [], [(some (qI 1), _)]) ⟨hc, (by decide : ¬ (1 : Int32) = 0), hc2, rd, fin⟩
      · rw [if_neg hq] at hz2
        have hc2 : (h.1 j).2.2.2 ≤ nN h 6 := by rw [fr.1, m2, r6]; exact nI_le (by omega) (by omega)
        subst hz2
        exact qm_step (sS_goes hE) C 26 63 100 ([0, 0, 1], [], []) ⟨hc, (by decide : ¬ (1 : Int32) = 0), hc2, good s _ rfl rp bd fr⟩
  have fin := loop m 0 (bgS g) aS0 (by omega) hz.symm b1 (aS0_bd m) b2
  exact qm_step (sS_goes hE) C 0 26 100 ([0, 1], [], [(_, g), (none, bgS g)]) ⟨h1, hpl, (by decide : ¬ (1 : Int32) = 0), xS_begin hE g, fin⟩
