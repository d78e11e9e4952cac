/-! Search: read does a step -/
theorem atS_rp {g : cG} {s : aS} (h : aRp g s) (hn : s.1 + 2 ≤ 64) (hw : s.2.1.length + 3 ≤ 64) (pl b : Int32) : aRp (atS g s.1 s.2.1.length pl b s.2.2.2.2.2.2) (atT s pl b s.2.2.2.2.2.2) ∧ aFr g (atS g s.1 s.2.1.length pl b s.2.2.2.2.2.2) := by
  obtain ⟨n, W, st, f, l, c, q⟩ := s
  dsimp only at hn hw
  have h5 : nN g 5 = nI c := h.2.2.2.2.2.1
  obtain ⟨k1, r1⟩ := aRp_ns h (by omega)
  have k2 : nsK (n + 1) = n + 1 := by unfold nsK; omega
  have kw : cnK W.length = (W ++ [((c, n, -1, 0) : aW)]).length := by unfold cnK; rw [List.length_append, List.length_singleton]; omega
  have kw2 : cnK (cnK W.length) = (W ++ [((c, n, -1, 0) : aW)] ++ [(n, n + 1, pl, 1)]).length := by
    rw [List.length_append, List.length_append, List.length_singleton, List.length_singleton]; unfold cnK; omega
  have r2 := aRp_cn r1 (by omega) c n 0 (-1)
  obtain ⟨-, r3⟩ := aRp_ns r2 (by omega)
  have r4 := aRp_cn r3 (by rw [← kw]; unfold cnK; omega) n (n + 1) 1 pl
  have r5 := aRp_rp r4 (by rw [← kw2]; unfold cnK; omega) n (n + 1) b
  have e1 : enS g n W.length = cnS (nsS g n) W.length (nI c) (nI n) (-1) (nI 0) := by unfold enS; rw [h5, k1]; rfl
  have e2 : atA g n W.length pl = cnS (nsS (cnS (nsS g n) W.length (nI c) (nI n) (-1) (nI 0)) (n + 1)) (W ++ [((c, n, -1, 0) : aW)]).length (nI n) (nI (n + 1)) pl (nI 1) := by unfold atA; rw [e1, k1, k2, kw]; rfl
  have e3 : atS g n W.length pl b q = rpS (cnS (nsS (cnS (nsS g n) W.length (nI c) (nI n) (-1) (nI 0)) (n + 1)) (W ++ [((c, n, -1, 0) : aW)]).length (nI n) (nI (n + 1)) pl (nI 1)) (W ++ [((c, n, -1, 0) : aW)] ++ [(n, n + 1, pl, 1)]).length (nI n) (nI (n + 1)) b q := by unfold atS; rw [e2, k1, k2, kw2]
  dsimp only
  rw [e3]
  exact ⟨r5, aFr_tr (aFr_tr (aFr_tr (aFr_tr (aFr_ns _ _) (aFr_cn _ _ _ _ _ _)) (aFr_ns _ _)) (aFr_cn _ _ _ _ _ _)) (aFr_rp _ _ _ _ _ _)⟩
theorem atT_q (s : aS) (x : Nat) (pl b : Int32) (q : Nat) : atT (s.1, s.2.1, s.2.2.1, s.2.2.2.1, s.2.2.2.2.1, s.2.2.2.2.2.1, x) pl b q = atT s pl b q := rfl
theorem acS_rp {g : cG} {n : Nat} {W : List aW} {st : List (Nat × Nat)} {f l c q : Nat} (h : aRp g (n, W, st, f, l, c, q)) (hn : n < 64) (hw : W.length < 64) (pl : Int32) : aRp (acS g n W.length pl) (n + 1, W ++ [(c, n, pl, 0)], st, f, l, n, q) ∧ aFr g (acS g n W.length pl) := by
  have h5 : nN g 5 = nI c := h.2.2.2.2.2.1
  obtain ⟨k1, r1⟩ := aRp_ns h (by omega)
  have r2 := aRp_5 (aRp_cn r1 hw c n 0 pl) n
  have e1 : acS g n W.length pl = uN (cnS (nsS g n) W.length (nI c) (nI n) pl (nI 0)) 5 (nI n) := by unfold acS; rw [h5, k1]; rfl
  rw [e1]
  exact ⟨r2, aFr_tr (aFr_tr (aFr_ns _ _) (aFr_cn _ _ _ _ _ _)) (aFr_uN _ _ _)⟩
theorem ogS_rp {g : cG} {n : Nat} {W : List aW} {st : List (Nat × Nat)} {f l c q : Nat} (h : aRp g (n, W, st, f, l, c, q)) (hn : n + 1 < 64) (hw : W.length < 64) : aRp (ogS g st.length n W.length) (n + 2, W ++ [(c, n, -1, 0)], (f, l) :: st, n, n + 1, n, q) ∧ aFr g (ogS g st.length n W.length) := by
  have r0 : aRp (ogA g st.length) (n, W, (f, l) :: st, f, l, c, q) := by
    obtain ⟨a0, a1, a2, a3, a4, a5, a6, a7, a8, a9⟩ := h
    have h3 : nN g 3 = nI f := a3
    have h4 : nN g 4 = nI l := a4
    unfold ogA
    refine ⟨(uN_ne _ _ (by decide)).trans a0, (uN_ne _ _ (by decide)).trans a1, uN_at _ _ _, (uN_ne _ _ (by decide)).trans a3, (uN_ne _ _ (by decide)).trans a4, (uN_ne _ _ (by decide)).trans a5, (uN_ne _ _ (by decide)).trans a6, ?_, ?_, ?_⟩
    · intro k hk
      rw [uN_A, uA_ne _ _ (by decide), uA_ne _ _ (by decide)]
      exact a7 k hk
    · intro k e he
      rw [uN_A, uN_A, uN_A, uN_A, uA_ne _ _ (by decide), uA_ne _ _ (by decide), uA_ne _ _ (by decide), uA_ne _ _ (by decide), uA_ne _ _ (by decide), uA_ne _ _ (by decide), uA_ne _ _ (by decide), uA_ne _ _ (by decide)]
      exact a8 k e he
    · intro k e he
      rw [uN_A, uN_A, uA_ne _ _ (by decide), uA_at, uA_at, h3, h4]
      have he2 : (st.reverse ++ [(f, l)])[k]? = some e := by rw [← List.reverse_cons]; exact he
      rcases get_app he2 with ⟨q1, q2⟩ | ⟨q1, q2⟩
      · rw [List.length_reverse] at q1
        rw [upd_ne2 _ _ (by omega), upd_ne2 _ _ (by omega)]
        exact a9 k e q2
      · rw [List.length_reverse] at q1
        subst q1 q2
        rw [upd_at, upd_at]
        exact ⟨rfl, rfl⟩
  have h5 : nN (ogA g st.length) 5 = nI c := r0.2.2.2.2.2.1
  obtain ⟨k1, r1⟩ := aRp_ns r0 (by omega)
  have r2 := aRp_3 (aRp_cn r1 hw c n 0 (-1)) n
  obtain ⟨k2, r3⟩ := aRp_ns r2 (by omega)
  have r4 := aRp_5 (aRp_4 r3 (n + 1)) n
  have e1 : enS (ogA g st.length) n W.length = cnS (nsS (ogA g st.length) n) W.length (nI c) (nI n) (-1) (nI 0) := by unfold enS; rw [h5, k1]; rfl
  have e2 : ogB g st.length n W.length = uN (cnS (nsS (ogA g st.length) n) W.length (nI c) (nI n) (-1) (nI 0)) 3 (nI n) := by unfold ogB; rw [e1, k1]
  have e3 : ogS g st.length n W.length = uN (uN (nsS (uN (cnS (nsS (ogA g st.length) n) W.length (nI c) (nI n) (-1) (nI 0)) 3 (nI n)) (n + 1)) 4 (nI (n + 1))) 5 (nI n) := by unfold ogS ogC; rw [e2, k1, k2]
  rw [e3]
  exact ⟨r4, aFr_tr (aFr_tr (aFr_tr (aFr_tr (aFr_tr (aFr_tr (show aFr g (ogA g st.length) from ⟨rfl, rfl, rfl, rfl, rfl⟩) (aFr_ns _ _)) (aFr_cn _ _ _ _ _ _)) (aFr_uN _ _ _)) (aFr_ns _ _)) (aFr_uN _ _ _)) (aFr_uN _ _ _)⟩
theorem cgS_rp {g : cG} {n : Nat} {W : List aW} {st : List (Nat × Nat)} {x : Nat × Nat} {f l c q : Nat} (h : aRp g (n, W, x :: st, f, l, c, q)) (hw : W.length + 1 < 64) (b : Int32) : aRp (cgS g st.length W.length b q) (n, W ++ [(c, l, -1, 0)] ++ sgW b f l, st, x.1, x.2, sgC b f l, sgQ b q) ∧ aFr g (cgS g st.length W.length b q) := by
  have h3 : nN g 3 = nI f := h.2.2.2.1
  have h4 : nN g 4 = nI l := h.2.2.2.2.1
  have h5 : nN g 5 = nI c := h.2.2.2.2.2.1
  have r1 := aRp_cn h (by omega) c l 0 (-1)
  have kw : cnK W.length = (W ++ [((c, l, -1, 0) : aW)]).length := by unfold cnK; rw [List.length_append, List.length_singleton]; omega
  have r2 := aRp_rp r1 (by rw [← kw]; unfold cnK; omega) f l b
  have e1 : cgB g W.length b q = rpS (cnS g W.length (nI c) (nI l) (-1) (nI 0)) (W ++ [((c, l, -1, 0) : aW)]).length (nI f) (nI l) b q := by unfold cgB cgA; rw [h3, h4, h5, kw]; rfl
  have top : (x :: st).reverse[st.length]? = some x := by
    rw [List.reverse_cons, List.getElem?_append_right (by rw [List.length_reverse]; exact Nat.le_refl _), List.length_reverse, Nat.sub_self]
    rfl
  obtain ⟨t1, t2⟩ := h.2.2.2.2.2.2.2.2.2 _ _ top
  unfold cgS
  rw [e1, t1, t2]
  generalize rpS (cnS g W.length (nI c) (nI l) (-1) (nI 0)) (W ++ [((c, l, -1, 0) : aW)]).length (nI f) (nI l) b q = z at r2 e1
  have r3 : aRp (uN z 2 (nI st.length)) (n, W ++ [(c, l, -1, 0)] ++ sgW b f l, st, f, l, sgC b f l, sgQ b q) := by
    obtain ⟨a0, a1, a2, a3, a4, a5, a6, a7, a8, a9⟩ := r2
    refine ⟨(uN_ne _ _ (by decide)).trans a0, (uN_ne _ _ (by decide)).trans a1, uN_at _ _ _, (uN_ne _ _ (by decide)).trans a3, (uN_ne _ _ (by decide)).trans a4, (uN_ne _ _ (by decide)).trans a5, (uN_ne _ _ (by decide)).trans a6, a7, a8, ?_⟩
    intro k e he
    have he2 : st.reverse[k]? = some e := he
    have hk : k < st.reverse.length := by
      apply Classical.byContradiction
      intro hc
      rw [List.getElem?_eq_none (by omega)] at he2
      cases he2
    have := a9 k e (by show (x :: st).reverse[k]? = some e; rw [List.reverse_cons, List.getElem?_append_left hk]; exact he2)
    exact this
  refine ⟨aRp_4 (aRp_3 r3 x.1) x.2, ?_⟩
  have fz : aFr g z := by
    rw [← e1]
    exact aFr_tr (aFr_cn _ _ _ _ _ _) (aFr_rp _ _ _ _ _ _)
  exact aFr_tr (aFr_tr (aFr_tr fz (aFr_uN _ _ _)) (aFr_uN _ _ _)) (aFr_uN _ _ _)
/-- what read answers, and what it leaves -/
def rdOk (g : cG) (o : Option aS) (z : Bool × cG) : Prop := aFr g z.2 ∧ match o with
  | none => z.1 = false
  | some s => z.1 = true ∧ aRp z.2 s
theorem rdA_ok {g : cG} {s : aS} (h : aRp g s) (hn : s.1 + 2 ≤ 64) (hw : s.2.1.length + 3 ≤ 64) {pl : Int32} (hp : fit pl) (j m q x : Nat) (hq : x = q) : rdOk g (some (atT s pl (riP g j m q) q)) (rdA (uN g 6 (nI x)) s.1 s.2.1.length pl j m q) := by
  subst hq
  unfold rdA
  rw [if_neg (fit_ne hp)]
  obtain ⟨r1, r2⟩ := atS_rp (g := uN g 6 (nI x)) (s := (s.1, s.2.1, s.2.2.1, s.2.2.2.1, s.2.2.2.2.1, s.2.2.2.2.2.1, x)) (aRp_6 h x) hn hw pl (riP g j m x)
  exact ⟨aFr_tr (aFr_uN _ _ _) r2, rfl, r1⟩
theorem reF_ok {g : cG} {i tl j m : Nat} {s : aS} (h : aRp g s) (hb : aBd m s) (hq : s.2.2.2.2.2.2 < m) (hm : m ≤ 24) (htl : tl ≤ 24) : rdOk g (stp (riP g j m) (riT g i tl) tl m s) (reF g i tl j m s.1 s.2.1.length s.2.2.1.length s.2.2.2.2.2.2) := by
  have hT : ∀ lo h2, fit (riT g i tl lo h2) := riT_fit g i tl htl
  have h' := h
  obtain ⟨n, W, st, f, l, c, q⟩ := s
  obtain ⟨a0, a1, a2, a3, a4, a5, a6, a7, a8, a9⟩ := hb
  dsimp only at a0 a1 a2 a3 a4 a5 a6 a7 a8 a9 hq
  have AT : ∀ (pl : Int32) (x : Nat), fit pl → rdOk g (some (atT (n, W, st, f, l, c, q) pl (riP g j m x) x)) (rdA (uN g 6 (nI x)) n W.length pl j m x) := fun pl x hp => rdA_ok h' (by dsimp only; omega) (by dsimp only; omega) hp j m x x rfl
  have r1 := aRp_6 h (q + 1)
  have g5 : nN g 5 = nI c := h.2.2.2.2.2.1
  have g4 : nN g 4 = nI l := h.2.2.2.2.1
  have g3 : nN g 3 = nI f := h.2.2.2.1
  unfold stp reF
  dsimp only
  by_cases c1 : riP g j m q = 40
  · rw [if_pos c1, if_pos c1, if_pos (by omega : st.length < 24)]
    obtain ⟨r2, r3⟩ := ogS_rp r1 (by omega) (by omega)
    exact ⟨aFr_tr (aFr_uN _ _ _) r3, rfl, r2⟩
  rw [if_neg c1, if_neg c1]
  by_cases c2 : riP g j m q = 41
  · rw [if_pos c2, if_pos c2]
    cases st with
    | nil =>
      rw [if_pos (List.length_nil)]
      exact ⟨aFr_uN _ _ _, rfl⟩
    | cons x st =>
      rw [if_neg (by rw [List.length_cons]; omega), List.length_cons, Nat.add_sub_cancel]
      obtain ⟨r2, r3⟩ := cgS_rp r1 (by omega) (riP g j m (q + 1))
      exact ⟨aFr_tr (aFr_uN _ _ _) r3, rfl, r2⟩
  rw [if_neg c2, if_neg c2]
  by_cases c3 : riP g j m q = 124
  · rw [if_pos c3, if_pos c3, g5, g4, g3]
    have r2 := aRp_5 (aRp_cn r1 (by omega) c l 0 (-1)) f
    exact ⟨aFr_tr (aFr_tr (aFr_uN _ _ _) (aFr_cn _ _ _ _ _ _)) (aFr_uN _ _ _), rfl, r2⟩
  rw [if_neg c3, if_neg c3]
  by_cases c4 : riP g j m q = 94
  · rw [if_pos c4, if_pos c4]
    obtain ⟨r2, r3⟩ := acS_rp r1 (by omega) (by omega) 1
    exact ⟨aFr_tr (aFr_uN _ _ _) r3, rfl, r2⟩
  rw [if_neg c4, if_neg c4]
  by_cases c5 : riP g j m q = 36
  · rw [if_pos c5, if_pos c5]
    obtain ⟨r2, r3⟩ := acS_rp r1 (by omega) (by omega) (1 <<< (nI tl &&& 31))
    exact ⟨aFr_tr (aFr_uN _ _ _) r3, rfl, r2⟩
  rw [if_neg c5, if_neg c5]
  by_cases c6 : riP g j m q = 46
  · rw [if_pos c6, if_pos c6]; exact AT _ _ (hT _ _)
  rw [if_neg c6, if_neg c6]
  by_cases c7 : riP g j m q = 91
  · rw [if_pos c7, if_pos c7]
    have eG : riG (uN g 6 (nI (q + 1))) i tl j m (q + 1) = itG (riP g j m) (riT g i tl) m (q + 1) := rfl
    have eI : riI (uN g 6 (nI (q + 1))) i tl j m (q + 1) = if itG (riP g j m) (riT g i tl) m (q + 1) then itP (riP g j m) (riT g i tl) m (q + 1) else -1 := rfl
    have eX : riX (uN g 6 (nI (q + 1))) i tl j m (q + 1) = if itG (riP g j m) (riT g i tl) m (q + 1) then itQ (riP g j m) (riT g i tl) m (q + 1) else (itZ (riP g j m) (riT g i tl) m (q + 1)).2.2.1 := rfl
    have eS : riS (uN g 6 (nI (q + 1))) i tl j m (q + 1) = uN g 6 (nI (riX (uN g 6 (nI (q + 1))) i tl j m (q + 1))) := uN_uN _ _ _ _
    rw [eS, eI, eX]
    by_cases hg : itG (riP g j m) (riT g i tl) m (q + 1) = true
    · rw [if_pos hg, if_pos hg, if_pos hg]
      exact AT _ _ (itP_fit hT _ _)
    · rw [if_neg hg, if_neg hg, if_neg hg]
      unfold rdA
      rw [if_pos rfl]
      exact ⟨aFr_uN _ _ _, rfl⟩
  rw [if_neg c7, if_neg c7]
  by_cases c8 : riP g j m q = 92
  · rw [if_pos c8, if_pos c8]
    by_cases hg : q + 1 < m
    · rw [if_pos hg, if_pos hg]; exact AT _ _ (hT _ _)
    · rw [if_neg hg, if_neg hg]; exact ⟨aFr_uN _ _ _, rfl⟩
  rw [if_neg c8, if_neg c8]
  by_cases c9 : riP g j m q = 93 ∨ riP g j m q = 42 ∨ riP g j m q = 43 ∨ riP g j m q = 63
  · rw [if_pos c9, if_pos c9]; exact ⟨aFr_uN _ _ _, rfl⟩
  · rw [if_neg c9, if_neg c9]; exact AT _ _ (hT _ _)
