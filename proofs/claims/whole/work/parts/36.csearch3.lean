/-! Search: groups, escapes, items -/
def ogA (g : cG) (o : Nat) : cG := uN (uA (uA g 5 (upd (nA g 5) o (nN g 3))) 6 (upd (nA g 6) o (nN g 4))) 2 (nI (o + 1))
def ogB (g : cG) (o n w : Nat) : cG := uN (enS (ogA g o) n w) 3 (nI (nsK n))
def ogC (g : cG) (o n w : Nat) : cG := uN (nsS (ogB g o n w) (nsK n + 1)) 4 (nI (nsK (nsK n + 1)))
def ogS (g : cG) (o n w : Nat) : cG := uN (ogC g o n w) 5 (nI (nsK n))
theorem xS_openGroup {E : cEnv} (hE : cOk E) (g : cG) (o n w : Nat) (ho : o ≤ 24) (hn : n ≤ 64) (hw : w ≤ 64) (h0 : nN g 0 = nI n) (h1 : nN g 1 = nI w) (h2 : nN g 2 = nI o) : (¬ o < 24 → cSd E mS_openGroup [qR 7 0] g (some (qI 0)) g) ∧ (o < 24 → cSd E mS_openGroup [qR 7 0] g (some (qI 1)) (ogS g o n w)) := by
  have k1 : nsK n + 1 ≤ 64 := by unfold nsK; omega
  constructor
  · intro hl
    refine qm_meth hE (by decide) rfl rfl (Nat.le_of_ble_eq_true rfl) ?_
    intro p e st mm args below meth c Q C _ _
    have hc : ¬ nN g 2 < 24 := by rw [h2]; exact nI_nlt (b := 24) (by omega) (by omega)
    exact qm_step (sS_openGroup hE) C 0 9999 100 ([0], [], []) ⟨hc, Or.inl rfl, rfl, rfl⟩
  · intro hl
    refine qm_meth hE (by decide) rfl rfl (Nat.le_of_ble_eq_true rfl) ?_
    intro p e st mm args below meth c Q C _ _
    have hc : nN g 2 < 24 := by rw [h2]; exact nI_lt (b := 24) hl (by decide)
    have hin : vp_in (nN g 2) 24 := by rw [h2]; exact vp_in_nI hl (by decide)
    have e1 : uN (uA (uA g 5 (upd (nA g 5) (nN g 2).toNatClampNeg (nN g 3))) 6 (upd (nA g 6) (nN g 2).toNatClampNeg (nN g 4))) 2 (nN g 2 + 1) = ogA g o := by rw [h2, nI_clamp (by omega), nI_1]; rfl
    have c1 := xS_enter hE (ogA g o) n w hn hw (by unfold ogA; rw [uN_ne _ _ (by decide)]; exact h0) (by unfold ogA; rw [uN_ne _ _ (by decide)]; exact h1)
    rw [← e1] at c1
    have c2 := xS_newState hE (ogB g o n w) (nsK n + 1) k1 (by unfold ogB; rw [uN_ne _ _ (by decide)]; exact enS_s _ _ _)
    have e2 : uN (ogC g o n w) 5 (nN (ogC g o n w) 3) = ogS g o n w := by
      have : nN (ogC g o n w) 3 = nI (nsK n) := by
        unfold ogC
        rw [uN_ne _ _ (by decide), nsS_N _ _ _ (by decide)]
        exact uN_at _ _ _
      rw [this]; rfl
    have c1' : cSd E mS_enter [qR 7 0] (uN (uA (uA g 5 (upd (nA g 5) (nN g 2).toNatClampNeg (nN g 3))) 6 (upd (nA g 6) (nN g 2).toNatClampNeg (nN g 4))) 2 (nN g 2 + 1)) (some (qI (nI (nsK n)))) (enS (ogA g o) n w) := by rw [e1] at c1 ⊢; exact c1
    exact qm_step (sS_openGroup hE) C 0 9999 100 ([1], [], [(some (qI (nI (nsK n))), enS (ogA g o) n w), (some (qI (nI (nsK (nsK n + 1)))), nsS (ogB g o n w) (nsK n + 1))]) ⟨hc, hin, hin, c1', c2, Or.inr rfl, rfl, e2⟩
theorem rpS_N (g : cG) (w : Nat) (e t b : Int32) (pl j : Nat) (h1 : j ≠ 1) (h5 : j ≠ 5) (h6 : j ≠ 6) : nN (rpS g w e t b pl) j = nN g j := by
  unfold rpS
  split
  · rw [uN_ne _ _ h6, cnS_N _ _ _ _ _ _ _ h1, uN_ne _ _ h5]
  · split
    · rw [uN_ne _ _ h6, cnS_N _ _ _ _ _ _ _ h1, uN_ne _ _ h5]
    · split
      · rw [uN_ne _ _ h6, cnS_N _ _ _ _ _ _ _ h1, uN_ne _ _ h5]
      · rw [uN_ne _ _ h5]
theorem cnS_A (g : cG) (w : Nat) (a b m v : Int32) (j : Nat) (h : 5 ≤ j) : nA (cnS g w a b m v) j = nA g j := by
  unfold cnS
  split
  · show va_up (va_up (va_up (va_up g.2.2.2.2.2.2 1 _) 2 _) 3 _) 4 _ j = _
    rw [va_up_ne _ _ (by omega), va_up_ne _ _ (by omega), va_up_ne _ _ (by omega), va_up_ne _ _ (by omega)]
  · rfl
theorem rpS_A (g : cG) (w : Nat) (e t b : Int32) (pl j : Nat) (h : 5 ≤ j) : nA (rpS g w e t b pl) j = nA g j := by
  unfold rpS
  split
  · exact cnS_A _ _ _ _ _ _ _ h
  · split
    · exact cnS_A _ _ _ _ _ _ _ h
    · split
      · exact cnS_A _ _ _ _ _ _ _ h
      · rfl
def cgA (g : cG) (w : Nat) : cG := cnS g w (nN g 5) (nN g 4) (-1) 0
def cgB (g : cG) (w : Nat) (b : Int32) (q : Nat) : cG := rpS (cgA g w) (cnK w) (nN g 3) (nN g 4) b q
def cgS (g : cG) (o w : Nat) (b : Int32) (q : Nat) : cG := uN (uN (uN (cgB g w b q) 2 (nI o)) 3 (nA g 5 o)) 4 (nA g 6 o)
theorem xS_closeGroup {E : cEnv} (hE : cOk E) (g : cG) (o w i m q : Nat) (ho : o ≤ 24) (hw : w ≤ 64) (h1 : nN g 1 = nI w) (h2 : nN g 2 = nI o) (hm : m ≤ 24) (hi : (g.1 i).2.2.2 = nI m) (hp : nN g 6 = nI q) (hq : q < 100) : (o = 0 → cSd E mS_closeGroup [qR 7 0, qR 1 i] g (some (qI 0)) g) ∧ (0 < o → cSd E mS_closeGroup [qR 7 0, qR 1 i] g (some (qI 1)) (cgS g (o - 1) w (atV g i m q) q)) := by
  constructor
  · intro hl
    refine qm_meth hE (by decide) rfl rfl (Nat.le_of_ble_eq_true rfl) ?_
    intro p e st mm args below meth c Q C _ _
    have hc : ¬ 0 < nN g 2 := by rw [h2, hl]; decide
    exact qm_step (sS_closeGroup hE) C 0 9999 100 ([0], [], []) ⟨hc, Or.inl rfl, rfl, rfl⟩
  · intro hl
    refine qm_meth hE (by decide) rfl rfl (Nat.le_of_ble_eq_true rfl) ?_
    intro p e st mm args below meth c Q C _ _
    have hc : 0 < nN g 2 := by rw [h2]; exact nI_lt (a := 0) hl (by omega)
    have c1 := xS_connect hE g w (nN g 5) (nN g 4) (-1) 0 hw h1
    have v1 := cnS_V g w (nN g 5) (nN g 4) (-1) 0
    have n3 : nN (cgA g w) 3 = nN g 3 := cnS_N _ _ _ _ _ _ _ (by decide)
    have n4 : nN (cgA g w) 4 = nN g 4 := cnS_N _ _ _ _ _ _ _ (by decide)
    have c2 := xS_repeat hE (cgA g w) (cnK w) (nN g 3) (nN g 4) i m q (by unfold cnK; omega) (cnS_w hw h1) hm (by unfold cgA; rw [v1.1]; exact hi) (by unfold cgA; rw [cnS_N _ _ _ _ _ _ _ (by decide)]; exact hp) hq
    have e1 : atV (cgA g w) i m q = atV g i m q := by unfold atV cgA; rw [v1.2]
    rw [e1] at c2
    have c2' : cSd E mS_repeat [qR 7 0, qI (nN (cgA g w) 3), qI (nN (cgA g w) 4), qR 1 i] (cgA g w) none (cgB g w (atV g i m q) q) := by rw [n3, n4]; exact c2
    have b2 : nN (cgB g w (atV g i m q) q) 2 - 1 = nI (o - 1) := by
      unfold cgB cgA
      rw [rpS_N _ _ _ _ _ _ _ (by decide) (by decide) (by decide), cnS_N _ _ _ _ _ _ _ (by decide), h2, show nI o = nI (o - 1 + 1) by rw [Nat.sub_add_cancel hl], nI_pred]
    have bA : ∀ j, 5 ≤ j → nA (cgB g w (atV g i m q) q) j = nA g j := by
      intro j hj
      unfold cgB cgA
      rw [rpS_A _ _ _ _ _ _ _ hj, cnS_A _ _ _ _ _ _ _ hj]
    unfold cgS at C
    generalize cgB g w (atV g i m q) q = z at c2' b2 bA C
    have q1 : nN (uN z 2 (nN z 2 - 1)) 2 = nI (o - 1) := (uN_at _ _ _).trans b2
    have q2 : ∀ X : Int32, nN (uN (uN z 2 (nN z 2 - 1)) 3 X) 2 = nI (o - 1) := fun X => (uN_ne _ _ (by decide)).trans q1
    have hin2 : vp_in (nN (uN z 2 (nN z 2 - 1)) 2) 24 := by rw [q1]; exact vp_in_nI (by omega) (by decide)
    have hin3 : vp_in (nN (uN (uN z 2 (nN z 2 - 1)) 3 (nA z 5 (nN (uN z 2 (nN z 2 - 1)) 2).toNatClampNeg)) 2) 24 := by rw [q2]; exact vp_in_nI (by omega) (by decide)
    have e2 : uN (uN (uN z 2 (nN z 2 - 1)) 3 (nA z 5 (nN (uN z 2 (nN z 2 - 1)) 2).toNatClampNeg)) 4 (nA z 6 (nN (uN (uN z 2 (nN z 2 - 1)) 3 (nA z 5 (nN (uN z 2 (nN z 2 - 1)) 2).toNatClampNeg)) 2).toNatClampNeg) = uN (uN (uN z 2 (nI (o - 1))) 3 (nA g 5 (o - 1))) 4 (nA g 6 (o - 1)) := by
      rw [q2, q1, nI_clamp (by omega), bA 5 (by omega), bA 6 (by omega), b2]
    exact qm_step (sS_closeGroup hE) C 0 9999 100 ([1], [], [(none, cgA g w), (none, z)]) ⟨hc, c1, c2', hin2, hin3, Or.inr rfl, rfl, e2⟩
/-- \ and a byte -/
theorem xS_readEscaped {E : cEnv} (hE : cOk E) (g : cG) (i n j m q : Nat) (hn : n ≤ 24) (hm : m ≤ 24) (hi : (g.1 i).2.2.2 = nI n) (hj : (g.1 j).2.2.2 = nI m) (hp : nN g 6 = nI q) (hq : q < 100) : (¬ q < m → cSd E mS_readEscaped [qR 7 0, qR 1 i, qR 1 j] g (some (qI (-1))) g) ∧ (q < m → cSd E mS_readEscaped [qR 7 0, qR 1 i, qR 1 j] g (some (qI (plF (g.2.1 i) (g.2.1 j q) (g.2.1 j q) n 0 0))) (uN g 6 (nI (q + 1)))) := by
  constructor
  · intro hl
    refine qm_meth hE (by decide) rfl rfl (Nat.le_of_ble_eq_true rfl) ?_
    intro p e st mm args below meth c Q C _ _
    have hc : ¬ nN g 6 < (g.1 j).2.2.2 := by rw [hp, hj]; exact nI_nlt (by omega) (by omega)
    exact qm_step (sS_readEscaped hE) C 0 9999 100 ([0], [], []) ⟨hc, rfl, rfl⟩
  · intro hl
    refine qm_meth hE (by decide) rfl rfl (Nat.le_of_ble_eq_true rfl) ?_
    intro p e st mm args below meth c Q C _ _
    have hc : nN g 6 < (g.1 j).2.2.2 := by rw [hp, hj]; exact nI_lt hl (by omega)
    have hat := xV_at_yes hE g j q m hl hm hj
    rw [← hp] at hat
    have hpl := xS_placesOf hE (uN g 6 (nI (q + 1))) i n (g.2.1 j q) (g.2.1 j q) hn hi
    have e1 : uN g 6 (nN g 6 + 1) = uN g 6 (nI (q + 1)) := by rw [hp, nI_1]
    rw [← e1] at hpl
    exact qm_step (sS_readEscaped hE) C 0 9999 100 ([1], [], [(_, g), (_, uN g 6 (nN g 6 + 1))]) ⟨hc, hat, hpl, rfl, e1⟩
