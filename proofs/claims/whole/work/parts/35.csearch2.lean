/-! Search: begin, groups, atoms -/
theorem uN_at (g : cG) (j : Nat) (x : Int32) : nN (uN g j x) j = x := va_up_self _ _ _
theorem uN_ne (g : cG) {j k : Nat} (x : Int32) (h : k ≠ j) : nN (uN g j x) k = nN g k := va_up_ne _ _ h
theorem cnS_N (g : cG) (w : Nat) (a b m v : Int32) (j : Nat) (h : j ≠ 1) : nN (cnS g w a b m v) j = nN g j := by
  unfold cnS
  split
  · exact uN_ne _ _ h
  · rfl
theorem cnS_V (g : cG) (w : Nat) (a b m v : Int32) : (cnS g w a b m v).1 = g.1 ∧ (cnS g w a b m v).2.1 = g.2.1 := by
  unfold cnS
  split <;> exact ⟨rfl, rfl⟩
def cnK (w : Nat) : Nat := min (w + 1) 64
theorem cnS_w {g : cG} {w : Nat} {a b m v : Int32} (hw : w ≤ 64) (h : nN g 1 = nI w) : nN (cnS g w a b m v) 1 = nI (cnK w) := by
  unfold cnS cnK
  split
  · rename_i h1
    rw [uN_at, Nat.min_eq_left (by omega)]
  · rw [h, Nat.min_eq_right (by omega), show w = 64 by omega]
def bgA (g : cG) : cG := uN (uN (uN (uN g 0 0) 1 0) 2 0) 6 0
def bgB (g : cG) : cG := uN (nsS (bgA g) 0) 3 (nI 0)
def bgC (g : cG) : cG := uN (nsS (bgB g) 1) 4 (nI 1)
def bgS (g : cG) : cG := uN (bgC g) 5 (nI 0)
theorem xS_begin {E : cEnv} (hE : cOk E) (g : cG) : cSd E mS_begin [qR 7 0] g none (bgS g) := by
  refine qm_meth hE (by decide) rfl rfl (Nat.le_of_ble_eq_true rfl) ?_
  intro p e st mm args below meth c Q C _ _
  have h1 := xS_newState hE (bgA g) 0 (by omega) (by unfold bgA; rw [uN_ne _ _ (by decide), uN_ne _ _ (by decide), uN_ne _ _ (by decide), uN_at]; rfl)
  have h2 := xS_newState hE (bgB g) 1 (by omega) (by unfold bgB; rw [uN_ne _ _ (by decide)]; exact uN_at _ _ _)
  have e1 : uN (bgC g) 5 (nN (bgC g) 3) = bgS g := by
    have : nN (bgC g) 3 = nI 0 := by
      unfold bgC
      rw [uN_ne _ _ (by decide), nsS_N _ _ _ (by decide)]
      exact uN_at _ _ _
    rw [this]; rfl
  exact qm_step (sS_begin hE) C 0 9999 100 ([], [], [(some (qI (nI 0)), nsS (bgA g) 0), (some (qI (nI 1)), nsS (bgB g) 1)]) ⟨h1, h2, rfl, e1⟩
/-- behind an atom or a group: the sign b, and what it makes -/
def rpS (g : cG) (w : Nat) (e t b : Int32) (pl : Nat) : cG :=
  if b = 42 then uN (cnS (uN g 5 e) w t e (-1) 0) 6 (nI (pl + 1))
  else if b = 43 then uN (cnS (uN g 5 t) w t e (-1) 0) 6 (nI (pl + 1))
  else if b = 63 then uN (cnS (uN g 5 t) w e t (-1) 0) 6 (nI (pl + 1)) else uN g 5 t
theorem xS_repeat {E : cEnv} (hE : cOk E) (g : cG) (w : Nat) (e1 t : Int32) (i n pl : Nat) (hw : w ≤ 64) (h : nN g 1 = nI w) (hn : n ≤ 24) (hi : (g.1 i).2.2.2 = nI n) (hp : nN g 6 = nI pl) (hpl : pl < 100) : cSd E mS_repeat [qR 7 0, qI e1, qI t, qR 1 i] g none (rpS g w e1 t (atV g i n pl) pl) := by
  refine qm_meth hE (by decide) rfl rfl (Nat.le_of_ble_eq_true rfl) ?_
  intro p e st mm args below meth c Q C _ _
  have hat := xV_atH hE g i n pl hn (by omega) hi
  rw [← hp] at hat
  have key : ∀ (x a b : Int32), nN (cnS (uN g 5 x) w a b (-1) 0) 6 + 1 = nI (pl + 1) := by
    intro x a b
    rw [cnS_N _ _ _ _ _ _ _ (by decide), uN_ne _ _ (by decide), hp, nI_1]
  have cn : ∀ (x a b : Int32), cSd E mS_connect [qR 7 0, qI a, qI b, qI (-1), qI 0] (uN g 5 x) none (cnS (uN g 5 x) w a b (-1) 0) := fun x a b => xS_connect hE (uN g 5 x) w a b (-1) 0 hw (by rw [uN_ne _ _ (by decide)]; exact h)
  unfold rpS at C
  by_cases h1 : atV g i n pl = 42
  · rw [if_pos h1] at C
    have e2 : uN (cnS (uN g 5 e1) w t e1 (-1) 0) 6 (nN (cnS (uN g 5 e1) w t e1 (-1) 0) 6 + 1) = uN (cnS (uN g 5 e1) w t e1 (-1) 0) 6 (nI (pl + 1)) := by rw [key]
    exact qm_step (sS_repeat hE) C 0 9999 100 ([0, 1], [], [(_, g), (none, _)]) ⟨hat, h1, h1, cn e1 t e1, rfl, e2⟩
  rw [if_neg h1] at C
  by_cases h2 : atV g i n pl = 43
  · rw [if_pos h2] at C
    have e2 : uN (cnS (uN g 5 t) w t e1 (-1) 0) 6 (nN (cnS (uN g 5 t) w t e1 (-1) 0) 6 + 1) = uN (cnS (uN g 5 t) w t e1 (-1) 0) 6 (nI (pl + 1)) := by rw [key]
    exact qm_step (sS_repeat hE) C 0 9999 100 ([1, 0, 0], [], [(_, g), (none, _)]) ⟨hat, h1, h1, h2, cn t t e1, rfl, e2⟩
  rw [if_neg h2] at C
  by_cases h3 : atV g i n pl = 63
  · rw [if_pos h3] at C
    have e2 : uN (cnS (uN g 5 t) w e1 t (-1) 0) 6 (nN (cnS (uN g 5 t) w e1 t (-1) 0) 6 + 1) = uN (cnS (uN g 5 t) w e1 t (-1) 0) 6 (nI (pl + 1)) := by rw [key]
    exact qm_step (sS_repeat hE) C 0 9999 100 ([1, 0, 1, 0], [], [(_, g), (none, _)]) ⟨hat, h1, h1, h2, h3, cn t e1 t, rfl, e2⟩
  · rw [if_neg h3] at C
    exact qm_step (sS_repeat hE) C 0 9999 100 ([1, 0, 1, 1], [], [(_, g)]) ⟨hat, h1, h1, h2, h3, rfl, rfl⟩
theorem nsS_s (g : cG) (n : Nat) : nN (nsS g n) 0 = nI (nsK n + 1) := uN_at _ _ _
theorem enS_N (g : cG) (n w j : Nat) (h0 : j ≠ 0) (h1 : j ≠ 1) : nN (enS g n w) j = nN g j := by unfold enS; rw [cnS_N _ _ _ _ _ _ _ h1, nsS_N _ _ _ h0]
theorem enS_V (g : cG) (n w : Nat) : (enS g n w).1 = g.1 ∧ (enS g n w).2.1 = g.2.1 := cnS_V _ _ _ _ _ _
theorem enS_s (g : cG) (n w : Nat) : nN (enS g n w) 0 = nI (nsK n + 1) := by unfold enS; rw [cnS_N _ _ _ _ _ _ _ (by decide)]; exact nsS_s g n
theorem enS_w {g : cG} {n w : Nat} (hw : w ≤ 64) (h : nN g 1 = nI w) : nN (enS g n w) 1 = nI (cnK w) := cnS_w hw (by rw [nsS_N _ _ _ (by decide)]; exact h)
/-- an atom whose bytes stand at the places pl -/
def atA (g : cG) (n w : Nat) (pl : Int32) : cG := cnS (nsS (enS g n w) (nsK n + 1)) (cnK w) (nI (nsK n)) (nI (nsK (nsK n + 1))) pl 1
def atS (g : cG) (n w : Nat) (pl b : Int32) (q : Nat) : cG := rpS (atA g n w pl) (cnK (cnK w)) (nI (nsK n)) (nI (nsK (nsK n + 1))) b q
theorem xS_atom {E : cEnv} (hE : cOk E) (g : cG) (n w : Nat) (pl : Int32) (i m q : Nat) (hn : n ≤ 64) (hw : w ≤ 64) (h : nN g 0 = nI n) (h2 : nN g 1 = nI w) (hm : m ≤ 24) (hi : (g.1 i).2.2.2 = nI m) (hp : nN g 6 = nI q) (hq : q < 100) : (pl = -1 → cSd E mS_atom [qR 7 0, qI pl, qR 1 i] g (some (qI 0)) g) ∧ (¬ pl = -1 → cSd E mS_atom [qR 7 0, qI pl, qR 1 i] g (some (qI 1)) (atS g n w pl (atV g i m q) q)) := by
  have k1 : nsK n + 1 ≤ 64 := by unfold nsK; omega
  have k2 : cnK w ≤ 64 := by unfold cnK; omega
  have k3 : cnK (cnK w) ≤ 64 := by unfold cnK; omega
  constructor
  · intro hl
    refine qm_meth hE (by decide) rfl rfl (Nat.le_of_ble_eq_true rfl) ?_
    intro p e st mm args below meth c Q C _ _
    exact qm_step (sS_atom hE) C 0 9999 100 ([0], [], []) ⟨hl, Or.inl rfl, rfl, rfl⟩
  · intro hl
    refine qm_meth hE (by decide) rfl rfl (Nat.le_of_ble_eq_true rfl) ?_
    intro p e st mm args below meth c Q C _ _
    have c1 := xS_enter hE g n w hn hw h h2
    have c2 := xS_newState hE (enS g n w) (nsK n + 1) k1 (enS_s g n w)
    have c3 := xS_connect hE (nsS (enS g n w) (nsK n + 1)) (cnK w) (nI (nsK n)) (nI (nsK (nsK n + 1))) pl 1 k2 (by rw [nsS_N _ _ _ (by decide)]; exact enS_w hw h2)
    have v1 : (atA g n w pl).1 = g.1 := (cnS_V _ _ _ _ _ _).1.trans (show (nsS (enS g n w) (nsK n + 1)).1 = g.1 from (enS_V g n w).1)
    have v2 : (atA g n w pl).2.1 = g.2.1 := (cnS_V _ _ _ _ _ _).2.trans (show (nsS (enS g n w) (nsK n + 1)).2.1 = g.2.1 from (enS_V g n w).2)
    have c4 := xS_repeat hE (atA g n w pl) (cnK (cnK w)) (nI (nsK n)) (nI (nsK (nsK n + 1))) i m q k3 (cnS_w k2 (by rw [nsS_N _ _ _ (by decide)]; exact enS_w hw h2)) hm (by rw [v1]; exact hi) (by unfold atA; rw [cnS_N _ _ _ _ _ _ _ (by decide), nsS_N _ _ _ (by decide), enS_N _ _ _ _ (by decide) (by decide)]; exact hp) hq
    have e1 : atV (atA g n w pl) i m q = atV g i m q := by unfold atV; rw [v2]
    rw [e1] at c4
    exact qm_step (sS_atom hE) C 0 9999 100 ([1], [], [(some (qI (nI (nsK n))), enS g n w), (some (qI (nI (nsK (nsK n + 1)))), nsS (enS g n w) (nsK n + 1)), (none, atA g n w pl), (none, atS g n w pl (atV g i m q) q)]) ⟨hl, c1, c2, c3, c4, Or.inr rfl, rfl, rfl⟩
