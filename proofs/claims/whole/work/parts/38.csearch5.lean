/-! Search: read -/
def rdA (g : cG) (n w : Nat) (pl : Int32) (j m q : Nat) : Bool × cG := if pl = -1 then (false, g) else (true, atS g n w pl (atV g j m q) q)
theorem xS_atomR {E : cEnv} (hE : cOk E) (g : cG) (n w : Nat) (pl : Int32) (i m q : Nat) (hn : n ≤ 64) (hw : w ≤ 64) (h : nN g 0 = nI n) (h2 : nN g 1 = nI w) (hm : m ≤ 24) (hi : (g.1 i).2.2.2 = nI m) (hp : nN g 6 = nI q) (hq : q < 100) : cSd E mS_atom [qR 7 0, qI pl, qR 1 i] g (some (qI (if (rdA g n w pl i m q).1 then 1 else 0))) (rdA g n w pl i m q).2 := by
  obtain ⟨a1, a2⟩ := xS_atom hE g n w pl i m q hn hw h h2 hm hi hp hq
  unfold rdA
  by_cases hl : pl = -1
  · rw [if_pos hl]; exact a1 hl
  · rw [if_neg hl]; exact a2 hl
def riX (g : cG) (i tl j m q : Nat) : Nat := if riG g i tl j m q then (riZ g i tl j m q).2.2.1 + 1 else (riZ g i tl j m q).2.2.1
theorem riF_q (P : Nat → Int32) (T : Int32 → Int32 → Int32) : ∀ (r q : Nat) (acc : Int32) (c : Nat), (riF P T r q acc c).2.2.1 ≤ q + 3 * r
  | 0, q, acc, c => Nat.le_refl _
  | r + 1, q, acc, c => by
    rw [riF_s]
    split
    · exact Nat.le_add_right _ _
    · split
      · have := riF_q P T r (riQ P q) (acc ||| T (P q) (riH P q)) (c + 1)
        have h2 : riQ P q ≤ q + 3 := by unfold riQ; split <;> omega
        omega
      · exact Nat.le_add_right _ _
theorem riX_le (g : cG) (i tl j m q : Nat) (hm : m ≤ 24) : riX g i tl j m q ≤ q + 75 := by
  have : (riZ g i tl j m q).2.2.1 ≤ q + 73 := by
    unfold riZ
    have := riF_q (riP g j m) (riT g i tl) m (if riP g j m q = 94 then q + 1 else q) 0 0
    have h2 : (if riP g j m q = 94 then q + 1 else q) ≤ q + 1 := by split <;> omega
    omega
  unfold riX
  split <;> omega
def reF (g : cG) (i tl j m n w o q : Nat) : Bool × cG :=
  if riP g j m q = 40 then (if o < 24 then (true, ogS (uN g 6 (nI (q + 1))) o n w) else (false, uN g 6 (nI (q + 1))))
  else if riP g j m q = 41 then (if o = 0 then (false, uN g 6 (nI (q + 1))) else (true, cgS (uN g 6 (nI (q + 1))) (o - 1) w (riP g j m (q + 1)) (q + 1)))
  else if riP g j m q = 124 then (true, uN (cnS (uN g 6 (nI (q + 1))) w (nN g 5) (nN g 4) (-1) 0) 5 (nN g 3))
  else if riP g j m q = 94 then (true, acS (uN g 6 (nI (q + 1))) n w 1)
  else if riP g j m q = 36 then (true, acS (uN g 6 (nI (q + 1))) n w (1 <<< (nI tl &&& 31)))
  else if riP g j m q = 46 then rdA (uN g 6 (nI (q + 1))) n w (riT g i tl 32 126) j m (q + 1)
  else if riP g j m q = 91 then rdA (riS (uN g 6 (nI (q + 1))) i tl j m (q + 1)) n w (riI (uN g 6 (nI (q + 1))) i tl j m (q + 1)) j m (riX (uN g 6 (nI (q + 1))) i tl j m (q + 1))
  else if riP g j m q = 92 then (if q + 1 < m then rdA (uN g 6 (nI (q + 2))) n w (riT g i tl (riP g j m (q + 1)) (riP g j m (q + 1))) j m (q + 2) else (false, uN g 6 (nI (q + 1))))
  else if riP g j m q = 93 ∨ riP g j m q = 42 ∨ riP g j m q = 43 ∨ riP g j m q = 63 then (false, uN g 6 (nI (q + 1)))
  else rdA (uN g 6 (nI (q + 1))) n w (riT g i tl (riP g j m q) (riP g j m q)) j m (q + 1)
set_option maxHeartbeats 1000000 in
theorem xS_read {E : cEnv} (hE : cOk E) (g : cG) (i tl j m n w o q : Nat) (htl : tl ≤ 24) (hm : m ≤ 24) (hn : n ≤ 64) (hw : w ≤ 64) (ho : o ≤ 24) (hq : q < 24) (hi : (g.1 i).2.2.2 = nI tl) (hj : (g.1 j).2.2.2 = nI m) (h0 : nN g 0 = nI n) (h1 : nN g 1 = nI w) (h2 : nN g 2 = nI o) (hp : nN g 6 = nI q) : cSd E mS_read [qR 7 0, qR 1 i, qR 1 j] g (some (qI (if (reF g i tl j m n w o q).1 then 1 else 0))) (reF g i tl j m n w o q).2 := by
  refine qm_meth hE (by decide) rfl rfl (Nat.le_of_ble_eq_true rfl) ?_
  intro p e st mm args below meth c Q C _ _
  have hat := xV_atH hE g j m q hm (by omega) hj
  rw [← hp] at hat
  have hat' : cSd E mV_at [qR 1 j, qI (nN g 6)] g (some (qI (riP g j m q))) g := hat
  have e1 : uN g 6 (nN g 6 + 1) = uN g 6 (nI (q + 1)) := by rw [hp, nI_1]
  have k0 : nN (uN g 6 (nI (q + 1))) 0 = nI n := (uN_ne _ _ (by decide)).trans h0
  have k1 : nN (uN g 6 (nI (q + 1))) 1 = nI w := (uN_ne _ _ (by decide)).trans h1
  have k2 : nN (uN g 6 (nI (q + 1))) 2 = nI o := (uN_ne _ _ (by decide)).trans h2
  have k3 : nN (uN g 6 (nI (q + 1))) 3 = nN g 3 := uN_ne _ _ (by decide)
  have k4 : nN (uN g 6 (nI (q + 1))) 4 = nN g 4 := uN_ne _ _ (by decide)
  have k5 : nN (uN g 6 (nI (q + 1))) 5 = nN g 5 := uN_ne _ _ (by decide)
  have k6 : nN (uN g 6 (nI (q + 1))) 6 = nI (q + 1) := uN_at _ _ _
  have kz : ∀ b : Bool, (if b then (1 : Int32) else 0) = 0 ∨ (if b then (1 : Int32) else 0) = 1 := fun b => by cases b <;> decide
  have eP : ∀ x, riP (uN g 6 x) j m = riP g j m := fun x => rfl
  unfold reF at C
  generalize hb : riP g j m q = b at C hat'
  by_cases b40 : b = 40
  · rw [if_pos b40] at C
    obtain ⟨c1, c2⟩ := xS_openGroup hE (uN g 6 (nI (q + 1))) o n w ho hn hw k0 k1 k2
    by_cases ho2 : o < 24
    · rw [if_pos ho2] at C
      have c3 := c2 ho2
      rw [← e1] at c3
      rw [← e1] at C
      exact qm_step (sS_read hE) C 0 9999 100 ([2], [], [(_, g), (_, _)]) ⟨hat', b40, c3, Or.inr rfl, rfl, rfl⟩
    · rw [if_neg ho2] at C
      have c3 := c1 ho2
      rw [← e1] at c3
      rw [← e1] at C
      exact qm_step (sS_read hE) C 0 9999 100 ([2], [], [(_, g), (_, _)]) ⟨hat', b40, c3, Or.inl rfl, rfl, rfl⟩
  rw [if_neg b40] at C
  by_cases b41 : b = 41
  · rw [if_pos b41] at C
    obtain ⟨c1, c2⟩ := xS_closeGroup hE (uN g 6 (nI (q + 1))) o w j m (q + 1) ho hw k1 k2 hm hj k6 (by omega)
    by_cases ho2 : o = 0
    · rw [if_pos ho2] at C
      have c3 := c1 ho2
      rw [← e1] at c3
      rw [← e1] at C
      exact qm_step (sS_read hE) C 0 9999 100 ([3], [], [(_, g), (_, _)]) ⟨hat', b41, c3, Or.inl rfl, rfl, rfl⟩
    · rw [if_neg ho2] at C
      have c3 := c2 (by omega)
      rw [show atV (uN g 6 (nI (q + 1))) j m (q + 1) = riP g j m (q + 1) from rfl] at c3
      rw [← e1] at c3
      rw [← e1] at C
      exact qm_step (sS_read hE) C 0 9999 100 ([3], [], [(_, g), (_, _)]) ⟨hat', b41, c3, Or.inr rfl, rfl, rfl⟩
  rw [if_neg b41] at C
  by_cases b124 : b = 124
  · rw [if_pos b124] at C
    have c1 := xS_connect hE (uN g 6 (nI (q + 1))) w (nN g 5) (nN g 4) (-1) 0 hw k1
    have c2 : cSd E mS_connect [qR 7 0, qI (nN (uN g 6 (nN g 6 + 1)) 5), qI (nN (uN g 6 (nN g 6 + 1)) 4), qI (-1), qI 0] (uN g 6 (nN g 6 + 1)) none (cnS (uN g 6 (nI (q + 1))) w (nN g 5) (nN g 4) (-1) 0) := by rw [e1, k5, k4]; exact c1
    have e3 : uN (cnS (uN g 6 (nI (q + 1))) w (nN g 5) (nN g 4) (-1) 0) 5 (nN (cnS (uN g 6 (nI (q + 1))) w (nN g 5) (nN g 4) (-1) 0) 3) = uN (cnS (uN g 6 (nI (q + 1))) w (nN g 5) (nN g 4) (-1) 0) 5 (nN g 3) := by rw [cnS_N _ _ _ _ _ _ _ (by decide), k3]
    exact qm_step (sS_read hE) C 0 9999 100 ([12], [], [(_, g), (_, _)]) ⟨hat', b124, c2, Or.inr rfl, rfl, e3⟩
  rw [if_neg b124] at C
  by_cases b94 : b = 94
  · rw [if_pos b94] at C
    have c3 := xS_anchor hE (uN g 6 (nI (q + 1))) n w 1 hn hw k0 k1
    rw [← e1] at c3
    rw [← e1] at C
    exact qm_step (sS_read hE) C 0 9999 100 ([11], [], [(_, g), (_, _)]) ⟨hat', b94, c3, Or.inr rfl, rfl, rfl⟩
  rw [if_neg b94] at C
  by_cases b36 : b = 36
  · rw [if_pos b36] at C
    have c3 := xS_anchor hE (uN g 6 (nI (q + 1))) n w (1 <<< (nI tl &&& 31)) hn hw k0 k1
    rw [← e1, ← hi] at c3
    rw [← e1, ← hi] at C
    exact qm_step (sS_read hE) C 0 9999 100 ([1], [], [(_, g), (_, _)]) ⟨hat', b36, c3, Or.inr rfl, rfl, rfl⟩
  rw [if_neg b36] at C
  have ATM : ∀ pl : Int32, cSd E mS_atom [qR 7 0, qI pl, qR 1 j] (uN g 6 (nI (q + 1))) (some (qI (if (rdA (uN g 6 (nI (q + 1))) n w pl j m (q + 1)).1 then 1 else 0))) (rdA (uN g 6 (nI (q + 1))) n w pl j m (q + 1)).2 := fun pl => xS_atomR hE (uN g 6 (nI (q + 1))) n w pl j m (q + 1) hn hw k0 k1 hm hj k6 (by omega)
  have PL : ∀ lo h2 : Int32, cSd E mS_placesOf [qR 1 i, qI lo, qI h2] (uN g 6 (nI (q + 1))) (some (qI (riT g i tl lo h2))) (uN g 6 (nI (q + 1))) := fun lo h2 => xS_placesOf hE (uN g 6 (nI (q + 1))) i tl lo h2 htl hi
  by_cases b46 : b = 46
  · rw [if_pos b46] at C
    have c2 := PL 32 126
    have c3 := ATM (riT g i tl 32 126)
    rw [← e1] at c2 c3
    rw [← e1] at C
    exact qm_step (sS_read hE) C 0 9999 100 ([6], [], [(_, g), (_, _), (_, _)]) ⟨hat', b46, c2, c3, kz _, rfl, rfl⟩
  rw [if_neg b46] at C
  by_cases b91 : b = 91
  · rw [if_pos b91] at C
    have c2 := xS_readItems hE (uN g 6 (nI (q + 1))) i tl j m (q + 1) htl hm hi hj k6 (by omega)
    have c3 := xS_atomR hE (riS (uN g 6 (nI (q + 1))) i tl j m (q + 1)) n w (riI (uN g 6 (nI (q + 1))) i tl j m (q + 1)) j m (riX (uN g 6 (nI (q + 1))) i tl j m (q + 1)) hn hw ((uN_ne _ _ (by decide)).trans k0) ((uN_ne _ _ (by decide)).trans k1) hm hj (uN_at _ _ _) (by have := riX_le (uN g 6 (nI (q + 1))) i tl j m (q + 1) hm; omega)
    rw [← e1] at c2 c3
    rw [← e1] at C
    exact qm_step (sS_read hE) C 0 9999 100 ([8], [], [(_, g), (_, _), (_, _)]) ⟨hat', b91, c2, c3, kz _, rfl, rfl⟩
  rw [if_neg b91] at C
  by_cases b92 : b = 92
  · rw [if_pos b92] at C
    obtain ⟨c1, c2⟩ := xS_readEscaped hE (uN g 6 (nI (q + 1))) i tl j m (q + 1) htl hm hi hj k6 (by omega)
    by_cases hl : q + 1 < m
    · rw [if_pos hl] at C
      have c4 := c2 hl
      have eq : (uN g 6 (nI (q + 1))).2.1 j (q + 1) = riP g j m (q + 1) := by unfold riP atV; rw [if_pos hl]; rfl
      rw [eq, uN_uN] at c4
      have c3 := xS_atomR hE (uN g 6 (nI (q + 2))) n w (riT g i tl (riP g j m (q + 1)) (riP g j m (q + 1))) j m (q + 2) hn hw ((uN_ne _ _ (by decide)).trans h0) ((uN_ne _ _ (by decide)).trans h1) hm hj (uN_at _ _ _) (by omega)
      rw [← e1] at c4
      exact qm_step (sS_read hE) C 0 9999 100 ([9], [], [(_, g), (_, uN g 6 (nI (q + 2))), (_, _)]) ⟨hat', b92, c4, c3, kz _, rfl, rfl⟩
    · rw [if_neg hl] at C
      have c4 := c1 hl
      have c3 := (xS_atom hE (uN g 6 (nI (q + 1))) n w (-1) j m (q + 1) hn hw k0 k1 hm hj k6 (by omega)).1 rfl
      rw [← e1] at c3 c4
      rw [← e1] at C
      exact qm_step (sS_read hE) C 0 9999 100 ([9], [], [(_, g), (_, _), (_, _)]) ⟨hat', b92, c4, c3, Or.inl rfl, rfl, rfl⟩
  rw [if_neg b92] at C
  by_cases b93 : b = 93
  · rw [if_pos (Or.inl b93), ← e1] at C
    exact qm_step (sS_read hE) C 0 9999 100 ([10], [], [(_, g)]) ⟨hat', b93, Or.inl rfl, rfl, rfl⟩
  by_cases b42 : b = 42
  · rw [if_pos (Or.inr (Or.inl b42)), ← e1] at C
    exact qm_step (sS_read hE) C 0 9999 100 ([4], [], [(_, g)]) ⟨hat', b42, Or.inl rfl, rfl, rfl⟩
  by_cases b43 : b = 43
  · rw [if_pos (Or.inr (Or.inr (Or.inl b43))), ← e1] at C
    exact qm_step (sS_read hE) C 0 9999 100 ([5], [], [(_, g)]) ⟨hat', b43, Or.inl rfl, rfl, rfl⟩
  by_cases b63 : b = 63
  · rw [if_pos (Or.inr (Or.inr (Or.inr b63))), ← e1] at C
    exact qm_step (sS_read hE) C 0 9999 100 ([7], [], [(_, g)]) ⟨hat', b63, Or.inl rfl, rfl, rfl⟩
  · have hno : ¬ (b = 93 ∨ b = 42 ∨ b = 43 ∨ b = 63) := by
      rintro (h | h | h | h) <;> contradiction
    rw [if_neg hno] at C
    have c2 := PL b b
    have c3 := ATM (riT g i tl b b)
    rw [← e1] at c2 c3
    rw [← e1] at C
    have hs : ∀ q ∈ ([(36, 169), (40, 128), (41, 133), (42, 218), (43, 218), (46, 180), (63, 218), (91, 194), (92, 206), (93, 218), (94, 163), (124, 139)] : List (Int32 × Nat)), ¬ b = q.1 := by
      intro q hq h
      simp only [List.mem_cons, List.not_mem_nil, or_false] at hq
      rcases hq with h' | h' | h' | h' | h' | h' | h' | h' | h' | h' | h' | h' <;> subst h' <;> contradiction
    exact qm_step (sS_read hE) C 0 9999 100 ([0], [], [(_, g), (_, _), (_, _)]) ⟨hat', hs, c2, c3, kz _, rfl, rfl⟩
