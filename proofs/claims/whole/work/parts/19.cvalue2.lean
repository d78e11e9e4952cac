/-! Value's methods with loops: append, part by part -/
/-- the value's length is a small number, if it is a TEXT -/
def okT (g : cG) (i : Nat) : Prop := (g.1 i).1 = 3 → ∃ n : Nat, n ≤ 24 ∧ (g.1 i).2.2.2 = nI n
def apS (g : cG) (i : Nat) (c : Int32) : cG := if (g.1 i).1 = 3 then (if (g.1 i).2.2.2 < 24 then uVB g i (3, (g.1 i).2.1, (g.1 i).2.2.1, (g.1 i).2.2.2 + 1) (upd (g.2.1 i) (g.1 i).2.2.2.toNatClampNeg c.toInt8.toInt32) else uV g i (0, (g.1 i).2)) else g
theorem apS_V (g : cG) (i : Nat) (c : Int32) {j : Nat} (h : j ≠ i) : (apS g i c).1 j = g.1 j := by
  unfold apS
  split
  · split
    · exact uV_ne _ _ h
    · exact uV_ne _ _ h
  · rfl
theorem apS_B (g : cG) (i : Nat) (c : Int32) {j : Nat} (h : j ≠ i) : (apS g i c).2.1 j = g.2.1 j := by
  unfold apS
  split
  · split
    · exact uB_ne _ _ h
    · rfl
  · rfl
theorem apS_r (g : cG) (i : Nat) (c : Int32) : (apS g i c).2.2 = g.2.2 := by
  unfold apS
  split
  · split <;> rfl
  · rfl
theorem apS_ok {g : cG} {i : Nat} (h : okT g i) (c : Int32) : okT (apS g i c) i := by
  unfold apS
  split
  · rename_i h3
    split
    · rename_i h4
      intro _
      obtain ⟨n, hn, he⟩ := h h3
      have hn2 : n < 24 := by
        rcases Nat.lt_or_ge n 24 with q | q
        · exact q
        · rw [he] at h4; exact absurd h4 (nI_nlt (b := 24) q (by omega))
      exact ⟨n + 1, hn2, by show ((uV (uB g i _) i _).1 i).2.2.2 = _; rw [uV_at, he, nI_1]⟩
    · intro h5
      rw [uV_at] at h5
      exact absurd (show (0 : Int32) = 3 from h5) (by decide)
  · exact h
theorem xV_append {E : cEnv} (hE : cOk E) (g : cG) (i : Nat) (c : Int32) (h : okT g i) : cSd E mV_append [qR 1 i, qI c] g none (apS g i c) := by
  unfold apS
  split
  · rename_i h3
    obtain ⟨n, hn, he⟩ := h h3
    split
    · rename_i h4
      have hn2 : n < 24 := by
        rcases Nat.lt_or_ge n 24 with q | q
        · exact q
        · rw [he] at h4; exact absurd h4 (nI_nlt (b := 24) q (by omega))
      have := xV_append_yes hE g i c n hn2 h3 he
      rw [he, nI_1, nI_clamp (by omega)]
      exact this
    · rename_i h4
      exact xV_append_full hE g i c h3 h4
  · rename_i h3
    exact xV_append_no hE g i c h3
def apN (g : cG) (i : Nat) (l : List Int32) : cG := l.foldl (fun g c => apS g i c) g
theorem apN_V (i : Nat) {j : Nat} (h : j ≠ i) : ∀ (l : List Int32) (g : cG), (apN g i l).1 j = g.1 j
  | [], _ => rfl
  | c :: l, g => (apN_V i h l (apS g i c)).trans (apS_V g i c h)
theorem apN_B (i : Nat) {j : Nat} (h : j ≠ i) : ∀ (l : List Int32) (g : cG), (apN g i l).2.1 j = g.2.1 j
  | [], _ => rfl
  | c :: l, g => (apN_B i h l (apS g i c)).trans (apS_B g i c h)
theorem apN_r (i : Nat) : ∀ (l : List Int32) (g : cG), (apN g i l).2.2 = g.2.2
  | [], _ => rfl
  | c :: l, g => (apN_r i l (apS g i c)).trans (apS_r g i c)
theorem apN_ok {i : Nat} : ∀ (l : List Int32) {g : cG}, okT g i → okT (apN g i l) i
  | [], _, h => h
  | c :: l, _, h => apN_ok l (apS_ok h c)
/-- the bytes s .. s + m - 1 of value j -/
def bsl (g : cG) (j s m : Nat) : List Int32 := (List.range' s m).map (g.2.1 j)
theorem xV_appendPart {E : cEnv} (hE : cOk E) (g : cG) (i j s m n : Nat) (hij : j ≠ i) (h : okT g i) (hn : n ≤ 24) (hj : (g.1 j).2.2.2 = nI n) (hs : s + m ≤ n) : cSd E mV_appendPart [qR 1 i, qR 1 j, qI (nI s), qI (nI (s + m))] g none (apN g i (bsl g j s m)) := by
  refine qm_meth hE (by decide) rfl rfl (Nat.le_of_ble_eq_true rfl) ?_
  intro p e st mm args below meth c Q C _ _
  have loop : ∀ (k a : Nat) (z w : Int32) (g1 : cG), a + k = s + m → z = nI (s + m) → w = nI a → okT g1 i → (g1.1 j).2.2.2 = nI n → g1.2.1 j = g.2.1 j → apN g1 i (bsl g j a k) = apN g i (bsl g j s m) → qm_W (cLa E.2.2.2.1) cV (cHold E) (cA E.2.2.2.1) 6 p E.1 e (rmL 2) st mm args below meth c Q 17 ([some (qR 1 i), some (qR 1 j), some (qI (nI s)), some (qI (nI (s + m))), some (qI z), some (qI w)], [], g1) := by
    intro k
    induction k with
    | zero =>
      intro a z w g1 ha hz hw _ _ _ hf
      subst hz hw
      have hc : nI (s + m) ≤ nI a := nI_le (by omega) (by omega)
      exact qm_step (sV_appendPart hE) C 17 9999 100 ([1], [], []) ⟨hc, rfl, hf⟩
    | succ k ih =>
      intro a z w g1 ha hz hw hk hj1 hb hf
      subst hz hw
      have hc : ¬ nI (s + m) ≤ nI a := nI_ge (by omega) (by omega)
      have hat := xV_at_yes hE g1 j a n (by omega) hn hj1
      have hap := xV_append hE g1 i (g1.2.1 j a) hk
      refine qm_step (sV_appendPart hE) C 17 17 100 ([0], [], [(some (qI (g1.2.1 j a)), g1), (none, apS g1 i (g1.2.1 j a))]) ⟨hc, hat, hap, ?_⟩
      refine ih (a + 1) _ _ _ (by omega) rfl (by rw [nI_1]) (apS_ok hk _) (by rw [apS_V _ _ _ hij]; exact hj1) (by rw [apS_B _ _ _ hij]; exact hb) ?_
      rw [← hf, hb]
      rfl
  have hmin : (if (g.1 j).2.2.2 < nI (s + m) then (g.1 j).2.2.2 else nI (s + m)) = nI (s + m) := by
    rw [hj, if_neg (nI_nlt hs (by omega))]
  have hmax : (if nI s < 0 then 0 else nI s) = nI s := if_neg (nI_pos (by omega))
  exact qm_step (sV_appendPart hE) C 0 17 100 ([], [], []) (loop m s _ _ g rfl hmin hmax h hj rfl rfl)
