/-! Search: spread -/
theorem uA_self (g : cG) (j : Nat) (x : Nat → Int32) (h : nA g j = x) : uA g j x = g := by
  have : va_up g.2.2.2.2.2.2 j x = g.2.2.2.2.2.2 := by
    funext k
    by_cases q : k = j
    · subst q; rw [va_up_self]; exact h.symm
    · rw [va_up_ne _ _ q]
  unfold uA
  rw [this]
theorem uA_uA (g : cG) (j : Nat) (x y : Nat → Int32) : uA (uA g j x) j y = uA g j y := by
  have : va_up (va_up g.2.2.2.2.2.2 j x) j y = va_up g.2.2.2.2.2.2 j y := by
    funext k
    by_cases q : k = j
    · subst q; rw [va_up_self, va_up_self]
    · rw [va_up_ne _ _ q, va_up_ne _ _ q, va_up_ne _ _ q]
  unfold uA
  rw [this]
theorem uA_at (g : cG) (j : Nat) (x : Nat → Int32) : nA (uA g j x) j = x := va_up_self _ _ _
theorem uA_ne (g : cG) {j k : Nat} (x : Nat → Int32) (h : k ≠ j) : nA (uA g j x) k = nA g k := va_up_ne _ _ h
def spP (R : Nat → Int32) (fr : Nat → Nat) (mk mv : Nat → Int32) (k : Nat) : Int32 := (R (fr k) &&& mk k) <<< (mv k &&& 31)
def spI (fr tt : Nat → Nat) (mk mv : Nat → Int32) : Nat → Nat → (Nat → Int32) → Int32 → (Nat → Int32) × Int32
  | 0, _, R, gr => (R, gr)
  | r + 1, k, R, gr => if spP R fr mk mv k &&& (R (tt k) ^^^ (-1)) = 0 then spI fr tt mk mv r (k + 1) R gr else spI fr tt mk mv r (k + 1) (upd R (tt k) (R (tt k) ||| spP R fr mk mv k)) 1
theorem spI_s (fr tt : Nat → Nat) (mk mv : Nat → Int32) (r k : Nat) (R : Nat → Int32) (gr : Int32) : spI fr tt mk mv (r + 1) k R gr = if spP R fr mk mv k &&& (R (tt k) ^^^ (-1)) = 0 then spI fr tt mk mv r (k + 1) R gr else spI fr tt mk mv r (k + 1) (upd R (tt k) (R (tt k) ||| spP R fr mk mv k)) 1 := rfl
def spR (fr tt : Nat → Nat) (mk mv : Nat → Int32) (w : Nat) : Nat → (Nat → Int32) → Int32 → (Nat → Int32)
  | 0, R, _ => R
  | r + 1, R, gr => if gr = 0 then R else spR fr tt mk mv w r (spI fr tt mk mv w 0 R 0).1 (spI fr tt mk mv w 0 R 0).2
theorem spR_s (fr tt : Nat → Nat) (mk mv : Nat → Int32) (w r : Nat) (R : Nat → Int32) (gr : Int32) : spR fr tt mk mv w (r + 1) R gr = if gr = 0 then R else spR fr tt mk mv w r (spI fr tt mk mv w 0 R 0).1 (spI fr tt mk mv w 0 R 0).2 := rfl
def sdS (g : cG) (fr tt : Nat → Nat) (w n : Nat) : cG := uA g 0 (spR fr tt (nA g 3) (nA g 4) w 1600 (upd (nA g 0) 0 ((1 <<< ((nI n + 1) &&& 31)) - 1)) 1)
set_option maxHeartbeats 1000000 in
theorem xS_spread {E : cEnv} (hE : cOk E) (g : cG) (fr tt : Nat → Nat) (w i n : Nat) (hw : w ≤ 64) (h1 : nN g 1 = nI w) (hf : ∀ k, k < w → nA g 1 k = nI (fr k) ∧ fr k < 64 ∧ nA g 2 k = nI (tt k) ∧ tt k < 64) (hi : (g.1 i).2.2.2 = nI n) : cSd E mS_spread [qR 7 0, qR 1 i] g none (sdS g fr tt w n) := by
  refine qm_meth hE (by decide) rfl rfl (Nat.le_of_ble_eq_true rfl) ?_
  intro p e st mm args below meth c Q C _ _
  unfold sdS at C
  generalize hz : spR fr tt (nA g 3) (nA g 4) w 1600 (upd (nA g 0) 0 ((1 <<< ((nI n + 1) &&& 31)) - 1)) 1 = z at C
  have outer : ∀ (r y : Nat) (R : Nat → Int32) (gr : Int32) (w4 w5 : Option qm_v), y + r = 1600 → z = spR fr tt (nA g 3) (nA g 4) w r R gr → qm_W (cLa E.2.2.2.1) cV (cHold E) (cA E.2.2.2.1) 6 p E.1 e (rmL 1) st mm args below meth c Q 20 ([some (qR 7 0), some (qR 1 i), some (qI gr), some (qI (nI y)), w4, w5], [], uA g 0 R) := by
    intro r
    induction r with
    | zero =>
      intro y R gr w4 w5 hy hz2
      have hc : (1600 : Int32) ≤ nI y := nI_le (a := 1600) (by omega) (by omega)
      have e1 : uA g 0 R = uA g 0 z := by rw [hz2]; rfl
      exact qm_step (sS_spread hE) C 20 9999 100 ([1], [], []) ⟨hc, rfl, e1⟩
    | succ r ih =>
      intro y R gr w4 w5 hy hz2
      have hc : ¬ (1600 : Int32) ≤ nI y := nI_ge (b := 1600) (by omega) (by omega)
      rw [spR_s] at hz2
      by_cases hg : gr = 0
      · rw [if_pos hg] at hz2
        have e1 : uA g 0 R = uA g 0 z := by rw [hz2]
        exact qm_step (sS_spread hE) C 20 9999 100 ([0, 1], [], []) ⟨hc, hg, rfl, e1⟩
      rw [if_neg hg] at hz2
      have inner : ∀ (x k : Nat) (R2 : Nat → Int32) (gr2 : Int32) (w5 : Option qm_v), k + x = w → spI fr tt (nA g 3) (nA g 4) w 0 R 0 = spI fr tt (nA g 3) (nA g 4) x k R2 gr2 → qm_W (cLa E.2.2.2.1) cV (cHold E) (cA E.2.2.2.1) 6 p E.1 e (rmL 1) st mm args below meth c Q 36 ([some (qR 7 0), some (qR 1 i), some (qI gr2), some (qI (nI y)), some (qI (nI k)), w5], [], uA g 0 R2) := by
        intro x
        induction x with
        | zero =>
          intro k R2 gr2 w5 hk hs
          have hc2 : nN (uA g 0 R2) 1 ≤ nI k := by show nN g 1 ≤ _; rw [h1]; exact nI_le (by omega) (by omega)
          rw [hs] at hz2
          have fin := ih (y + 1) R2 gr2 (some (qI (nI k))) w5 (by omega) hz2
          rw [← nI_1 y] at fin
          exact qm_step (sS_spread hE) C 36 20 100 ([1], [], []) ⟨hc2, fin⟩
        | succ x ihx =>
          intro k R2 gr2 w5 hk hs
          have hc2 : ¬ nN (uA g 0 R2) 1 ≤ nI k := by show ¬ nN g 1 ≤ _; rw [h1]; exact nI_ge (by omega) (by omega)
          obtain ⟨f1, f2, f3, f4⟩ := hf k (by omega)
          have cl : (nI k).toNatClampNeg = k := nI_clamp (by omega)
          have in1 : vp_in (nI k) 64 := vp_in_nI (by omega) (by decide)
          have a0 : nA (uA g 0 R2) 0 = R2 := uA_at _ _ _
          have a1 : nA (uA g 0 R2) 1 = nA g 1 := uA_ne _ _ (by decide)
          have a2 : nA (uA g 0 R2) 2 = nA g 2 := uA_ne _ _ (by decide)
          have a3 : nA (uA g 0 R2) 3 = nA g 3 := uA_ne _ _ (by decide)
          have a4 : nA (uA g 0 R2) 4 = nA g 4 := uA_ne _ _ (by decide)
          have in2 : vp_in (nA (uA g 0 R2) 1 (nI k).toNatClampNeg) 64 := by rw [a1, cl, f1]; exact vp_in_nI f2 (by decide)
          have in3 : vp_in (nA (uA g 0 R2) 2 (nI k).toNatClampNeg) 64 := by rw [a2, cl, f3]; exact vp_in_nI f4 (by decide)
          have eP : (nA (uA g 0 R2) 0 (nA (uA g 0 R2) 1 (nI k).toNatClampNeg).toNatClampNeg &&& nA (uA g 0 R2) 3 (nI k).toNatClampNeg) <<< (nA (uA g 0 R2) 4 (nI k).toNatClampNeg &&& 31) = spP R2 fr (nA g 3) (nA g 4) k := by rw [a0, a1, a3, a4, cl, f1, nI_clamp (by omega)]; rfl
          have eT : nA (uA g 0 R2) 0 (nA (uA g 0 R2) 2 (nI k).toNatClampNeg).toNatClampNeg = R2 (tt k) := by rw [a0, a2, cl, f3, nI_clamp (by omega)]
          rw [spI_s] at hs
          by_cases h0 : spP R2 fr (nA g 3) (nA g 4) k &&& (R2 (tt k) ^^^ (-1)) = 0
          · rw [if_pos h0] at hs
            have fin := ihx (k + 1) R2 gr2 (some (qI (spP R2 fr (nA g 3) (nA g 4) k))) (by omega) hs
            rw [← nI_1 k, ← eP] at fin
            rw [← eP, ← eT] at h0
            exact qm_step (sS_spread hE) C 36 36 100 ([0, 1], [], []) ⟨hc2, in1, in2, in1, in1, in1, in3, h0, fin⟩
          · rw [if_neg h0] at hs
            have fin := ihx (k + 1) _ 1 (some (qI (spP R2 fr (nA g 3) (nA g 4) k))) (by omega) hs
            have eU : uA (uA g 0 R2) 0 (upd (nA (uA g 0 R2) 0) (nA (uA g 0 R2) 2 (nI k).toNatClampNeg).toNatClampNeg (nA (uA g 0 R2) 0 (nA (uA g 0 R2) 2 (nI k).toNatClampNeg).toNatClampNeg ||| ((nA (uA g 0 R2) 0 (nA (uA g 0 R2) 1 (nI k).toNatClampNeg).toNatClampNeg &&& nA (uA g 0 R2) 3 (nI k).toNatClampNeg) <<< (nA (uA g 0 R2) 4 (nI k).toNatClampNeg &&& 31)))) = uA g 0 (upd R2 (tt k) (R2 (tt k) ||| spP R2 fr (nA g 3) (nA g 4) k)) := by
              rw [eP, eT, uA_uA, a2, cl, f3, nI_clamp (by omega), a0]
            rw [← nI_1 k, ← eU, ← eP] at fin
            rw [← eP, ← eT] at h0
            exact qm_step (sS_spread hE) C 36 36 100 ([0, 0], [], []) ⟨hc2, in1, in2, in1, in1, in1, in3, h0, in1, in3, in3, fin⟩
      have fin := inner w 0 R 0 w5 (by omega) rfl
      exact qm_step (sS_spread hE) C 20 36 100 ([0, 0], [], []) ⟨hc, hg, fin⟩
  have fin := outer 1600 0 _ 1 none none (by omega) hz.symm
  have e1 : uA g 0 (upd (nA g 0) 0 ((1 <<< (((g.1 i).2.2.2 + 1) &&& 31)) - 1)) = uA g 0 (upd (nA g 0) 0 ((1 <<< ((nI n + 1) &&& 31)) - 1)) := by rw [hi]
  rw [← e1] at fin
  have hin : vp_in (0 : Int32) 64 := vp_in_nI (n := 0) (by decide) (by decide)
  exact qm_step (sS_spread hE) C 0 20 100 ([], [], []) ⟨hin, fin⟩
