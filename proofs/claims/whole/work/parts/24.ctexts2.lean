/-! Texts: split, seek, turn, reckon -/
def spS (op : Int32) (g : cG) (i a n : Nat) (pl : Option Nat) (w : Nat) : cG := match pl with
  | none => stS g i 0
  | some q => if op = 18 then apN (stS g i (g.1 a).2.2.1) i (bsl g a 0 q) else apN (stS g i (g.1 a).2.2.1) i (bsl g a (q + w) (n - (q + w)))
theorem xT_split {E : cEnv} (hE : cOk E) (op : Int32) (g : cG) (i a n : Nat) (pl : Option Nat) (w : Nat) (hai : a ≠ i) (hn : n ≤ 24) (ha : (g.1 a).2.2.2 = nI n) (hp : ∀ q, pl = some q → q + w ≤ n) : cSd E mT_split [qI op, qR 1 i, qR 1 a, qI (fdI pl), qI (nI w)] g none (spS op g i a n pl w) := by
  refine qm_meth hE (by decide) rfl rfl (Nat.le_of_ble_eq_true rfl) ?_
  intro p e st mm args below meth c Q C _ _
  unfold spS at C
  rcases pl with _ | q
  · exact qm_step (sT_split hE) C 0 9999 100 ([0], [], [(none, _)]) ⟨show ¬ (0 : Int32) ≤ -1 by decide, xV_startText hE g i 0, rfl, rfl⟩
  · have hq := hp q rfl
    have h0 : (0 : Int32) ≤ nI q := nI_pos' (by omega)
    by_cases h1 : op = 18
    · have C := by simpa only [if_pos h1] using C
      have h := xV_appendPart hE (stS g i (g.1 a).2.2.1) i a 0 q n hai (stS_ok _ _ _) hn (by rw [stS_V _ _ hai]; exact ha) (by omega)
      rw [Nat.zero_add] at h
      exact qm_step (sT_split hE) C 0 9999 100 ([1, 0], [], [(none, _), (none, _)]) ⟨h0, xV_startText hE g i _, h1, h, rfl, rfl⟩
    · have C := by simpa only [if_neg h1] using C
      have h := xV_appendPart hE (stS g i (g.1 a).2.2.1) i a (q + w) (n - (q + w)) n hai (stS_ok _ _ _) hn (by rw [stS_V _ _ hai]; exact ha) (by omega)
      rw [show q + w + (n - (q + w)) = n by omega, ← nI_add, ← ha] at h
      have h2 : cSd E mV_appendPart [qR 1 i, qR 1 a, qI (nI q + nI w), qI ((stS g i (g.1 a).2.2.1).1 a).2.2.2] (stS g i (g.1 a).2.2.1) none (apN (stS g i (g.1 a).2.2.1) i (bsl g a (q + w) (n - (q + w)))) := by rw [stS_V _ _ hai]; exact h
      exact qm_step (sT_split hE) C 0 9999 100 ([1, 1], [], [(none, _), (none, _)]) ⟨h0, xV_startText hE g i _, h1, h2, rfl, rfl⟩
def sTr (g : cG) (i : Nat) (t : Int32) : cG := uV g i (if t = -1 then 0 else 1, t.toInt64, (g.1 i).2.2)
def fdLt : Option Nat → Int32
  | some _ => 1
  | none => 0
def fdZ : Option Nat → Int32
  | some 0 => 1
  | _ => 0
/-- does a end with b -/
def ndB (g : cG) (a n b k : Nat) : Bool := decide (k ≤ n) && hbA g a (n - k) b k
def skS (op : Int32) (g : cG) (i a n b k : Nat) : cG :=
  if ¬ (g.1 b).1 = 3 ∨ (¬ (g.1 b).2.2.1 = 0 ∧ ¬ (g.1 b).2.2.1 = (g.1 a).2.2.1) then seS g i
  else if op = 15 then sTr g i (fdLt (fdP g a b n k)) else if op = 16 then sTr g i (fdZ (fdP g a b n k))
  else if op = 17 then sTr g i (if ndB g a n b k then 1 else 0) else spS op g i a n (fdP g a b n k) k
theorem fdP_in {g : cG} {i j a b q : Nat} (h : fdP g i j a b = some q) : q + b ≤ a := by
  unfold fdP at h
  have := List.mem_range.mp (List.mem_of_find?_eq_some h)
  omega
theorem xT_seek {E : cEnv} (hE : cOk E) (op : Int32) (g : cG) (i a n b k : Nat) (hai : a ≠ i) (hn : n ≤ 24) (hk : k ≤ 24) (ha : (g.1 a).2.2.2 = nI n) (hb : (g.1 b).1 = 3 → (g.1 b).2.2.2 = nI k) : cSd E mT_seek [qI op, qR 1 i, qR 1 a, qR 1 b] g none (skS op g i a n b k) := by
  refine qm_meth hE (by decide) rfl rfl (Nat.le_of_ble_eq_true rfl) ?_
  intro p e st mm args below meth c Q C _ _
  have t1 := xU_truth hE g 1
  have t0 := xU_truth hE g 0
  rw [show tB 1 = 1 from by decide] at t1
  rw [show tB 0 = 0 from by decide] at t0
  unfold skS at C
  by_cases h1 : (g.1 b).1 = 3
  · have hb := hb h1
    by_cases hbad : ¬ (g.1 b).2.2.1 = 0 ∧ ¬ (g.1 b).2.2.1 = (g.1 a).2.2.1
    · rw [if_pos (Or.inr hbad)] at C
      exact qm_step (sT_seek hE) C 0 9999 100 ([0, 0, 0], [], [(none, _)]) ⟨h1, hbad.1, hbad.2, xV_setError hE g i, rfl, rfl⟩
    · rw [if_neg (fun q => q.elim (fun z => z h1) hbad)] at C
      have hf := xV_find hE g a b n k ha hb hn hk
      -- from 31 on, the same for both ways there
      have rest : ∀ x : Option qm_v, qm_W (cLa E.2.2.2.1) cV (cHold E) (cA E.2.2.2.1) 5 p E.1 e (rmL 4) st mm args below meth c Q 31 ([some (qI op), some (qR 1 i), some (qR 1 a), some (qR 1 b), x], [], g) := by
        intro x
        by_cases h15 : op = 15
        · rw [if_pos h15] at C
          rcases hq : fdP g a b n k with _ | q
          · rw [hq] at C hf
            exact qm_step (sT_seek hE) C 31 9999 100 ([1, 1], [], [(_, g), (some (qI 0), g), (none, _)]) ⟨hf, h15, show (-1 : Int32) < 0 by decide, t0, xV_setTruth hE g i 0, rfl, rfl⟩
          · rw [hq] at C hf
            exact qm_step (sT_seek hE) C 31 9999 100 ([1, 0], [], [(_, g), (some (qI 1), g), (none, _)]) ⟨hf, h15, show ¬ nI q < 0 from nI_pos (by have := fdP_in hq; omega), t1, xV_setTruth hE g i 1, rfl, rfl⟩
        rw [if_neg h15] at C
        by_cases h16 : op = 16
        · rw [if_pos h16] at C
          rcases hq : fdP g a b n k with _ | _ | q
          · rw [hq] at C hf
            exact qm_step (sT_seek hE) C 31 9999 100 ([2, 1], [], [(_, g), (some (qI 0), g), (none, _)]) ⟨hf, h16, show ¬ (-1 : Int32) = 0 by decide, t0, xV_setTruth hE g i 0, rfl, rfl⟩
          · rw [hq] at C hf
            exact qm_step (sT_seek hE) C 31 9999 100 ([2, 0], [], [(_, g), (some (qI 1), g), (none, _)]) ⟨hf, h16, show nI 0 = 0 from rfl, t1, xV_setTruth hE g i 1, rfl, rfl⟩
          · rw [hq] at C hf
            exact qm_step (sT_seek hE) C 31 9999 100 ([2, 1], [], [(_, g), (some (qI 0), g), (none, _)]) ⟨hf, h16, show ¬ nI (q + 1) = 0 from nI_ne0 (by omega) (by have := fdP_in hq; omega), t0, xV_setTruth hE g i 0, rfl, rfl⟩
        rw [if_neg h16] at C
        by_cases h17 : op = 17
        · rw [if_pos h17] at C
          unfold ndB at C
          by_cases hkn : k ≤ n
          · have hh := xV_hasAt_in hE g a b (n - k) n k ha hb hn (by omega)
            rw [← pk_sub hkn, ← ha, ← hb] at hh
            by_cases hx : hbA g a (n - k) b k = true
            · rw [if_pos hx] at hh
              rw [if_pos (by simp [hkn, hx])] at C
              exact qm_step (sT_seek hE) C 31 9999 100 ([3], [], [(_, g), (some (qI 1), g), (some (qI 1), g), (none, _)]) ⟨hf, h17, hh, t1, xV_setTruth hE g i 1, rfl, rfl⟩
            · rw [if_neg hx] at hh
              rw [if_neg (by simp [hkn, hx])] at C
              exact qm_step (sT_seek hE) C 31 9999 100 ([3], [], [(_, g), (some (qI 0), g), (some (qI 0), g), (none, _)]) ⟨hf, h17, hh, t0, xV_setTruth hE g i 0, rfl, rfl⟩
          · have hneg : (g.1 a).2.2.2 - (g.1 b).2.2.2 < 0 := by rw [ha, hb]; exact pk_sneg (by omega) (by omega)
            have hh := xV_hasAt_neg hE g a b _ hneg
            rw [if_neg (by simp [hkn])] at C
            exact qm_step (sT_seek hE) C 31 9999 100 ([3], [], [(_, g), (some (qI 0), g), (some (qI 0), g), (none, _)]) ⟨hf, h17, hh, t0, xV_setTruth hE g i 0, rfl, rfl⟩
        rw [if_neg h17] at C
        have hdf : ∀ q ∈ ([(15, 64), (16, 84), (17, 104)] : List (Int32 × Nat)), ¬ op = q.1 := by
          intro q hq
          simp only [List.mem_cons, List.mem_nil_iff, or_false] at hq
          rcases hq with rfl | rfl | rfl
          · exact h15
          · exact h16
          · exact h17
        have hs := xT_split hE op g i a n (fdP g a b n k) k hai hn ha (fun q hq => fdP_in hq)
        rw [← hb] at hs
        exact qm_step (sT_seek hE) C 31 9999 100 ([0], [], [(_, g), (none, _)]) ⟨hf, hdf, hs, rfl, rfl⟩
      by_cases h2 : (g.1 b).2.2.1 = 0
      · exact qm_step (sT_seek hE) C 0 31 100 ([0, 1], [], []) ⟨h1, h2, rest _⟩
      · have h3 : (g.1 b).2.2.1 = (g.1 a).2.2.1 := Classical.not_not.mp fun q => hbad ⟨h2, q⟩
        exact qm_step (sT_seek hE) C 0 31 100 ([0, 0, 1], [], []) ⟨h1, h2, h3, rest _⟩
  · rw [if_pos (Or.inl h1)] at C
    exact qm_step (sT_seek hE) C 0 9999 100 ([1], [], [(none, _)]) ⟨h1, xV_setError hE g i, rfl, rfl⟩
-- TURNED
def hbQ (g : cG) (a n q b k : Nat) : Bool := decide (q + k ≤ n) && hbA g a q b k
def trL (g : cG) (a n b k d m : Nat) : Nat → Nat → Nat → List Int32
  | 0, _, _ => []
  | r + 1, q, be => if q < be then trL g a n b k d m r (q + 1) be else if hbQ g a n q b k = true then bsl g d 0 m ++ trL g a n b k d m r (q + 1) (q + k) else g.2.1 a q :: trL g a n b k d m r (q + 1) be
theorem trL_s (g : cG) (a n b k d m r q be : Nat) : trL g a n b k d m (r + 1) q be = if q < be then trL g a n b k d m r (q + 1) be else if hbQ g a n q b k = true then bsl g d 0 m ++ trL g a n b k d m r (q + 1) (q + k) else g.2.1 a q :: trL g a n b k d m r (q + 1) be := rfl
theorem xV_hasAt_Q {E : cEnv} (hE : cOk E) (g : cG) (i j q a b : Nat) (ha : (g.1 i).2.2.2 = nI a) (hb : (g.1 j).2.2.2 = nI b) (ha2 : a ≤ 24) (hb2 : b ≤ 24) (hq : q ≤ 24) : cSd E mV_hasAt [qR 1 i, qI (nI q), qR 1 j] g (some (qI (if hbQ g i a q j b then 1 else 0))) g := by
  unfold hbQ
  by_cases h : q + b ≤ a
  · have := xV_hasAt_in hE g i j q a b ha hb ha2 h
    simpa [h] using this
  · have := xV_hasAt_over hE g i j q a b ha hb ha2 hb2 hq (by omega)
    simpa [h] using this
theorem hbQ_of {g h : cG} {a b : Nat} (e1 : g.2.1 a = h.2.1 a) (e2 : g.2.1 b = h.2.1 b) (n q k : Nat) : hbQ g a n q b k = hbQ h a n q b k := by unfold hbQ hbA; rw [e1, e2]
def tuS (g : cG) (i a n b k d m : Nat) : cG :=
  if ¬ ((g.1 b).1 = 3 ∧ (g.1 b).2.2.1 = 0) ∨ ¬ ((g.1 d).1 = 3 ∧ (g.1 d).2.2.1 = 0) ∨ k = 0 then seS g i
  else apN (stS g i (g.1 a).2.2.1) i (trL g a n b k d m n 0 0)
set_option maxHeartbeats 200000 in
theorem xT_turn {E : cEnv} (hE : cOk E) (g : cG) (i a n b k d m : Nat) (hai : a ≠ i) (hbi : b ≠ i) (hdi : d ≠ i) (hn : n ≤ 24) (hk : k ≤ 24) (hm : m ≤ 24) (ha : (g.1 a).2.2.2 = nI n) (hb : (g.1 b).1 = 3 → (g.1 b).2.2.2 = nI k) (hd : (g.1 d).1 = 3 → (g.1 d).2.2.2 = nI m) : cSd E mT_turn [qR 1 i, qR 1 a, qR 1 b, qR 1 d] g none (tuS g i a n b k d m) := by
  refine qm_meth hE (by decide) rfl rfl (Nat.le_of_ble_eq_true rfl) ?_
  intro p e st mm args below meth c Q C _ _
  have p1 := xT_isPlain hE g b
  have p2 := xT_isPlain hE g d
  unfold tuS at C
  by_cases h1 : (g.1 b).1 = 3 ∧ (g.1 b).2.2.1 = 0
  · rw [if_pos h1] at p1
    by_cases h2 : (g.1 d).1 = 3 ∧ (g.1 d).2.2.1 = 0
    · rw [if_pos h2] at p2
      have hb := hb h1.1
      have hd := hd h2.1
      by_cases h3 : k = 0
      · rw [if_pos (Or.inr (Or.inr h3))] at C
        exact qm_step (sT_turn hE) C 0 9999 100 ([0, 0, 0], [], [(_, g), (_, g), (none, _)]) ⟨p1, by decide, p2, by decide, by rw [hb, h3]; rfl, xV_setError hE g i, rfl, rfl⟩
      · rw [if_neg (fun q => q.elim (fun z => z h1) (fun z => z.elim (fun y => y h2) h3))] at C
        have loop : ∀ (r q be : Nat) (w z : Int32) (g1 : cG), q + r = n → be ≤ 48 → w = nI q → z = nI be → okT g1 i → (∀ j, j ≠ i → g1.1 j = g.1 j) → (∀ j, j ≠ i → g1.2.1 j = g.2.1 j) → apN g1 i (trL g a n b k d m r q be) = apN (stS g i (g.1 a).2.2.1) i (trL g a n b k d m n 0 0) → qm_W (cLa E.2.2.2.1) cV (cHold E) (cA E.2.2.2.1) 6 p E.1 e (rmL 3) st mm args below meth c Q 40 ([some (qR 1 i), some (qR 1 a), some (qR 1 b), some (qR 1 d), some (qI z), some (qI w)], [], g1) := by
          intro r
          induction r with
          | zero =>
            intro q be w z g1 hq _ hw hz _ v1 _ hf
            subst hw hz
            have hc : (g1.1 a).2.2.2 ≤ nI q := by rw [v1 a hai, ha]; exact nI_le (by omega) (by omega)
            exact qm_step (sT_turn hE) C 40 9999 100 ([1], [], []) ⟨hc, rfl, hf⟩
          | succ r ih =>
            intro q be w z g1 hq hbe hw hz ho v1 v2 hf
            subst hw hz
            have hc : ¬ (g1.1 a).2.2.2 ≤ nI q := by rw [v1 a hai, ha]; exact nI_ge (by omega) (by omega)
            rw [trL_s] at hf
            by_cases h4 : q < be
            · rw [if_pos h4] at hf
              have hc2 : ¬ nI be ≤ nI q := nI_ge h4 (by omega)
              exact qm_step (sT_turn hE) C 40 40 100 ([0, 0], [], []) ⟨hc, hc2, ih (q + 1) be _ _ g1 (by omega) hbe (by rw [nI_1]) rfl ho v1 v2 hf⟩
            · rw [if_neg h4] at hf
              have hc2 : nI be ≤ nI q := nI_le (by omega) (by omega)
              have hh := xV_hasAt_Q hE g1 a b q n k (by rw [v1 a hai]; exact ha) (by rw [v1 b hbi]; exact hb) hn hk (by omega)
              rw [hbQ_of (v2 a hai) (v2 b hbi)] at hh
              by_cases h5 : hbQ g a n q b k = true
              · rw [if_pos h5] at hf hh
                have hap := xV_appendPart hE g1 i d 0 m m hdi ho hm (by rw [v1 d hdi]; exact hd) (by omega)
                rw [Nat.zero_add, bsl_of (v2 d hdi)] at hap
                have hap2 : cSd E mV_appendPart [qR 1 i, qR 1 d, qI 0, qI (g1.1 d).2.2.2] g1 none (apN g1 i (bsl g d 0 m)) := by rw [v1 d hdi, hd]; exact hap
                have hz2 : nI q + ((apN g1 i (bsl g d 0 m)).1 b).2.2.2 = nI (q + k) := by rw [apN_V i hbi, v1 b hbi, hb, nI_add]
                have w1 : ∀ j, j ≠ i → (apN g1 i (bsl g d 0 m)).1 j = g.1 j := fun j hj => (apN_V i hj _ _).trans (v1 j hj)
                have w2 : ∀ j, j ≠ i → (apN g1 i (bsl g d 0 m)).2.1 j = g.2.1 j := fun j hj => (apN_B i hj _ _).trans (v2 j hj)
                rw [apN_app] at hf
                have fin : qm_W (cLa E.2.2.2.1) cV (cHold E) (cA E.2.2.2.1) 6 p E.1 e (rmL 3) st mm args below meth c Q 40 ([some (qR 1 i), some (qR 1 a), some (qR 1 b), some (qR 1 d), some (qI (nI q + ((apN g1 i (bsl g d 0 m)).1 b).2.2.2)), some (qI (nI q + 1))], [], apN g1 i (bsl g d 0 m)) := ih (q + 1) (q + k) _ _ _ (by omega) (by omega) (nI_1 q) hz2 (apN_ok _ ho) w1 w2 hf
                exact qm_step (sT_turn hE) C 40 40 100 ([0, 1, 0], [], [(some (qI 1), g1), (none, apN g1 i (bsl g d 0 m))]) ⟨hc, hc2, hh, by decide, hap2, fin⟩
              · rw [if_neg h5] at hf hh
                have hat := xV_at_yes hE g1 a q n (by omega) hn (by rw [v1 a hai]; exact ha)
                have hap := xV_append hE g1 i (g1.2.1 a q) ho
                have w1 : ∀ j, j ≠ i → (apS g1 i (g1.2.1 a q)).1 j = g.1 j := fun j hj => (apS_V _ _ _ hj).trans (v1 j hj)
                have w2 : ∀ j, j ≠ i → (apS g1 i (g1.2.1 a q)).2.1 j = g.2.1 j := fun j hj => (apS_B _ _ _ hj).trans (v2 j hj)
                have hf2 : apN (apS g1 i (g1.2.1 a q)) i (trL g a n b k d m r (q + 1) be) = apN (stS g i (g.1 a).2.2.1) i (trL g a n b k d m n 0 0) := by rw [← hf, v2 a hai]; rfl
                have fin : qm_W (cLa E.2.2.2.1) cV (cHold E) (cA E.2.2.2.1) 6 p E.1 e (rmL 3) st mm args below meth c Q 40 ([some (qR 1 i), some (qR 1 a), some (qR 1 b), some (qR 1 d), some (qI (nI be)), some (qI (nI q + 1))], [], apS g1 i (g1.2.1 a q)) := ih (q + 1) be _ _ _ (by omega) hbe (nI_1 q) rfl (apS_ok ho _) w1 w2 hf2
                exact qm_step (sT_turn hE) C 40 40 100 ([0, 1, 1], [], [(some (qI 0), g1), (some (qI (g1.2.1 a q)), g1), (none, apS g1 i (g1.2.1 a q))]) ⟨hc, hc2, hh, rfl, hat, hap, fin⟩
        exact qm_step (sT_turn hE) C 0 40 100 ([0, 0, 1], [], [(_, g), (_, g), (none, _)]) ⟨p1, by decide, p2, by decide, by rw [hb]; exact nI_ne0 (by omega) (by omega), xV_startText hE g i _, loop n 0 0 _ _ (stS g i (g.1 a).2.2.1) (by omega) (by omega) rfl rfl (stS_ok _ _ _) (fun j hj => stS_V _ _ hj) (fun j _ => rfl) rfl⟩
    · rw [if_neg h2] at p2
      rw [if_pos (Or.inr (Or.inl h2))] at C
      exact qm_step (sT_turn hE) C 0 9999 100 ([0, 1], [], [(_, g), (_, g), (none, _)]) ⟨p1, by decide, p2, rfl, xV_setError hE g i, rfl, rfl⟩
  · rw [if_neg h1] at p1
    rw [if_pos (Or.inl h1)] at C
    exact qm_step (sT_turn hE) C 0 9999 100 ([1], [], [(_, g), (none, _)]) ⟨p1, rfl, xV_setError hE g i, rfl, rfl⟩
