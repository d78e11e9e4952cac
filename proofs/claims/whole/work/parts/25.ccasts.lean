/-! Texts.reckon, digits, Casts -/
/-- what a TEXT operation writes into value i; n, k, m: the lengths of a, b, d -/
def txS (op : Int32) (g : cG) (i a n b k d m : Nat) : cG :=
  if ¬ (g.1 a).1 = 3 then seS g i
  else if op = 10 then swS g i (g.1 a).2.2.2.toInt64
  else if op = 11 then (if ¬ (g.1 b).1 = 2 ∨ ¬ (g.1 d).1 = 2 then seS g i else ptS g i a n (g.1 b).2.1 (g.1 d).2.1)
  else if op = 12 then rsS g i a n 97 (-32) else if op = 13 then rsS g i a n 65 32
  else if op = 14 then (if (g.1 b).1 = 3 then jnS g i a n b k else seS g i)
  else if op = 20 then tlS g i a else if op = 28 then tuS g i a n b k d m else skS op g i a n b k
theorem xT_reckon {E : cEnv} (hE : cOk E) (hX : qm_Nx E) (op : Int32) (g : cG) (i a n b k d m : Nat) (hai : a ≠ i) (hbi : b ≠ i) (hdi : d ≠ i) (hn : n ≤ 24) (hk : k ≤ 24) (hm : m ≤ 24) (ha : (g.1 a).1 = 3 → (g.1 a).2.2.2 = nI n) (hb : (g.1 b).1 = 3 → (g.1 b).2.2.2 = nI k) (hd : (g.1 d).1 = 3 → (g.1 d).2.2.2 = nI m) (hbw : (g.1 b).1 = 2 → -1000000000000000 ≤ (g.1 b).2.1.toInt ∧ (g.1 b).2.1.toInt ≤ 1000000000000000) (hdw : (g.1 d).1 = 2 → -1000000000000000 ≤ (g.1 d).2.1.toInt ∧ (g.1 d).2.1.toInt ≤ 1000000000000000) : cSd E mT_reckon [qI op, qR 1 i, qR 1 a, qR 1 b, qR 1 d] g none (txS op g i a n b k d m) := by
  refine qm_meth hE (by decide) rfl rfl (Nat.le_of_ble_eq_true rfl) ?_
  intro p e st mm args below meth c Q C _ _
  unfold txS at C
  by_cases h0 : (g.1 a).1 = 3
  · rw [if_neg (fun q => q h0)] at C
    have ha := ha h0
    by_cases h1 : op = 10
    · rw [if_pos h1] at C
      exact qm_step (sT_reckon hE) C 0 9999 100 ([1, 1], [], [(none, _)]) ⟨h0, h1, xV_setW hE hX g i _, rfl, rfl⟩
    rw [if_neg h1] at C
    by_cases h2 : op = 11
    · rw [if_pos h2] at C
      exact qm_step (sT_reckon hE) C 0 9999 100 ([1, 2], [], [(none, _)]) ⟨h0, h2, xT_part hE g i a b d n hai hn ha hbw hdw, rfl, rfl⟩
    rw [if_neg h2] at C
    by_cases h3 : op = 12
    · rw [if_pos h3] at C
      exact qm_step (sT_reckon hE) C 0 9999 100 ([1, 3], [], [(none, _)]) ⟨h0, h3, xT_resize hE g i a n 97 (-32) hai hn ha, rfl, rfl⟩
    rw [if_neg h3] at C
    by_cases h4 : op = 13
    · rw [if_pos h4] at C
      exact qm_step (sT_reckon hE) C 0 9999 100 ([1, 4], [], [(none, _)]) ⟨h0, h4, xT_resize hE g i a n 65 32 hai hn ha, rfl, rfl⟩
    rw [if_neg h4] at C
    by_cases h5 : op = 14
    · rw [if_pos h5] at C
      exact qm_step (sT_reckon hE) C 0 9999 100 ([1, 5], [], [(none, _)]) ⟨h0, h5, xT_join hE g i a n b k hai hbi hn hk ha hb, rfl, rfl⟩
    rw [if_neg h5] at C
    by_cases h6 : op = 20
    · rw [if_pos h6] at C
      exact qm_step (sT_reckon hE) C 0 9999 100 ([1, 6], [], [(none, _)]) ⟨h0, h6, xT_tagLetter hE g i a hai, rfl, rfl⟩
    rw [if_neg h6] at C
    by_cases h7 : op = 28
    · rw [if_pos h7] at C
      exact qm_step (sT_reckon hE) C 0 9999 100 ([1, 7], [], [(none, _)]) ⟨h0, h7, xT_turn hE g i a n b k d m hai hbi hdi hn hk hm ha hb hd, rfl, rfl⟩
    rw [if_neg h7] at C
    have hdf : ∀ q ∈ ([(10, 104), (11, 116), (12, 127), (13, 139), (14, 151), (20, 160), (28, 168)] : List (Int32 × Nat)), ¬ op = q.1 := by
      intro q hq
      simp only [List.mem_cons, List.mem_nil_iff, or_false] at hq
      rcases hq with rfl | rfl | rfl | rfl | rfl | rfl | rfl
      · exact h1
      · exact h2
      · exact h3
      · exact h4
      · exact h5
      · exact h6
      · exact h7
    exact qm_step (sT_reckon hE) C 0 9999 100 ([1, 0], [], [(none, _)]) ⟨h0, hdf, xT_seek hE op g i a n b k hai hn hk ha hb, rfl, rfl⟩
  · rw [if_pos h0] at C
    exact qm_step (sT_reckon hE) C 0 9999 100 ([0], [], [(none, _)]) ⟨h0, xV_setError hE g i, rfl, rfl⟩
-- digits
def dU : Nat → Int64 → Int64 → Int64
  | 0, _, u => u
  | k + 1, v, u => if v / u < 10 then u else dU k v (u * 10)
def dL : Nat → Int64 → Int64 → List Int32
  | 0, _, _ => []
  | k + 1, v, u => if u ≤ 0 then [] else (48 + (v / u - v / u / 10 * 10).toInt32) :: dL k v (u / 10)
theorem dU_s (k : Nat) (v u : Int64) : dU (k + 1) v u = if v / u < 10 then u else dU k v (u * 10) := rfl
theorem dL_s (k : Nat) (v u : Int64) : dL (k + 1) v u = if u ≤ 0 then [] else (48 + (v / u - v / u / 10 * 10).toInt32) :: dL k v (u / 10) := rfl
theorem ten_ne : ∀ k, k < 16 → ¬ lN (10 ^ k) = 0 := by decide +kernel
def dgL (v : Int64) : List Int32 := dL 16 v (dU 15 v 1)
set_option maxHeartbeats 200000 in
theorem xV_appendDigits {E : cEnv} (hE : cOk E) (g : cG) (i : Nat) (v : Int64) (h : okT g i) : cSd E mV_appendDigits [qR 1 i, qL v] g none (apN g i (dgL v)) := by
  refine qm_meth hE (by decide) rfl rfl (Nat.le_of_ble_eq_true rfl) ?_
  intro p e st mm args below meth c Q C _ _
  have loop2 : ∀ (r k : Nat) (w : Int32) (u : Int64) (g1 : cG), k + r = 16 → w = nI k → okT g1 i → apN g1 i (dL r v u) = apN g i (dgL v) → qm_W (cLa E.2.2.2.1) cV (cHold E) (cA E.2.2.2.1) 6 p E.1 e (rmL 2) st mm args below meth c Q 37 ([some (qR 1 i), some (qL v), none, some (qL u), none, some (qI w)], [], g1) := by
    intro r
    induction r with
    | zero =>
      intro k w u g1 hk hw _ hf
      subst hw
      have hc : (16 : Int32) ≤ nI k := nI_le (a := 16) (by omega) (by omega)
      exact qm_step (sV_appendDigits hE) C 37 9999 100 ([1], [], []) ⟨hc, rfl, hf⟩
    | succ r ih =>
      intro k w u g1 hk hw ho hf
      subst hw
      have hc : ¬ (16 : Int32) ≤ nI k := nI_ge (b := 16) (by omega) (by decide)
      rw [dL_s] at hf
      by_cases hu : u ≤ 0
      · rw [if_pos hu] at hf
        exact qm_step (sV_appendDigits hE) C 37 9999 100 ([0, 1], [], []) ⟨hc, hu, rfl, hf⟩
      · rw [if_neg hu] at hf
        have hu0 : ¬ u = 0 := fun q => hu (by rw [q]; decide)
        have hap := xV_append hE g1 i (48 + (v / u - v / u / 10 * 10).toInt32) ho
        have fin : qm_W (cLa E.2.2.2.1) cV (cHold E) (cA E.2.2.2.1) 6 p E.1 e (rmL 2) st mm args below meth c Q 37 ([some (qR 1 i), some (qL v), none, some (qL (u / 10)), none, some (qI (nI k + 1))], [], apS g1 i (48 + (v / u - v / u / 10 * 10).toInt32)) := ih (k + 1) _ _ _ (by omega) (nI_1 k) (apS_ok ho _) hf
        exact qm_step (sV_appendDigits hE) C 37 37 100 ([0, 0], [], [(none, _)]) ⟨hc, hu, hu0, by decide, hap, by decide, fin⟩
  have loop1 : ∀ (r k : Nat) (w : Int32) (u : Int64), k + r = 15 → w = nI k → u = lN (10 ^ k) → dU r v u = dU 15 v 1 → qm_W (cLa E.2.2.2.1) cV (cHold E) (cA E.2.2.2.1) 6 p E.1 e (rmL 2) st mm args below meth c Q 5 ([some (qR 1 i), some (qL v), none, some (qL u), none, some (qI w)], [], g) := by
    intro r
    induction r with
    | zero =>
      intro k w u hk hw hu hf
      subst hw
      have hc : (15 : Int32) ≤ nI k := nI_le (a := 15) (by omega) (by omega)
      have hf : u = dU 15 v 1 := hf
      exact qm_step (sV_appendDigits hE) C 5 37 100 ([1], [], []) ⟨hc, loop2 16 0 _ _ g (by omega) rfl h (by rw [hf]; rfl)⟩
    | succ r ih =>
      intro k w u hk hw hu hf
      subst hw
      have hc : ¬ (15 : Int32) ≤ nI k := nI_ge (b := 15) (by omega) (by decide)
      have hu0 : ¬ u = 0 := by rw [hu]; exact ten_ne k (by omega)
      rw [dU_s] at hf
      by_cases hd : v / u < 10
      · rw [if_pos hd] at hf
        exact qm_step (sV_appendDigits hE) C 5 37 100 ([0, 1], [], []) ⟨hc, hu0, hd, loop2 16 0 _ _ g (by omega) rfl h (by rw [hf]; rfl)⟩
      · rw [if_neg hd] at hf
        have hu2 : u * 10 = lN (10 ^ (k + 1)) := by rw [hu, show (10 : Int64) = lN 10 from by decide, lN_mul, Nat.pow_succ]
        exact qm_step (sV_appendDigits hE) C 5 5 100 ([0, 0], [], []) ⟨hc, hu0, hd, ih (k + 1) _ _ (by omega) (nI_1 k) hu2 hf⟩
  exact qm_step (sV_appendDigits hE) C 0 5 100 ([], [], []) (loop1 15 0 _ _ (by omega) rfl (by decide) rfl)
-- Casts
def chS (g : cG) (i : Nat) (t : Int32) (b k d m : Nat) : cG := if t = -1 then seS g i else if t = 1 then cpS g i b k else cpS g i d m
theorem xC_choose {E : cEnv} (hE : cOk E) (g : cG) (i : Nat) (t : Int32) (b k d m : Nat) (hbi : b ≠ i) (hdi : d ≠ i) (hk : k ≤ 24) (hm : m ≤ 24) (hb : (g.1 b).1 = 3 → (g.1 b).2.2.2 = nI k) (hd : (g.1 d).1 = 3 → (g.1 d).2.2.2 = nI m) : cSd E mC_choose [qR 1 i, qI t, qR 1 b, qR 1 d] g none (chS g i t b k d m) := by
  refine qm_meth hE (by decide) rfl rfl (Nat.le_of_ble_eq_true rfl) ?_
  intro p e st mm args below meth c Q C _ _
  unfold chS at C
  by_cases h1 : t = -1
  · rw [if_pos h1] at C
    exact qm_step (sC_choose hE) C 0 9999 100 ([0], [], [(none, _)]) ⟨h1, xV_setError hE g i, rfl, rfl⟩
  rw [if_neg h1] at C
  by_cases h2 : t = 1
  · rw [if_pos h2] at C
    exact qm_step (sC_choose hE) C 0 9999 100 ([1, 0], [], [(none, _)]) ⟨h1, h2, xV_copy hE g i b k hbi hk hb, rfl, rfl⟩
  · rw [if_neg h2] at C
    exact qm_step (sC_choose hE) C 0 9999 100 ([1, 1], [], [(none, _)]) ⟨h1, h2, xV_copy hE g i d m hdi hm hd, rfl, rfl⟩
/-- digits read: sound, and the number -/
def rdF (f : Nat → Int32) : Nat → Nat → Int32 → Int64 → Int32 × Int64
  | 0, _, s, v => (s, v)
  | m + 1, k, s, v => if s = 0 then (s, v) else rdF f m (k + 1) (if ¬ f k < 48 ∧ ¬ 57 < f k then 1 else 0) (v * 10 + (f k).toInt64 - 48)
theorem rdF_s (f : Nat → Int32) (m k : Nat) (s : Int32) (v : Int64) : rdF f (m + 1) k s v = if s = 0 then (s, v) else rdF f m (k + 1) (if ¬ f k < 48 ∧ ¬ 57 < f k then 1 else 0) (v * 10 + (f k).toInt64 - 48) := rfl
def rdE (g : cG) (i : Nat) (be : Int32) (x : Int32 × Int64) : cG := if x.1 = 0 then seS g i else if be = 0 then swS g i x.2 else swS g i (-x.2)
def rdS (g : cG) (i a n : Nat) : cG := if atV g a n 0 = 45 then rdE g i 1 (rdF (g.2.1 a) (n - 1) 1 (if ¬ nI n - 1 < 1 ∧ ¬ 15 < nI n - 1 then 1 else 0) 0) else rdE g i 0 (rdF (g.2.1 a) n 0 (if ¬ nI n - 0 < 1 ∧ ¬ 15 < nI n - 0 then 1 else 0) 0)
set_option maxHeartbeats 400000 in
theorem xC_readDigits {E : cEnv} (hE : cOk E) (hX : qm_Nx E) (g : cG) (i a n : Nat) (hn : n ≤ 24) (ha : (g.1 a).2.2.2 = nI n) : cSd E mC_readDigits [qR 1 i, qR 1 a] g none (rdS g i a n) := by
  refine qm_meth hE (by decide) rfl rfl (Nat.le_of_ble_eq_true rfl) ?_
  intro p e st mm args below meth c Q C _ _
  have loop : ∀ (be : Int32) (r k : Nat) (w s x4 x3 : Int32) (v : Int64), be = 0 ∨ be = 1 → k + r = n → w = nI k → s = 0 ∨ s = 1 → rdE g i be (rdF (g.2.1 a) r k s v) = rdS g i a n → qm_W (cLa E.2.2.2.1) cV (cHold E) (cA E.2.2.2.1) 9 p E.1 e (rmL 3) st mm args below meth c Q 60 ([some (qR 1 i), some (qR 1 a), some (qI be), some (qI x3), some (qI x4), some (qI s), some (qL v), none, some (qI w)], [], g) := by
    intro be r
    have ends : ∀ (w s x4 x3 : Int32) (v : Int64), be = 0 ∨ be = 1 → rdE g i be (s, v) = rdS g i a n → qm_W (cLa E.2.2.2.1) cV (cHold E) (cA E.2.2.2.1) 9 p E.1 e (rmL 3) st mm args below meth c Q 129 ([some (qR 1 i), some (qR 1 a), some (qI be), some (qI x3), some (qI x4), some (qI s), some (qL v), none, some (qI w)], [], g) := by
      intro w s x4 x3 v hbe hf
      unfold rdE at hf
      by_cases hs : s = 0
      · rw [if_pos hs] at hf
        exact qm_step (sC_readDigits hE) C 129 9999 100 ([1], [], [(none, _)]) ⟨hs, xV_setError hE g i, rfl, hf⟩
      · rw [if_neg hs] at hf
        by_cases hb : be = 0
        · rw [if_pos hb] at hf
          exact qm_step (sC_readDigits hE) C 129 9999 100 ([0, 1], [], [(none, _)]) ⟨hs, hb, xV_setW hE hX g i v, rfl, hf⟩
        · rw [if_neg hb] at hf
          exact qm_step (sC_readDigits hE) C 129 9999 100 ([0, 0], [], [(none, _)]) ⟨hs, hb, xV_setW hE hX g i (-v), rfl, hf⟩
    induction r with
    | zero =>
      intro k w s x4 x3 v hbe hk hw hs hf
      subst hw
      have hc : (g.1 a).2.2.2 ≤ nI k := by rw [ha]; exact nI_le (by omega) (by omega)
      by_cases hs0 : s = 0
      · exact qm_step (sC_readDigits hE) C 60 129 100 ([1], [], []) ⟨hs0, ends _ _ _ _ _ hbe hf⟩
      · exact qm_step (sC_readDigits hE) C 60 129 100 ([0, 1], [], []) ⟨hs0, hc, ends _ _ _ _ _ hbe hf⟩
    | succ r ih =>
      intro k w s x4 x3 v hbe hk hw hs hf
      subst hw
      rw [rdF_s] at hf
      by_cases hs0 : s = 0
      · rw [if_pos hs0] at hf
        exact qm_step (sC_readDigits hE) C 60 129 100 ([1], [], []) ⟨hs0, ends _ _ _ _ _ hbe hf⟩
      · rw [if_neg hs0] at hf
        have hc : ¬ (g.1 a).2.2.2 ≤ nI k := by rw [ha]; exact nI_ge (by omega) (by omega)
        have hat := xV_at_yes hE g a k n (by omega) hn ha
        by_cases h1 : g.2.1 a k < 48
        · rw [if_neg (fun q => q.1 h1)] at hf
          have fin := ih (k + 1) (nI k + 1) 0 x4 x3 (v * 10 + (g.2.1 a k).toInt64 - 48) hbe (by omega) (nI_1 k) (Or.inl rfl) hf
          exact qm_step (sC_readDigits hE) C 60 60 100 ([0, 0, 1], [], [(some (qI (g.2.1 a k)), g), (some (qI (g.2.1 a k)), g)]) ⟨hs0, hc, hat, h1, hat, fin⟩
        · by_cases h2 : 57 < g.2.1 a k
          · rw [if_neg (fun q => q.2 h2)] at hf
            have fin := ih (k + 1) (nI k + 1) 0 x4 x3 (v * 10 + (g.2.1 a k).toInt64 - 48) hbe (by omega) (nI_1 k) (Or.inl rfl) hf
            exact qm_step (sC_readDigits hE) C 60 60 100 ([0, 0, 0, 1], [], [(some (qI (g.2.1 a k)), g), (some (qI (g.2.1 a k)), g), (some (qI (g.2.1 a k)), g)]) ⟨hs0, hc, hat, h1, hat, h2, hat, fin⟩
          · rw [if_pos ⟨h1, h2⟩] at hf
            have fin := ih (k + 1) (nI k + 1) 1 x4 x3 (v * 10 + (g.2.1 a k).toInt64 - 48) hbe (by omega) (nI_1 k) (Or.inr rfl) hf
            exact qm_step (sC_readDigits hE) C 60 60 100 ([0, 0, 0, 0], [], [(some (qI (g.2.1 a k)), g), (some (qI (g.2.1 a k)), g), (some (qI (g.2.1 a k)), g)]) ⟨hs0, hc, hat, h1, hat, h2, hat, fin⟩
  have hat0 := xV_atG hE g a n 0 hn (by omega) ha
  by_cases hm : atV g a n 0 = 45
  · have hn1 : 1 ≤ n := by
      rcases Nat.eq_zero_or_pos n with q | q
      · subst q; exact absurd hm (by unfold atV; rw [if_neg (by omega)]; decide)
      · exact q
    have hS : rdS g i a n = rdE g i 1 (rdF (g.2.1 a) (n - 1) 1 (if ¬ nI n - 1 < 1 ∧ ¬ 15 < nI n - 1 then 1 else 0) 0) := if_pos hm
    rw [← ha] at hS
    by_cases h1 : (g.1 a).2.2.2 - 1 < 1
    · rw [if_neg (fun q => q.1 h1)] at hS
      exact qm_step (sC_readDigits hE) C 0 60 100 ([0, 0, 1], [], [(_, g)]) ⟨hat0, hm, by decide, h1, loop 1 (n - 1) 1 _ _ _ _ _ (Or.inr rfl) (by omega) rfl (Or.inl rfl) hS.symm⟩
    · by_cases h2 : 15 < (g.1 a).2.2.2 - 1
      · rw [if_neg (fun q => q.2 h2)] at hS
        exact qm_step (sC_readDigits hE) C 0 60 100 ([0, 0, 0, 1], [], [(_, g)]) ⟨hat0, hm, by decide, h1, h2, loop 1 (n - 1) 1 _ _ _ _ _ (Or.inr rfl) (by omega) rfl (Or.inl rfl) hS.symm⟩
      · rw [if_pos ⟨h1, h2⟩] at hS
        exact qm_step (sC_readDigits hE) C 0 60 100 ([0, 0, 0, 0], [], [(_, g)]) ⟨hat0, hm, by decide, h1, h2, loop 1 (n - 1) 1 _ _ _ _ _ (Or.inr rfl) (by omega) rfl (Or.inr rfl) hS.symm⟩
  · have hS : rdS g i a n = rdE g i 0 (rdF (g.2.1 a) n 0 (if ¬ nI n - 0 < 1 ∧ ¬ 15 < nI n - 0 then 1 else 0) 0) := if_neg hm
    rw [← ha] at hS
    by_cases h1 : (g.1 a).2.2.2 - 0 < 1
    · rw [if_neg (fun q => q.1 h1)] at hS
      exact qm_step (sC_readDigits hE) C 0 60 100 ([1, 1, 1], [], [(_, g)]) ⟨hat0, hm, rfl, h1, loop 0 n 0 _ _ _ _ _ (Or.inl rfl) (by omega) rfl (Or.inl rfl) hS.symm⟩
    · by_cases h2 : 15 < (g.1 a).2.2.2 - 0
      · rw [if_neg (fun q => q.2 h2)] at hS
        exact qm_step (sC_readDigits hE) C 0 60 100 ([1, 1, 0, 1], [], [(_, g)]) ⟨hat0, hm, rfl, h1, h2, loop 0 n 0 _ _ _ _ _ (Or.inl rfl) (by omega) rfl (Or.inl rfl) hS.symm⟩
      · rw [if_pos ⟨h1, h2⟩] at hS
        exact qm_step (sC_readDigits hE) C 0 60 100 ([1, 1, 0, 0], [], [(_, g)]) ⟨hat0, hm, rfl, h1, h2, loop 0 n 0 _ _ _ _ _ (Or.inl rfl) (by omega) rfl (Or.inr rfl) hS.symm⟩
