/-! FunctionRows: whole, leaf, text, type -/
/-- how many expressions there are -/
def cnt (g : cG) : Nat := g.2.2.2.1.1.toNatClampNeg
def cntOk (g : cG) : Prop := ∃ n : Nat, n ≤ 80 ∧ g.2.2.2.1.1 = nI n
theorem cnt_in {g : cG} (h : cntOk g) (h2 : g.2.2.2.1.1 < 80) : vp_in g.2.2.2.1.1 80 := by
  obtain ⟨n, hn, he⟩ := h
  rw [he] at h2 ⊢
  have : n < 80 := by
    rcases Nat.lt_or_ge n 80 with q | q
    · exact q
    · exact absurd h2 (nI_nlt (b := 80) q (by omega))
  exact vp_in_nI this (by decide)
/-- expression k becomes a value -/
def bvE (g : cG) (k : Nat) : cG := uE g k (0, k, (g.2.2.1 k).2.2.1, (g.2.2.1 k).2.2.2.1, (g.2.2.1 k).2.2.2.2.1, (g.2.2.1 k).2.2.2.2.2.1, 0, 0, (g.2.2.1 k).2.2.2.2.2.2.2.2)
/-- one more expression -/
def oneC (g : cG) : cG := uC g (g.2.2.2.1.1 + 1, g.2.2.2.1.2)
theorem xR_whole {E : cEnv} (hE : cOk E) (hX : qm_Nx E) (g : cG) (v : Int64) (hc : cntOk g) : (¬ isW v → cSd E mR_whole [qR 0 0, qL v] g (some (qI (-1))) g) ∧ (isW v → ¬ g.2.2.2.1.1 < 80 → cSd E mR_whole [qR 0 0, qL v] g (some (qI (-3))) g) ∧ (isW v → g.2.2.2.1.1 < 80 → cSd E mR_whole [qR 0 0, qL v] g (some (qI g.2.2.2.1.1)) (oneC (swS (bvE g (cnt g)) (cnt g) v))) := by
  refine ⟨fun h => ?_, fun h h2 => ?_, fun h h2 => ?_⟩
  · refine qm_meth hE (by decide) rfl rfl (Nat.le_of_ble_eq_true rfl) ?_
    intro p e st mm args below meth c Q C _ _
    exact qm_step (sR_whole hE) C 0 9999 100 ([0], [], [(some (qI 0), g)]) ⟨(xR_isWhole hE g v).2 h, rfl, rfl, rfl⟩
  · refine qm_meth hE (by decide) rfl rfl (Nat.le_of_ble_eq_true rfl) ?_
    intro p e st mm args below meth c Q C _ _
    exact qm_step (sR_whole hE) C 0 9999 100 ([1, 0], [], [(some (qI 1), g)]) ⟨(xR_isWhole hE g v).1 h, by decide, h2, rfl, rfl⟩
  · refine qm_meth hE (by decide) rfl rfl (Nat.le_of_ble_eq_true rfl) ?_
    intro p e st mm args below meth c Q C _ _
    exact qm_step (sR_whole hE) C 0 9999 100 ([1, 1], [], [(some (qI 1), g), (some (qR 1 (cnt g)), bvE g (cnt g)), (none, swS (bvE g (cnt g)) (cnt g) v)]) ⟨(xR_isWhole hE g v).1 h, by decide, h2, cnt_in hc h2, xE_becomeValue hE g (cnt g), xV_setW hE hX (bvE g (cnt g)) (cnt g) v, rfl, rfl⟩
/-- expression k becomes variable v -/
def bwE (g : cG) (k : Nat) (v : Int32) : cG := uE g k (1, 80 + v.toNatClampNeg, (g.2.2.1 k).2.2.1, (g.2.2.1 k).2.2.2.1, (g.2.2.1 k).2.2.2.2.1, (g.2.2.1 k).2.2.2.2.2.1, 1 <<< (v &&& 31), 0, (g.2.2.1 k).2.2.2.2.2.2.2.2)
def lfS (g : cG) (k v : Int32) : cG := oneC (if k = 0 then bwE g (cnt g) v else if k = 1 then sTr (bvE g (cnt g)) (cnt g) v else uV (bvE g (cnt g)) (cnt g) (4, v.toInt64, (g.1 (cnt g)).2.2))
theorem xR_leaf {E : cEnv} (hE : cOk E) (g : cG) (k v : Int32) (hc : cntOk g) : (v < 0 ∨ ¬ v ≤ laI k → cSd E mR_leaf [qR 0 0, qI k, qI v] g (some (qI (-1))) g) ∧ (¬ v < 0 → v ≤ laI k → ¬ g.2.2.2.1.1 < 80 → cSd E mR_leaf [qR 0 0, qI k, qI v] g (some (qI (-3))) g) ∧ (¬ v < 0 → v ≤ laI k → g.2.2.2.1.1 < 80 → cSd E mR_leaf [qR 0 0, qI k, qI v] g (some (qI g.2.2.2.1.1)) (lfS g k v)) := by
  refine ⟨fun h => ?_, fun h1 h2 h3 => ?_, fun h1 h2 h3 => ?_⟩
  · refine qm_meth hE (by decide) rfl rfl (Nat.le_of_ble_eq_true rfl) ?_
    intro p e st mm args below meth c Q C _ _
    by_cases h1 : v < 0
    · exact qm_step (sR_leaf hE) C 0 9999 100 ([1], [], []) ⟨h1, rfl, rfl⟩
    · exact qm_step (sR_leaf hE) C 0 9999 100 ([0, 0], [], [(_, g)]) ⟨h1, xR_lastLeaf hE g k, h.resolve_left h1, rfl, rfl⟩
  · refine qm_meth hE (by decide) rfl rfl (Nat.le_of_ble_eq_true rfl) ?_
    intro p e st mm args below meth c Q C _ _
    exact qm_step (sR_leaf hE) C 0 9999 100 ([0, 1, 0], [], [(_, g)]) ⟨h1, xR_lastLeaf hE g k, h2, h3, rfl, rfl⟩
  · refine qm_meth hE (by decide) rfl rfl (Nat.le_of_ble_eq_true rfl) ?_
    intro p e st mm args below meth c Q C _ _
    unfold lfS at C
    by_cases hk0 : k = 0
    · rw [if_pos hk0] at C
      have hv : vp_in v 8 := by
        obtain ⟨j, hj, hje⟩ := nI_of2 (M := 7) (n := 7) (by decide) h1 (by unfold laI at h2; rw [if_pos hk0] at h2; exact h2)
        rw [hje]
        exact vp_in_nI (by omega) (by decide)
      exact qm_step (sR_leaf hE) C 0 9999 100 ([0, 1, 1, 0], [], [(_, g), (none, bwE g (cnt g) v)]) ⟨h1, xR_lastLeaf hE g k, h2, h3, cnt_in hc h3, hk0, hv, xE_becomeVariable hE g (cnt g) (80 + v.toNatClampNeg) v, rfl, rfl⟩
    rw [if_neg hk0] at C
    by_cases hk1 : k = 1
    · rw [if_pos hk1] at C
      exact qm_step (sR_leaf hE) C 0 9999 100 ([0, 1, 1, 1, 0], [], [(_, g), (some (qR 1 (cnt g)), bvE g (cnt g)), (none, sTr (bvE g (cnt g)) (cnt g) v)]) ⟨h1, xR_lastLeaf hE g k, h2, h3, cnt_in hc h3, hk0, hk1, xE_becomeValue hE g (cnt g), xV_setTruth hE (bvE g (cnt g)) (cnt g) v, rfl, rfl⟩
    · rw [if_neg hk1] at C
      exact qm_step (sR_leaf hE) C 0 9999 100 ([0, 1, 1, 1, 1], [], [(_, g), (some (qR 1 (cnt g)), bvE g (cnt g)), (none, uV (bvE g (cnt g)) (cnt g) (4, v.toInt64, (g.1 (cnt g)).2.2))]) ⟨h1, xR_lastLeaf hE g k, h2, h3, cnt_in hc h3, hk0, hk1, xE_becomeValue hE g (cnt g), xV_setNode hE (bvE g (cnt g)) (cnt g) v, rfl, rfl⟩
/-- the tape is empty -/
def emT (g : cG) : cG := uC g (g.2.2.2.1.1, 0)
def tpL (g : cG) (n : Nat) : List Int32 := (List.range' 0 n).map g.2.2.2.2.1
def teS (g : cG) (t : Int32) (n : Nat) : cG := oneC (apN (stS (bvE (emT g) (cnt g)) (cnt g) t) (cnt g) (tpL g n))
theorem xR_text {E : cEnv} (hE : cOk E) (g : cG) (t : Int32) (n : Nat) (hc : cntOk g) (hn : n ≤ 48) (ht : g.2.2.2.1.2 = nI n) : (24 < n ∨ t < 0 ∨ ¬ t ≤ 26 → cSd E mR_text [qR 0 0, qI t] g (some (qI (-1))) (emT g)) ∧ (n ≤ 24 → ¬ t < 0 → t ≤ 26 → ¬ g.2.2.2.1.1 < 80 → cSd E mR_text [qR 0 0, qI t] g (some (qI (-3))) (emT g)) ∧ (n ≤ 24 → ¬ t < 0 → t ≤ 26 → g.2.2.2.1.1 < 80 → cSd E mR_text [qR 0 0, qI t] g (some (qI g.2.2.2.1.1)) (teS g t n)) := by
  refine ⟨fun h => ?_, fun h1 h2 h3 h4 => ?_, fun h1 h2 h3 h4 => ?_⟩
  · refine qm_meth hE (by decide) rfl rfl (Nat.le_of_ble_eq_true rfl) ?_
    intro p e st mm args below meth c Q C _ _
    by_cases h1 : 24 < n
    · have hh : (24 : Int32) < g.2.2.2.1.2 := by rw [ht]; exact nI_lt (a := 24) h1 (by omega)
      exact qm_step (sR_text hE) C 0 9999 100 ([1], [], []) ⟨hh, rfl, rfl⟩
    · have hh : ¬ (24 : Int32) < g.2.2.2.1.2 := by rw [ht]; exact nI_nlt (a := 24) (by omega) (by decide)
      have h := h.resolve_left h1
      by_cases h2 : t < 0
      · exact qm_step (sR_text hE) C 0 9999 100 ([0, 1], [], []) ⟨hh, h2, rfl, rfl⟩
      · exact qm_step (sR_text hE) C 0 9999 100 ([0, 0, 0], [], []) ⟨hh, h2, h.resolve_left h2, rfl, rfl⟩
  · refine qm_meth hE (by decide) rfl rfl (Nat.le_of_ble_eq_true rfl) ?_
    intro p e st mm args below meth c Q C _ _
    have hh : ¬ (24 : Int32) < g.2.2.2.1.2 := by rw [ht]; exact nI_nlt (a := 24) h1 (by decide)
    exact qm_step (sR_text hE) C 0 9999 100 ([0, 0, 1, 0], [], []) ⟨hh, h2, h3, h4, rfl, rfl⟩
  · refine qm_meth hE (by decide) rfl rfl (Nat.le_of_ble_eq_true rfl) ?_
    intro p e st mm args below meth c Q C _ _
    have hh : ¬ (24 : Int32) < g.2.2.2.1.2 := by rw [ht]; exact nI_nlt (a := 24) h1 (by decide)
    have loop : ∀ (r k : Nat) (w : Int32) (g1 : cG), k + r = n → w = nI k → okT g1 (cnt g) → g1.2.2.2 = (emT g).2.2.2 → oneC (apN g1 (cnt g) ((List.range' k r).map g.2.2.2.2.1)) = teS g t n → qm_W (cLa E.2.2.2.1) cV (cHold E) (cA E.2.2.2.1) 5 p E.1 e (rmL 2) st mm args below meth c Q 61 ([some (qR 0 0), some (qI t), some (qI g.2.2.2.1.2), some (qR 1 (cnt g)), some (qI w)], [], g1) := by
      intro r
      induction r with
      | zero =>
        intro k w g1 hk hw _ hg hf
        subst hw
        have hcc : g.2.2.2.1.2 ≤ nI k := by rw [ht]; exact nI_le (by omega) (by omega)
        have e1 : (some (qI g1.2.2.2.1.1) : Option qm_v) = some (qI g.2.2.2.1.1) := by rw [hg]; rfl
        exact qm_step (sR_text hE) C 61 9999 100 ([1], [], []) ⟨hcc, e1, hf⟩
      | succ r ih =>
        intro k w g1 hk hw ho hg hf
        subst hw
        have hcc : ¬ g.2.2.2.1.2 ≤ nI k := by rw [ht]; exact nI_ge (by omega) (by omega)
        have hin : vp_in (nI k) 48 := vp_in_nI (by omega) (by decide)
        have hap := xV_append hE g1 (cnt g) (g1.2.2.2.2.1 (nI k).toNatClampNeg) ho
        have hf2 : oneC (apN (apS g1 (cnt g) (g1.2.2.2.2.1 (nI k).toNatClampNeg)) (cnt g) ((List.range' (k + 1) r).map g.2.2.2.2.1)) = teS g t n := by
          rw [nI_clamp (by omega), hg, ← hf]; rfl
        have fin : qm_W (cLa E.2.2.2.1) cV (cHold E) (cA E.2.2.2.1) 5 p E.1 e (rmL 2) st mm args below meth c Q 61 ([some (qR 0 0), some (qI t), some (qI g.2.2.2.1.2), some (qR 1 (cnt g)), some (qI (nI k + 1))], [], apS g1 (cnt g) (g1.2.2.2.2.1 (nI k).toNatClampNeg)) := ih (k + 1) _ _ (by omega) (nI_1 k) (apS_ok ho _) (by rw [apS_r]; exact hg) hf2
        exact qm_step (sR_text hE) C 61 61 100 ([0], [], [(none, _)]) ⟨hcc, hin, hap, fin⟩
    exact qm_step (sR_text hE) C 0 61 100 ([0, 0, 1, 1], [], [(some (qR 1 (cnt g)), bvE (emT g) (cnt g)), (none, stS (bvE (emT g) (cnt g)) (cnt g) t)]) ⟨hh, h2, h3, h4, cnt_in hc h4, xE_becomeValue hE (emT g) (cnt g), xV_startText hE (bvE (emT g) (cnt g)) (cnt g) t, loop n 0 _ _ (by omega) rfl (stS_ok _ _ _) rfl rfl⟩
