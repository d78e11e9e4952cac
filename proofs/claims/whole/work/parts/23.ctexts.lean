/-! Texts -/
def stS (g : cG) (i : Nat) (t : Int32) : cG := uV g i (3, (g.1 i).2.1, t, 0)
theorem stS_ok (g : cG) (i : Nat) (t : Int32) : okT (stS g i t) i := fun _ => ⟨0, by omega, by unfold stS; rw [uV_at]; rfl⟩
theorem stS_V (g : cG) {i j : Nat} (t : Int32) (h : j ≠ i) : (stS g i t).1 j = g.1 j := uV_ne _ _ h
theorem stS_B (g : cG) (i : Nat) (t : Int32) : (stS g i t).2.1 = g.2.1 := rfl
theorem apN_app (g : cG) (i : Nat) (a b : List Int32) : apN g i (a ++ b) = apN (apN g i a) i b := List.foldl_append
theorem bsl_of {g h : cG} {j : Nat} (e : g.2.1 j = h.2.1 j) (s m : Nat) : bsl g j s m = bsl h j s m := by unfold bsl; rw [e]
theorem l_add {x y : Int64} (h1 : -4611686018427387904 ≤ x.toInt + y.toInt) (h2 : x.toInt + y.toInt ≤ 4611686018427387904) : (x + y).toInt = x.toInt + y.toInt := by
  rw [Int64.toInt_add, Int.bmod_eq_of_le (by omega) (by omega)]
theorem l_sub {x y : Int64} (h1 : -4611686018427387904 ≤ x.toInt - y.toInt) (h2 : x.toInt - y.toInt ≤ 4611686018427387904) : (x - y).toInt = x.toInt - y.toInt := by
  rw [Int64.toInt_sub, Int.bmod_eq_of_le (by omega) (by omega)]
theorem l_of {x : Int64} {n : Nat} (hn : n < 2 ^ 31) (h : x.toInt = n) : x = lN n := Int64.toInt_inj.mp (by rw [h, lN_toInt hn])
-- PART
def ptB (B : Int64) : Int64 := (if 1 < B then B else 1) - 1
def ptE (B D : Int64) (n : Nat) : Int64 := if (nI n).toInt64 < B - 1 + D then (nI n).toInt64 else B - 1 + D
def ptS (g : cG) (i a n : Nat) (B D : Int64) : cG := if ptE B D n ≤ ptB B then stS g i (g.1 a).2.2.1 else apN (stS g i (g.1 a).2.2.1) i (bsl g a (ptB B).toInt.toNat ((ptE B D n).toInt.toNat - (ptB B).toInt.toNat))
theorem ptB_in {B : Int64} (h1 : -1000000000000000 ≤ B.toInt) (h2 : B.toInt ≤ 1000000000000000) : (ptB B).toInt = max B.toInt 1 - 1 := by
  unfold ptB
  have e1 : (1 : Int64).toInt = 1 := by decide
  split
  · rename_i h
    rw [Int64.lt_iff_toInt_lt, e1] at h
    rw [l_sub (by omega) (by omega), e1]
    omega
  · rename_i h
    rw [Int64.lt_iff_toInt_lt, e1] at h
    rw [l_sub (by omega) (by omega), e1]
    omega
theorem ptE_in {B D : Int64} {n : Nat} (hn : n ≤ 24) (h1 : -1000000000000000 ≤ B.toInt) (h2 : B.toInt ≤ 1000000000000000) (h3 : -1000000000000000 ≤ D.toInt) (h4 : D.toInt ≤ 1000000000000000) : (ptE B D n).toInt = min (n : Int) (B.toInt - 1 + D.toInt) := by
  unfold ptE
  have e1 : (1 : Int64).toInt = 1 := by decide
  have e2 : (nI n).toInt64.toInt = n := by rw [nI_l (by omega), lN_toInt (by omega)]
  have e3 : (B - 1 + D).toInt = B.toInt - 1 + D.toInt := by
    have : (B - 1).toInt = B.toInt - 1 := by rw [l_sub (by omega) (by omega), e1]
    rw [l_add (by omega) (by omega), this]
  split
  · rename_i h
    rw [Int64.lt_iff_toInt_lt, e2, e3] at h
    omega
  · rename_i h
    rw [Int64.lt_iff_toInt_lt, e2, e3] at h
    omega
theorem xT_part {E : cEnv} (hE : cOk E) (g : cG) (i a b d n : Nat) (hai : a ≠ i) (hn : n ≤ 24) (ha : (g.1 a).2.2.2 = nI n) (hbw : (g.1 b).1 = 2 → -1000000000000000 ≤ (g.1 b).2.1.toInt ∧ (g.1 b).2.1.toInt ≤ 1000000000000000) (hdw : (g.1 d).1 = 2 → -1000000000000000 ≤ (g.1 d).2.1.toInt ∧ (g.1 d).2.1.toInt ≤ 1000000000000000) : cSd E mT_part [qR 1 i, qR 1 a, qR 1 b, qR 1 d] g none (if ¬ (g.1 b).1 = 2 ∨ ¬ (g.1 d).1 = 2 then seS g i else ptS g i a n (g.1 b).2.1 (g.1 d).2.1) := by
  refine qm_meth hE (by decide) rfl rfl (Nat.le_of_ble_eq_true rfl) ?_
  intro p e st mm args below meth c Q C _ _
  by_cases h1 : (g.1 b).1 = 2
  · by_cases h2 : (g.1 d).1 = 2
    · rw [if_neg (fun q => q.elim (fun z => z h1) (fun z => z h2))] at C
      obtain ⟨b1, b2⟩ := hbw h1
      obtain ⟨d1, d2⟩ := hdw h2
      have eB := ptB_in b1 b2
      have eE := ptE_in hn b1 b2 d1 d2
      have hst := xV_startText hE g i (g.1 a).2.2.1
      unfold ptS at C
      by_cases h3 : ptE (g.1 b).2.1 (g.1 d).2.1 n ≤ ptB (g.1 b).2.1
      · rw [if_pos h3] at C
        unfold ptE at h3
        rw [← ha] at h3
        exact qm_step (sT_part hE) C 0 9999 100 ([0, 1, 1], [], [(none, _)]) ⟨h1, h2, hst, h3, rfl, rfl⟩
      · rw [if_neg h3] at C
        rw [Int64.le_iff_toInt_le, eB, eE] at h3
        have hB : ptB (g.1 b).2.1 = lN (ptB (g.1 b).2.1).toInt.toNat := l_of (by omega) (by omega)
        have hEe : ptE (g.1 b).2.1 (g.1 d).2.1 n = lN ((ptB (g.1 b).2.1).toInt.toNat + ((ptE (g.1 b).2.1 (g.1 d).2.1 n).toInt.toNat - (ptB (g.1 b).2.1).toInt.toNat)) := l_of (by omega) (by omega)
        have hap := xV_appendPart hE (stS g i (g.1 a).2.2.1) i a (ptB (g.1 b).2.1).toInt.toNat ((ptE (g.1 b).2.1 (g.1 d).2.1 n).toInt.toNat - (ptB (g.1 b).2.1).toInt.toNat) n hai (stS_ok _ _ _) hn (by rw [stS_V _ _ hai]; exact ha) (by omega)
        rw [bsl_of (g := stS g i (g.1 a).2.2.1) (h := g) rfl] at hap
        rw [← lN_i, ← lN_i, ← hB, ← hEe] at hap
        have h3 : ¬ ptE (g.1 b).2.1 (g.1 d).2.1 n ≤ ptB (g.1 b).2.1 := by rw [Int64.le_iff_toInt_le, eB, eE]; exact h3
        unfold ptE at h3 hap C
        rw [← ha] at h3 hap C
        exact qm_step (sT_part hE) C 0 9999 100 ([0, 1, 0], [], [(none, _), (none, _)]) ⟨h1, h2, hst, h3, hap, rfl, rfl⟩
    · rw [if_pos (Or.inr h2)] at C
      exact qm_step (sT_part hE) C 0 9999 100 ([0, 0], [], [(none, _)]) ⟨h1, h2, xV_setError hE g i, rfl, rfl⟩
  · rw [if_pos (Or.inl h1)] at C
    exact qm_step (sT_part hE) C 0 9999 100 ([1], [], [(none, _)]) ⟨h1, xV_setError hE g i, rfl, rfl⟩
-- GREAT, SMALL
def rsF (f d x : Int32) : Int32 := if ¬ x < f ∧ ¬ f + 26 ≤ x then x + d else x
def rsS (g : cG) (i a n : Nat) (f d : Int32) : cG := apN (stS g i (g.1 a).2.2.1) i ((bsl g a 0 n).map (rsF f d))
theorem xT_resize {E : cEnv} (hE : cOk E) (g : cG) (i a n : Nat) (f d : Int32) (hai : a ≠ i) (hn : n ≤ 24) (ha : (g.1 a).2.2.2 = nI n) : cSd E mT_resize [qR 1 i, qR 1 a, qI f, qI d] g none (rsS g i a n f d) := by
  refine qm_meth hE (by decide) rfl rfl (Nat.le_of_ble_eq_true rfl) ?_
  intro p e st mm args below meth c Q C _ _
  have loop : ∀ (m k : Nat) (w : Int32) (x : Option qm_v) (g1 : cG), k + m = n → w = nI k → okT g1 i → g1.1 a = g.1 a → g1.2.1 a = g.2.1 a → apN g1 i ((bsl g a k m).map (rsF f d)) = rsS g i a n f d → qm_W (cLa E.2.2.2.1) cV (cHold E) (cA E.2.2.2.1) 6 p E.1 e (rmL 2) st mm args below meth c Q 11 ([some (qR 1 i), some (qR 1 a), some (qI f), some (qI d), some (qI w), x], [], g1) := by
    intro m
    induction m with
    | zero =>
      intro k w x g1 hk hw _ h1 _ hf
      subst hw
      have hc : (g1.1 a).2.2.2 ≤ nI k := by rw [h1, ha]; exact nI_le (by omega) (by omega)
      exact qm_step (sT_resize hE) C 11 9999 100 ([1], [], []) ⟨hc, rfl, hf⟩
    | succ m ih =>
      intro k w x g1 hk hw ho h1 h2 hf
      subst hw
      have hc : ¬ (g1.1 a).2.2.2 ≤ nI k := by rw [h1, ha]; exact nI_ge (by omega) (by omega)
      have hat := xV_at_yes hE g1 a k n (by omega) hn (by rw [h1]; exact ha)
      have hap := xV_append hE g1 i (rsF f d (g1.2.1 a k)) ho
      have fin : qm_W (cLa E.2.2.2.1) cV (cHold E) (cA E.2.2.2.1) 6 p E.1 e (rmL 2) st mm args below meth c Q 11 ([some (qR 1 i), some (qR 1 a), some (qI f), some (qI d), some (qI (nI k + 1)), some (qI (g1.2.1 a k))], [], apS g1 i (rsF f d (g1.2.1 a k))) := by
        refine ih (k + 1) _ _ _ (by omega) (by rw [nI_1]) (apS_ok ho _) (by rw [apS_V _ _ _ hai]; exact h1) (by rw [apS_B _ _ _ hai]; exact h2) ?_
        rw [← hf, h2]
        rfl
      unfold rsF at hap fin
      by_cases h3 : g1.2.1 a k < f
      · rw [if_neg (fun q => q.1 h3)] at hap fin
        exact qm_step (sT_resize hE) C 11 11 100 ([0, 1], [], [(some (qI (g1.2.1 a k)), g1), (none, _)]) ⟨hc, hat, h3, hap, fin⟩
      · by_cases h4 : f + 26 ≤ g1.2.1 a k
        · rw [if_neg (fun q => q.2 h4)] at hap fin
          exact qm_step (sT_resize hE) C 11 11 100 ([0, 0, 1], [], [(some (qI (g1.2.1 a k)), g1), (none, _)]) ⟨hc, hat, h3, h4, hap, fin⟩
        · rw [if_pos ⟨h3, h4⟩] at hap fin
          exact qm_step (sT_resize hE) C 11 11 100 ([0, 0, 0], [], [(some (qI (g1.2.1 a k)), g1), (none, _)]) ⟨hc, hat, h3, h4, hap, fin⟩
  exact qm_step (sT_resize hE) C 0 11 100 ([], [], [(none, _)]) ⟨xV_startText hE g i (g.1 a).2.2.1, loop n 0 _ _ (stS g i (g.1 a).2.2.1) (by omega) rfl (stS_ok _ _ _) (stS_V _ _ hai) rfl rfl⟩
-- JOINED
def jnS (g : cG) (i a n b k : Nat) : cG := apN (apN (stS g i (if (g.1 a).2.2.1 = (g.1 b).2.2.1 then (g.1 a).2.2.1 else 0)) i (bsl g a 0 n)) i (bsl g b 0 k)
theorem xT_join {E : cEnv} (hE : cOk E) (g : cG) (i a n b k : Nat) (hai : a ≠ i) (hbi : b ≠ i) (hn : n ≤ 24) (hk : k ≤ 24) (ha : (g.1 a).2.2.2 = nI n) (hb : (g.1 b).1 = 3 → (g.1 b).2.2.2 = nI k) : cSd E mT_join [qR 1 i, qR 1 a, qR 1 b] g none (if (g.1 b).1 = 3 then jnS g i a n b k else seS g i) := by
  refine qm_meth hE (by decide) rfl rfl (Nat.le_of_ble_eq_true rfl) ?_
  intro p e st mm args below meth c Q C _ _
  by_cases h1 : (g.1 b).1 = 3
  · rw [if_pos h1] at C
    have hb := hb h1
    have key : ∀ t : Int32, cSd E mV_appendPart [qR 1 i, qR 1 a, qI 0, qI ((stS g i t).1 a).2.2.2] (stS g i t) none (apN (stS g i t) i (bsl g a 0 n)) ∧ cSd E mV_appendPart [qR 1 i, qR 1 b, qI 0, qI ((apN (stS g i t) i (bsl g a 0 n)).1 b).2.2.2] (apN (stS g i t) i (bsl g a 0 n)) none (apN (apN (stS g i t) i (bsl g a 0 n)) i (bsl g b 0 k)) := by
      intro t
      constructor
      · have h := xV_appendPart hE (stS g i t) i a 0 n n hai (stS_ok _ _ _) hn (by rw [stS_V _ _ hai]; exact ha) (by omega)
        rw [Nat.zero_add] at h
        rw [stS_V _ _ hai, ha]
        exact h
      · have hbb : ((apN (stS g i t) i (bsl g a 0 n)).1 b).2.2.2 = nI k := by rw [apN_V i hbi, stS_V _ _ hbi]; exact hb
        have h := xV_appendPart hE (apN (stS g i t) i (bsl g a 0 n)) i b 0 k k hbi (apN_ok _ (stS_ok _ _ _)) hk hbb (by omega)
        rw [Nat.zero_add, bsl_of (g := apN (stS g i t) i (bsl g a 0 n)) (h := g) (by rw [apN_B i hbi]; rfl)] at h
        rw [hbb]
        exact h
    unfold jnS at C
    by_cases h2 : (g.1 a).2.2.1 = (g.1 b).2.2.1
    · rw [if_pos h2] at C
      exact qm_step (sT_join hE) C 0 9999 100 ([1, 0], [], [(none, _), (none, _), (none, _)]) ⟨h1, h2, xV_startText hE g i _, (key _).1, (key _).2, rfl, rfl⟩
    · rw [if_neg h2] at C
      exact qm_step (sT_join hE) C 0 9999 100 ([1, 1], [], [(none, _), (none, _), (none, _)]) ⟨h1, h2, xV_startText hE g i _, (key _).1, (key _).2, rfl, rfl⟩
  · rw [if_neg h1] at C
    exact qm_step (sT_join hE) C 0 9999 100 ([0], [], [(none, _)]) ⟨h1, xV_setError hE g i, rfl, rfl⟩
-- TAG
def tlS (g : cG) (i a : Nat) : cG := if (g.1 a).2.2.1 = 0 then stS g i 0 else apS (stS g i 0) i (96 + (g.1 a).2.2.1)
theorem xT_tagLetter {E : cEnv} (hE : cOk E) (g : cG) (i a : Nat) (hai : a ≠ i) : cSd E mT_tagLetter [qR 1 i, qR 1 a] g none (tlS g i a) := by
  refine qm_meth hE (by decide) rfl rfl (Nat.le_of_ble_eq_true rfl) ?_
  intro p e st mm args below meth c Q C _ _
  unfold tlS at C
  have hv := stS_V g 0 hai
  by_cases h1 : (g.1 a).2.2.1 = 0
  · rw [if_pos h1] at C
    exact qm_step (sT_tagLetter hE) C 0 9999 100 ([1], [], [(none, stS g i 0)]) ⟨xV_startText hE g i 0, by rw [hv]; exact h1, rfl, rfl⟩
  · rw [if_neg h1] at C
    have hap := xV_append hE (stS g i 0) i (96 + ((stS g i 0).1 a).2.2.1) (stS_ok _ _ _)
    rw [hv] at hap
    have hap2 : cSd E mV_append [qR 1 i, qI (96 + ((stS g i 0).1 a).2.2.1)] (stS g i 0) none (apS (stS g i 0) i (96 + (g.1 a).2.2.1)) := by rw [hv]; exact hap
    exact qm_step (sT_tagLetter hE) C 0 9999 100 ([0], [], [(none, stS g i 0), (none, _)]) ⟨xV_startText hE g i 0, by rw [hv]; exact h1, hap2, rfl, rfl⟩
