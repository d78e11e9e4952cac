/-! Value: copy, hasAt, find -/
/-- value i becomes value j's copy (of length n, if it is a TEXT) -/
def cpS (g : cG) (i j n : Nat) : cG := if (g.1 j).1 = 3 then apN (uV g i (3, (g.1 j).2.1, (g.1 j).2.2.1, 0)) i (bsl g j 0 n) else uV g i ((g.1 j).1, (g.1 j).2.1, (g.1 j).2.2.1, 0)
theorem xV_copy {E : cEnv} (hE : cOk E) (g : cG) (i j n : Nat) (hij : j ≠ i) (hn : n ≤ 24) (hj : (g.1 j).1 = 3 → (g.1 j).2.2.2 = nI n) : cSd E mV_copy [qR 1 i, qR 1 j] g none (cpS g i j n) := by
  refine qm_meth hE (by decide) rfl rfl (Nat.le_of_ble_eq_true rfl) ?_
  intro p e st mm args below meth c Q C _ _
  have hg : ∀ x y z w : cVR, uV (uV (uV (uV g i x) i y) i z) i w = uV g i w := fun x y z w => by rw [uV_uV, uV_uV, uV_uV]
  have e0 : (uV g i ((g.1 j).1, (g.1 i).2)).1 j = g.1 j := uV_ne _ _ hij
  have e1 : uV (uV g i ((g.1 j).1, (g.1 i).2)) i (((uV g i ((g.1 j).1, (g.1 i).2)).1 i).1, ((uV g i ((g.1 j).1, (g.1 i).2)).1 j).2.1, ((uV g i ((g.1 j).1, (g.1 i).2)).1 i).2.2) = uV g i ((g.1 j).1, (g.1 j).2.1, (g.1 i).2.2) := by rw [uV_uV, uV_at, e0]
  have e2 : ∀ z : cG, z = uV g i ((g.1 j).1, (g.1 j).2.1, (g.1 i).2.2) → uV z i ((z.1 i).1, (z.1 i).2.1, (z.1 j).2.2.1, (z.1 i).2.2.2) = uV g i ((g.1 j).1, (g.1 j).2.1, (g.1 j).2.2.1, (g.1 i).2.2.2) := by
    intro z hz
    subst hz
    rw [uV_uV, uV_at, uV_ne _ _ hij]
  have e3 : ∀ z : cG, z = uV g i ((g.1 j).1, (g.1 j).2.1, (g.1 j).2.2.1, (g.1 i).2.2.2) → uV z i ((z.1 i).1, (z.1 i).2.1, (z.1 i).2.2.1, 0) = uV g i ((g.1 j).1, (g.1 j).2.1, (g.1 j).2.2.1, 0) := by
    intro z hz
    subst hz
    rw [uV_uV, uV_at]
  have e4 := e3 _ (e2 _ e1)
  generalize hz : uV g i ((g.1 j).1, (g.1 j).2.1, (g.1 j).2.2.1, 0) = z at e4
  have hzi : (z.1 i).1 = (g.1 j).1 := by rw [← hz, uV_at]
  have hzj : z.1 j = g.1 j := by rw [← hz, uV_ne _ _ hij]
  by_cases h : (g.1 j).1 = 3
  · have hap := xV_appendPart hE z i j 0 n n hij (fun _ => ⟨0, by omega, by rw [← hz, uV_at]; rfl⟩) hn (by rw [hzj]; exact hj h) (by omega)
    rw [Nat.zero_add] at hap
    have hf : apN z i (bsl z j 0 n) = cpS g i j n := by
      unfold cpS
      rw [if_pos h, ← hz]
      rw [h]
      rfl
    rw [hf] at hap
    rw [show nI n = (z.1 j).2.2.2 by rw [hzj]; exact (hj h).symm] at hap
    have h5 : (z.1 i).1 = 3 := hzi.trans h
    rw [← e4] at hap h5
    exact qm_step (sV_copy hE) C 0 9999 100 ([0], [], [(none, cpS g i j n)]) ⟨h5, hap, rfl, rfl⟩
  · have hf : z = cpS g i j n := by
      unfold cpS
      rw [if_neg h, hz]
    have h5 : ¬ (z.1 i).1 = 3 := fun q => h (hzi.symm.trans q)
    rw [← e4] at h5 hf
    exact qm_step (sV_copy hE) C 0 9999 100 ([1], [], []) ⟨h5, rfl, hf⟩
/-- from place p on value i has value j's b bytes -/
def hbA (g : cG) (i p j b : Nat) : Bool := (List.range b).all fun k => g.2.1 i (p + k) == g.2.1 j k
theorem xV_hasAt_neg {E : cEnv} (hE : cOk E) (g : cG) (i j : Nat) (z : Int32) (h : z < 0) : cSd E mV_hasAt [qR 1 i, qI z, qR 1 j] g (some (qI 0)) g := by
  refine qm_meth hE (by decide) rfl rfl (Nat.le_of_ble_eq_true rfl) ?_
  intro p e st mm args below meth c Q C _ _
  exact qm_step (sV_hasAt hE) C 0 9999 100 ([1], [], []) ⟨h, Or.inl rfl, rfl, rfl⟩
theorem xV_hasAt_over {E : cEnv} (hE : cOk E) (g : cG) (i j q a b : Nat) (ha : (g.1 i).2.2.2 = nI a) (hb : (g.1 j).2.2.2 = nI b) (ha2 : a ≤ 24) (hb2 : b ≤ 24) (hp : q ≤ 24) (h : a < q + b) : cSd E mV_hasAt [qR 1 i, qI (nI q), qR 1 j] g (some (qI 0)) g := by
  refine qm_meth hE (by decide) rfl rfl (Nat.le_of_ble_eq_true rfl) ?_
  intro p e st mm args below meth c Q C _ _
  have h1 : ¬ nI q < 0 := nI_pos (by omega)
  have h2 : ¬ nI q + (g.1 j).2.2.2 ≤ (g.1 i).2.2.2 := by rw [ha, hb, nI_add]; exact nI_ge h (by omega)
  exact qm_step (sV_hasAt hE) C 0 9999 100 ([0, 0], [], []) ⟨h1, h2, Or.inl rfl, rfl, rfl⟩
theorem xV_hasAt_in {E : cEnv} (hE : cOk E) (g : cG) (i j q a b : Nat) (ha : (g.1 i).2.2.2 = nI a) (hb : (g.1 j).2.2.2 = nI b) (ha2 : a ≤ 24) (h : q + b ≤ a) : cSd E mV_hasAt [qR 1 i, qI (nI q), qR 1 j] g (some (qI (if hbA g i q j b then 1 else 0))) g := by
  refine qm_meth hE (by decide) rfl rfl (Nat.le_of_ble_eq_true rfl) ?_
  intro p e st mm args below meth c Q C _ _
  have loop : ∀ (n k : Nat) (w : Int32), k + n = b → w = nI k → (∀ x, x < k → g.2.1 i (q + x) = g.2.1 j x) → qm_W (cLa E.2.2.2.1) cV (cHold E) (cA E.2.2.2.1) 4 p E.1 e (rmL 2) st mm args below meth c Q 21 ([some (qR 1 i), some (qI (nI q)), some (qR 1 j), some (qI w)], [], g) := by
    intro n
    induction n with
    | zero =>
      intro k w hk hw hx
      subst hw
      have hc : (g.1 j).2.2.2 ≤ nI k := by rw [hb]; exact nI_le (by omega) (by omega)
      have hr : (some (qI 1) : Option qm_v) = some (qI (if hbA g i q j b then 1 else 0)) := by
        rw [if_pos]
        unfold hbA
        rw [List.all_eq_true]
        intro x hx2
        have := hx x (by have := List.mem_range.mp hx2; omega)
        simp [this]
      exact qm_step (sV_hasAt hE) C 21 9999 100 ([1], [], []) ⟨hc, Or.inr rfl, hr, rfl⟩
    | succ n ih =>
      intro k w hk hw hx
      subst hw
      have hc : ¬ (g.1 j).2.2.2 ≤ nI k := by rw [hb]; exact nI_ge (by omega) (by omega)
      have h1 := xV_at_yes hE g i (q + k) a (by omega) ha2 ha
      rw [← nI_add] at h1
      have h2 := xV_at_yes hE g j k b (by omega) (by omega) hb
      by_cases he : g.2.1 i (q + k) = g.2.1 j k
      · refine qm_step (sV_hasAt hE) C 21 21 100 ([0, 1], [], [(some (qI (g.2.1 i (q + k))), g), (some (qI (g.2.1 j k)), g)]) ⟨hc, h1, h2, he, ?_⟩
        refine ih (k + 1) _ (by omega) (by rw [nI_1]) (fun x hx2 => ?_)
        rcases Nat.lt_or_ge x k with z | z
        · exact hx x z
        · have : x = k := by omega
          subst this
          exact he
      · have hr : (some (qI 0) : Option qm_v) = some (qI (if hbA g i q j b then 1 else 0)) := by
          rw [if_neg]
          unfold hbA
          rw [List.all_eq_true]
          intro hq
          have := hq k (List.mem_range.mpr (by omega))
          exact he (by simpa using this)
        exact qm_step (sV_hasAt hE) C 21 9999 100 ([0, 0], [], [(some (qI (g.2.1 i (q + k))), g), (some (qI (g.2.1 j k)), g)]) ⟨hc, h1, h2, he, Or.inl rfl, hr, rfl⟩
  have h1 : ¬ nI q < 0 := nI_pos (by omega)
  have h2 : nI q + (g.1 j).2.2.2 ≤ (g.1 i).2.2.2 := by rw [ha, hb, nI_add]; exact nI_le h (by omega)
  exact qm_step (sV_hasAt hE) C 0 21 100 ([0, 1], [], []) ⟨h1, h2, loop b 0 _ (by omega) rfl (fun x hx => by omega)⟩
/-- the first place of value j in value i -/
def fdP (g : cG) (i j a b : Nat) : Option Nat := (List.range (a + 1 - b)).find? fun p => hbA g i p j b
def fdI : Option Nat → Int32
  | some p => nI p
  | none => -1
theorem xV_find {E : cEnv} (hE : cOk E) (g : cG) (i j a b : Nat) (ha : (g.1 i).2.2.2 = nI a) (hb : (g.1 j).2.2.2 = nI b) (ha2 : a ≤ 24) (hb2 : b ≤ 24) : cSd E mV_find [qR 1 i, qR 1 j] g (some (qI (fdI (fdP g i j a b)))) g := by
  refine qm_meth hE (by decide) rfl rfl (Nat.le_of_ble_eq_true rfl) ?_
  intro p e st mm args below meth c Q C _ _
  have loop : ∀ (n k : Nat) (w : Int32), k + n = a + 1 - b → w = nI k → (∀ x, x < k → hbA g i x j b = false) → qm_W (cLa E.2.2.2.1) cV (cHold E) (cA E.2.2.2.1) 3 p E.1 e (rmL 3) st mm args below meth c Q 2 ([some (qR 1 i), some (qR 1 j), some (qI w)], [], g) := by
    intro n
    induction n with
    | zero =>
      intro k w hk hw hx
      subst hw
      have hc : (g.1 i).2.2.2 - (g.1 j).2.2.2 < nI k := by
        rw [ha, hb, Int32.lt_iff_toInt_lt, pk_sub_toInt (by omega) (by omega), nI_toInt (by omega)]
        omega
      have hr : (some (qI (-1)) : Option qm_v) = some (qI (fdI (fdP g i j a b))) := by
        have : fdP g i j a b = none := by
          unfold fdP
          rw [List.find?_eq_none]
          intro x hx2
          have := hx x (by have := List.mem_range.mp hx2; omega)
          simp [this]
        rw [this]; rfl
      exact qm_step (sV_find hE) C 2 9999 100 ([1], [], []) ⟨hc, hr, rfl⟩
    | succ n ih =>
      intro k w hk hw hx
      subst hw
      have hc : ¬ (g.1 i).2.2.2 - (g.1 j).2.2.2 < nI k := by
        rw [ha, hb, Int32.lt_iff_toInt_lt, pk_sub_toInt (by omega) (by omega), nI_toInt (by omega)]
        omega
      have h1 := xV_hasAt_in hE g i j k a b ha hb ha2 (by omega)
      by_cases he : hbA g i k j b = true
      · rw [if_pos he] at h1
        have hr : (some (qI (nI k)) : Option qm_v) = some (qI (fdI (fdP g i j a b))) := by
          have : fdP g i j a b = some k := by
            unfold fdP
            rw [List.find?_range_eq_some]
            exact ⟨he, by rw [List.mem_range]; omega, fun x hx2 => by simp [hx x hx2]⟩
          rw [this]; rfl
        exact qm_step (sV_find hE) C 2 9999 100 ([0, 0], [], [(some (qI 1), g)]) ⟨hc, h1, by decide, hr, rfl⟩
      · rw [if_neg he] at h1
        refine qm_step (sV_find hE) C 2 2 100 ([0, 1], [], [(some (qI 0), g)]) ⟨hc, h1, rfl, ?_⟩
        refine ih (k + 1) _ (by omega) (by rw [nI_1]) (fun x hx2 => ?_)
        rcases Nat.lt_or_ge x k with z | z
        · exact hx x z
        · have : x = k := by omega
          subst this
          simpa using he
  exact qm_step (sV_find hE) C 0 2 100 ([], [], []) (loop (a + 1 - b) 0 _ (by omega) rfl (fun x hx => by omega))
