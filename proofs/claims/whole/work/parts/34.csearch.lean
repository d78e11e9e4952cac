/-! Search: the small methods. Its numbers: 0 states, 1 ways, 2 open, 3 first, 4 last, 5 current, 6 place; its arrays: 0 reached, 1 from, 2 to, 3 mask, 4 moving, 5 outerFirst, 6 outerLast -/
abbrev nN (g : cG) : Nat → Int32 := g.2.2.2.2.2.1
abbrev nA (g : cG) : Nat → Nat → Int32 := g.2.2.2.2.2.2
def uN (g : cG) (j : Nat) (x : Int32) : cG := (g.1, g.2.1, g.2.2.1, g.2.2.2.1, g.2.2.2.2.1, va_up g.2.2.2.2.2.1 j x, g.2.2.2.2.2.2)
def uA (g : cG) (j : Nat) (f : Nat → Int32) : cG := (g.1, g.2.1, g.2.2.1, g.2.2.2.1, g.2.2.2.2.1, g.2.2.2.2.2.1, va_up g.2.2.2.2.2.2 j f)
theorem xV_atH {E : cEnv} (hE : cOk E) (g : cG) (i n k : Nat) (hn : n ≤ 24) (hk : k < 2 ^ 31) (h2 : (g.1 i).2.2.2 = nI n) : cSd E mV_at [qR 1 i, qI (nI k)] g (some (qI (atV g i n k))) g := by
  unfold atV
  split
  · rename_i h
    exact xV_at_yes hE g i k n h hn h2
  · rename_i h
    exact xV_at_no hE g i (nI k) (Or.inr (by rw [h2]; exact nI_le (by omega) hk))
/-- a new state's number -/
def nsK (n : Nat) : Nat := min n 63
def nsS (g : cG) (n : Nat) : cG := uN (uA g 0 (upd (nA g 0) (nsK n) 0)) 0 (nI (nsK n + 1))
theorem xS_newState {E : cEnv} (hE : cOk E) (g : cG) (n : Nat) (hn : n ≤ 64) (h : nN g 0 = nI n) : cSd E mS_newState [qR 7 0] g (some (qI (nI (nsK n)))) (nsS g n) := by
  refine qm_meth hE (by decide) rfl rfl (Nat.le_of_ble_eq_true rfl) ?_
  intro p e st mm args below meth c Q C _ _
  have hk : nsK n ≤ 63 := by unfold nsK; omega
  have hm : (if (63 : Int32) < nN g 0 then 63 else nN g 0) = nI (nsK n) := by
    rw [h]
    by_cases h1 : 63 < n
    · have q : (63 : Int32) < nI n := nI_lt (a := 63) h1 (by omega)
      rw [if_pos q]
      unfold nsK
      rw [Nat.min_eq_right (by omega)]
      rfl
    · have q : ¬ (63 : Int32) < nI n := nI_nlt (b := n) (a := 63) (by omega) (by decide)
      rw [if_neg q]
      unfold nsK
      rw [Nat.min_eq_left (by omega)]
  have hin : vp_in (if (63 : Int32) < nN g 0 then 63 else nN g 0) 64 := by rw [hm]; exact vp_in_nI (by omega) (by decide)
  have e1 : (some (qI (if (63 : Int32) < nN g 0 then 63 else nN g 0)) : Option qm_v) = some (qI (nI (nsK n))) := by rw [hm]
  have e2 : uN (uA g 0 (upd (nA g 0) (if (63 : Int32) < nN g 0 then 63 else nN g 0).toNatClampNeg 0)) 0 ((if (63 : Int32) < nN g 0 then 63 else nN g 0) + 1) = nsS g n := by
    rw [hm, nI_clamp (by omega), nI_1]
    rfl
  exact qm_step (sS_newState hE) C 0 9999 100 ([], [], []) ⟨hin, e1, e2⟩
/-- one more way -/
def cnS (g : cG) (w : Nat) (a b m v : Int32) : cG := if w < 64 then uN (uA (uA (uA (uA g 1 (upd (nA g 1) w a)) 2 (upd (nA g 2) w b)) 3 (upd (nA g 3) w m)) 4 (upd (nA g 4) w v)) 1 (nI (w + 1)) else g
theorem xS_connect {E : cEnv} (hE : cOk E) (g : cG) (w : Nat) (a b m v : Int32) (hw : w ≤ 64) (h : nN g 1 = nI w) : cSd E mS_connect [qR 7 0, qI a, qI b, qI m, qI v] g none (cnS g w a b m v) := by
  refine qm_meth hE (by decide) rfl rfl (Nat.le_of_ble_eq_true rfl) ?_
  intro p e st mm args below meth c Q C _ _
  unfold cnS at C
  by_cases h1 : w < 64
  · rw [if_pos h1] at C
    have hl : nN g 1 < 64 := by rw [h]; exact nI_lt h1 (by decide)
    have hin : vp_in (nN g 1) 64 := by rw [h]; exact vp_in_nI h1 (by decide)
    have e2 : uN (uA (uA (uA (uA g 1 (upd (nA g 1) (nN g 1).toNatClampNeg a)) 2 (upd (nA g 2) (nN g 1).toNatClampNeg b)) 3 (upd (nA g 3) (nN g 1).toNatClampNeg m)) 4 (upd (nA g 4) (nN g 1).toNatClampNeg v)) 1 (nN g 1 + 1) = uN (uA (uA (uA (uA g 1 (upd (nA g 1) w a)) 2 (upd (nA g 2) w b)) 3 (upd (nA g 3) w m)) 4 (upd (nA g 4) w v)) 1 (nI (w + 1)) := by
      rw [h, nI_clamp (by omega), nI_1]
    exact qm_step (sS_connect hE) C 0 9999 100 ([1], [], []) ⟨hl, hin, hin, hin, hin, rfl, e2⟩
  · rw [if_neg h1] at C
    have hl : ¬ nN g 1 < 64 := by rw [h]; exact nI_nlt (b := 64) (by omega) (by omega)
    exact qm_step (sS_connect hE) C 0 9999 100 ([0], [], []) ⟨hl, rfl, rfl⟩
theorem nsS_N (g : cG) (n j : Nat) (h : j ≠ 0) : nN (nsS g n) j = nN g j := va_up_ne _ _ h
/-- a state of its own, entered from the current one -/
def enS (g : cG) (n w : Nat) : cG := cnS (nsS g n) w (nN g 5) (nI (nsK n)) (-1) 0
theorem xS_enter {E : cEnv} (hE : cOk E) (g : cG) (n w : Nat) (hn : n ≤ 64) (hw : w ≤ 64) (h : nN g 0 = nI n) (h2 : nN g 1 = nI w) : cSd E mS_enter [qR 7 0] g (some (qI (nI (nsK n)))) (enS g n w) := by
  refine qm_meth hE (by decide) rfl rfl (Nat.le_of_ble_eq_true rfl) ?_
  intro p e st mm args below meth c Q C _ _
  have hc := xS_connect hE (nsS g n) w (nN g 5) (nI (nsK n)) (-1) 0 hw (by rw [nsS_N _ _ _ (by decide)]; exact h2)
  have hc2 : cSd E mS_connect [qR 7 0, qI (nN (nsS g n) 5), qI (nI (nsK n)), qI (-1), qI 0] (nsS g n) none (enS g n w) := by rw [nsS_N _ _ _ (by decide)]; exact hc
  exact qm_step (sS_enter hE) C 0 9999 100 ([], [], [(some (qI (nI (nsK n))), nsS g n), (none, enS g n w)]) ⟨xS_newState hE g n hn h, hc2, rfl, rfl⟩
/-- ^ or $ -/
def acS (g : cG) (n w : Nat) (pl : Int32) : cG := uN (cnS (nsS g n) w (nN g 5) (nI (nsK n)) pl 0) 5 (nI (nsK n))
theorem xS_anchor {E : cEnv} (hE : cOk E) (g : cG) (n w : Nat) (pl : Int32) (hn : n ≤ 64) (hw : w ≤ 64) (h : nN g 0 = nI n) (h2 : nN g 1 = nI w) : cSd E mS_anchor [qR 7 0, qI pl] g (some (qI 1)) (acS g n w pl) := by
  refine qm_meth hE (by decide) rfl rfl (Nat.le_of_ble_eq_true rfl) ?_
  intro p e st mm args below meth c Q C _ _
  have hc := xS_connect hE (nsS g n) w (nN g 5) (nI (nsK n)) pl 0 hw (by rw [nsS_N _ _ _ (by decide)]; exact h2)
  have hc2 : cSd E mS_connect [qR 7 0, qI (nN (nsS g n) 5), qI (nI (nsK n)), qI pl, qI 0] (nsS g n) none (cnS (nsS g n) w (nN g 5) (nI (nsK n)) pl 0) := by rw [nsS_N _ _ _ (by decide)]; exact hc
  exact qm_step (sS_anchor hE) C 0 9999 100 ([], [], [(some (qI (nI (nsK n))), nsS g n), (none, cnS (nsS g n) w (nN g 5) (nI (nsK n)) pl 0)]) ⟨xS_newState hE g n hn h, hc2, Or.inr rfl, rfl, rfl⟩
def itB (x : Int32) : Bool := !(x == 0) && !(x == 94) && !(x == 93) && !(x == 45) && !(x == 92)
theorem xS_isItem {E : cEnv} (hE : cOk E) (g : cG) (x : Int32) : cSd E mS_isItem [qI x] g (some (qI (if itB x then 1 else 0))) g := by
  refine qm_meth hE (by decide) rfl rfl (Nat.le_of_ble_eq_true rfl) ?_
  intro p e st mm args below meth c Q C _ _
  unfold itB at C
  by_cases h1 : x = 0
  · rw [if_neg (by simp [h1])] at C
    exact qm_step (sS_isItem hE) C 0 9999 100 ([1], [], []) ⟨h1, Or.inl rfl, rfl, rfl⟩
  by_cases h2 : x = 94
  · rw [if_neg (by simp [h2])] at C
    exact qm_step (sS_isItem hE) C 0 9999 100 ([0, 1], [], []) ⟨h1, h2, Or.inl rfl, rfl, rfl⟩
  by_cases h3 : x = 93
  · rw [if_neg (by simp [h3])] at C
    exact qm_step (sS_isItem hE) C 0 9999 100 ([0, 0, 1], [], []) ⟨h1, h2, h3, Or.inl rfl, rfl, rfl⟩
  by_cases h4 : x = 45
  · rw [if_neg (by simp [h4])] at C
    exact qm_step (sS_isItem hE) C 0 9999 100 ([0, 0, 0, 1], [], []) ⟨h1, h2, h3, h4, Or.inl rfl, rfl, rfl⟩
  by_cases h5 : x = 92
  · rw [if_neg (by simp [h5])] at C
    exact qm_step (sS_isItem hE) C 0 9999 100 ([0, 0, 0, 0, 1], [], []) ⟨h1, h2, h3, h4, h5, Or.inl rfl, rfl, rfl⟩
  · rw [if_pos (by simp [h1, h2, h3, h4, h5])] at C
    exact qm_step (sS_isItem hE) C 0 9999 100 ([0, 0, 0, 0, 0], [], []) ⟨h1, h2, h3, h4, h5, Or.inr rfl, rfl, rfl⟩
/-- the places of a text's bytes from lo to hi, as bits -/
def plF (f : Nat → Int32) (lo hi : Int32) : Nat → Nat → Int32 → Int32
  | 0, _, acc => acc
  | r + 1, k, acc => plF f lo hi r (k + 1) (if ¬ f k < lo ∧ ¬ hi < f k then acc ||| 1 <<< (nI k &&& 31) else acc)
theorem plF_s (f : Nat → Int32) (lo hi : Int32) (r k : Nat) (acc : Int32) : plF f lo hi (r + 1) k acc = plF f lo hi r (k + 1) (if ¬ f k < lo ∧ ¬ hi < f k then acc ||| 1 <<< (nI k &&& 31) else acc) := rfl
theorem xS_placesOf {E : cEnv} (hE : cOk E) (g : cG) (i n : Nat) (lo hi : Int32) (hn : n ≤ 24) (h : (g.1 i).2.2.2 = nI n) : cSd E mS_placesOf [qR 1 i, qI lo, qI hi] g (some (qI (plF (g.2.1 i) lo hi n 0 0))) g := by
  refine qm_meth hE (by decide) rfl rfl (Nat.le_of_ble_eq_true rfl) ?_
  intro p e st mm args below meth c Q C _ _
  have loop : ∀ (r k : Nat) (w acc : Int32) (y : Option qm_v), k + r = n → w = nI k → plF (g.2.1 i) lo hi r k acc = plF (g.2.1 i) lo hi n 0 0 → qm_W (cLa E.2.2.2.1) cV (cHold E) (cA E.2.2.2.1) 6 p E.1 e (rmL 2) st mm args below meth c Q 5 ([some (qR 1 i), some (qI lo), some (qI hi), some (qI acc), some (qI w), y], [], g) := by
    intro r
    induction r with
    | zero =>
      intro k w acc y hk hw hf
      subst hw
      have hc : (g.1 i).2.2.2 ≤ nI k := by rw [h]; exact nI_le (by omega) (by omega)
      have e1 : (some (qI acc) : Option qm_v) = some (qI (plF (g.2.1 i) lo hi n 0 0)) := by rw [← hf]; rfl
      exact qm_step (sS_placesOf hE) C 5 9999 100 ([1], [], []) ⟨hc, e1, rfl⟩
    | succ r ih =>
      intro k w acc y hk hw hf
      subst hw
      have hc : ¬ (g.1 i).2.2.2 ≤ nI k := by rw [h]; exact nI_ge (by omega) (by omega)
      have hat := xV_at_yes hE g i k n (by omega) hn h
      rw [plF_s] at hf
      by_cases h1 : g.2.1 i k < lo
      · rw [if_neg (fun q => q.1 h1)] at hf
        have fin := ih (k + 1) (nI k + 1) acc (some (qI (g.2.1 i k))) (by omega) (nI_1 k) hf
        exact qm_step (sS_placesOf hE) C 5 5 100 ([0, 1], [], [(_, g)]) ⟨hc, hat, h1, fin⟩
      · by_cases h2 : hi < g.2.1 i k
        · rw [if_neg (fun q => q.2 h2)] at hf
          have fin := ih (k + 1) (nI k + 1) acc (some (qI (g.2.1 i k))) (by omega) (nI_1 k) hf
          exact qm_step (sS_placesOf hE) C 5 5 100 ([0, 0, 1], [], [(_, g)]) ⟨hc, hat, h1, h2, fin⟩
        · rw [if_pos ⟨h1, h2⟩] at hf
          have fin := ih (k + 1) (nI k + 1) (acc ||| 1 <<< (nI k &&& 31)) (some (qI (g.2.1 i k))) (by omega) (nI_1 k) hf
          exact qm_step (sS_placesOf hE) C 5 5 100 ([0, 0, 0], [], [(_, g)]) ⟨hc, hat, h1, h2, fin⟩
  exact qm_step (sS_placesOf hE) C 0 5 100 ([], [], []) (loop n 0 _ _ _ (by omega) rfl rfl)
