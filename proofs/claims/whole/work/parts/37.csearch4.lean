/-! Search: items -/
theorem uN_self (g : cG) (j : Nat) (x : Int32) (h : nN g j = x) : uN g j x = g := by
  have : va_up g.2.2.2.2.2.1 j x = g.2.2.2.2.2.1 := by
    funext k
    by_cases q : k = j
    · subst q; rw [va_up_self]; exact h.symm
    · rw [va_up_ne _ _ q]
  unfold uN
  rw [this]
theorem uN_uN (g : cG) (j : Nat) (x y : Int32) : uN (uN g j x) j y = uN g j y := by
  have : va_up (va_up g.2.2.2.2.2.1 j x) j y = va_up g.2.2.2.2.2.1 j y := by
    funext k
    by_cases q : k = j
    · subst q; rw [va_up_self, va_up_self]
    · rw [va_up_ne _ _ q, va_up_ne _ _ q, va_up_ne _ _ q]
  unfold uN
  rw [this]
def riH (P : Nat → Int32) (q : Nat) : Int32 := if P (q + 1) = 45 then P (q + 2) else P q
def riQ (P : Nat → Int32) (q : Nat) : Nat := if P (q + 1) = 45 then q + 3 else q + 1
def riB (P : Nat → Int32) (q : Nat) : Bool := itB (P q) && itB (riH P q) && !(decide (riH P q < P q))
/-- the items from q on: whether they are sound, the places, where they end, how many -/
def riF (P : Nat → Int32) (T : Int32 → Int32 → Int32) : Nat → Nat → Int32 → Nat → Bool × Int32 × Nat × Nat
  | 0, q, acc, c => (true, acc, q, c)
  | r + 1, q, acc, c => if P q = 93 then (true, acc, q, c) else if riB P q then riF P T r (riQ P q) (acc ||| T (P q) (riH P q)) (c + 1) else (false, acc, q, c)
theorem riF_s (P : Nat → Int32) (T : Int32 → Int32 → Int32) (r q : Nat) (acc : Int32) (c : Nat) : riF P T (r + 1) q acc c = if P q = 93 then (true, acc, q, c) else if riB P q then riF P T r (riQ P q) (acc ||| T (P q) (riH P q)) (c + 1) else (false, acc, q, c) := rfl
def riP (g : cG) (j m : Nat) : Nat → Int32 := fun q => atV g j m q
def riT (g : cG) (i n : Nat) : Int32 → Int32 → Int32 := fun lo hi => plF (g.2.1 i) lo hi n 0 0
def riZ (g : cG) (i n j m q : Nat) : Bool × Int32 × Nat × Nat := riF (riP g j m) (riT g i n) m (if riP g j m q = 94 then q + 1 else q) 0 0
def riG (g : cG) (i n j m q : Nat) : Bool := (riZ g i n j m q).1 && !((riZ g i n j m q).2.2.2 == 0) && (riP g j m (riZ g i n j m q).2.2.1 == 93)
def riI (g : cG) (i n j m q : Nat) : Int32 := if riG g i n j m q then (if riP g j m q = 94 then riT g i n 32 126 &&& ((riZ g i n j m q).2.1 ^^^ (-1)) else (riZ g i n j m q).2.1) else -1
def riS (g : cG) (i n j m q : Nat) : cG := uN g 6 (nI (if riG g i n j m q then (riZ g i n j m q).2.2.1 + 1 else (riZ g i n j m q).2.2.1))
set_option maxHeartbeats 1000000 in
theorem xS_readItems {E : cEnv} (hE : cOk E) (g : cG) (i n j m q : Nat) (hn : n ≤ 24) (hm : m ≤ 24) (hi : (g.1 i).2.2.2 = nI n) (hj : (g.1 j).2.2.2 = nI m) (hp : nN g 6 = nI q) (hq : q < 30) : cSd E mS_readItems [qR 7 0, qR 1 i, qR 1 j] g (some (qI (riI g i n j m q))) (riS g i n j m q) := by
  refine qm_meth hE (by decide) rfl rfl (Nat.le_of_ble_eq_true rfl) ?_
  intro p e st mm args below meth c Q C _ _
  have AT : ∀ (x k : Nat), k < 200 → cSd E mV_at [qR 1 j, qI (nI k)] (uN g 6 (nI x)) (some (qI (riP g j m k))) (uN g 6 (nI x)) := fun x k hk => xV_atH hE (uN g 6 (nI x)) j m k hm (by omega) hj
  have PL : ∀ (x : Nat) (lo hi : Int32), cSd E mS_placesOf [qR 1 i, qI lo, qI hi] (uN g 6 (nI x)) (some (qI (riT g i n lo hi))) (uN g 6 (nI x)) := fun x lo h2 => xS_placesOf hE (uN g 6 (nI x)) i n lo h2 hn hi
  have IT : ∀ (x : Nat) (b : Int32), cSd E mS_isItem [qI b] (uN g 6 (nI x)) (some (qI (if itB b then 1 else 0))) (uN g 6 (nI x)) := fun x b => xS_isItem hE _ b
  have n6 : ∀ x : Nat, nN (uN g 6 (nI x)) 6 = nI x := fun x => uN_at _ _ _
  have A0 : ∀ x : Nat, x < 190 → cSd E mV_at [qR 1 j, qI (nN (uN g 6 (nI x)) 6)] (uN g 6 (nI x)) (some (qI (riP g j m x))) (uN g 6 (nI x)) := fun x hx => by rw [n6]; exact AT x x (by omega)
  have A1 : ∀ x : Nat, x < 190 → cSd E mV_at [qR 1 j, qI (nN (uN g 6 (nI x)) 6 + 1)] (uN g 6 (nI x)) (some (qI (riP g j m (x + 1)))) (uN g 6 (nI x)) := fun x hx => by rw [n6, nI_1]; exact AT x (x + 1) (by omega)
  have A2 : ∀ x : Nat, x < 190 → cSd E mV_at [qR 1 j, qI (nN (uN g 6 (nI x)) 6 + 2)] (uN g 6 (nI x)) (some (qI (riP g j m (x + 2)))) (uN g 6 (nI x)) := fun x hx => by rw [n6, show nI x + 2 = nI (x + 2) from nI_add x 2]; exact AT x (x + 2) (by omega)
  have S1 : ∀ x : Nat, uN (uN g 6 (nI x)) 6 (nN (uN g 6 (nI x)) 6 + 1) = uN g 6 (nI (x + 1)) := fun x => by rw [n6, uN_uN, nI_1]
  have S3 : ∀ x : Nat, uN (uN g 6 (nI x)) 6 (nN (uN g 6 (nI x)) 6 + 3) = uN g 6 (nI (x + 3)) := fun x => by rw [n6, uN_uN, show nI x + 3 = nI (x + 3) from nI_add x 3]
  unfold riI riS riG at C
  generalize hz : riZ g i n j m q = z at C
  -- behind the loop
  have ends : ∀ (x k : Nat) (acc o : Int32) (w6 w7 w8 w9 : Option qm_v), z = (true, acc, x, k) → x < 190 → k < 100 → o = (if riP g j m q = 94 then 1 else 0) → qm_W (cLa E.2.2.2.1) cV (cHold E) (cA E.2.2.2.1) 10 p E.1 e (rmL 3) st mm args below meth c Q 184 ([some (qR 7 0), some (qR 1 i), some (qR 1 j), some (qI o), some (qI acc), some (qI (nI k)), w6, w7, w8, w9], [], uN g 6 (nI x)) := by
    intro x k acc o w6 w7 w8 w9 hz2 hx hk ho
    subst hz2
    by_cases k0 : k = 0
    · subst k0
      have e1 : ((true && !((0 : Nat) == 0) && (riP g j m x == 93)) = true) = False := by simp
      simp only [e1, if_false] at C
      have h0 : nI 0 = 0 := rfl
      exact qm_step (sS_readItems hE) C 184 9999 100 ([1], [], []) ⟨h0, rfl, rfl⟩
    · have h0 : ¬ nI k = 0 := nI_ne0 (by omega) (by omega)
      by_cases h93 : riP g j m x = 93
      · have e1 : ((true && !(k == 0) && (riP g j m x == 93)) = true) = True := by simp [k0, h93]
        simp only [e1, if_true] at C
        by_cases h94 : riP g j m q = 94
        · rw [if_pos h94] at ho
          rw [if_pos h94] at C
          subst ho
          have pl := PL (x + 1) 32 126
          rw [← S1] at pl
          have e3 : (some (qI (riT g i n 32 126 &&& (acc ^^^ (-1)))) : Option qm_v) = some (qI (riT g i n 32 126 &&& (acc ^^^ (-1)))) := rfl
          exact qm_step (sS_readItems hE) C 184 9999 100 ([0, 1, 0], [], [(_, uN g 6 (nI x)), (some (qI (riT g i n 32 126)), uN (uN g 6 (nI x)) 6 (nN (uN g 6 (nI x)) 6 + 1))]) ⟨h0, A0 x hx, h93, (by decide : ¬ (1 : Int32) = 0), pl, e3, S1 x⟩
        · rw [if_neg h94] at ho
          rw [if_neg h94] at C
          subst ho
          exact qm_step (sS_readItems hE) C 184 9999 100 ([0, 1, 1], [], [(_, uN g 6 (nI x))]) ⟨h0, A0 x hx, h93, rfl, rfl, S1 x⟩
      · have e1 : ((true && !(k == 0) && (riP g j m x == 93)) = true) = False := by simp [h93]
        simp only [e1, if_false] at C
        exact qm_step (sS_readItems hE) C 184 9999 100 ([0, 0], [], [(_, uN g 6 (nI x))]) ⟨h0, A0 x hx, h93, rfl, rfl⟩
  have loop : ∀ (r x k y : Nat) (acc o : Int32) (w7 w8 w9 : Option qm_v), y + r = m → z = riF (riP g j m) (riT g i n) r x acc k → x < 40 + 3 * y → k ≤ y → o = (if riP g j m q = 94 then 1 else 0) → qm_W (cLa E.2.2.2.1) cV (cHold E) (cA E.2.2.2.1) 10 p E.1 e (rmL 3) st mm args below meth c Q 42 ([some (qR 7 0), some (qR 1 i), some (qR 1 j), some (qI o), some (qI acc), some (qI (nI k)), some (qI (nI y)), w7, w8, w9], [], uN g 6 (nI x)) := by
    intro r
    induction r with
    | zero =>
      intro x k y acc o w7 w8 w9 hy hz2 hx hk ho
      have hc : ((uN g 6 (nI x)).1 j).2.2.2 ≤ nI y := by show (g.1 j).2.2.2 ≤ _; rw [hj]; exact nI_le (by omega) (by omega)
      have fin := ends x k acc o (some (qI (nI y))) w7 w8 w9 hz2 (by omega) (by omega) ho
      exact qm_step (sS_readItems hE) C 42 184 100 ([1], [], []) ⟨hc, fin⟩
    | succ r ih =>
      intro x k y acc o w7 w8 w9 hy hz2 hx hk ho
      have hx2 : x < 190 := by omega
      have hc : ¬ ((uN g 6 (nI x)).1 j).2.2.2 ≤ nI y := by show ¬ (g.1 j).2.2.2 ≤ _; rw [hj]; exact nI_ge (by omega) (by omega)
      rw [riF_s] at hz2
      by_cases h93 : riP g j m x = 93
      · rw [if_pos h93] at hz2
        have fin := ends x k acc o (some (qI (nI y))) w7 w8 w9 hz2 (by omega) (by omega) ho
        exact qm_step (sS_readItems hE) C 42 184 100 ([0, 1], [], [(_, uN g 6 (nI x))]) ⟨hc, A0 x hx2, h93, fin⟩
      rw [if_neg h93] at hz2
      unfold riB at hz2
      by_cases hw : riP g j m (x + 1) = 45
      · have eH : riH (riP g j m) x = riP g j m (x + 2) := if_pos hw
        have eQ : riQ (riP g j m) x = x + 3 := if_pos hw
        rw [eH, eQ] at hz2
        by_cases i1 : itB (riP g j m x)
        · by_cases i2 : itB (riP g j m (x + 2))
          · by_cases i3 : riP g j m (x + 2) < riP g j m x
            · rw [if_neg (by simp [i3])] at hz2
              subst hz2
              have e1 : ∀ a b : Nat, (if (false && !(a == 0) && (riP g j m b == 93)) = true then (1 : Nat) else 0) = 0 := fun a b => by simp
              simp only [Bool.false_and, Bool.false_eq_true, if_false] at C
              have hle : ¬ riP g j m x ≤ riP g j m (x + 2) := by rw [Int32.not_le]; exact i3
              have q1 := IT x (riP g j m x)
              have q2 := IT x (riP g j m (x + 2))
              rw [if_pos i1] at q1
              rw [if_pos i2] at q2
              exact qm_step (sS_readItems hE) C 42 9999 100 ([0, 0, 0, 0, 0, 0, 0], [], [(_, uN g 6 (nI x)), (_, uN g 6 (nI x)), (_, uN g 6 (nI x)), (_, uN g 6 (nI x)), (_, uN g 6 (nI x)), (_, uN g 6 (nI x))]) ⟨hc, A0 x hx2, h93, A0 x hx2, A1 x hx2, hw, (by decide : ¬ (1 : Int32) = 0), A2 x hx2, q1, (by decide : ¬ (1 : Int32) = 0), q2, (by decide : ¬ (1 : Int32) = 0), hle, rfl, rfl⟩
            · rw [if_pos (by simp [i1, i2, i3])] at hz2
              have hle : riP g j m x ≤ riP g j m (x + 2) := by rw [← Int32.not_lt]; exact i3
              have q1 := IT x (riP g j m x)
              have q2 := IT x (riP g j m (x + 2))
              rw [if_pos i1] at q1
              rw [if_pos i2] at q2
              have fin := ih (x + 3) (k + 1) (y + 1) (acc ||| riT g i n (riP g j m x) (riP g j m (x + 2))) o (some (qI (riP g j m x))) (some (qI 1)) (some (qI (riP g j m (x + 2)))) (by omega) hz2 (by omega) (by omega) ho
              rw [← S3, ← nI_1 k, ← nI_1 y] at fin
              exact qm_step (sS_readItems hE) C 42 42 100 ([0, 0, 0, 0, 0, 0, 1, 0], [], [(_, uN g 6 (nI x)), (_, uN g 6 (nI x)), (_, uN g 6 (nI x)), (_, uN g 6 (nI x)), (_, uN g 6 (nI x)), (_, uN g 6 (nI x)), (_, uN g 6 (nI x))]) ⟨hc, A0 x hx2, h93, A0 x hx2, A1 x hx2, hw, (by decide : ¬ (1 : Int32) = 0), A2 x hx2, q1, (by decide : ¬ (1 : Int32) = 0), q2, (by decide : ¬ (1 : Int32) = 0), hle, PL x _ _, (by decide : ¬ (1 : Int32) = 0), fin⟩
          · rw [if_neg (by simp [i2])] at hz2
            subst hz2
            simp only [Bool.false_and, Bool.false_eq_true, if_false] at C
            have q1 := IT x (riP g j m x)
            have q2 := IT x (riP g j m (x + 2))
            rw [if_pos i1] at q1
            rw [if_neg i2] at q2
            exact qm_step (sS_readItems hE) C 42 9999 100 ([0, 0, 0, 0, 0, 1], [], [(_, uN g 6 (nI x)), (_, uN g 6 (nI x)), (_, uN g 6 (nI x)), (_, uN g 6 (nI x)), (_, uN g 6 (nI x)), (_, uN g 6 (nI x))]) ⟨hc, A0 x hx2, h93, A0 x hx2, A1 x hx2, hw, (by decide : ¬ (1 : Int32) = 0), A2 x hx2, q1, (by decide : ¬ (1 : Int32) = 0), q2, rfl, rfl, rfl⟩
        · rw [if_neg (by simp [i1])] at hz2
          subst hz2
          simp only [Bool.false_and, Bool.false_eq_true, if_false] at C
          have q1 := IT x (riP g j m x)
          rw [if_neg i1] at q1
          exact qm_step (sS_readItems hE) C 42 9999 100 ([0, 0, 0, 0, 1], [], [(_, uN g 6 (nI x)), (_, uN g 6 (nI x)), (_, uN g 6 (nI x)), (_, uN g 6 (nI x)), (_, uN g 6 (nI x))]) ⟨hc, A0 x hx2, h93, A0 x hx2, A1 x hx2, hw, (by decide : ¬ (1 : Int32) = 0), A2 x hx2, q1, rfl, rfl, rfl⟩
      · have eH : riH (riP g j m) x = riP g j m x := if_neg hw
        have eQ : riQ (riP g j m) x = x + 1 := if_neg hw
        have i3 : ¬ riP g j m x < riP g j m x := by rw [Int32.lt_iff_toInt_lt]; omega
        rw [eH, eQ] at hz2
        by_cases i1 : itB (riP g j m x)
        · rw [if_pos (by simp [i1, i3])] at hz2
          have hle : riP g j m x ≤ riP g j m x := by rw [← Int32.not_lt]; exact i3
          have q1 := IT x (riP g j m x)
          rw [if_pos i1] at q1
          have fin := ih (x + 1) (k + 1) (y + 1) (acc ||| riT g i n (riP g j m x) (riP g j m x)) o (some (qI (riP g j m x))) (some (qI 0)) (some (qI (riP g j m x))) (by omega) hz2 (by omega) (by omega) ho
          rw [← S1, ← nI_1 k, ← nI_1 y] at fin
          exact qm_step (sS_readItems hE) C 42 42 100 ([0, 0, 1, 1, 0, 0, 1, 1], [], [(_, uN g 6 (nI x)), (_, uN g 6 (nI x)), (_, uN g 6 (nI x)), (_, uN g 6 (nI x)), (_, uN g 6 (nI x)), (_, uN g 6 (nI x))]) ⟨hc, A0 x hx2, h93, A0 x hx2, A1 x hx2, hw, rfl, q1, (by decide : ¬ (1 : Int32) = 0), q1, (by decide : ¬ (1 : Int32) = 0), hle, PL x _ _, rfl, fin⟩
        · rw [if_neg (by simp [i1])] at hz2
          subst hz2
          simp only [Bool.false_and, Bool.false_eq_true, if_false] at C
          have q1 := IT x (riP g j m x)
          rw [if_neg i1] at q1
          exact qm_step (sS_readItems hE) C 42 9999 100 ([0, 0, 1, 1, 1], [], [(_, uN g 6 (nI x)), (_, uN g 6 (nI x)), (_, uN g 6 (nI x)), (_, uN g 6 (nI x))]) ⟨hc, A0 x hx2, h93, A0 x hx2, A1 x hx2, hw, rfl, q1, rfl, rfl, rfl⟩
  have hat := xV_atH hE g j m q hm (by omega) hj
  rw [← hp] at hat
  unfold riZ at hz
  by_cases h94 : riP g j m q = 94
  · rw [if_pos h94] at hz
    have fin := loop m (q + 1) 0 0 0 1 none none none (by omega) hz.symm (by omega) (by omega) (if_pos h94).symm
    have e1 : uN g 6 (nN g 6 + 1) = uN g 6 (nI (q + 1)) := by rw [hp, nI_1]
    rw [← e1] at fin
    exact qm_step (sS_readItems hE) C 0 42 100 ([0, 0], [], [(_, g)]) ⟨hat, h94, (by decide : ¬ (1 : Int32) = 0), fin⟩
  · rw [if_neg h94] at hz
    have fin := loop m q 0 0 0 0 none none none (by omega) hz.symm (by omega) (by omega) (if_neg h94).symm
    rw [uN_self g 6 _ hp] at fin
    exact qm_step (sS_readItems hE) C 0 42 100 ([1, 1], [], [(_, g)]) ⟨hat, h94, rfl, fin⟩
