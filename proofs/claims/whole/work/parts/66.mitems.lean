/-! items of the reference -/
theorem aTt_z (X : AV) (h : lA X ≤ 24) (ok : ∀ b ∈ X.2.2.2, okB b) {a : Nat} (h1 : 1 ≤ a) (h2 : a < 127) : aTt X (nI a) (nI (a - 1)) = 0 := by
  apply bt_ext2
  intro p
  rw [aTt_bt X h, bt_0]
  constructor
  · rintro ⟨q1, q2, q3⟩
    obtain ⟨n, n1, n2, e⟩ := okB_n (bA_ok ok q1)
    rw [e] at q2 q3
    rw [nI_ltI (by omega) (by omega)] at q2 q3
    omega
  · intro q; cases q
theorem aTt_s (X : AV) (h : lA X ≤ 24) (ok : ∀ b ∈ X.2.2.2, okB b) {a c : Nat} (h1 : 1 ≤ a) (h2 : a ≤ c) (h3 : c < 127) : aTt X (nI a) (nI (c - 1)) ||| aTt X (nI c) (nI c) = aTt X (nI a) (nI c) := by
  apply bt_ext2
  intro p
  rw [bt_or, Bool.or_eq_true, aTt_bt X h, aTt_bt X h, aTt_bt X h]
  by_cases hp : p < lA X
  · obtain ⟨n, n1, n2, e⟩ := okB_n (bA_ok ok hp)
    rw [e, nI_ltI (by omega) (by omega), nI_ltI (by omega) (by omega), nI_ltI (by omega) (by omega), nI_ltI (by omega) (by omega)]
    omega
  · constructor
    · rintro (q | q) <;> exact absurd q.1 hp
    · intro q; exact absurd q.1 hp
theorem atF_or (a b x : Int32) : atF (a ||| b) x = atF a x ||| atF b x := by
  apply bt_ext2
  intro p
  rw [bt_or, Bool.or_eq_true, atF_bt, atF_bt, atF_bt, bt_or, Bool.or_eq_true]
  constructor
  · rintro ⟨q1, q2, q3, q4 | q4⟩
    · exact Or.inl ⟨q1, q2, q3, q4⟩
    · exact Or.inr ⟨q1, q2, q3, q4⟩
  · rintro (⟨q1, q2, q3, q4⟩ | ⟨q1, q2, q3, q4⟩)
    · exact ⟨q1, q2, q3, Or.inl q4⟩
    · exact ⟨q1, q2, q3, Or.inr q4⟩
theorem atF_0 (x : Int32) : atF 0 x = 0 := by
  apply bt_ext2
  intro p
  rw [atF_bt, bt_0, bt_0]
  constructor
  · rintro ⟨_, _, _, q⟩; cases q
  · intro q; cases q
theorem atF_not (t a x : Int32) : atF t x &&& (atF a x ^^^ (-1)) = atF (t &&& (a ^^^ (-1))) x := by
  apply bt_ext
  intro p hp
  rw [Bool.eq_iff_iff, bt_and, Bool.and_eq_true, bt_not hp, atF_bt, atF_bt, bt_and, Bool.and_eq_true]
  have h2 : bt (a ^^^ (-1)) (p - 1) = !bt a (p - 1) := bt_not (by omega)
  rw [h2]
  have h3 : bt (atF a x) p = true ↔ _ := atF_bt a x p
  cases hA : bt (atF a x) p
  · cases hB : bt a (p - 1)
    · simp
    · rw [hA, hB] at h3
      simp at h3
      simp
      intro q1 q2 q3
      exact absurd q3 (by simp [h3 q1 q2])
  · rw [hA] at h3
    have := h3.mp rfl
    simp [this.2.2.2]
theorem riF_cnt {P : Nat → Int32} {T : Int32 → Int32 → Int32} : ∀ (r q : Nat) (acc : Int32) (c : Nat), c ≤ (riF P T r q acc c).2.2.2
  | 0, q, acc, c => Nat.le_refl _
  | r + 1, q, acc, c => by
    rw [riF_s]
    split
    · exact Nat.le_refl _
    · split
      · exact Nat.le_trans (Nat.le_succ c) (riF_cnt r _ _ _)
      · exact Nat.le_refl _
/-- how reading ends: with what it does to places, or bad -/
def RS (m : mG) (B : Nat) (o : Option ((Int32 → Int32) × Nat)) (x r : Int32) (g : mG) : Prop := match o with
  | some z => r = z.1 x ∧ g = pst m z.2 0
  | none => ∃ q, q ≤ B ∧ g = pst m q 1
def itO (P : Nat → Int32) (T : Int32 → Int32 → Int32) (m q : Nat) : Option ((Int32 → Int32) × Nat) := if itG P T m q then some (atF (itP P T m q), itQ P T m q) else none
theorem itB_b {Y : AV} (ok : ∀ b ∈ Y.2.2.2, okB b) {q : Nat} (h : itB (bA Y q) = true) : q < lA Y ∧ ∃ n : Nat, 32 ≤ n ∧ n < 127 ∧ bA Y q = nI n := by
  rcases Nat.lt_or_ge q (lA Y) with h2 | h2
  · exact ⟨h2, okB_n (bA_ok ok h2)⟩
  · rw [bA_out h2] at h
    exact absurd h (by decide)
set_option maxHeartbeats 4000000 in
theorem xM_items (E : mEnv) {m : mG} {X Y : AV} (h : pOk m X Y) (q : Nat) (hq : q ≤ lA Y) (x : Int32) : ∃ r g, RS m 40 (itO (bA Y) (aTt X) (lA Y) q) x r g ∧ mSd E mM_items [qR 0 0, qI x] (pst m q 0) (some (qI r)) g := by
  obtain ⟨l1, l2, l3, l4⟩ := pOk_len h
  obtain ⟨P, hP⟩ : ∃ P, P = bA Y := ⟨_, rfl⟩
  obtain ⟨T, hT⟩ : ∃ T, T = aTt X := ⟨_, rfl⟩
  obtain ⟨no, hno⟩ : ∃ no : Int32, no = (if P q = 94 then 1 else 0) := ⟨_, rfl⟩
  have no01 : no = 0 ∨ no = 1 := by rw [hno]; split <;> simp
  obtain ⟨q0, hq0⟩ : ∃ q0, q0 = (if P q = 94 then q + 1 else q) := ⟨_, rfl⟩
  have hP0 : ∀ k, lA Y ≤ k → P k = 0 := fun k hk => by rw [hP]; exact bA_out hk
  have hq0b : q0 ≤ lA Y := by
    rw [hq0]
    split
    · rename_i z
      rcases Nat.lt_or_ge q (lA Y) with w | w
      · omega
      · rw [hP0 q w] at z
        exact absurd z (by decide)
    · exact hq
  have here : ∀ k bd, k < 1000 → mSd E mM_here [qR 0 0] (pst m k bd) (some (qI (P k))) (pst m k bd) := fun k bd hk => by rw [hP]; exact xM_here E h k hk bd
  have item : ∀ k bd, k < 1000 → mSd E mM_isItem [qR 0 0] (pst m k bd) (some (qI (if itB (P k) then 1 else 0))) (pst m k bd) := fun k bd hk => by rw [hP]; exact xM_isItem E h k hk bd
  -- the answer for what was read
  obtain ⟨out, hout⟩ : ∃ out : Int32 → Int32, out = fun acc => if no = 0 then atF acc x else atF (T 32 126) x &&& (atF acc x ^^^ (-1)) := ⟨_, rfl⟩
  -- the code behind the loop
  have tail : ∀ (k : Nat) (bd to : Int32) (L4 L5 L6 : Option qm_v) (r : Int32) (g : mG), k < 900 → r = (if no = 0 then to else atF (T 32 126) x &&& (to ^^^ (-1))) → g = pst m (k + 1) bd → ∀ (p : Program) (e : Env) (st : State) (mm : MethodId) (args : Array Value) (below : List Frame) (meth : Method) (c : Code) (Q : State → Prop), qm_C (mLa E.2.2.2) mV (mHold E) (mA E.2.2.2) (fun r1 g1 => r1 = some (qI r) ∧ g1 = g) prog_10_method_45_code 7 yM_items.cls (wsT yM_items prog_10_method_45_code 7 (some .int)) (some .int) p st mm args below meth c Q → qm_W (mLa E.2.2.2) mV (mHold E) (mA E.2.2.2) 7 p E.1 e (rmL 4) st mm args below meth c Q 215 ([some (qR 0 0), some (qI x), some (qI no), some (qI to), L4, L5, L6], [], pst m k bd) := by
    intro k bd to L4 L5 L6 r g hk hr hg p e st mm args below meth c Q C
    have e1 : (va_up (pst m k bd).1 3 ((pst m k bd).1 3 + 1), (pst m k bd).2) = pst m (k + 1) bd := by rw [pst_3, nI_1]; exact pst_at m k (k + 1) bd
    rcases no01 with z | z
    · rw [if_pos z] at hr
      have fin : (va_up (pst m k bd).1 3 ((pst m k bd).1 3 + 1), (pst m k bd).2) = g := by rw [hg]; exact e1
      have fr : (some (qI to) : Option qm_v) = some (qI r) := by rw [hr]
      exact qm_step (sM_items E) C 215 9999 100 ([1], [], []) ⟨z, fr, fin⟩
    · rw [if_neg (by rw [z]; decide)] at hr
      have hs := xM_stepA E h (k + 1) bd x 0
      rw [← hT] at hs
      have hs' : mSd E mM_step [qR 0 0, qI x, qI 1, qI 0] (va_up (pst m k bd).1 3 ((pst m k bd).1 3 + 1), (pst m k bd).2) (some (qI (atF (T 32 126) x))) (pst m (k + 1) bd) := by rw [e1]; exact hs
      have z' : ¬ no = 0 := by rw [z]; decide
      have fr : (some (qI (atF (T 32 126) x &&& (to ^^^ (-1)))) : Option qm_v) = some (qI r) := by rw [hr]
      exact qm_step (sM_items E) C 215 9999 100 ([0], [], [(some (qI (atF (T 32 126) x)), pst m (k + 1) bd)]) ⟨z', hs', fr, hg.symm⟩
  -- once bad
  have bad1 : ∀ (k : Nat) (to : Int32) (L4 L5 L6 : Option qm_v) (r : Int32) (g : mG), k < 900 → r = (if no = 0 then to else atF (T 32 126) x &&& (to ^^^ (-1))) → g = pst m (k + 1) 1 → ∀ (p : Program) (e : Env) (st : State) (mm : MethodId) (args : Array Value) (below : List Frame) (meth : Method) (c : Code) (Q : State → Prop), qm_C (mLa E.2.2.2) mV (mHold E) (mA E.2.2.2) (fun r1 g1 => r1 = some (qI r) ∧ g1 = g) prog_10_method_45_code 7 yM_items.cls (wsT yM_items prog_10_method_45_code 7 (some .int)) (some .int) p st mm args below meth c Q → qm_W (mLa E.2.2.2) mV (mHold E) (mA E.2.2.2) 7 p E.1 e (rmL 4) st mm args below meth c Q 58 ([some (qR 0 0), some (qI x), some (qI no), some (qI to), L4, L5, L6], [], pst m k 1) := by
    intro k to L4 L5 L6 r g hk hr hg p e st mm args below meth c Q C
    have b1 : ¬ (pst m k 1).1 4 = 0 := by rw [pst_4]; decide
    exact qm_step (sM_items E) C 58 215 100 ([1], [], []) ⟨b1, tail k 1 to L4 L5 L6 r g hk hr hg p e st mm args below meth c Q C⟩
  -- bad, before the bytes of the item
  have bad2 : ∀ (k : Nat) (to lo hi cc : Int32) (r : Int32) (g : mG), k < 900 → r = (if no = 0 then to else atF (T 32 126) x &&& (to ^^^ (-1))) → g = pst m (k + 1) 1 → ∀ (p : Program) (e : Env) (st : State) (mm : MethodId) (args : Array Value) (below : List Frame) (meth : Method) (c : Code) (Q : State → Prop), qm_C (mLa E.2.2.2) mV (mHold E) (mA E.2.2.2) (fun r1 g1 => r1 = some (qI r) ∧ g1 = g) prog_10_method_45_code 7 yM_items.cls (wsT yM_items prog_10_method_45_code 7 (some .int)) (some .int) p st mm args below meth c Q → qm_W (mLa E.2.2.2) mV (mHold E) (mA E.2.2.2) 7 p E.1 e (rmL 4) st mm args below meth c Q 181 ([some (qR 0 0), some (qI x), some (qI no), some (qI to), some (qI lo), some (qI hi), some (qI cc)], [], pst m k 1) := by
    intro k to lo hi cc r g hk hr hg p e st mm args below meth c Q C
    have b1 : ¬ (pst m k 1).1 4 = 0 := by rw [pst_4]; decide
    have nx := bad1 k to (some (qI lo)) (some (qI hi)) (some (qI cc)) r g hk hr hg p e st mm args below meth c Q C
    by_cases hc : hi < cc
    · exact qm_step (sM_items E) C 181 58 100 ([1], [], []) ⟨hc, nx⟩
    · exact qm_step (sM_items E) C 181 58 100 ([0, 1], [], []) ⟨hc, b1, nx⟩
  -- the bytes of an item
  have inner : ∀ (d cN a b k : Nat) (acc to : Int32), 1 ≤ a → a ≤ cN → b < 127 → cN + d = b + 1 → to = atF (acc ||| T (nI a) (nI (cN - 1))) x → ∀ (r : Int32) (g : mG) (p : Program) (e : Env) (st : State) (mm : MethodId) (args : Array Value) (below : List Frame) (meth : Method) (c : Code) (Q : State → Prop), qm_C (mLa E.2.2.2) mV (mHold E) (mA E.2.2.2) (fun r1 g1 => r1 = some (qI r) ∧ g1 = g) prog_10_method_45_code 7 yM_items.cls (wsT yM_items prog_10_method_45_code 7 (some .int)) (some .int) p st mm args below meth c Q → (∀ L6, qm_W (mLa E.2.2.2) mV (mHold E) (mA E.2.2.2) 7 p E.1 e (rmL 4) st mm args below meth c Q 58 ([some (qR 0 0), some (qI x), some (qI no), some (qI (atF (acc ||| T (nI a) (nI b)) x)), some (qI (nI a)), some (qI (nI b)), L6], [], pst m k 0)) → qm_W (mLa E.2.2.2) mV (mHold E) (mA E.2.2.2) 7 p E.1 e (rmL 4) st mm args below meth c Q 181 ([some (qR 0 0), some (qI x), some (qI no), some (qI to), some (qI (nI a)), some (qI (nI b)), some (qI (nI cN))], [], pst m k 0) := by
    intro d
    induction d with
    | zero =>
      intro cN a b k acc to ha hac hb hcd hto r g p e st mm args below meth c Q C nx
      have hc : nI b < nI cN := nI_lt (by omega) (by omega)
      have nx := nx (some (qI (nI cN)))
      rw [show b = cN - 1 by omega, ← hto] at nx
      rw [show b = cN - 1 by omega] at hc ⊢
      exact qm_step (sM_items E) C 181 58 100 ([1], [], []) ⟨hc, nx⟩
    | succ d ih =>
      intro cN a b k acc to ha hac hb hcd hto r g p e st mm args below meth c Q C nx
      have hc : ¬ nI b < nI cN := nI_nlt (by omega) (by omega)
      have b0 : (pst m k 0).1 4 = 0 := pst_4 _ _ _
      have hs := xM_stepC E h k 0 x (nI cN)
      rw [← hT] at hs
      refine qm_step (sM_items E) C 181 181 100 ([0, 0], [], [(some (qI (atF (T (nI cN) (nI cN)) x)), pst m k 0)]) ⟨hc, b0, hs, ?_⟩
      have := ih (cN + 1) a b k acc (to ||| atF (T (nI cN) (nI cN)) x) ha (by omega) hb (by omega) (by
        rw [hto, ← atF_or, or_a, hT, aTt_s X l1 l3 ha hac (by omega), Nat.add_sub_cancel]) r g p e st mm args below meth c Q C nx
      rw [← nI_1] at this
      exact this
  -- the loop over items
  have loop : ∀ (rr k : Nat) (acc : Int32) (cn : Nat), lA Y ≤ k + rr → k ≤ lA Y → ∃ (r : Int32) (g : mG), (if (riF P T rr k acc cn).1 = true ∧ P (riF P T rr k acc cn).2.2.1 = 93 then r = out (riF P T rr k acc cn).2.1 ∧ g = pst m ((riF P T rr k acc cn).2.2.1 + 1) 0 else ∃ z, z ≤ 40 ∧ g = pst m z 1) ∧ ∀ (p : Program) (e : Env) (st : State) (mm : MethodId) (args : Array Value) (below : List Frame) (meth : Method) (c : Code) (Q : State → Prop), qm_C (mLa E.2.2.2) mV (mHold E) (mA E.2.2.2) (fun r1 g1 => r1 = some (qI r) ∧ g1 = g) prog_10_method_45_code 7 yM_items.cls (wsT yM_items prog_10_method_45_code 7 (some .int)) (some .int) p st mm args below meth c Q → ∀ (L4 L5 L6 : Option qm_v), qm_W (mLa E.2.2.2) mV (mHold E) (mA E.2.2.2) 7 p E.1 e (rmL 4) st mm args below meth c Q 58 ([some (qR 0 0), some (qI x), some (qI no), some (qI (atF acc x)), L4, L5, L6], [], pst m k 0) := by
    -- an item that is no item
    have noItem : ∀ (k : Nat) (acc : Int32), k ≤ lA Y → ¬ P k = 93 → itB (P k) = false → ∃ (r : Int32) (g : mG), (∃ z, z ≤ 40 ∧ g = pst m z 1) ∧ ∀ (p : Program) (e : Env) (st : State) (mm : MethodId) (args : Array Value) (below : List Frame) (meth : Method) (c : Code) (Q : State → Prop), qm_C (mLa E.2.2.2) mV (mHold E) (mA E.2.2.2) (fun r1 g1 => r1 = some (qI r) ∧ g1 = g) prog_10_method_45_code 7 yM_items.cls (wsT yM_items prog_10_method_45_code 7 (some .int)) (some .int) p st mm args below meth c Q → ∀ (L4 L5 L6 : Option qm_v), qm_W (mLa E.2.2.2) mV (mHold E) (mA E.2.2.2) 7 p E.1 e (rmL 4) st mm args below meth c Q 58 ([some (qR 0 0), some (qI x), some (qI no), some (qI (atF acc x)), L4, L5, L6], [], pst m k 0) := by
      intro k acc hk h93 hB
      refine ⟨(if no = 0 then atF acc x else atF (T 32 126) x &&& (atF acc x ^^^ (-1))), pst m (k + 1 + 1) 1, ⟨k + 1 + 1, by omega, rfl⟩, ?_⟩
      intro p e st mm args below meth c Q C L4 L5 L6
      have b0 : (pst m k 0).1 4 = 0 := pst_4 _ _ _
      have hi := item k 0 (by omega)
      rw [hB, if_neg (by decide)] at hi
      have e1 : (va_up (pst m k 0).1 4 1, (pst m k 0).2) = pst m k 1 := pst_bd _ _ _ _
      have e2 : (va_up (pst m k 1).1 3 ((pst m k 1).1 3 + 1), (pst m k 1).2) = pst m (k + 1) 1 := by rw [pst_3, nI_1]; exact pst_at _ _ _ _
      have hh : mSd E mM_here [qR 0 0] (va_up (pst m k 0).1 4 1, (pst m k 0).2) (some (qI (P k))) (pst m k 1) := by rw [e1]; exact here k 1 (by omega)
      have b1 : ¬ (va_up (pst m k 1).1 3 ((pst m k 1).1 3 + 1)) 4 = 0 := by
        rw [va_up_ne _ _ (by decide), pst_4]; decide
      have nx := bad2 (k + 1) (atF acc x) (P k) (P k) (P k) _ _ (by omega) rfl rfl p e st mm args below meth c Q C
      rw [← e2] at nx
      exact qm_step (sM_items E) C 58 181 100 ([0, 0, 0, 1], [], [(some (qI (P k)), pst m k 0), (some (qI 0), pst m k 0), (some (qI (P k)), pst m k 1)]) ⟨b0, here k 0 (by omega), h93, hi, rfl, Or.inr rfl, hh, b1, nx⟩
    intro rr
    induction rr with
    | zero =>
      intro k acc cn hk hk2
      have hk3 : k = lA Y := by omega
      have hz := hP0 k (by omega)
      obtain ⟨r, g, a1, a2⟩ := noItem k acc hk2 (by rw [hz]; decide) (by rw [hz]; rfl)
      refine ⟨r, g, ?_, a2⟩
      rw [if_neg]
      · exact a1
      · rintro ⟨_, z⟩
        rw [show (riF P T 0 k acc cn).2.2.1 = k from rfl, hz] at z
        exact absurd z (by decide)
    | succ rr ih =>
      intro k acc cn hk hk2
      rw [riF_s]
      by_cases h93 : P k = 93
      · rw [if_pos h93]
        refine ⟨out acc, pst m (k + 1) 0, ?_, ?_⟩
        · rw [if_pos ⟨rfl, h93⟩]; exact ⟨rfl, rfl⟩
        · intro p e st mm args below meth c Q C L4 L5 L6
          have b0 : (pst m k 0).1 4 = 0 := pst_4 _ _ _
          exact qm_step (sM_items E) C 58 215 100 ([0, 1], [], [(some (qI (P k)), pst m k 0)]) ⟨b0, here k 0 (by omega), h93, tail k 0 (atF acc x) L4 L5 L6 _ _ (by omega) (by rw [hout]) rfl p e st mm args below meth c Q C⟩
      · rw [if_neg h93]
        by_cases hB : itB (P k) = true
        · obtain ⟨hkl, a, a1, a2, ea⟩ := itB_b l4 (q := k) (by rw [← hP]; exact hB)
          rw [← hP] at ea
          have b0 : (pst m k 0).1 4 = 0 := pst_4 _ _ _
          have hi := item k 0 (by omega)
          rw [hB, if_pos rfl] at hi
          have e1 : (va_up (pst m k 0).1 4 0, (pst m k 0).2) = pst m k 0 := pst_bd _ _ _ _
          have e2 : (va_up (pst m k 0).1 3 ((pst m k 0).1 3 + 1), (pst m k 0).2) = pst m (k + 1) 0 := by rw [pst_3, nI_1]; exact pst_at _ _ _ _
          have hh : mSd E mM_here [qR 0 0] (va_up (pst m k 0).1 4 0, (pst m k 0).2) (some (qI (P k))) (pst m k 0) := by rw [e1]; exact here k 0 (by omega)
          have b01 : (va_up (pst m k 0).1 3 ((pst m k 0).1 3 + 1)) 4 = 0 := by rw [va_up_ne _ _ (by decide), pst_4]
          have hh2 : mSd E mM_here [qR 0 0] (va_up (pst m k 0).1 3 ((pst m k 0).1 3 + 1), (pst m k 0).2) (some (qI (P (k + 1)))) (pst m (k + 1) 0) := by rw [e2]; exact here (k + 1) 0 (by omega)
          by_cases h45 : P (k + 1) = 45
          · have hH : riH P k = P (k + 2) := by unfold riH; rw [if_pos h45]
            have hQ : riQ P k = k + 3 := by unfold riQ; rw [if_pos h45]
            have hk1 : k + 1 < lA Y := by
              rcases Nat.lt_or_ge (k + 1) (lA Y) with w | w
              · exact w
              · rw [hP0 _ w] at h45; exact absurd h45 (by decide)
            have e3 : (va_up (pst m (k + 1) 0).1 3 ((pst m (k + 1) 0).1 3 + 1), (pst m (k + 1) 0).2) = pst m (k + 2) 0 := by rw [pst_3, nI_1]; exact pst_at _ _ _ _
            have hi2 := item (k + 2) 0 (by omega)
            have hi2' : mSd E mM_isItem [qR 0 0] (va_up (pst m (k + 1) 0).1 3 ((pst m (k + 1) 0).1 3 + 1), (pst m (k + 1) 0).2) (some (qI (if itB (P (k + 2)) then 1 else 0))) (pst m (k + 2) 0) := by rw [e3]; exact hi2
            -- bad at the upper byte
            have badHi : riB P k = false → ∃ (r : Int32) (g : mG), (∃ z, z ≤ 40 ∧ g = pst m z 1) ∧ ∀ (p : Program) (e : Env) (st : State) (mm : MethodId) (args : Array Value) (below : List Frame) (meth : Method) (c : Code) (Q : State → Prop), qm_C (mLa E.2.2.2) mV (mHold E) (mA E.2.2.2) (fun r1 g1 => r1 = some (qI r) ∧ g1 = g) prog_10_method_45_code 7 yM_items.cls (wsT yM_items prog_10_method_45_code 7 (some .int)) (some .int) p st mm args below meth c Q → ∀ (L4 L5 L6 : Option qm_v), qm_W (mLa E.2.2.2) mV (mHold E) (mA E.2.2.2) 7 p E.1 e (rmL 4) st mm args below meth c Q 58 ([some (qR 0 0), some (qI x), some (qI no), some (qI (atF acc x)), L4, L5, L6], [], pst m k 0) := by
              intro hRB
              refine ⟨(if no = 0 then atF acc x else atF (T 32 126) x &&& (atF acc x ^^^ (-1))), pst m (k + 3 + 1) 1, ⟨k + 3 + 1, by omega, rfl⟩, ?_⟩
              intro p e st mm args below meth c Q C L4 L5 L6
              have e4 : (va_up (pst m (k + 2) 0).1 4 1, (pst m (k + 2) 0).2) = pst m (k + 2) 1 := pst_bd _ _ _ _
              have hh3 : mSd E mM_here [qR 0 0] (va_up (pst m (k + 2) 0).1 4 1, (pst m (k + 2) 0).2) (some (qI (P (k + 2)))) (pst m (k + 2) 1) := by rw [e4]; exact here (k + 2) 1 (by omega)
              have e5 : (va_up (pst m (k + 2) 1).1 3 ((pst m (k + 2) 1).1 3 + 1), (pst m (k + 2) 1).2) = pst m (k + 3) 1 := by rw [pst_3, nI_1]; exact pst_at _ _ _ _
              have nx := bad2 (k + 3) (atF acc x) (P k) (P (k + 2)) (P k) _ _ (by omega) rfl rfl p e st mm args below meth c Q C
              rw [← e5] at nx
              by_cases hI2 : itB (P (k + 2)) = true
              · rw [hI2, if_pos rfl] at hi2'
                have hlt : ¬ P k ≤ P (k + 2) := by
                  intro w
                  unfold riB at hRB
                  rw [hB, hH, hI2, decide_eq_false (Int32.not_lt.mpr w)] at hRB
                  exact absurd hRB (by decide)
                exact qm_step (sM_items E) C 58 181 200 ([0, 0, 1, 0, 0, 0, 0], [], [(some (qI (P k)), pst m k 0), (some (qI 1), pst m k 0), (some (qI (P k)), pst m k 0), (some (qI (P (k + 1))), pst m (k + 1) 0), (some (qI 1), pst m (k + 2) 0), (some (qI (P (k + 2))), pst m (k + 2) 0), (some (qI (P (k + 2))), pst m (k + 2) 1)]) ⟨b0, here k 0 (by omega), h93, hi, by decide, Or.inl rfl, hh, b01, hh2, h45, hi2', by decide, here (k + 2) 0 (by omega), hlt, Or.inr rfl, hh3, nx⟩
              · rw [if_neg hI2] at hi2'
                exact qm_step (sM_items E) C 58 181 200 ([0, 0, 1, 0, 0, 1], [], [(some (qI (P k)), pst m k 0), (some (qI 1), pst m k 0), (some (qI (P k)), pst m k 0), (some (qI (P (k + 1))), pst m (k + 1) 0), (some (qI 0), pst m (k + 2) 0), (some (qI (P (k + 2))), pst m (k + 2) 1)]) ⟨b0, here k 0 (by omega), h93, hi, by decide, Or.inl rfl, hh, b01, hh2, h45, hi2', rfl, Or.inr rfl, hh3, nx⟩
            by_cases hRB : riB P k = true
            · rw [if_pos hRB]
              have hRB' := hRB
              unfold riB at hRB'
              rw [hB, Bool.true_and, Bool.and_eq_true, hH] at hRB'
              obtain ⟨hI2, hlt⟩ := hRB'
              obtain ⟨hkl2, b, b1, b2, eb⟩ := itB_b l4 (q := k + 2) (by rw [← hP]; exact hI2)
              rw [← hP] at eb
              have hle : ¬ P (k + 2) < P k := by simpa using hlt
              have hab : a ≤ b := by
                rw [ea, eb, nI_ltI (by omega) (by omega)] at hle
                omega
              obtain ⟨r, g, i1, i2⟩ := ih (riQ P k) (acc ||| T (P k) (riH P k)) (cn + 1) (by rw [hQ]; omega) (by rw [hQ]; omega)
              refine ⟨r, g, i1, ?_⟩
              intro p e st mm args below meth c Q C L4 L5 L6
              rw [hI2, if_pos rfl] at hi2'
              have e4 : (va_up (pst m (k + 2) 0).1 4 0, (pst m (k + 2) 0).2) = pst m (k + 2) 0 := pst_bd _ _ _ _
              have hh3 : mSd E mM_here [qR 0 0] (va_up (pst m (k + 2) 0).1 4 0, (pst m (k + 2) 0).2) (some (qI (P (k + 2)))) (pst m (k + 2) 0) := by rw [e4]; exact here (k + 2) 0 (by omega)
              have e5 : (va_up (pst m (k + 2) 0).1 3 ((pst m (k + 2) 0).1 3 + 1), (pst m (k + 2) 0).2) = pst m (k + 3) 0 := by rw [pst_3, nI_1]; exact pst_at _ _ _ _
              have hle' : P k ≤ P (k + 2) := Int32.not_lt.mp hle
              have nx := inner (b + 1 - a) a a b (k + 3) acc (atF acc x) (by omega) (Nat.le_refl _) b2 (by omega) (by
                rw [hT, aTt_z X l1 l3 (by omega) a2]
                congr 1
                exact (sb_eq.mpr (sb_0 _)).symm) r g p e st mm args below meth c Q C (fun L6 => by
                  have := i2 p e st mm args below meth c Q C (some (qI (nI a))) (some (qI (nI b))) L6
                  rw [hH, ea, eb, hQ] at this
                  exact this)
              rw [← e5, ← ea, ← eb] at nx
              exact qm_step (sM_items E) C 58 181 200 ([0, 0, 1, 0, 0, 0, 1], [], [(some (qI (P k)), pst m k 0), (some (qI 1), pst m k 0), (some (qI (P k)), pst m k 0), (some (qI (P (k + 1))), pst m (k + 1) 0), (some (qI 1), pst m (k + 2) 0), (some (qI (P (k + 2))), pst m (k + 2) 0), (some (qI (P (k + 2))), pst m (k + 2) 0)]) ⟨b0, here k 0 (by omega), h93, hi, by decide, Or.inl rfl, hh, b01, hh2, h45, hi2', by decide, here (k + 2) 0 (by omega), hle', Or.inl rfl, hh3, nx⟩
            · rw [if_neg hRB]
              obtain ⟨r, g, a1, a2⟩ := badHi (by cases w : riB P k with | false => rfl | true => exact absurd w hRB)
              refine ⟨r, g, ?_, a2⟩
              rw [if_neg (fun w => absurd (show false = true from w.1) (by decide))]
              exact a1
          · have hH : riH P k = P k := by unfold riH; rw [if_neg h45]
            have hQ : riQ P k = k + 1 := by unfold riQ; rw [if_neg h45]
            have hRB : riB P k = true := by
              unfold riB
              rw [hH, hB, decide_eq_false (fun w => Int32.lt_irrefl w)]
              rfl
            rw [if_pos hRB]
            obtain ⟨r, g, i1, i2⟩ := ih (riQ P k) (acc ||| T (P k) (riH P k)) (cn + 1) (by rw [hQ]; omega) (by rw [hQ]; omega)
            refine ⟨r, g, i1, ?_⟩
            intro p e st mm args below meth c Q C L4 L5 L6
            have nx := inner 1 a a a (k + 1) acc (atF acc x) (by omega) (Nat.le_refl _) a2 (by omega) (by
              rw [hT, aTt_z X l1 l3 (by omega) a2]
              congr 1
              exact (sb_eq.mpr (sb_0 _)).symm) r g p e st mm args below meth c Q C (fun L6 => by
                have := i2 p e st mm args below meth c Q C (some (qI (nI a))) (some (qI (nI a))) L6
                rw [hH, ea, hQ] at this
                exact this)
            rw [← ea] at nx
            exact qm_step (sM_items E) C 58 181 200 ([0, 0, 1, 0, 1], [], [(some (qI (P k)), pst m k 0), (some (qI 1), pst m k 0), (some (qI (P k)), pst m k 0), (some (qI (P (k + 1))), pst m (k + 1) 0)]) ⟨b0, here k 0 (by omega), h93, hi, by decide, Or.inl rfl, hh, b01, hh2, h45, nx⟩
        · have hB' : itB (P k) = false := by cases w : itB (P k) with | false => rfl | true => exact absurd w hB
          have hRB : riB P k = false := by unfold riB; rw [hB']; rfl
          rw [if_neg (by rw [hRB]; decide)]
          obtain ⟨r, g, a1, a2⟩ := noItem k acc hk2 h93 hB'
          refine ⟨r, g, ?_, a2⟩
          rw [if_neg (fun w => absurd (show false = true from w.1) (by decide))]
          exact a1
  have itGf : itG P T (lA Y) q = true ↔ ((riF P T (lA Y) q0 0 0).1 = true ∧ ¬ (riF P T (lA Y) q0 0 0).2.2.2 = 0 ∧ P (riF P T (lA Y) q0 0 0).2.2.1 = 93) := by
    unfold itG itZ
    rw [← hq0]
    simp [and_assoc]
  have e0 : (pst m q 0).1 3 + no = nI q0 := by
    rw [pst_3, hq0, hno]
    split
    · exact nI_1 q
    · exact Int32.add_zero _
  have e1 : (va_up (pst m q 0).1 3 ((pst m q 0).1 3 + no), (pst m q 0).2) = pst m q0 0 := by rw [e0]; exact pst_at _ _ _ _
  have hi := item q0 0 (by omega)
  rw [← hP, ← hT]
  -- from the start to the loop
  have start : ∀ (bd : Int32), bd = (if itB (P q0) then 0 else 1) → ∀ (r : Int32) (g : mG), (∀ (p : Program) (e : Env) (st : State) (mm : MethodId) (args : Array Value) (below : List Frame) (meth : Method) (c : Code) (Q : State → Prop), qm_C (mLa E.2.2.2) mV (mHold E) (mA E.2.2.2) (fun r1 g1 => r1 = some (qI r) ∧ g1 = g) prog_10_method_45_code 7 yM_items.cls (wsT yM_items prog_10_method_45_code 7 (some .int)) (some .int) p st mm args below meth c Q → qm_W (mLa E.2.2.2) mV (mHold E) (mA E.2.2.2) 7 p E.1 e (rmL 4) st mm args below meth c Q 58 ([some (qR 0 0), some (qI x), some (qI no), some (qI 0), none, none, none], [], pst m q0 bd)) → mSd E mM_items [qR 0 0, qI x] (pst m q 0) (some (qI r)) g := by
    intro bd hbd r g nx
    refine qm_meth (mOk E) (by decide) rfl rfl (Nat.le_of_ble_eq_true rfl) ?_
    intro p e st mm args below meth cc Q C _ _
    have nx := nx p e st mm args below meth cc Q C
    have hh := here q 0 (by omega)
    have b0 : (va_up (pst m q 0).1 3 ((pst m q 0).1 3 + no)) 4 = 0 := by rw [va_up_ne _ _ (by decide), pst_4]
    have hi' : mSd E mM_isItem [qR 0 0] (va_up (pst m q 0).1 3 ((pst m q 0).1 3 + no), (pst m q 0).2) (some (qI (if itB (P q0) then 1 else 0))) (pst m q0 0) := by rw [e1]; exact hi
    have e4 : ∀ b2, (va_up (pst m q0 0).1 4 b2, (pst m q0 0).2) = pst m q0 b2 := fun b2 => pst_bd _ _ _ _
    rw [← e4] at nx
    by_cases h94 : P q = 94
    · have hn1 : no = 1 := by rw [hno, if_pos h94]
      subst hn1
      by_cases hB : itB (P q0) = true
      · rw [hB, if_pos rfl] at hi' hbd
        subst hbd
        exact qm_step (sM_items E) C 0 58 100 ([0, 0, 0, 1], [], [(some (qI (P q)), pst m q 0), (some (qI 1), pst m q0 0)]) ⟨hh, h94, by decide, b0, hi', by decide, Or.inl rfl, nx⟩
      · rw [if_neg hB] at hi' hbd
        subst hbd
        exact qm_step (sM_items E) C 0 58 100 ([0, 0, 0, 0], [], [(some (qI (P q)), pst m q 0), (some (qI 0), pst m q0 0)]) ⟨hh, h94, by decide, b0, hi', rfl, Or.inr rfl, nx⟩
    · have hn1 : no = 0 := by rw [hno, if_neg h94]
      subst hn1
      by_cases hB : itB (P q0) = true
      · rw [hB, if_pos rfl] at hi' hbd
        subst hbd
        exact qm_step (sM_items E) C 0 58 100 ([1, 1, 0, 1], [], [(some (qI (P q)), pst m q 0), (some (qI 1), pst m q0 0)]) ⟨hh, h94, rfl, b0, hi', by decide, Or.inl rfl, nx⟩
      · rw [if_neg hB] at hi' hbd
        subst hbd
        exact qm_step (sM_items E) C 0 58 100 ([1, 1, 0, 0], [], [(some (qI (P q)), pst m q 0), (some (qI 0), pst m q0 0)]) ⟨hh, h94, rfl, b0, hi', rfl, Or.inr rfl, nx⟩
  by_cases hB : itB (P q0) = true
  · obtain ⟨r, g, i1, i2⟩ := loop (lA Y) q0 0 0 (by omega) hq0b
    refine ⟨r, g, ?_, start 0 (by rw [if_pos hB]) r g (fun p e st mm args below meth c Q C => ?_)⟩
    · have hne : (riF P T (lA Y) q0 0 0).1 = true → ¬ (riF P T (lA Y) q0 0 0).2.2.2 = 0 := by
        obtain ⟨w1, _⟩ := itB_b l4 (q := q0) (by rw [← hP]; exact hB)
        obtain ⟨n, hn⟩ : ∃ n, lA Y = n + 1 := ⟨lA Y - 1, by omega⟩
        rw [hn, riF_s]
        rw [if_neg (by intro w; rw [w] at hB; exact absurd hB (by decide))]
        split
        · intro _
          have := riF_cnt (P := P) (T := T) n (riQ P q0) (0 ||| T (P q0) (riH P q0)) (0 + 1)
          omega
        · intro w; cases w
      unfold itO
      by_cases hc : (riF P T (lA Y) q0 0 0).1 = true ∧ P (riF P T (lA Y) q0 0 0).2.2.1 = 93
      · rw [if_pos hc] at i1
        rw [if_pos (itGf.mpr ⟨hc.1, hne hc.1, hc.2⟩)]
        refine ⟨?_, ?_⟩
        · show r = atF (itP P T (lA Y) q) x
          rw [i1.1, hout]
          unfold itP itZ
          rw [← hq0]
          by_cases h94 : P q = 94
          · rw [if_pos h94]
            show (if no = 0 then _ else _) = _
            rw [if_neg (by rw [hno, if_pos h94]; decide), atF_not]
          · rw [if_neg h94]
            show (if no = 0 then _ else _) = _
            rw [if_pos (by rw [hno, if_neg h94])]
        · show g = pst m (itQ P T (lA Y) q) 0
          rw [i1.2]
          unfold itQ itZ
          rw [← hq0]
      · rw [if_neg hc] at i1
        rw [if_neg (fun w => hc ⟨(itGf.mp w).1, (itGf.mp w).2.2⟩)]
        exact i1
    · have := i2 p e st mm args below meth c Q C none none none
      rw [atF_0] at this
      exact this
  · refine ⟨(if no = 0 then 0 else atF (T 32 126) x &&& ((0 : Int32) ^^^ (-1))), pst m (q0 + 1) 1, ?_, start 1 (by rw [if_neg hB]) _ _ (fun p e st mm args below meth c Q C => bad1 q0 0 none none none _ _ (by omega) rfl rfl p e st mm args below meth c Q C)⟩
    unfold itO
    rw [if_neg]
    · exact ⟨q0 + 1, by omega, rfl⟩
    · intro w
      obtain ⟨w1, w2, w3⟩ := itGf.mp w
      have hB' : itB (P q0) = false := by cases v : itB (P q0) with | false => rfl | true => exact absurd v hB
      have hRB : riB P q0 = false := by unfold riB; rw [hB']; rfl
      cases hl : lA Y with
      | zero => rw [hl] at w2; exact w2 rfl
      | succ n =>
        rw [hl, riF_s] at w1 w2
        by_cases h93 : P q0 = 93
        · rw [if_pos h93] at w2; exact w2 rfl
        · rw [if_neg h93, if_neg (by rw [hRB]; decide)] at w1
          cases w1
