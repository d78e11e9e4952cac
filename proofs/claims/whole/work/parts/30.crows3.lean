/-! FunctionRows: type, call -/
/-- a byte that may be typed -/
def byOk (x : Int64) (k : Nat) : Prop := ¬ byI x (nI k) < 32 ∧ byI x (nI k) ≤ 126
def tyF (x : Int64) : Nat → Nat → (Nat → Int32) → Nat → Int32
  | 0, _, f => f
  | i + 1, t, f => tyF x i (t + 1) (upd f t (byI x (nI i)).toInt8.toInt32)
def tyS (g : cG) (x : Int64) (n t : Nat) : cG := uT (uC g (g.2.2.2.1.1, nI (t + n))) (tyF x n t g.2.2.2.2.1)
theorem xR_type_bad {E : cEnv} (hE : cOk E) (g : cG) (x : Int64) (n : Int32) (h : n < 1 ∨ ¬ n ≤ 8) : cSd E mR_type [qR 0 0, qL x, qI n] g (some (qI (-1))) g := by
  refine qm_meth hE (by decide) rfl rfl (Nat.le_of_ble_eq_true rfl) ?_
  intro p e st mm args below meth c Q C _ _
  by_cases h1 : n < 1
  · exact qm_step (sR_type hE) C 0 9999 100 ([1], [], []) ⟨h1, rfl, rfl⟩
  · exact qm_step (sR_type hE) C 0 9999 100 ([0, 0], [], []) ⟨h1, h.resolve_left h1, rfl, rfl⟩
theorem xR_type {E : cEnv} (hE : cOk E) (g : cG) (x : Int64) (n t : Nat) (hn1 : 1 ≤ n) (hn8 : n ≤ 8) (ht : t ≤ 48) (hg : g.2.2.2.1.2 = nI t) : ((∃ k, k < n ∧ ¬ byOk x k) → cSd E mR_type [qR 0 0, qL x, qI (nI n)] g (some (qI (-1))) g) ∧ ((∀ k, k < n → byOk x k) → 48 < t + n → cSd E mR_type [qR 0 0, qL x, qI (nI n)] g (some (qI (-3))) g) ∧ ((∀ k, k < n → byOk x k) → t + n ≤ 48 → cSd E mR_type [qR 0 0, qL x, qI (nI n)] g (some (qI (nI (t + n)))) (tyS g x n t)) := by
  have hn1' : ¬ nI n < 1 := nI_nlt (b := 1) hn1 (by omega)
  have hn8' : nI n ≤ 8 := nI_le (b := 8) hn8 (by decide)
  refine ⟨fun h => ?_, fun h h2 => ?_, fun h h2 => ?_⟩
  · refine qm_meth hE (by decide) rfl rfl (Nat.le_of_ble_eq_true rfl) ?_
    intro p e st mm args below meth c Q C _ _
    have loop : ∀ (r k : Nat) (w : Int32) (y : Option qm_v), k + r = n → w = nI k → (∀ j, j < k → byOk x j) → qm_W (cLa E.2.2.2.1) cV (cHold E) (cA E.2.2.2.1) 6 p E.1 e (rmL 2) st mm args below meth c Q 16 ([some (qR 0 0), some (qL x), none, some (qI (nI n)), some (qI w), y], [], g) := by
      intro r
      induction r with
      | zero =>
        intro k w y hk hw hx
        obtain ⟨j, hj, hjb⟩ := h
        exact absurd (hx j (by omega)) hjb
      | succ r ih =>
        intro k w y hk hw hx
        subst hw
        have hc : ¬ nI n ≤ nI k := nI_ge (by omega) (by omega)
        by_cases h1 : byI x (nI k) < 32
        · exact qm_step (sR_type hE) C 16 9999 100 ([0, 1], [], [(_, g)]) ⟨hc, xR_byteOf hE g x (nI k), h1, rfl, rfl⟩
        · by_cases h2 : byI x (nI k) ≤ 126
          · have fin := ih (k + 1) (nI k + 1) (some (qI (byI x (nI k)))) (by omega) (nI_1 k) (lt_s hx ⟨h1, h2⟩)
            exact qm_step (sR_type hE) C 16 16 100 ([0, 0, 1], [], [(_, g)]) ⟨hc, xR_byteOf hE g x (nI k), h1, h2, fin⟩
          · exact qm_step (sR_type hE) C 16 9999 100 ([0, 0, 0], [], [(_, g)]) ⟨hc, xR_byteOf hE g x (nI k), h1, h2, rfl, rfl⟩
    exact qm_step (sR_type hE) C 0 16 100 ([0, 1], [], []) ⟨hn1', hn8', loop n 0 _ _ (by omega) rfl (fun j hj => by omega)⟩
  · refine qm_meth hE (by decide) rfl rfl (Nat.le_of_ble_eq_true rfl) ?_
    intro p e st mm args below meth c Q C _ _
    have hfull : ¬ g.2.2.2.1.2 + nI n ≤ 48 := by rw [hg, nI_add]; exact nI_ge (a := 48) h2 (by omega)
    have loop : ∀ (r k : Nat) (w : Int32) (y : Option qm_v), k + r = n → w = nI k → qm_W (cLa E.2.2.2.1) cV (cHold E) (cA E.2.2.2.1) 6 p E.1 e (rmL 2) st mm args below meth c Q 16 ([some (qR 0 0), some (qL x), none, some (qI (nI n)), some (qI w), y], [], g) := by
      intro r
      induction r with
      | zero =>
        intro k w y hk hw
        subst hw
        have hc : nI n ≤ nI k := nI_le (by omega) (by omega)
        exact qm_step (sR_type hE) C 16 9999 100 ([1, 0], [], []) ⟨hc, hfull, rfl, rfl⟩
      | succ r ih =>
        intro k w y hk hw
        subst hw
        have hc : ¬ nI n ≤ nI k := nI_ge (by omega) (by omega)
        have hb := h k (by omega)
        have fin := ih (k + 1) (nI k + 1) (some (qI (byI x (nI k)))) (by omega) (nI_1 k)
        exact qm_step (sR_type hE) C 16 16 100 ([0, 0, 1], [], [(_, g)]) ⟨hc, xR_byteOf hE g x (nI k), hb.1, hb.2, fin⟩
    exact qm_step (sR_type hE) C 0 16 100 ([0, 1], [], []) ⟨hn1', hn8', loop n 0 _ _ (by omega) rfl⟩
  · refine qm_meth hE (by decide) rfl rfl (Nat.le_of_ble_eq_true rfl) ?_
    intro p e st mm args below meth c Q C _ _
    have hroom : g.2.2.2.1.2 + nI n ≤ 48 := by rw [hg, nI_add]; exact nI_le (b := 48) h2 (by decide)
    have loop2 : ∀ (i u : Nat) (w : Int32) (y : Option qm_v) (f : Nat → Int32), u + i = t + n → w = nI i - 1 → tyF x i u f = tyF x n t g.2.2.2.2.1 → qm_W (cLa E.2.2.2.1) cV (cHold E) (cA E.2.2.2.1) 6 p E.1 e (rmL 2) st mm args below meth c Q 71 ([some (qR 0 0), some (qL x), none, some (qI (nI n)), some (qI w), y], [], uT (uC g (g.2.2.2.1.1, nI u)) f) := by
      intro i
      induction i with
      | zero =>
        intro u w y f hu hw hf
        subst hw
        have hc : nI 0 - 1 < 0 := by decide
        have e1 : (some (qI (nI u)) : Option qm_v) = some (qI (nI (t + n))) := by rw [show u = t + n by omega]
        have e2 : uT (uC g (g.2.2.2.1.1, nI u)) f = tyS g x n t := by
          unfold tyS
          rw [← hf, show u = t + n by omega]
          rfl
        exact qm_step (sR_type hE) C 71 9999 100 ([1], [], []) ⟨hc, e1, e2⟩
      | succ i ih =>
        intro u w y f hu hw hf
        rw [nI_pred] at hw
        subst hw
        have hc : ¬ nI i < 0 := nI_pos (by omega)
        have hin : vp_in (nI u) 48 := vp_in_nI (by omega) (by decide)
        have e3 : uT (uC g (g.2.2.2.1.1, nI u + 1)) (upd f (nI u).toNatClampNeg (byI x (nI i)).toInt8.toInt32.toInt8.toInt32) = uT (uC g (g.2.2.2.1.1, nI (u + 1))) (upd f u (byI x (nI i)).toInt8.toInt32) := by
          have hbb : (byI x (nI i)).toInt8.toInt32.toInt8.toInt32 = (byI x (nI i)).toInt8.toInt32 := pk_vb _
          rw [nI_1, nI_clamp (by omega), hbb]
        have fin := ih (u + 1) (nI i + -1) y (upd f u (byI x (nI i)).toInt8.toInt32) (by omega) (Int32.sub_eq_add_neg _ _).symm hf
        rw [← e3] at fin
        exact qm_step (sR_type hE) C 71 71 100 ([0], [], [(_, uT (uC g (g.2.2.2.1.1, nI u)) f)]) ⟨hc, xR_byteOf hE (uT (uC g (g.2.2.2.1.1, nI u)) f) x (nI i), hin, fin⟩
    have loop : ∀ (r k : Nat) (w : Int32) (y : Option qm_v), k + r = n → w = nI k → qm_W (cLa E.2.2.2.1) cV (cHold E) (cA E.2.2.2.1) 6 p E.1 e (rmL 2) st mm args below meth c Q 16 ([some (qR 0 0), some (qL x), none, some (qI (nI n)), some (qI w), y], [], g) := by
      intro r
      induction r with
      | zero =>
        intro k w y hk hw
        subst hw
        have hc : nI n ≤ nI k := nI_le (by omega) (by omega)
        have fin := loop2 n t (nI n - 1) y g.2.2.2.2.1 (by omega) rfl rfl
        have e0 : uT (uC g (g.2.2.2.1.1, nI t)) g.2.2.2.2.1 = g := by rw [← hg]; rfl
        rw [e0] at fin
        exact qm_step (sR_type hE) C 16 71 100 ([1, 1], [], []) ⟨hc, hroom, fin⟩
      | succ r ih =>
        intro k w y hk hw
        subst hw
        have hc : ¬ nI n ≤ nI k := nI_ge (by omega) (by omega)
        have hb := h k (by omega)
        have fin := ih (k + 1) (nI k + 1) (some (qI (byI x (nI k)))) (by omega) (nI_1 k)
        exact qm_step (sR_type hE) C 16 16 100 ([0, 0, 1], [], [(_, g)]) ⟨hc, xR_byteOf hE g x (nI k), hb.1, hb.2, fin⟩
    exact qm_step (sR_type hE) C 0 16 100 ([0, 1], [], []) ⟨hn1', hn8', loop n 0 _ _ (by omega) rfl⟩
-- call
def tkL : List Int32 := [1, 2, 2, 2, 2, 2, 2, 2, 2, 2, 1, 3, 1, 1, 2, 2, 2, 2, 2, 2, 1, 1, 3, 2, 1, 1, 1, 2, 3, 3]
def tkI (op : Int32) : Int32 := if op < 0 ∨ 30 ≤ op then -1 else tkL.getD op.toNatClampNeg 0
def bcS (g : cG) (op : Int32) (a b d : Nat) : cG := oneC (uE g (cnt g) (2, cnt g, op, some a, some b, some d, (g.2.2.1 a).2.2.2.2.2.2.1 ||| (g.2.2.1 b).2.2.2.2.2.2.1 ||| (g.2.2.1 d).2.2.2.2.2.2.1, lvC g a b d, (g.2.2.1 (cnt g)).2.2.2.2.2.2.2.2))
theorem isEx_in {g : cG} (hc : cntOk g) {x : Int32} (h : isEx g x) : vp_in x 80 ∧ x.toNatClampNeg < cnt g := by
  obtain ⟨n, hn, he⟩ := hc
  obtain ⟨j, hj, hje⟩ := nI_of h.1
  have h2 := h.2
  rw [he, hje] at h2
  have : j < n := by
    rcases Nat.lt_or_ge j n with q | q
    · exact q
    · exact absurd (nI_le q hj) h2
  subst hje
  refine ⟨vp_in_nI (by omega) (by decide), ?_⟩
  unfold cnt
  rw [he, nI_clamp hj, nI_clamp (by omega)]
  exact this
theorem xR_call_open {E : cEnv} (hE : cOk E) (hT : ∀ (g : cG) (x : Int32), cSd E mR_takes [qR 0 0, qI x] g (some (qI (tkI x))) g) (g : cG) (op a b d : Int32) (hc : cntOk g) :
    (tkI op = -1 → cSd E mR_call [qR 0 0, qI op, qI a, qI b, qI d] g (some (qI (-1))) g) ∧
    (∀ s t : Int32, ¬ tkI op = -1 → s = (if tkI op ≤ 1 then a else b) → t = (if tkI op ≤ 2 then a else d) →
      (¬ (isEx g a ∧ isEx g s ∧ isEx g t) → cSd E mR_call [qR 0 0, qI op, qI a, qI b, qI d] g (some (qI (-1))) g) ∧
      (isEx g a → isEx g s → isEx g t → ¬ g.2.2.2.1.1 < 80 → cSd E mR_call [qR 0 0, qI op, qI a, qI b, qI d] g (some (qI (-3))) g) ∧
      (isEx g a → isEx g s → isEx g t → g.2.2.2.1.1 < 80 → cSd E mR_call [qR 0 0, qI op, qI a, qI b, qI d] g (some (qI g.2.2.2.1.1)) (bcS g op a.toNatClampNeg s.toNatClampNeg t.toNatClampNeg))) := by
  have ht := hT g op
  constructor
  · intro h
    refine qm_meth hE (by decide) rfl rfl (Nat.le_of_ble_eq_true rfl) ?_
    intro p e st mm args below meth c Q C _ _
    exact qm_step (sR_call hE) C 0 9999 100 ([0], [], [(_, g)]) ⟨ht, h, rfl, rfl⟩
  · intro s t h0 hs ht2
    -- to 42, whatever stands behind
    have go : ∀ (r : Option qm_v) (g' : cG), (∀ (p : Program) (e : Env) (st : State) (mm : MethodId) (args : Array Value) (below : List Frame) (meth : Method) (c : Code) (Q : State → Prop), qm_C (cLa E.2.2.2.1) cV (cHold E) (cA E.2.2.2.1) (fun r1 g1 => r1 = r ∧ g1 = g') prog_1_method_6_code 8 "FunctionRows" (wsT yR_call prog_1_method_6_code 8 (some .int)) (some .int) p st mm args below meth c Q → qm_W (cLa E.2.2.2.1) cV (cHold E) (cA E.2.2.2.1) 8 p E.1 e (rmL 2) st mm args below meth c Q 42 ([some (qR 0 0), some (qI op), some (qI a), some (qI b), some (qI d), some (qI (tkI op)), some (qI s), some (qI t)], [], g)) → cSd E mR_call [qR 0 0, qI op, qI a, qI b, qI d] g r g' := by
      intro r g' K
      refine qm_meth hE (by decide) rfl rfl (Nat.le_of_ble_eq_true rfl) ?_
      intro p e st mm args below meth c Q C _ _
      have K := K p e st mm args below meth c Q C
      by_cases h1 : tkI op ≤ 1
      · rw [if_pos h1] at hs
        have h2 : tkI op ≤ 2 := Int32.le_trans h1 (by decide)
        rw [if_pos h2] at ht2
        subst hs ht2
        exact qm_step (sR_call hE) C 0 42 100 ([1, 1, 1], [], [(_, g)]) ⟨ht, h0, h1, h2, K⟩
      · rw [if_neg h1] at hs
        by_cases h2 : tkI op ≤ 2
        · rw [if_pos h2] at ht2
          subst hs ht2
          exact qm_step (sR_call hE) C 0 42 100 ([1, 0, 1], [], [(_, g)]) ⟨ht, h0, h1, h2, K⟩
        · rw [if_neg h2] at ht2
          subst hs ht2
          exact qm_step (sR_call hE) C 0 42 100 ([1, 0, 0], [], [(_, g)]) ⟨ht, h0, h1, h2, K⟩
    refine ⟨fun h => ?_, fun h1 h2 h3 h4 => ?_, fun h1 h2 h3 h4 => ?_⟩
    · refine go _ _ fun p e st mm args below meth c Q C => ?_
      by_cases h1 : isEx g a
      · by_cases h2 : isEx g s
        · have h3 : ¬ isEx g t := fun q => h ⟨h1, h2, q⟩
          exact qm_step (sR_call hE) C 42 9999 100 ([0, 0, 0], [], [(_, g), (_, g), (_, g)]) ⟨(xR_isEx hE g a).1 h1, by decide, (xR_isEx hE g s).1 h2, by decide, (xR_isEx hE g t).2 h3, rfl, rfl, rfl⟩
        · exact qm_step (sR_call hE) C 42 9999 100 ([0, 1], [], [(_, g), (_, g)]) ⟨(xR_isEx hE g a).1 h1, by decide, (xR_isEx hE g s).2 h2, rfl, rfl, rfl⟩
      · exact qm_step (sR_call hE) C 42 9999 100 ([1], [], [(_, g)]) ⟨(xR_isEx hE g a).2 h1, rfl, rfl, rfl⟩
    · refine go _ _ fun p e st mm args below meth c Q C => ?_
      exact qm_step (sR_call hE) C 42 9999 100 ([0, 0, 1, 0], [], [(_, g), (_, g), (_, g)]) ⟨(xR_isEx hE g a).1 h1, by decide, (xR_isEx hE g s).1 h2, by decide, (xR_isEx hE g t).1 h3, by decide, h4, rfl, rfl⟩
    · refine go _ _ fun p e st mm args below meth c Q C => ?_
      obtain ⟨i1, j1⟩ := isEx_in hc h1
      obtain ⟨i2, j2⟩ := isEx_in hc h2
      obtain ⟨i3, j3⟩ := isEx_in hc h3
      have hbc := xE_becomeCall hE g (cnt g) a.toNatClampNeg s.toNatClampNeg t.toNatClampNeg op (by omega) (by omega) (by omega)
      exact qm_step (sR_call hE) C 42 9999 100 ([0, 0, 1, 1], [], [(_, g), (_, g), (_, g), (none, _)]) ⟨(xR_isEx hE g a).1 h1, by decide, (xR_isEx hE g s).1 h2, by decide, (xR_isEx hE g t).1 h3, by decide, h4, cnt_in hc h4, i1, i2, i3, hbc, rfl, rfl⟩
