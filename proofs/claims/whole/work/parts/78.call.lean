/-! BOTH SIDES: takes, call -/
theorem tk_ar : ∀ o, o < 30 → tkI (nI o) = nI (arN o) ∧ 1 ≤ arN o ∧ arN o ≤ 3 := by decide +kernel
theorem tk_no {op : Int32} (h : ¬ ∃ o : Nat, o ≤ 29 ∧ op = nI o) : tkI op = -1 := by
  unfold tkI
  rw [if_pos]
  by_cases w : op < 0
  · exact Or.inl w
  · obtain ⟨k, hk31, rfl⟩ := nI_of w
    refine Or.inr ?_
    have : ¬ k ≤ 29 := fun q => h ⟨k, q, rfl⟩
    exact (nI_leI (a := 30) (by decide) hk31).mpr (by omega)
def taOpen (E : cEnv) : Prop := ∀ (g : cG) (x : Int32), cSd E mR_takes [qR 0 0, qI x] g (some (qI (tkI x))) g
theorem takes_both {E : cEnv} (hT : taOpen E) (E' : mEnv) {g : cG} {m : mG} {n t : Nat} (_ : Rel g m n t) (op : Int32) : ∃ r, cSd E mR_takes [qR 0 0, qI op] g (some (qI r)) g ∧ mSd E' mM_takes [qR 0 0, qI op] m (some (qI r)) m := by
  refine ⟨tkI op, hT g op, ?_⟩
  have hin := xM_in E' m op.toInt64 0 29
  have key : (¬ op.toInt64 < 0 ∧ ¬ (29 : Int64) < op.toInt64) ↔ ∃ k : Nat, k ≤ 29 ∧ op = nI k := in_iff (x := op) (n := 29) (by decide)
  refine qm_meth (mOk E') (by decide) rfl rfl (Nat.le_of_ble_eq_true rfl) ?_
  intro p e st mm args below meth c Q C _ _
  by_cases h : ∃ o : Nat, o ≤ 29 ∧ op = nI o
  · rw [if_pos (key.mpr h)] at hin
    obtain ⟨o, ho, rfl⟩ := h
    rw [(tk_ar o (by omega)).1] at C
    exact qm_step (sM_takes E') C 0 9999 100 ([0], [], [(some (qI 1), m), (some (qI (nI (arN o))), m)]) ⟨hin, by decide, xM_arity E' m o (by omega), rfl, rfl⟩
  · rw [if_neg (fun w => h (key.mp w))] at hin
    rw [tk_no h] at C
    exact qm_step (sM_takes E') C 0 9999 100 ([1], [], [(some (qI 0), m)]) ⟨hin, rfl, rfl, rfl⟩
abbrev exN (n : Nat) (x : Int32) : Prop := ¬ x < 0 ∧ ¬ nI n ≤ x
def arg3 (a b c : Int32) (k : Nat) : Int32 := if k = 0 then a else if k = 1 then b else c
set_option maxHeartbeats 1000000 in
/-- the reference's call, up to the adding -/
theorem xM_call (E : mEnv) (m : mG) (o n : Nat) (a b c : Int32) (ho : o < 30) (hn : n ≤ 80) (e1 : m.1 1 = nI n) : ((∃ k, k < arN o ∧ ¬ exN n (arg3 a b c k)) → mSd E mM_call [qR 0 0, qI (nI o), qI a, qI b, qI c] m (some (qI (-1))) m) ∧
    ((∀ k, k < arN o → exN n (arg3 a b c k)) → n = 80 → mSd E mM_call [qR 0 0, qI (nI o), qI a, qI b, qI c] m (some (qI (-3))) m) ∧
    ((∀ k, k < arN o → exN n (arg3 a b c k)) → n < 80 → mSd E mM_call [qR 0 0, qI (nI o), qI a, qI b, qI c] m (some (qI (nI n))) (miW (miW (miW (adS m n 6 (nI o).toInt64) 2 (3 * n) a) 2 (3 * n + 1) b) 2 (3 * n + 2) c)) := by
  obtain ⟨_, ar1, ar3⟩ := tk_ar o ho
  have hin := xM_in E m (nI o).toInt64 0 29
  have key : (¬ (nI o).toInt64 < 0 ∧ ¬ (29 : Int64) < (nI o).toInt64) ↔ ∃ k : Nat, k ≤ 29 ∧ nI o = nI k := in_iff (x := nI o) (n := 29) (by decide)
  rw [if_pos (key.mpr ⟨o, by omega, rfl⟩)] at hin
  have hA := xM_arity E m o ho
  -- one operand
  have one : ∀ (r : Int32) (h : mG) (p : Program) (e : Env) (st : State) (mm : MethodId) (args : Array Value) (below : List Frame) (meth : Method) (cc : Code) (Q : State → Prop), qm_C (mLa E.2.2.2) mV (mHold E) (mA E.2.2.2) (fun r1 g1 => r1 = some (qI r) ∧ g1 = h) prog_10_method_12_code 7 yM_call.cls (wsT yM_call prog_10_method_12_code 7 (some .int)) (some .int) p st mm args below meth cc Q → ∀ k, k < arN o → ∀ gd : Int32, gd = (if exN n (arg3 a b c k) then 1 else 0) → qm_W (mLa E.2.2.2) mV (mHold E) (mA E.2.2.2) 7 p E.1 e (rmL 3) st mm args below meth cc Q 14 ([some (qR 0 0), some (qI (nI o)), some (qI a), some (qI b), some (qI c), some (qI gd), some (qI (nI (k + 1)))], [], m) → qm_W (mLa E.2.2.2) mV (mHold E) (mA E.2.2.2) 7 p E.1 e (rmL 3) st mm args below meth cc Q 14 ([some (qR 0 0), some (qI (nI o)), some (qI a), some (qI b), some (qI c), some (qI 1), some (qI (nI k))], [], m) := by
    intro r h p e st mm args below meth cc Q C k hk gd hgd nx
    have hc : ¬ nI (arN o) ≤ nI k := nI_ge hk (by omega)
    have hx := xM_isEx E m (arg3 a b c k) n hn e1
    rw [← hgd] at hx
    rw [← nI_1] at nx
    have hk3 : k = 0 ∨ k = 1 ∨ k = 2 := by omega
    rcases hk3 with rfl | rfl | rfl
    · exact qm_step (sM_call E) C 14 14 100 ([0, 0, 0], [], [(some (qI (nI (arN o))), m), (some (qI gd), m)]) ⟨by decide, hA, hc, rfl, hx, nx⟩
    · exact qm_step (sM_call E) C 14 14 100 ([0, 0, 1, 0], [], [(some (qI (nI (arN o))), m), (some (qI gd), m)]) ⟨by decide, hA, hc, by decide, rfl, hx, nx⟩
    · exact qm_step (sM_call E) C 14 14 100 ([0, 0, 1, 1], [], [(some (qI (nI (arN o))), m), (some (qI gd), m)]) ⟨by decide, hA, hc, by decide, by decide, hx, nx⟩
  have start : ∀ (r : Int32) (h : mG), (∀ (p : Program) (e : Env) (st : State) (mm : MethodId) (args : Array Value) (below : List Frame) (meth : Method) (cc : Code) (Q : State → Prop), qm_C (mLa E.2.2.2) mV (mHold E) (mA E.2.2.2) (fun r1 g1 => r1 = some (qI r) ∧ g1 = h) prog_10_method_12_code 7 yM_call.cls (wsT yM_call prog_10_method_12_code 7 (some .int)) (some .int) p st mm args below meth cc Q → qm_W (mLa E.2.2.2) mV (mHold E) (mA E.2.2.2) 7 p E.1 e (rmL 3) st mm args below meth cc Q 14 ([some (qR 0 0), some (qI (nI o)), some (qI a), some (qI b), some (qI c), some (qI 1), some (qI (nI 0))], [], m)) → mSd E mM_call [qR 0 0, qI (nI o), qI a, qI b, qI c] m (some (qI r)) h := by
    intro r h nx
    refine qm_meth (mOk E) (by decide) rfl rfl (Nat.le_of_ble_eq_true rfl) ?_
    intro p e st mm args below meth cc Q C _ _
    exact qm_step (sM_call E) C 0 14 100 ([], [], [(some (qI 1), m)]) ⟨hin, nx p e st mm args below meth cc Q C⟩
  have upto : ∀ (r : Int32) (h : mG) (p : Program) (e : Env) (st : State) (mm : MethodId) (args : Array Value) (below : List Frame) (meth : Method) (cc : Code) (Q : State → Prop), qm_C (mLa E.2.2.2) mV (mHold E) (mA E.2.2.2) (fun r1 g1 => r1 = some (qI r) ∧ g1 = h) prog_10_method_12_code 7 yM_call.cls (wsT yM_call prog_10_method_12_code 7 (some .int)) (some .int) p st mm args below meth cc Q → ∀ j, j ≤ arN o → (∀ k, k < j → exN n (arg3 a b c k)) → qm_W (mLa E.2.2.2) mV (mHold E) (mA E.2.2.2) 7 p E.1 e (rmL 3) st mm args below meth cc Q 14 ([some (qR 0 0), some (qI (nI o)), some (qI a), some (qI b), some (qI c), some (qI 1), some (qI (nI j))], [], m) → qm_W (mLa E.2.2.2) mV (mHold E) (mA E.2.2.2) 7 p E.1 e (rmL 3) st mm args below meth cc Q 14 ([some (qR 0 0), some (qI (nI o)), some (qI a), some (qI b), some (qI c), some (qI 1), some (qI (nI 0))], [], m) := by
    intro r h p e st mm args below meth cc Q C j
    induction j with
    | zero => intro _ _ nx; exact nx
    | succ j ih =>
      intro hj hall nx
      refine ih (by omega) (fun k hk => hall k (by omega)) ?_
      exact one r h p e st mm args below meth cc Q C j (by omega) 1 (by rw [if_pos (hall j (by omega))]) nx
  refine ⟨?_, ?_, ?_⟩
  · rintro ⟨k, hk, hbad⟩
    refine start _ _ (fun p e st mm args below meth cc Q C => ?_)
    -- the first operand that is none
    have first : ∃ j, j < arN o ∧ ¬ exN n (arg3 a b c j) ∧ ∀ i, i < j → exN n (arg3 a b c i) := by
      apply Classical.byContradiction
      intro no
      have all : ∀ j, j < arN o → exN n (arg3 a b c j) := by
        intro j
        induction j using Nat.strongRecOn with
        | ind j ih =>
          intro hj
          apply Classical.byContradiction
          intro w
          exact no ⟨j, hj, w, fun i hi => ih i hi (by omega)⟩
      exact hbad (all k hk)
    obtain ⟨j, j1, j2, j3⟩ := first
    refine upto _ _ p e st mm args below meth cc Q C j (by omega) j3 ?_
    refine one _ _ p e st mm args below meth cc Q C j j1 0 (by rw [if_neg j2]) ?_
    exact qm_step (sM_call E) C 14 9999 100 ([1, 0], [], []) ⟨rfl, rfl, rfl, rfl⟩
  · intro hall hf
    refine start _ _ (fun p e st mm args below meth cc Q C => ?_)
    refine upto _ _ p e st mm args below meth cc Q C (arN o) (Nat.le_refl _) hall ?_
    have hc : nI (arN o) ≤ nI (arN o) := Int32.le_refl _
    have ha := xM_add_full E m 6 (nI o).toInt64 (by rw [e1, hf])
    exact qm_step (sM_call E) C 14 9999 100 ([0, 1, 1, 1], [], [(some (qI (nI (arN o))), m), (some (qI (-3)), m)]) ⟨by decide, hA, hc, by decide, ha, by decide, rfl, rfl⟩
  · intro hall hf
    refine start _ _ (fun p e st mm args below meth cc Q C => ?_)
    refine upto _ _ p e st mm args below meth cc Q C (arN o) (Nat.le_refl _) hall ?_
    have hc : nI (arN o) ≤ nI (arN o) := Int32.le_refl _
    have ha := xM_add E m n 6 (nI o).toInt64 hf e1
    obtain ⟨A, hA2⟩ : ∃ A, A = adS m n 6 (nI o).toInt64 := ⟨_, rfl⟩
    rw [← hA2] at ha C
    have jn : J (nI n) = n := nI_clamp (by omega)
    obtain ⟨⟨i1, j1⟩, ⟨i2, j2⟩, ⟨i3, j3⟩⟩ := x3 (x := nI n) (vp_in_nI hf (by decide))
    rw [jn] at j1 j2 j3
    have hneg : ¬ nI n < 0 := nI_pos (by omega)
    have fin : miW (miW (miW A 2 (3 * nI n).toNatClampNeg a) 2 (3 * nI n + 1).toNatClampNeg b) 2 (3 * nI n + 2).toNatClampNeg c = miW (miW (miW A 2 (3 * n) a) 2 (3 * n + 1) b) 2 (3 * n + 2) c := by rw [j1, j2, j3]
    exact qm_step (sM_call E) C 14 9999 100 ([0, 1, 1, 0], [], [(some (qI (nI (arN o))), m), (some (qI (nI n)), A)]) ⟨by decide, hA, hc, by decide, ha, hneg, i1, i2, i3, rfl, fin⟩
theorem xM_call_bad (E : mEnv) (m : mG) (op a b c : Int32) (h : ¬ ∃ o : Nat, o ≤ 29 ∧ op = nI o) : mSd E mM_call [qR 0 0, qI op, qI a, qI b, qI c] m (some (qI (-1))) m := by
  have hin := xM_in E m op.toInt64 0 29
  have key : (¬ op.toInt64 < 0 ∧ ¬ (29 : Int64) < op.toInt64) ↔ ∃ k : Nat, k ≤ 29 ∧ op = nI k := in_iff (x := op) (n := 29) (by decide)
  rw [if_neg (fun w => h (key.mp w))] at hin
  refine qm_meth (mOk E) (by decide) rfl rfl (Nat.le_of_ble_eq_true rfl) ?_
  intro p e st mm args below meth cc Q C _ _
  exact qm_step (sM_call E) C 0 9999 100 ([1, 0], [], [(some (qI 0), m)]) ⟨hin, rfl, rfl, rfl, rfl⟩
theorem exN_J {n : Nat} {x : Int32} (hn : n ≤ 80) (h : exN n x) : x = nI (J x) ∧ J x < n := by
  obtain ⟨j, hj31, rfl⟩ := nI_of h.1
  have : j < n := by
    rcases Nat.lt_or_ge j n with w | w
    · exact w
    · exact absurd (nI_le w hj31) h.2
  unfold J
  rw [nI_clamp (by omega)]
  exact ⟨rfl, this⟩
set_option maxHeartbeats 1000000 in
theorem call_both {E : cEnv} (hE : cOk E) (hT : taOpen E) (E' : mEnv) {g : cG} {m : mG} {n t : Nat} (R : Rel g m n t) (op a b c : Int32) : ∃ r h h' n', cSd E mR_call [qR 0 0, qI op, qI a, qI b, qI c] g (some (qI r)) h ∧ mSd E' mM_call [qR 0 0, qI op, qI a, qI b, qI c] m (some (qI r)) h' ∧ Rel h h' n' t := by
  obtain ⟨ecn, hcn, ec⟩ := Rel_cnt R
  have hn := R.1.1
  have m1 := R.2.2.1.1
  obtain ⟨q1, q2⟩ := xR_call_open hE hT g op a b c hcn
  by_cases hop : ∃ o : Nat, o ≤ 29 ∧ op = nI o
  · obtain ⟨o, ho, rfl⟩ := hop
    obtain ⟨tk, ar1, ar3⟩ := tk_ar o (by omega)
    have hne : ¬ tkI (nI o) = -1 := by
      rw [tk]
      intro w
      have := nI_pos (n := arN o) (by omega)
      rw [w] at this
      exact absurd (by decide) this
    obtain ⟨s, hs⟩ : ∃ s : Int32, s = (if tkI (nI o) ≤ 1 then a else b) := ⟨_, rfl⟩
    obtain ⟨u, hu⟩ : ∃ u : Int32, u = (if tkI (nI o) ≤ 2 then a else c) := ⟨_, rfl⟩
    have hs1 : ¬ 1 < arN o → s = a := fun w => by rw [hs, tk, if_pos (show nI (arN o) ≤ (1 : Int32) from (nI_leI (a := arN o) (b := 1) (by omega) (by decide)).mpr (by omega))]
    have hs2 : 1 < arN o → s = b := fun w => by rw [hs, tk, if_neg (show ¬ nI (arN o) ≤ (1 : Int32) from fun z => by have := (nI_leI (a := arN o) (b := 1) (by omega) (by decide)).mp z; omega)]
    have hu1 : ¬ 2 < arN o → u = a := fun w => by rw [hu, tk, if_pos (show nI (arN o) ≤ (2 : Int32) from (nI_leI (a := arN o) (b := 2) (by omega) (by decide)).mpr (by omega))]
    have hu2 : 2 < arN o → u = c := fun w => by rw [hu, tk, if_neg (show ¬ nI (arN o) ≤ (2 : Int32) from fun z => by have := (nI_leI (a := arN o) (b := 2) (by omega) (by decide)).mp z; omega)]
    obtain ⟨c1, c2, c3⟩ := q2 s u hne hs hu
    obtain ⟨d1, d2, d3⟩ := xM_call E' m o n a b c (by omega) hn m1
    have ex : ∀ x, isEx g x ↔ exN n x := fun x => by unfold isEx exN; rw [ec]
    have all : (isEx g a ∧ isEx g s ∧ isEx g u) ↔ ∀ k, k < arN o → exN n (arg3 a b c k) := by
      rw [ex, ex, ex]
      constructor
      · rintro ⟨w1, w2, w3⟩ k hk
        have hk3 : k = 0 ∨ k = 1 ∨ k = 2 := by omega
        rcases hk3 with rfl | rfl | rfl
        · exact w1
        · rw [hs2 (by omega)] at w2; exact w2
        · rw [hu2 (by omega)] at w3; exact w3
      · intro w
        refine ⟨w 0 (by omega), ?_, ?_⟩
        · by_cases z : 1 < arN o
          · rw [hs2 z]; exact w 1 z
          · rw [hs1 z]; exact w 0 (by omega)
        · by_cases z : 2 < arN o
          · rw [hu2 z]; exact w 2 z
          · rw [hu1 z]; exact w 0 (by omega)
    by_cases hall : ∀ k, k < arN o → exN n (arg3 a b c k)
    · obtain ⟨x1, x2, x3'⟩ := all.mpr hall
      by_cases hf : n = 80
      · exact ⟨-3, g, m, n, c2 x1 x2 x3' (by rw [ec, hf]; decide), d2 hall hf, R⟩
      · have hn2 : n < 80 := by omega
        have cc := c3 x1 x2 x3' (by rw [ec]; exact nI_lt (b := 80) hn2 (by decide))
        rw [ec] at cc
        obtain ⟨ja, la⟩ := exN_J hn ((ex a).mp x1)
        obtain ⟨js, ls⟩ := exN_J hn ((ex s).mp x2)
        obtain ⟨ju, lu⟩ := exN_J hn ((ex u).mp x3')
        refine ⟨nI n, _, _, n + 1, cc, d3 hall hn2, ?_⟩
        obtain ⟨A, hA⟩ : ∃ A, A = adS m n 6 (nI o).toInt64 := ⟨_, rfl⟩
        rw [← hA]
        obtain ⟨w1, w2, w3⟩ := ad3_w m n 6 (nI o).toInt64
        have fA : mAd n m A := by rw [hA]; exact ad3_fr _ _ _ _
        have f2 : ∀ (z : mG) (i : Nat) (v : Int32), 3 * n ≤ i → i < 3 * n + 3 → mAd n z (miW z 2 i v) := fun z i v h1 h2 => ⟨fun a' i' p q => by rw [rI, if_neg (by omega)], fun _ _ _ => rfl, fun _ _ _ => rfl⟩
        have f := mAd_tr fA (mAd_tr (f2 A (3 * n) a (by omega) (by omega)) (mAd_tr (f2 _ (3 * n + 1) b (by omega) (by omega)) (f2 _ (3 * n + 2) c (by omega) (by omega))))
        obtain ⟨G, hG⟩ : ∃ G, G = bcS g (nI o) (J a) (J s) (J u) := ⟨_, rfl⟩
        rw [← hG]
        have eE : G.2.2.1 n = (2, n, nI o, some (J a), some (J s), some (J u), vrs g (J a) ||| vrs g (J s) ||| vrs g (J u), lvC g (J a) (J s) (J u), (g.2.2.1 n).2.2.2.2.2.2.2.2) := by
          rw [hG]
          unfold bcS
          rw [ecn]
          exact uE_at _ _ _
        have eN : ∀ j, j ≠ n → G.2.2.1 j = g.2.2.1 j := fun j hj => by
          rw [hG]
          unfold bcS
          rw [ecn]
          exact uE_ne _ _ hj
        refine Rel_add R hn2 (Nat.le_refl _) eN (fun j _ => by rw [hG]; exact ⟨rfl, rfl⟩) ?_ (by rw [hG]; rfl) (by rw [hG]; exact R.2.2.2.2.2.2.2 n (by omega)) ?_ ?_ f (Or.inr (Or.inr ⟨?_, ?_, o, J a, J s, J u, by omega, ?_, ?_, ?_, ?_, ⟨la, ls, lu⟩, ?_, ?_, ?_, fun z => ?_, fun z => ?_, fun z => ?_, fun z => ?_, ?_, ?_⟩))
        · rw [hG]
          show (g.2.2.2.1.1 + 1, g.2.2.2.1.2) = _
          rw [R.2.1, nI_1]
        · rw [rI1, rI1, rI1, hA]; exact adS_1 _ _ _ _
        · rw [rI1, rI1, rI1, hA]; exact (adS_0 _ _ _ _).trans R.2.2.1.2
        · rw [eE]
        · show (G.2.2.1 n).2.1 = n; rw [eE]
        · rw [eE]
        · rw [eE]
        · rw [eE]
        · rw [eE]
        · rw [rI, if_neg (by omega), rI, if_neg (by omega), rI, if_neg (by omega), hA]; exact w1
        · rw [rI3, rI3, rI3, hA]
          show (ad3 m n 6 (nI o).toInt64).2.2.2 0 n = _
          rw [w3, nI_l (by omega)]
        · rw [rI, if_neg (by omega), rI, if_neg (by omega), rI, if_pos ⟨rfl, rfl⟩]; exact ja
        · rw [rI, if_neg (by omega), rI, if_pos ⟨rfl, rfl⟩, ← hs2 z]; exact js
        · rw [hs1 z]
        · rw [rI, if_pos ⟨rfl, rfl⟩, ← hu2 z]; exact ju
        · rw [hu1 z]
        · show (G.2.2.1 n).2.2.2.2.2.2.1 = (G.2.2.1 (J a)).2.2.2.2.2.2.1 ||| (G.2.2.1 (J s)).2.2.2.2.2.2.1 ||| (G.2.2.1 (J u)).2.2.2.2.2.2.1
          rw [eE, eN (J a) (by omega), eN (J s) (by omega), eN (J u) (by omega)]
        · show (G.2.2.1 n).2.2.2.2.2.2.2.1 = _
          unfold lvC
          rw [eE, eN (J a) (by omega), eN (J s) (by omega), eN (J u) (by omega)]
          rfl
    · have bad : ∃ k, k < arN o ∧ ¬ exN n (arg3 a b c k) := by
        apply Classical.byContradiction
        intro w
        apply hall
        intro k hk
        apply Classical.byContradiction
        intro z
        exact w ⟨k, hk, z⟩
      exact ⟨-1, g, m, n, c1 (fun w => hall (all.mp w)), d1 bad, R⟩
  · exact ⟨-1, g, m, n, q1 (tk_no hop), xM_call_bad E' m op a b c hop, R⟩
