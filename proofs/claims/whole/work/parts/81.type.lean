/-! BOTH SIDES: type -/
theorem low8 (z : Int64) : ∃ N : Nat, N < 256 ∧ z &&& 255 = lN N ∧ z.toInt32 &&& 255 = nI N := by
  refine ⟨z.toBitVec.toNat % 256, Nat.mod_lt _ (by decide), ?_, ?_⟩
  · apply Int64.toBitVec_inj.mp
    apply BitVec.eq_of_toNat_eq
    rw [Int64.toBitVec_and, BitVec.toNat_and]
    show z.toBitVec.toNat &&& 255 = (BitVec.ofNat 64 (z.toBitVec.toNat % 256)).toNat
    rw [BitVec.toNat_ofNat, show (255 : Nat) = 2 ^ 8 - 1 from rfl, Nat.and_two_pow_sub_one_eq_mod]
    omega
  · apply Int32.toBitVec_inj.mp
    apply BitVec.eq_of_toNat_eq
    rw [Int32.toBitVec_and, BitVec.toNat_and]
    show (z.toInt32).toBitVec.toNat &&& 255 = (BitVec.ofNat 32 (z.toBitVec.toNat % 256)).toNat
    rw [BitVec.toNat_ofNat, show (255 : Nat) = 2 ^ 8 - 1 from rfl, Nat.and_two_pow_sub_one_eq_mod]
    have : z.toInt32.toBitVec.toNat = z.toBitVec.toNat % 2 ^ 32 := by
      show (z.toBitVec.signExtend 32).toNat = _
      rw [BitVec.signExtend_eq_setWidth_of_le _ (by decide), BitVec.toNat_setWidth]
    rw [this]
    omega
/-- the byte k, as the reference reads it -/
def lbI (x : Int64) (k : Int32) : Int64 := (x.toUInt64 >>> ((8 * k).toInt64.toUInt64 &&& Int64.toUInt64 63)).toInt64 &&& 255
theorem lb_of (x : Int64) (k : Int32) : ∃ N : Nat, N < 256 ∧ lbI x k = lN N ∧ byI x k = nI N := low8 _
theorem lb_ok (x : Int64) (k : Nat) : (¬ lbI x (nI k) < 32 ∧ ¬ 126 < lbI x (nI k)) ↔ byOk x k := by
  obtain ⟨N, h1, h2, h3⟩ := lb_of x (nI k)
  unfold byOk
  rw [h2, h3]
  have a1 : (lN N < 32) ↔ N < 32 := lN_lt (b := 32) (by omega) (by decide)
  have a2 : ((126 : Int64) < lN N) ↔ 126 < N := lN_lt (a := 126) (by decide) (by omega)
  have a3 : (nI N < 32) ↔ N < 32 := nI_ltI (b := 32) (by omega) (by decide)
  have a4 : (nI N ≤ 126) ↔ N ≤ 126 := nI_leI (b := 126) (by omega) (by decide)
  rw [a1, a2, a3, a4]
  omega
def tyM (x : Int64) : Nat → Nat → mG → mG
  | 0, _, m => m
  | i + 1, t, m => tyM x i (t + 1) (va_up m.1 0 (nI (t + 1)), (miW m 0 t (byI x (nI i))).2)
theorem tyM_fr (x : Int64) : ∀ (i t : Nat) (m : mG), (∀ a, a ≠ 0 → (tyM x i t m).1 a = m.1 a) ∧ (∀ a q, a ≠ 0 → (tyM x i t m).2.1 a q = m.2.1 a q) ∧ (tyM x i t m).2.2 = m.2.2 ∧ (0 < i → (tyM x i t m).1 0 = nI (t + i))
  | 0, t, m => ⟨fun _ _ => rfl, fun _ _ _ => rfl, rfl, fun h => by omega⟩
  | i + 1, t, m => by
    obtain ⟨a1, a2, a3, a4⟩ := tyM_fr x i (t + 1) (va_up m.1 0 (nI (t + 1)), (miW m 0 t (byI x (nI i))).2)
    refine ⟨fun a ha => (a1 a ha).trans (va_up_ne _ _ ha), fun a q ha => (a2 a q ha).trans ?_, a3, fun _ => ?_⟩
    · show (miW m 0 t (byI x (nI i))).2.1 a q = _
      rw [rI, if_neg (fun z => ha z.1)]
    · cases i with
      | zero =>
        show va_up m.1 0 (nI (t + 1)) 0 = _
        rw [va_up_self]
      | succ i =>
        have := a4 (by omega)
        rw [show t + 1 + (i + 1) = t + (i + 1 + 1) by omega] at this
        exact this
theorem ty_tape (x : Int64) : ∀ (i t : Nat) (f : Nat → Int32) (m : mG), (∀ q, q < t → f q = m.2.1 0 q ∧ okB (m.2.1 0 q)) → (∀ k, k < i → byOk x k) → ∀ q, q < t + i → tyF x i t f q = (tyM x i t m).2.1 0 q ∧ okB ((tyM x i t m).2.1 0 q)
  | 0, t, f, m, h, _, q, hq => h q (by omega)
  | i + 1, t, f, m, h, hb, q, hq => by
    show tyF x i (t + 1) (upd f t (byI x (nI i)).toInt8.toInt32) q = (tyM x i (t + 1) (va_up m.1 0 (nI (t + 1)), (miW m 0 t (byI x (nI i))).2)).2.1 0 q ∧ _
    refine ty_tape x i (t + 1) _ _ (fun q hq => ?_) (fun k hk => hb k (by omega)) q (by omega)
    have ok : okB (byI x (nI i)) := ⟨Int32.not_lt.mp (hb i (by omega)).1, (hb i (by omega)).2⟩
    show upd f t (byI x (nI i)).toInt8.toInt32 q = (miW m 0 t (byI x (nI i))).2.1 0 q ∧ okB ((miW m 0 t (byI x (nI i))).2.1 0 q)
    rw [rI]
    by_cases w : q = t
    · subst w
      rw [upd_at, if_pos ⟨rfl, rfl⟩]
      exact ⟨okB_8 ok, ok⟩
    · rw [upd_ne2 _ _ w, if_neg (fun z => w z.2)]
      exact h q (by omega)
def gB (x : Int32) (p : Prop) : Prop := (x = 1 ∧ p) ∨ (x = 0 ∧ ¬ p)
theorem gB_1 {x : Int32} {p : Prop} (h : gB x p) (hp : p) : x = 1 := by
  rcases h with h | h
  · exact h.1
  · exact absurd hp h.2
theorem gB_0 {x : Int32} {p : Prop} (h : gB x p) (hp : ¬ p) : x = 0 := by
  rcases h with h | h
  · exact absurd h.2 hp
  · exact h.1
theorem gB_eq {x y : Int32} {p : Prop} (h : gB x p) (k : gB y p) : x = y := by
  rcases h with h | h
  · exact h.1.trans (gB_1 k h.2).symm
  · exact h.1.trans (gB_0 k h.2).symm
set_option maxHeartbeats 2000000 in
theorem type_both {E : cEnv} (hE : cOk E) (E' : mEnv) {g : cG} {m : mG} {n t : Nat} (R : Rel g m n t) (x : Int64) (k : Int32) : ∃ r h h' t', cSd E mR_type [qR 0 0, qL x, qI k] g (some (qI r)) h ∧ mSd E' mM_type [qR 0 0, qL x, qI k] m (some (qI r)) h' ∧ Rel h h' n t' := by
  have R0 := R
  obtain ⟨⟨hn, ht⟩, hc, ⟨m1, m0⟩, hx, htp, hr, h88, hv⟩ := R
  have hin := xM_in E' m k.toInt64 1 8
  by_cases hk : ∃ j : Nat, (1 ≤ j ∧ j ≤ 8) ∧ k = nI j
  · obtain ⟨j, ⟨hj1, hj8⟩, rfl⟩ := hk
    have z : ¬ (nI j).toInt64 < 1 ∧ ¬ 8 < (nI j).toInt64 := by
      rw [nI_l (by omega)]
      constructor
      · intro w
        have := (lN_lt (a := j) (b := 1) (by omega) (by decide)).mp w
        omega
      · intro w
        have := (lN_lt (a := 8) (b := j) (by decide) (by omega)).mp w
        omega
    rw [if_pos z] at hin
    obtain ⟨q1, q2, q3⟩ := xR_type hE g x j t hj1 hj8 ht (by rw [hc])
    have ino : ∀ i, mSd E' mM_in [qL (lbI x (nI i)), qL 32, qL 126] m (some (qI (if ¬ lbI x (nI i) < 32 ∧ ¬ 126 < lbI x (nI i) then 1 else 0))) m := fun i => xM_in E' m (lbI x (nI i)) 32 126
    -- the bytes are looked at
    have look : ∀ (r : Int32) (h' : mG) (p : Program) (e : Env) (st : State) (mm : MethodId) (args : Array Value) (below : List Frame) (meth : Method) (c : Code) (Q : State → Prop), qm_C (mLa E'.2.2.2) mV (mHold E') (mA E'.2.2.2) (fun r1 g1 => r1 = some (qI r) ∧ g1 = h') prog_10_method_4_code 6 yM_type.cls (wsT yM_type prog_10_method_4_code 6 (some .int)) (some .int) p st mm args below meth c Q → ∀ gd : Int32, gB gd (∀ i, i < j → byOk x i) → qm_W (mLa E'.2.2.2) mV (mHold E') (mA E'.2.2.2) 6 p E'.1 e (rmL 2) st mm args below meth c Q 67 ([some (qR 0 0), some (qL x), none, some (qI (nI j)), some (qI gd), some (qI (nI j))], [], m) → ∀ (d i : Nat) (gi : Int32), i + d = j → gB gi (∀ q, q < i → byOk x q) → qm_W (mLa E'.2.2.2) mV (mHold E') (mA E'.2.2.2) 6 p E'.1 e (rmL 2) st mm args below meth c Q 20 ([some (qR 0 0), some (qL x), none, some (qI (nI j)), some (qI gi), some (qI (nI i))], [], m) := by
      intro r h' p e st mm args below meth c Q C gd hgd nx d
      induction d with
      | zero =>
        intro i gi hi hgi
        have hi : i = j := by omega
        subst hi
        have hgi := gB_eq hgi hgd
        subst hgi
        have hcnd : nI i ≤ nI i := Int32.le_refl _
        exact qm_step (sM_type E') C 20 67 100 ([1], [], []) ⟨hcnd, nx⟩
      | succ d ih =>
        intro i gi hi hgi
        have hcnd : ¬ nI j ≤ nI i := nI_ge (by omega) (by omega)
        have ino := ino i
        by_cases w1 : ∀ q, q < i → byOk x q
        · have hgi := gB_1 hgi w1
          subst hgi
          by_cases w2 : byOk x i
          · rw [if_pos ((lb_ok x i).mpr w2)] at ino
            have := ih (i + 1) 1 (by omega) (Or.inl ⟨rfl, fun q hq => by
              by_cases y : q = i
              · rw [y]; exact w2
              · exact w1 q (by omega)⟩)
            rw [← nI_1] at this
            exact qm_step (sM_type E') C 20 20 100 ([0, 0, 0], [], [(some (qI 1), m)]) ⟨hcnd, by decide, ino, by decide, this⟩
          · rw [if_neg (fun y => w2 ((lb_ok x i).mp y))] at ino
            have := ih (i + 1) 0 (by omega) (Or.inr ⟨rfl, fun y => w2 (y i (by omega))⟩)
            rw [← nI_1] at this
            exact qm_step (sM_type E') C 20 20 100 ([0, 0, 1], [], [(some (qI 0), m)]) ⟨hcnd, by decide, ino, rfl, this⟩
        · have hgi := gB_0 hgi w1
          subst hgi
          have := ih (i + 1) 0 (by omega) (Or.inr ⟨rfl, fun y => w1 (fun q hq => y q (by omega))⟩)
          rw [← nI_1] at this
          exact qm_step (sM_type E') C 20 20 100 ([0, 1], [], []) ⟨hcnd, rfl, this⟩
    have start : ∀ (r : Int32) (h' : mG) (gd : Int32), gB gd (∀ i, i < j → byOk x i) → (∀ (p : Program) (e : Env) (st : State) (mm : MethodId) (args : Array Value) (below : List Frame) (meth : Method) (c : Code) (Q : State → Prop), qm_C (mLa E'.2.2.2) mV (mHold E') (mA E'.2.2.2) (fun r1 g1 => r1 = some (qI r) ∧ g1 = h') prog_10_method_4_code 6 yM_type.cls (wsT yM_type prog_10_method_4_code 6 (some .int)) (some .int) p st mm args below meth c Q → qm_W (mLa E'.2.2.2) mV (mHold E') (mA E'.2.2.2) 6 p E'.1 e (rmL 2) st mm args below meth c Q 67 ([some (qR 0 0), some (qL x), none, some (qI (nI j)), some (qI gd), some (qI (nI j))], [], m)) → mSd E' mM_type [qR 0 0, qL x, qI (nI j)] m (some (qI r)) h' := by
      intro r h' gd hgd nx
      refine qm_meth (mOk E') (by decide) rfl rfl (Nat.le_of_ble_eq_true rfl) ?_
      intro p e st mm args below meth c Q C _ _
      exact qm_step (sM_type E') C 0 20 100 ([1], [], [(some (qI 1), m)]) ⟨hin, by decide, look r h' p e st mm args below meth c Q C gd hgd (nx p e st mm args below meth c Q C) j 0 1 (by omega) (Or.inl ⟨rfl, fun q hq => by omega⟩)⟩
    by_cases hall : ∀ i, i < j → byOk x i
    · have sum : m.1 0 + nI j = nI (t + j) := by rw [m0, nI_add]
      by_cases hf : 48 < t + j
      · refine ⟨-3, g, m, t, q2 hall hf, start _ _ 1 (Or.inl ⟨rfl, hall⟩) (fun p e st mm args below meth c Q C => ?_), R0⟩
        have hle : ¬ m.1 0 + nI j ≤ 48 := by rw [sum]; exact nI_ge (a := 48) hf (by omega)
        exact qm_step (sM_type E') C 67 9999 100 ([1, 0], [], []) ⟨by decide, hle, rfl, rfl⟩
      · refine ⟨nI (t + j), tyS g x j t, tyM x j t m, t + j, q3 hall (by omega), start _ _ 1 (Or.inl ⟨rfl, hall⟩) (fun p e st mm args below meth c Q C => ?_), ?_⟩
        · have hle : m.1 0 + nI j ≤ 48 := by rw [sum]; exact nI_le (b := 48) (by omega) (by decide)
          have down : ∀ (i t' : Nat) (m' : mG) (w : Int32), w = nI i - 1 → t' + i = t + j → i ≤ 8 → m'.1 0 = nI t' → tyM x i t' m' = tyM x j t m → qm_W (mLa E'.2.2.2) mV (mHold E') (mA E'.2.2.2) 6 p E'.1 e (rmL 2) st mm args below meth c Q 93 ([some (qR 0 0), some (qL x), none, some (qI (nI j)), some (qI 1), some (qI w)], [], m') := by
            intro i
            induction i with
            | zero =>
              intro t' m' w hw hs _ hm he
              have he : m' = tyM x j t m := he
              have hneg : w < 0 := by rw [hw]; decide
              have fr : (some (qI (m'.1 0)) : Option qm_v) = some (qI (nI (t + j))) := by rw [hm, show t' = t + j by omega]
              exact qm_step (sM_type E') C 93 9999 100 ([1], [], []) ⟨hneg, fr, he⟩
            | succ i ih =>
              intro t' m' w hw hs h8 hm he
              rw [nI_pred] at hw
              subst hw
              have hneg : ¬ nI i < 0 := nI_pos (by omega)
              have it : vp_in (m'.1 0) 48 := by rw [hm]; exact vp_in_nI (by omega) (by decide)
              obtain ⟨N, n1, n2, n3⟩ := lb_of x (nI i)
              have eb : (lbI x (nI i)).toInt32 = byI x (nI i) := by rw [n2, n3, lN_i]
              have e1 : m'.1 0 + 1 = nI (t' + 1) := by rw [hm, nI_1]
              have eJ : (m'.1 0).toNatClampNeg = t' := by rw [hm]; exact nI_clamp (by omega)
              have nx := ih (t' + 1) (va_up m'.1 0 (nI (t' + 1)), (miW m' 0 t' (byI x (nI i))).2) (nI i - 1) rfl (by omega) (by omega) (by show va_up m'.1 0 (nI (t' + 1)) 0 = nI (t' + 1); rw [va_up_self]) he
              have nx' : qm_W (mLa E'.2.2.2) mV (mHold E') (mA E'.2.2.2) 6 p E'.1 e (rmL 2) st mm args below meth c Q 93 ([some (qR 0 0), some (qL x), none, some (qI (nI j)), some (qI 1), some (qI (nI i + (-1)))], [], (va_up m'.1 0 (m'.1 0 + 1), (miW m' 0 (m'.1 0).toNatClampNeg (lbI x (nI i)).toInt32).2)) := by
                rw [eb, e1, eJ, show nI i + (-1) = nI i - 1 from (Int32.sub_eq_add_neg _ _).symm]; exact nx
              exact qm_step (sM_type E') C 93 93 100 ([0], [], []) ⟨hneg, it, nx'⟩
          exact qm_step (sM_type E') C 67 93 100 ([1, 1], [], []) ⟨by decide, hle, down j t m (nI j - 1) rfl (by omega) hj8 m0 rfl⟩
        · obtain ⟨f1, f2, f3, f4⟩ := tyM_fr x j t m
          have ev : ∀ i, mVA (tyM x j t m) i = mVA m i ∧ (mGd m i → mGd (tyM x j t m) i) := by
            intro i
            have e1 : mk (tyM x j t m) i = mk m i := f2 4 i (by decide)
            have e2 : mtg (tyM x j t m) i = mtg m i := f2 5 i (by decide)
            have e3 : mn (tyM x j t m) i = mn m i := by show (tyM x j t m).2.2.2 1 i = _; rw [f3]
            have e4 : mN (tyM x j t m) i = mN m i := by unfold mN; rw [e3]
            have e5 : mVA (tyM x j t m) i = mVA m i := by
              unfold mVA aVw
              rw [e1, e2, e3, e4]
              have : (fun k => mb (tyM x j t m) (24 * i + k)) = (fun k => mb m (24 * i + k)) := by
                funext q
                show (tyM x j t m).2.2.1 1 _ = _
                rw [f3]
              rw [this]
            refine ⟨e5, fun g => ?_⟩
            unfold mGd
            rw [e5, e1, e2, e3]
            exact g
          refine ⟨⟨hn, by omega⟩, ?_, ⟨(f1 1 (by decide)).trans m1, f4 (by omega)⟩, fun i hi => ?_, fun i hi => ?_, fun v hv8 => ⟨(hr v hv8).1, (ev _).2 (hr v hv8).2.1, by rw [(ev _).1]; exact (hr v hv8).2.2⟩, ⟨h88.1, (ev _).2 h88.2.1, by rw [(ev _).1]; exact h88.2.2⟩, hv⟩
          · show (g.2.2.2.1.1, nI (t + j)) = _
            rw [hc]
          · exact exR_of (fun _ _ => rfl) (fun _ => ⟨rfl, rfl⟩) (f2 1 _ (by decide)) (f2 3 _ (by decide)) (fun i _ => f2 2 _ (by decide)) (by rw [f3]) (fun i _ => by rw [f3]) (hx i hi)
          · exact ty_tape x j t g.2.2.2.2.1 m htp hall i hi
    · have bad : ∃ i, i < j ∧ ¬ byOk x i := by
        apply Classical.byContradiction
        intro w
        apply hall
        intro i hi
        apply Classical.byContradiction
        intro y
        exact w ⟨i, hi, y⟩
      refine ⟨-1, g, m, t, q1 bad, start _ _ 0 (Or.inr ⟨rfl, hall⟩) (fun p e st mm args below meth c Q C => ?_), R0⟩
      exact qm_step (sM_type E') C 67 9999 100 ([0], [], []) ⟨rfl, rfl, rfl⟩
  · have z : ¬ (¬ k.toInt64 < 1 ∧ ¬ 8 < k.toInt64) ∧ (k < 1 ∨ ¬ k ≤ 8) := by
      have t1 : k.toInt64.toInt = k.toInt := Int32.toInt_toInt64 k
      have e1 : (1 : Int64).toInt = 1 := rfl
      have e8 : (8 : Int64).toInt = 8 := rfl
      have f1 : (1 : Int32).toInt = 1 := rfl
      have f8 : (8 : Int32).toInt = 8 := rfl
      have no : ¬ (1 ≤ k.toInt ∧ k.toInt ≤ 8) := by
        intro w
        refine hk ⟨k.toInt.toNat, by omega, ?_⟩
        apply Int32.toInt_inj.mp
        rw [nI_toInt (by omega)]
        omega
      rw [Int64.lt_iff_toInt_lt, Int64.lt_iff_toInt_lt, Int32.lt_iff_toInt_lt, Int32.le_iff_toInt_le, t1, e1, e8, f1, f8]
      omega
    rw [if_neg z.1] at hin
    refine ⟨-1, g, m, t, xR_type_bad hE g x k z.2, ?_, R0⟩
    refine qm_meth (mOk E') (by decide) rfl rfl (Nat.le_of_ble_eq_true rfl) ?_
    intro p e st mm args below meth c Q C _ _
    exact qm_step (sM_type E') C 0 9999 100 ([0], [], [(some (qI 0), m)]) ⟨hin, rfl, rfl, rfl⟩
