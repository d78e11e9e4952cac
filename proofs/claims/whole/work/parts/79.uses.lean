/-! BOTH SIDES: uses, depth -/
/-- only 'used' changes -/
def uFr (m h : mG) : Prop := h.1 = m.1 ∧ (∀ a i, a ≠ 6 → h.2.1 a i = m.2.1 a i) ∧ h.2.2 = m.2.2
theorem uFr_rfl (m : mG) : uFr m m := ⟨rfl, fun _ _ _ => rfl, rfl⟩
theorem uFr_w {m h : mG} (f : uFr m h) (k : Nat) (v : Int32) : uFr m (miW h 6 k v) := ⟨f.1, fun a i ha => by rw [rI, if_neg (fun q => ha q.1)]; exact f.2.1 a i ha, f.2.2⟩
theorem Rel_used {g : cG} {m h : mG} {n t : Nat} (R : Rel g m n t) (f : uFr m h) : Rel g h n t := by
  obtain ⟨hn, hc, ⟨m1, m0⟩, hx, htp, hr, h88, hv⟩ := R
  have ev : ∀ j, mVA h j = mVA m j ∧ (mGd m j → mGd h j) := by
    intro j
    have e1 : mk h j = mk m j := f.2.1 4 j (by decide)
    have e2 : mtg h j = mtg m j := f.2.1 5 j (by decide)
    have e3 : mn h j = mn m j := by show h.2.2.2 1 j = _; rw [f.2.2]
    have e4 : mN h j = mN m j := by unfold mN; rw [e3]
    have e5 : mVA h j = mVA m j := by
      unfold mVA aVw
      rw [e1, e2, e3, e4]
      have : (fun k => mb h (24 * j + k)) = (fun k => mb m (24 * j + k)) := by
        funext q
        show h.2.2.1 1 _ = _
        rw [f.2.2]
      rw [this]
    refine ⟨e5, fun g => ?_⟩
    unfold mGd
    rw [e5, e1, e2, e3]
    exact g
  refine ⟨hn, hc, ⟨by rw [f.1]; exact m1, by rw [f.1]; exact m0⟩, fun k hk => ?_, fun k hk => ?_, fun v hv8 => ⟨(hr v hv8).1, (ev _).2 (hr v hv8).2.1, by rw [(ev _).1]; exact (hr v hv8).2.2⟩, ⟨h88.1, (ev _).2 h88.2.1, by rw [(ev _).1]; exact h88.2.2⟩, hv⟩
  · exact exR_of (fun _ _ => rfl) (fun _ => ⟨rfl, rfl⟩) (f.2.1 1 _ (by decide)) (f.2.1 3 _ (by decide)) (fun i _ => f.2.1 2 _ (by decide)) (by rw [f.2.2]) (fun i _ => by rw [f.2.2]) (hx k hk)
  · rw [f.2.1 0 _ (by decide)]; exact htp k hk
theorem or_same (x : Int32) : x ||| x = x := sb_eq.mpr (sb_rfl x)
theorem or_zero (x : Int32) : 0 ||| x = x := bt_ext fun p _ => by rw [bt_or, bt_0, Bool.false_or]
/-- what a call's operands give: by i of them -/
def uAc (f : Int32 → Int32 → Int32) (V : Nat → Int32) (q : Nat → Nat) : Nat → Int32
  | 0 => 0
  | i + 1 => f (uAc f V q i) (V (q i))
def op3 (a b d : Nat) (i : Nat) : Nat := if i = 0 then a else if i = 1 then b else d
/-- a call of Rel: where its operands lie -/
theorem op3_of {m : mG} {k o a b d : Nat} (h0 : m.2.1 2 (3 * k) = nI a) (h1 : 1 < arN o → m.2.1 2 (3 * k + 1) = nI b) (h2 : 2 < arN o → m.2.1 2 (3 * k + 2) = nI d) (h3 : arN o ≤ 3) : ∀ i, i < arN o → m.2.1 2 (3 * k + i) = nI (op3 a b d i) := by
  intro i hi
  have : i = 0 ∨ i = 1 ∨ i = 2 := by omega
  rcases this with rfl | rfl | rfl
  · exact h0
  · exact h1 hi
  · exact h2 hi
theorem x3i {x : Int32} {i : Nat} (h : vp_in x 80) (hi : i < 3) : vp_in (3 * x + nI i) 240 ∧ (3 * x + nI i).toNatClampNeg = 3 * J x + i := by
  obtain ⟨h1, h2⟩ := vp_J h (by decide)
  have e : 3 * x + nI i = nI (3 * J x + i) := by
    have e3 : (3 : Int32) * nI (J x) = nI (3 * J x) := nI_mul 3 (J x)
    calc 3 * x + nI i = 3 * nI (J x) + nI i := by rw [← h1]
      _ = nI (3 * J x) + nI i := by rw [e3]
      _ = _ := nI_add _ _
  rw [e]
  exact ⟨vp_in_nI (by omega) (by decide), nI_clamp (by omega)⟩
set_option maxHeartbeats 2000000 in
theorem uses_both {E : cEnv} (hE : cOk E) (E' : mEnv) {g : cG} {m : mG} {n t : Nat} (R : Rel g m n t) (x : Int32) : ∃ r h', cSd E mR_uses [qR 0 0, qI x] g (some (qI r)) g ∧ mSd E' mM_uses [qR 0 0, qI x] m (some (qI r)) h' ∧ Rel g h' n t := by
  have R0 := R
  obtain ⟨⟨hn, ht⟩, hc, ⟨m1, m0⟩, hx, htp, hr, h88, hv⟩ := R
  obtain ⟨u1, u2⟩ := xR_uses hE g
  have hxe := xM_isEx E' m x n hn m1
  by_cases hex : ¬ x < 0 ∧ ¬ nI n ≤ x
  · obtain ⟨k, hk31, rfl⟩ := nI_of hex.1
    have hk : k < n := by
      rcases Nat.lt_or_ge k n with w | w
      · exact w
      · exact absurd (nI_le w hk31) hex.2
    rw [if_pos hex] at hxe
    have cl := u2 k (by omega) (by unfold isEx; rw [hc]; exact hex)
    have loop : ∀ (d j : Nat) (h : mG), j + d = k + 1 → uFr m h → (∀ i, i < j → h.2.1 6 i = vrs g i) → ∃ h', uFr m h' ∧ ∀ (L3 : Option qm_v) (p : Program) (e : Env) (st : State) (mm : MethodId) (args : Array Value) (below : List Frame) (meth : Method) (c : Code) (Q : State → Prop), qm_C (mLa E'.2.2.2) mV (mHold E') (mA E'.2.2.2) (fun r1 g1 => r1 = some (qI (vrs g k)) ∧ g1 = h') prog_10_method_52_code 4 yM_uses.cls (wsT yM_uses prog_10_method_52_code 4 (some .int)) (some .int) p st mm args below meth c Q → qm_W (mLa E'.2.2.2) mV (mHold E') (mA E'.2.2.2) 4 p E'.1 e (rmL 3) st mm args below meth c Q 12 ([some (qR 0 0), some (qI (nI k)), some (qI (nI j)), L3], [], h) := by
      intro d
      induction d with
      | zero =>
        intro j h hj fr hv6
        refine ⟨h, fr, ?_⟩
        intro L3 p e st mm args below meth c Q C
        have hcnd : nI k < nI j := nI_lt (by omega) (by omega)
        have ik : vp_in (nI k) 80 := vp_in_nI (by omega) (by decide)
        have fin : (some (qI (h.2.1 6 (nI k).toNatClampNeg)) : Option qm_v) = some (qI (vrs g k)) := by rw [nI_clamp (by omega), hv6 k (by omega)]
        exact qm_step (sM_uses E') C 12 9999 100 ([1], [], []) ⟨hcnd, ik, fin, rfl⟩
      | succ d ih =>
        intro j h hj fr hv6
        have ij : vp_in (nI j) 80 := vp_in_nI (by omega) (by decide)
        have jj : (nI j).toNatClampNeg = j := nI_clamp (by omega)
        have hcnd : ¬ nI k < nI j := nI_nlt (by omega) (by omega)
        have w1 : h.2.1 1 (nI j).toNatClampNeg = m.2.1 1 j := by rw [jj]; exact fr.2.1 1 _ (by decide)
        have wS : h.2.2.2 0 (nI j).toNatClampNeg = m.2.2.2 0 j := by rw [jj, fr.2.2]
        -- a value that is no call
        have leaf : ∀ v : Int32, v = vrs g j → ¬ m.2.1 1 j = 6 → ((m.2.1 1 j = 5 ∧ v = 1 <<< ((m.2.2.2 0 j).toInt32 &&& 31)) ∨ (¬ m.2.1 1 j = 5 ∧ v = 0)) → ∃ h', uFr m h' ∧ ∀ (L3 : Option qm_v) (p : Program) (e : Env) (st : State) (mm : MethodId) (args : Array Value) (below : List Frame) (meth : Method) (c : Code) (Q : State → Prop), qm_C (mLa E'.2.2.2) mV (mHold E') (mA E'.2.2.2) (fun r1 g1 => r1 = some (qI (vrs g k)) ∧ g1 = h') prog_10_method_52_code 4 yM_uses.cls (wsT yM_uses prog_10_method_52_code 4 (some .int)) (some .int) p st mm args below meth c Q → qm_W (mLa E'.2.2.2) mV (mHold E') (mA E'.2.2.2) 4 p E'.1 e (rmL 3) st mm args below meth c Q 12 ([some (qR 0 0), some (qI (nI k)), some (qI (nI j)), L3], [], h) := by
          intro v hvv n6 hcase
          obtain ⟨h', b1, b2⟩ := ih (j + 1) (miW h 6 j v) (by omega) (uFr_w fr _ _) (by
            intro i hi
            rw [rI]
            by_cases q : i = j
            · subst q; rw [if_pos ⟨rfl, rfl⟩]; exact hvv
            · rw [if_neg (fun z => q z.2)]; exact hv6 i (by omega))
          refine ⟨h', b1, ?_⟩
          intro L3 p e st mm args below meth c Q C
          have nx := b2 (some (qI 0)) p e st mm args below meth c Q C
          have c6 : ¬ (miW h 6 (nI j).toNatClampNeg v).2.1 1 (nI j).toNatClampNeg = 6 := by
            rw [rI, if_neg (fun z => absurd z.1 (by decide)), w1]; exact n6
          rcases hcase with ⟨a1, a2⟩ | ⟨a1, a2⟩
          · have c5 : h.2.1 1 (nI j).toNatClampNeg = 5 := by rw [w1]; exact a1
            rw [← nI_1] at nx
            have a2' : v = 1 <<< ((h.2.2.2 0 (nI j).toNatClampNeg).toInt32 &&& 31) := by rw [wS]; exact a2
            have nx' : qm_W (mLa E'.2.2.2) mV (mHold E') (mA E'.2.2.2) 4 p E'.1 e (rmL 3) st mm args below meth c Q 12 ([some (qR 0 0), some (qI (nI k)), some (qI (nI j + 1)), some (qI 0)], [], miW h 6 (nI j).toNatClampNeg (1 <<< ((h.2.2.2 0 (nI j).toNatClampNeg).toInt32 &&& 31))) := by rw [← a2', jj]; exact nx
            rw [a2'] at c6
            exact qm_step (sM_uses E') C 12 12 100 ([0, 0, 1], [], []) ⟨hcnd, ij, c5, ij, ij, ij, c6, nx'⟩
          · have c5 : ¬ h.2.1 1 (nI j).toNatClampNeg = 5 := by rw [w1]; exact a1
            rw [← nI_1] at nx
            have nx' : qm_W (mLa E'.2.2.2) mV (mHold E') (mA E'.2.2.2) 4 p E'.1 e (rmL 3) st mm args below meth c Q 12 ([some (qR 0 0), some (qI (nI k)), some (qI (nI j + 1)), some (qI 0)], [], miW h 6 (nI j).toNatClampNeg 0) := by rw [jj]; rw [a2] at nx; exact nx
            rw [a2] at c6
            exact qm_step (sM_uses E') C 12 12 100 ([0, 1, 1], [], []) ⟨hcnd, ij, c5, ij, ij, c6, nx'⟩
        rcases hx j (by omega) with ⟨a1, a2, a3, a4, a5, a6, a7⟩ | ⟨a1, v, a2, a3, a4, a5, a6, a7⟩ | ⟨a1, a2, o, a, b, d', b1, b2, b3, b4, b5, b6, b7, b8, b9, b10, b11, b12, b13, b14, b15⟩
        · exact leaf 0 a6.symm a3.2.2.2.2.2 (Or.inr ⟨a3.2.2.2.2.1, rfl⟩)
        · exact leaf (1 <<< (nI v &&& 31)) a6.symm (by rw [a4]; decide) (Or.inl ⟨a4, by rw [a5, lN_i]⟩)
        · obtain ⟨_, ar1, ar3⟩ := tk_ar o b1
          have oi := op3_of b9 b10 b12 ar3
          have oiL : ∀ i, i < 3 → op3 a b d' i < j := by
            intro i hi
            unfold op3
            split
            · exact b6.1
            · split
              · exact b6.2.1
              · exact b6.2.2
          obtain ⟨acc, hacc⟩ : ∃ acc : Nat → Int32, acc = uAc (fun x y => x ||| y) (vrs g) (op3 a b d') := ⟨_, rfl⟩
          have accS : ∀ i, acc (i + 1) = acc i ||| vrs g (op3 a b d' i) := fun i => by rw [hacc]; rfl
          have acc0 : acc 0 = 0 := by rw [hacc]; rfl
          have accE : acc (arN o) = vrs g j := by
            rw [b14]
            have : arN o = 1 ∨ arN o = 2 ∨ arN o = 3 := by omega
            rcases this with w | w | w
            · rw [w, b11 (by omega), b13 (by omega), accS, acc0, or_zero]
              show vrs g a = _
              rw [or_same, or_same]
            · rw [w, b13 (by omega), accS, accS, acc0, or_zero]
              show vrs g a ||| vrs g b = vrs g a ||| vrs g b ||| vrs g a
              exact bt_ext fun p _ => by rw [bt_or, bt_or, bt_or]; cases bt (vrs g a) p <;> cases bt (vrs g b) p <;> rfl
            · rw [w, accS, accS, accS, acc0, or_zero]
              rfl
          obtain ⟨h', c1, c2⟩ := ih (j + 1) (miW h 6 j (acc (arN o))) (by omega) (uFr_w fr _ _) (by
            intro i hi
            rw [rI]
            by_cases q : i = j
            · subst q; rw [if_pos ⟨rfl, rfl⟩]; exact accE
            · rw [if_neg (fun z => q z.2)]; exact hv6 i (by omega))
          refine ⟨h', c1, ?_⟩
          intro L3 p e st mm args below meth c Q C
          have miWW : ∀ v w, miW (miW h 6 j v) 6 j w = miW h 6 j w := by
            intro v w
            unfold miW
            dsimp only
            rw [bx_uu, va_up_self]
            congr 2
            funext a'
            by_cases q : a' = 6
            · subst q
              rw [va_up_self, va_up_self]
              funext i
              by_cases z : i = j
              · subst z; rw [upd_at, upd_at]
              · rw [upd_ne2 _ _ z, upd_ne2 _ _ z, upd_ne2 _ _ z]
            · rw [va_up_ne _ _ q, va_up_ne _ _ q]
          have inner : ∀ (dd i : Nat), i + dd = arN o → qm_W (mLa E'.2.2.2) mV (mHold E') (mA E'.2.2.2) 4 p E'.1 e (rmL 3) st mm args below meth c Q 48 ([some (qR 0 0), some (qI (nI k)), some (qI (nI j)), some (qI (nI i))], [], miW h 6 j (acc i)) := by
            intro dd
            induction dd with
            | zero =>
              intro i hi
              have hi : i = arN o := by omega
              subst hi
              have z6 : (miW h 6 j (acc (arN o))).2.1 1 (nI j).toNatClampNeg = 6 := by
                rw [rI, if_neg (fun z => absurd z.1 (by decide)), w1]; exact b7
              have hA := xM_arity E' (miW h 6 j (acc (arN o))) o b1
              have hA' : mSd E' mM_arity [qI ((miW h 6 j (acc (arN o))).2.2.2 0 (nI j).toNatClampNeg).toInt32] (miW h 6 j (acc (arN o))) (some (qI (nI (arN o)))) (miW h 6 j (acc (arN o))) := by
                rw [show (miW h 6 j (acc (arN o))).2.2.2 0 (nI j).toNatClampNeg = m.2.2.2 0 j from wS, b8, lN_i]; exact hA
              have hge : nI (arN o) ≤ nI (arN o) := Int32.le_refl _
              have nx := c2 (some (qI (nI (arN o)))) p e st mm args below meth c Q C
              rw [← nI_1] at nx
              exact qm_step (sM_uses E') C 48 12 100 ([0, 1], [], [(some (qI (nI (arN o))), miW h 6 j (acc (arN o)))]) ⟨ij, z6, ij, hA', hge, nx⟩
            | succ dd ihh =>
              intro i hi
              have z6 : (miW h 6 j (acc i)).2.1 1 (nI j).toNatClampNeg = 6 := by
                rw [rI, if_neg (fun z => absurd z.1 (by decide)), w1]; exact b7
              have hA := xM_arity E' (miW h 6 j (acc i)) o b1
              have hA' : mSd E' mM_arity [qI ((miW h 6 j (acc i)).2.2.2 0 (nI j).toNatClampNeg).toInt32] (miW h 6 j (acc i)) (some (qI (nI (arN o)))) (miW h 6 j (acc i)) := by
                rw [show (miW h 6 j (acc i)).2.2.2 0 (nI j).toNatClampNeg = m.2.2.2 0 j from wS, b8, lN_i]; exact hA
              have hge : ¬ nI (arN o) ≤ nI i := nI_ge (by omega) (by omega)
              obtain ⟨y1, y2⟩ := x3i (x := nI j) (i := i) ij (by omega)
              have eop : (miW h 6 j (acc i)).2.1 2 (3 * nI j + nI i).toNatClampNeg = nI (op3 a b d' i) := by
                rw [rI, if_neg (fun z => absurd z.1 (by decide)), y2, show J (nI j) = j from jj, fr.2.1 2 _ (by decide)]
                exact oi i (by omega)
              have lop := oiL i (by omega)
              have iop : vp_in ((miW h 6 j (acc i)).2.1 2 (3 * nI j + nI i).toNatClampNeg) 80 := by rw [eop]; exact vp_in_nI (by omega) (by decide)
              have v1 : (miW h 6 j (acc i)).2.1 6 (nI j).toNatClampNeg = acc i := by rw [jj, rI, if_pos ⟨rfl, rfl⟩]
              have v2 : (miW h 6 j (acc i)).2.1 6 ((miW h 6 j (acc i)).2.1 2 (3 * nI j + nI i).toNatClampNeg).toNatClampNeg = vrs g (op3 a b d' i) := by
                rw [eop, nI_clamp (by omega), rI, if_neg (by omega)]
                exact hv6 _ lop
              have nx := ihh (i + 1) (by omega)
              rw [← nI_1, accS] at nx
              have nx' : qm_W (mLa E'.2.2.2) mV (mHold E') (mA E'.2.2.2) 4 p E'.1 e (rmL 3) st mm args below meth c Q 48 ([some (qR 0 0), some (qI (nI k)), some (qI (nI j)), some (qI (nI i + 1))], [], miW (miW h 6 j (acc i)) 6 (nI j).toNatClampNeg ((miW h 6 j (acc i)).2.1 6 (nI j).toNatClampNeg ||| (miW h 6 j (acc i)).2.1 6 ((miW h 6 j (acc i)).2.1 2 (3 * nI j + nI i).toNatClampNeg).toNatClampNeg)) := by
                rw [v1, v2, jj, miWW]; exact nx
              exact qm_step (sM_uses E') C 48 48 100 ([0, 0], [], [(some (qI (nI (arN o))), miW h 6 j (acc i))]) ⟨ij, z6, ij, hA', hge, ij, y1, iop, ij, nx'⟩
          have c5 : ¬ h.2.1 1 (nI j).toNatClampNeg = 5 := by rw [w1, b7]; decide
          have in0 := inner (arN o) 0 (by omega)
          have in0' : qm_W (mLa E'.2.2.2) mV (mHold E') (mA E'.2.2.2) 4 p E'.1 e (rmL 3) st mm args below meth c Q 48 ([some (qR 0 0), some (qI (nI k)), some (qI (nI j)), some (qI 0)], [], miW h 6 (nI j).toNatClampNeg 0) := by
            rw [acc0] at in0; rw [jj]; exact in0
          exact qm_step (sM_uses E') C 12 48 100 ([0, 1], [], []) ⟨hcnd, ij, c5, ij, in0'⟩
    obtain ⟨h', b1, b2⟩ := loop (k + 1) 0 m (by omega) (uFr_rfl m) (fun i hi => by omega)
    refine ⟨vrs g k, h', cl, ?_, Rel_used R0 b1⟩
    refine qm_meth (mOk E') (by decide) rfl rfl (Nat.le_of_ble_eq_true rfl) ?_
    intro p e st mm args below meth c Q C _ _
    exact qm_step (sM_uses E') C 0 12 100 ([1], [], [(some (qI 1), m)]) ⟨hxe, by decide, b2 none p e st mm args below meth c Q C⟩
  · rw [if_neg hex] at hxe
    refine ⟨-1, m, u1 x (by unfold isEx; rw [hc]; exact hex), ?_, R0⟩
    refine qm_meth (mOk E') (by decide) rfl rfl (Nat.le_of_ble_eq_true rfl) ?_
    intro p e st mm args below meth c Q C _ _
    exact qm_step (sM_uses E') C 0 9999 100 ([0], [], [(some (qI 0), m)]) ⟨hxe, rfl, rfl, rfl⟩
