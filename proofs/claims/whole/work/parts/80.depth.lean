/-! BOTH SIDES: depth -/
set_option maxHeartbeats 2000000 in
theorem depth_both {E : cEnv} (hE : cOk E) (E' : mEnv) {g : cG} {m : mG} {n t : Nat} (R : Rel g m n t) (x : Int32) : ∃ r h', cSd E mR_depth [qR 0 0, qI x] g (some (qI r)) g ∧ mSd E' mM_depth [qR 0 0, qI x] m (some (qI r)) h' ∧ Rel g h' n t := by
  have R0 := R
  obtain ⟨⟨hn, ht⟩, hc, ⟨m1, m0⟩, hx, htp, hr, h88, hv⟩ := R
  obtain ⟨u1, u2⟩ := xR_depth hE g
  have lv : ∀ j, j < n → ∃ l : Nat, l ≤ j ∧ lvs g j = nI l := by
    intro j
    induction j using Nat.strongRecOn with
    | ind j ih =>
      intro hj
      rcases hx j hj with ⟨_, _, _, _, _, _, a7⟩ | ⟨_, v, _, _, _, _, _, a7⟩ | ⟨a1, a2, o, a, b, d', b1, b2, b3, b4, b5, b6, b7, b8, b9, b10, b11, b12, b13, b14, b15⟩
      · exact ⟨0, by omega, a7⟩
      · exact ⟨0, by omega, a7⟩
      · obtain ⟨la, la1, la2⟩ := ih a b6.1 (by omega)
        obtain ⟨lb, lb1, lb2⟩ := ih b b6.2.1 (by omega)
        obtain ⟨ld, ld1, ld2⟩ := ih d' b6.2.2 (by omega)
        have mx : ∀ p q : Nat, p < 1000 → q < 1000 → (if nI p < nI q then nI q else nI p) = nI (max p q) := by
          intro p q hp hq
          by_cases w : p < q
          · rw [if_pos (nI_lt w (by omega)), Nat.max_eq_right (by omega)]
          · rw [if_neg (nI_nlt (by omega) (by omega)), Nat.max_eq_left (by omega)]
        refine ⟨1 + max la (max lb ld), by omega, ?_⟩
        rw [b15]
        unfold lvC
        rw [show (g.2.2.1 a).2.2.2.2.2.2.2.1 = nI la from la2, show (g.2.2.1 b).2.2.2.2.2.2.2.1 = nI lb from lb2, show (g.2.2.1 d').2.2.2.2.2.2.2.1 = nI ld from ld2, mx lb ld (by omega) (by omega), mx la _ (by omega) (by omega)]
        exact nI_add 1 _
  have hxe := xM_isEx E' m x n hn m1
  by_cases hex : ¬ x < 0 ∧ ¬ nI n ≤ x
  · obtain ⟨k, hk31, rfl⟩ := nI_of hex.1
    have hk : k < n := by
      rcases Nat.lt_or_ge k n with w | w
      · exact w
      · exact absurd (nI_le w hk31) hex.2
    rw [if_pos hex] at hxe
    have cl := u2 k (by omega) (by unfold isEx; rw [hc]; exact hex)
    have loop : ∀ (d j : Nat) (h : mG), j + d = k + 1 → uFr m h → (∀ i, i < j → h.2.1 6 i = lvs g i) → ∃ h', uFr m h' ∧ ∀ (L3 : Option qm_v) (p : Program) (e : Env) (st : State) (mm : MethodId) (args : Array Value) (below : List Frame) (meth : Method) (c : Code) (Q : State → Prop), qm_C (mLa E'.2.2.2) mV (mHold E') (mA E'.2.2.2) (fun r1 g1 => r1 = some (qI (lvs g k)) ∧ g1 = h') prog_10_method_53_code 4 yM_depth.cls (wsT yM_depth prog_10_method_53_code 4 (some .int)) (some .int) p st mm args below meth c Q → qm_W (mLa E'.2.2.2) mV (mHold E') (mA E'.2.2.2) 4 p E'.1 e (rmL 3) st mm args below meth c Q 12 ([some (qR 0 0), some (qI (nI k)), some (qI (nI j)), L3], [], h) := by
      intro d
      induction d with
      | zero =>
        intro j h hj fr hv6
        refine ⟨h, fr, ?_⟩
        intro L3 p e st mm args below meth c Q C
        have hcnd : nI k < nI j := nI_lt (by omega) (by omega)
        have ik : vp_in (nI k) 80 := vp_in_nI (by omega) (by decide)
        have fin : (some (qI (h.2.1 6 (nI k).toNatClampNeg)) : Option qm_v) = some (qI (lvs g k)) := by rw [nI_clamp (by omega), hv6 k (by omega)]
        exact qm_step (sM_depth E') C 12 9999 100 ([1], [], []) ⟨hcnd, ik, fin, rfl⟩
      | succ d ih =>
        intro j h hj fr hv6
        have ij : vp_in (nI j) 80 := vp_in_nI (by omega) (by decide)
        have jj : (nI j).toNatClampNeg = j := nI_clamp (by omega)
        have hcnd : ¬ nI k < nI j := nI_nlt (by omega) (by omega)
        have w1 : h.2.1 1 (nI j).toNatClampNeg = m.2.1 1 j := by rw [jj]; exact fr.2.1 1 _ (by decide)
        have wS : h.2.2.2 0 (nI j).toNatClampNeg = m.2.2.2 0 j := by rw [jj, fr.2.2]
        -- a value that is no call
        have leaf : lvs g j = 0 → ¬ m.2.1 1 j = 6 → ∃ h', uFr m h' ∧ ∀ (L3 : Option qm_v) (p : Program) (e : Env) (st : State) (mm : MethodId) (args : Array Value) (below : List Frame) (meth : Method) (c : Code) (Q : State → Prop), qm_C (mLa E'.2.2.2) mV (mHold E') (mA E'.2.2.2) (fun r1 g1 => r1 = some (qI (lvs g k)) ∧ g1 = h') prog_10_method_53_code 4 yM_depth.cls (wsT yM_depth prog_10_method_53_code 4 (some .int)) (some .int) p st mm args below meth c Q → qm_W (mLa E'.2.2.2) mV (mHold E') (mA E'.2.2.2) 4 p E'.1 e (rmL 3) st mm args below meth c Q 12 ([some (qR 0 0), some (qI (nI k)), some (qI (nI j)), L3], [], h) := by
          intro hvv n6
          obtain ⟨h', b1, b2⟩ := ih (j + 1) (miW h 6 j 0) (by omega) (uFr_w fr _ _) (by
            intro i hi
            rw [rI]
            by_cases q : i = j
            · subst q; rw [if_pos ⟨rfl, rfl⟩]; exact hvv.symm
            · rw [if_neg (fun z => q z.2)]; exact hv6 i (by omega))
          refine ⟨h', b1, ?_⟩
          intro L3 p e st mm args below meth c Q C
          have nx := b2 (some (qI 0)) p e st mm args below meth c Q C
          have c6 : ¬ (miW h 6 (nI j).toNatClampNeg 0).2.1 1 (nI j).toNatClampNeg = 6 := by
            rw [rI, if_neg (fun z => absurd z.1 (by decide)), w1]; exact n6
          rw [← nI_1] at nx
          have nx' : qm_W (mLa E'.2.2.2) mV (mHold E') (mA E'.2.2.2) 4 p E'.1 e (rmL 3) st mm args below meth c Q 12 ([some (qR 0 0), some (qI (nI k)), some (qI (nI j + 1)), some (qI 0)], [], miW h 6 (nI j).toNatClampNeg 0) := by rw [jj]; exact nx
          exact qm_step (sM_depth E') C 12 12 100 ([0, 1], [], []) ⟨hcnd, ij, ij, c6, nx'⟩
        rcases hx j (by omega) with ⟨a1, a2, a3, a4, a5, a6, a7⟩ | ⟨a1, v, a2, a3, a4, a5, a6, a7⟩ | ⟨a1, a2, o, a, b, d', b1, b2, b3, b4, b5, b6, b7, b8, b9, b10, b11, b12, b13, b14, b15⟩
        · exact leaf a7 a3.2.2.2.2.2
        · exact leaf a7 (by rw [a4]; decide)
        · obtain ⟨_, ar1, ar3⟩ := tk_ar o b1
          have oi := op3_of b9 b10 b12 ar3
          have oiL : ∀ i, i < 3 → op3 a b d' i < j := by
            intro i hi
            unfold op3
            split
            · exact b6.1
            · split
              · exact b6.2.1
              · exact b6.2.2
          obtain ⟨acc, hacc⟩ : ∃ acc : Nat → Int32, acc = uAc (fun x y => if x < y + 1 then y + 1 else x) (lvs g) (op3 a b d') := ⟨_, rfl⟩
          have accS : ∀ i, acc (i + 1) = if acc i < lvs g (op3 a b d' i) + 1 then lvs g (op3 a b d' i) + 1 else acc i := fun i => by rw [hacc]; rfl
          have acc0 : acc 0 = 0 := by rw [hacc]; rfl
          obtain ⟨la, la1, la2⟩ := lv a (by omega)
          obtain ⟨lb, lb1, lb2⟩ := lv b (by omega)
          obtain ⟨ld, ld1, ld2⟩ := lv d' (by omega)
          have o0 : op3 a b d' 0 = a := rfl
          have o1 : op3 a b d' 1 = b := rfl
          have o2 : op3 a b d' 2 = d' := rfl
          have a1' : acc 1 = nI (la + 1) := by
            rw [accS, acc0, o0, la2, nI_1, if_pos (show (0 : Int32) < nI (la + 1) from nI_lt (a := 0) (by omega) (by omega))]
          have mx : ∀ p q : Nat, p < 1000 → q < 1000 → (if nI p < nI q then nI q else nI p) = nI (max p q) := by
            intro p q hp hq
            by_cases w : p < q
            · rw [if_pos (nI_lt w (by omega)), Nat.max_eq_right (by omega)]
            · rw [if_neg (nI_nlt (by omega) (by omega)), Nat.max_eq_left (by omega)]
          have a2' : acc 2 = nI (max (la + 1) (lb + 1)) := by
            rw [accS, a1', o1, lb2, nI_1, mx _ _ (by omega) (by omega)]
          have a3' : acc 3 = nI (max (max (la + 1) (lb + 1)) (ld + 1)) := by
            rw [accS, a2', o2, ld2, nI_1, mx _ _ (by omega) (by omega)]
          have lC : lvC g a b d' = nI (1 + max la (max lb ld)) := by
            unfold lvC
            rw [show (g.2.2.1 a).2.2.2.2.2.2.2.1 = nI la from la2, show (g.2.2.1 b).2.2.2.2.2.2.2.1 = nI lb from lb2, show (g.2.2.1 d').2.2.2.2.2.2.2.1 = nI ld from ld2, mx lb ld (by omega) (by omega), mx la _ (by omega) (by omega)]
            exact nI_add 1 _
          have accE : acc (arN o) = lvs g j := by
            rw [b15, lC]
            have : arN o = 1 ∨ arN o = 2 ∨ arN o = 3 := by omega
            rcases this with w | w | w
            · have e1 : lb = la := by
                rw [b11 (by omega)] at lb2
                exact (nI_eq (by omega) (by omega)).mp (lb2.symm.trans la2)
              have e2 : ld = la := by
                rw [b13 (by omega)] at ld2
                exact (nI_eq (by omega) (by omega)).mp (ld2.symm.trans la2)
              rw [w, a1', e1, e2]
              congr 1
              omega
            · have e2 : ld = la := by
                rw [b13 (by omega)] at ld2
                exact (nI_eq (by omega) (by omega)).mp (ld2.symm.trans la2)
              rw [w, a2', e2]
              congr 1
              omega
            · rw [w, a3']
              congr 1
              omega
          obtain ⟨h', c1, c2⟩ := ih (j + 1) (miW h 6 j (acc (arN o))) (by omega) (uFr_w fr _ _) (by
            intro i hi
            rw [rI]
            by_cases q : i = j
            · subst q; rw [if_pos ⟨rfl, rfl⟩]; exact accE
            · rw [if_neg (fun z => q z.2)]; exact hv6 i (by omega))
          refine ⟨h', c1, ?_⟩
          intro L3 p e st mm args below meth c Q C
          have miWW : ∀ v w, miW (miW h 6 j v) 6 j w = miW h 6 j w := by
            intro v w
            unfold miW
            dsimp only
            rw [bx_uu, va_up_self]
            congr 2
            funext a'
            by_cases q : a' = 6
            · subst q
              rw [va_up_self, va_up_self]
              funext i
              by_cases z : i = j
              · subst z; rw [upd_at, upd_at]
              · rw [upd_ne2 _ _ z, upd_ne2 _ _ z, upd_ne2 _ _ z]
            · rw [va_up_ne _ _ q, va_up_ne _ _ q]
          have inner : ∀ (dd i : Nat), i + dd = arN o → qm_W (mLa E'.2.2.2) mV (mHold E') (mA E'.2.2.2) 4 p E'.1 e (rmL 3) st mm args below meth c Q 26 ([some (qR 0 0), some (qI (nI k)), some (qI (nI j)), some (qI (nI i))], [], miW h 6 j (acc i)) := by
            intro dd
            induction dd with
            | zero =>
              intro i hi
              have hi : i = arN o := by omega
              subst hi
              have z6 : (miW h 6 j (acc (arN o))).2.1 1 (nI j).toNatClampNeg = 6 := by
                rw [rI, if_neg (fun z => absurd z.1 (by decide)), w1]; exact b7
              have hA := xM_arity E' (miW h 6 j (acc (arN o))) o b1
              have hA' : mSd E' mM_arity [qI ((miW h 6 j (acc (arN o))).2.2.2 0 (nI j).toNatClampNeg).toInt32] (miW h 6 j (acc (arN o))) (some (qI (nI (arN o)))) (miW h 6 j (acc (arN o))) := by
                rw [show (miW h 6 j (acc (arN o))).2.2.2 0 (nI j).toNatClampNeg = m.2.2.2 0 j from wS, b8, lN_i]; exact hA
              have hge : nI (arN o) ≤ nI (arN o) := Int32.le_refl _
              have nx := c2 (some (qI (nI (arN o)))) p e st mm args below meth c Q C
              rw [← nI_1] at nx
              exact qm_step (sM_depth E') C 26 12 100 ([0, 1], [], [(some (qI (nI (arN o))), miW h 6 j (acc (arN o)))]) ⟨ij, z6, ij, hA', hge, nx⟩
            | succ dd ihh =>
              intro i hi
              have z6 : (miW h 6 j (acc i)).2.1 1 (nI j).toNatClampNeg = 6 := by
                rw [rI, if_neg (fun z => absurd z.1 (by decide)), w1]; exact b7
              have hA := xM_arity E' (miW h 6 j (acc i)) o b1
              have hA' : mSd E' mM_arity [qI ((miW h 6 j (acc i)).2.2.2 0 (nI j).toNatClampNeg).toInt32] (miW h 6 j (acc i)) (some (qI (nI (arN o)))) (miW h 6 j (acc i)) := by
                rw [show (miW h 6 j (acc i)).2.2.2 0 (nI j).toNatClampNeg = m.2.2.2 0 j from wS, b8, lN_i]; exact hA
              have hge : ¬ nI (arN o) ≤ nI i := nI_ge (by omega) (by omega)
              obtain ⟨y1, y2⟩ := x3i (x := nI j) (i := i) ij (by omega)
              have eop : (miW h 6 j (acc i)).2.1 2 (3 * nI j + nI i).toNatClampNeg = nI (op3 a b d' i) := by
                rw [rI, if_neg (fun z => absurd z.1 (by decide)), y2, show J (nI j) = j from jj, fr.2.1 2 _ (by decide)]
                exact oi i (by omega)
              have lop := oiL i (by omega)
              have iop : vp_in ((miW h 6 j (acc i)).2.1 2 (3 * nI j + nI i).toNatClampNeg) 80 := by rw [eop]; exact vp_in_nI (by omega) (by decide)
              have v1 : (miW h 6 j (acc i)).2.1 6 (nI j).toNatClampNeg = acc i := by rw [jj, rI, if_pos ⟨rfl, rfl⟩]
              have v2 : (miW h 6 j (acc i)).2.1 6 ((miW h 6 j (acc i)).2.1 2 (3 * nI j + nI i).toNatClampNeg).toNatClampNeg = lvs g (op3 a b d' i) := by
                rw [eop, nI_clamp (by omega), rI, if_neg (by omega)]
                exact hv6 _ lop
              have nx := ihh (i + 1) (by omega)
              rw [← nI_1, accS] at nx
              have nx' : qm_W (mLa E'.2.2.2) mV (mHold E') (mA E'.2.2.2) 4 p E'.1 e (rmL 3) st mm args below meth c Q 26 ([some (qR 0 0), some (qI (nI k)), some (qI (nI j)), some (qI (nI i + 1))], [], miW (miW h 6 j (acc i)) 6 (nI j).toNatClampNeg (if (miW h 6 j (acc i)).2.1 6 (nI j).toNatClampNeg < (miW h 6 j (acc i)).2.1 6 ((miW h 6 j (acc i)).2.1 2 (3 * nI j + nI i).toNatClampNeg).toNatClampNeg + 1 then (miW h 6 j (acc i)).2.1 6 ((miW h 6 j (acc i)).2.1 2 (3 * nI j + nI i).toNatClampNeg).toNatClampNeg + 1 else (miW h 6 j (acc i)).2.1 6 (nI j).toNatClampNeg)) := by
                rw [v1, v2, jj, miWW]; exact nx
              exact qm_step (sM_depth E') C 26 26 100 ([0, 0], [], [(some (qI (nI (arN o))), miW h 6 j (acc i))]) ⟨ij, z6, ij, hA', hge, ij, y1, iop, ij, nx'⟩
          have in0 := inner (arN o) 0 (by omega)
          have in0' : qm_W (mLa E'.2.2.2) mV (mHold E') (mA E'.2.2.2) 4 p E'.1 e (rmL 3) st mm args below meth c Q 26 ([some (qR 0 0), some (qI (nI k)), some (qI (nI j)), some (qI 0)], [], miW h 6 (nI j).toNatClampNeg 0) := by
            rw [acc0] at in0; rw [jj]; exact in0
          exact qm_step (sM_depth E') C 12 26 100 ([0], [], []) ⟨hcnd, ij, in0'⟩
    obtain ⟨h', b1, b2⟩ := loop (k + 1) 0 m (by omega) (uFr_rfl m) (fun i hi => by omega)
    refine ⟨lvs g k, h', cl, ?_, Rel_used R0 b1⟩
    refine qm_meth (mOk E') (by decide) rfl rfl (Nat.le_of_ble_eq_true rfl) ?_
    intro p e st mm args below meth c Q C _ _
    exact qm_step (sM_depth E') C 0 12 100 ([1], [], [(some (qI 1), m)]) ⟨hxe, by decide, b2 none p e st mm args below meth c Q C⟩
  · rw [if_neg hex] at hxe
    refine ⟨-1, m, u1 x (by unfold isEx; rw [hc]; exact hex), ?_, R0⟩
    refine qm_meth (mOk E') (by decide) rfl rfl (Nat.le_of_ble_eq_true rfl) ?_
    intro p e st mm args below meth c Q C _ _
    exact qm_step (sM_depth E') C 0 9999 100 ([0], [], [(some (qI 0), m)]) ⟨hxe, rfl, rfl, rfl⟩
