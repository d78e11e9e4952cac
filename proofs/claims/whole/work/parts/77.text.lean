/-! BOTH SIDES: text -/
def tkB (m : mG) (n : Nat) : Nat → mG
  | 0 => m
  | k + 1 => mbW (tkB m n k) 0 (24 * n + k) ((tkB m n k).2.1 0 k)
theorem tkB_i (m : mG) (n : Nat) : ∀ k, (tkB m n k).1 = m.1 ∧ (tkB m n k).2.1 = m.2.1 ∧ (tkB m n k).2.2.2 = m.2.2.2
  | 0 => ⟨rfl, rfl, rfl⟩
  | k + 1 => tkB_i m n k
theorem tkB_b (m : mG) (n : Nat) : ∀ k q, (tkB m n k).2.2.1 0 (24 * n + q) = if q < k then b8 (m.2.1 0 q) else m.2.2.1 0 (24 * n + q)
  | 0, q => by rw [if_neg (by omega)]; rfl
  | k + 1, q => by
    show (mbW _ 0 (24 * n + k) _).2.2.1 0 _ = _
    rw [rB]
    by_cases hq : q = k
    · subst hq
      rw [if_pos ⟨rfl, rfl⟩, if_pos (by omega), (tkB_i m n q).2.1]
    · rw [if_neg (by omega), tkB_b m n k q]
      by_cases h2 : q < k
      · rw [if_pos h2, if_pos (by omega)]
      · rw [if_neg h2, if_neg (by omega)]
theorem tkB_fr (m : mG) (n : Nat) : ∀ k, k ≤ 24 → mAd n m (tkB m n k)
  | 0, _ => ⟨fun _ _ _ _ => rfl, fun _ _ _ => rfl, fun _ _ _ => rfl⟩
  | k + 1, h => by
    refine mAd_tr (tkB_fr m n k (by omega)) ⟨fun _ _ _ _ => rfl, fun a q p => ?_, fun _ _ _ => rfl⟩
    show (mbW _ 0 (24 * n + k) _).2.2.1 a q = _
    rw [rB, if_neg (by omega)]
theorem Rel_emp {g : cG} {m : mG} {n t : Nat} (R : Rel g m n t) : Rel (emT g) (va_up m.1 0 0, m.2) n 0 := by
  obtain ⟨⟨hn, ht⟩, hc, ⟨m1, m0⟩, hx, htp, hr, h88, hv⟩ := R
  refine ⟨⟨hn, by omega⟩, ?_, ⟨?_, ?_⟩, hx, fun k hk => by omega, hr, h88, hv⟩
  · show (g.2.2.2.1.1, (0 : Int32)) = _
    rw [hc]
    rfl
  · show va_up m.1 0 0 1 = nI n
    rw [va_up_ne _ _ (by decide)]
    exact m1
  · show va_up m.1 0 0 0 = nI 0
    rw [va_up_self]
    rfl
set_option maxHeartbeats 1000000 in
theorem text_both {E : cEnv} (hE : cOk E) (E' : mEnv) {g : cG} {m : mG} {n t : Nat} (R : Rel g m n t) (tg : Int32) : ∃ r h h' n' t', cSd E mR_text [qR 0 0, qI tg] g (some (qI r)) h ∧ mSd E' mM_text [qR 0 0, qI tg] m (some (qI r)) h' ∧ Rel h h' n' t' := by
  obtain ⟨ecn, hcn, ec⟩ := Rel_cnt R
  have hn := R.1.1
  have ht := R.1.2
  have m1 := R.2.2.1.1
  have m0 := R.2.2.1.2
  have ct : g.2.2.2.1.2 = nI t := by rw [R.2.1]
  obtain ⟨q1, q2, q3⟩ := xR_text hE g tg t hcn ht ct
  have Re := Rel_emp R
  obtain ⟨M, hM⟩ : ∃ M : mG, M = (va_up m.1 0 0, m.2) := ⟨_, rfl⟩
  rw [← hM] at Re
  have M1 : M.1 1 = nI n := Re.2.2.1.1
  have hin := xM_in E' M tg.toInt64 0 26
  have key : (¬ tg.toInt64 < 0 ∧ ¬ (26 : Int64) < tg.toInt64) ↔ (¬ tg < 0 ∧ tg ≤ 26) := in_iff3 (x := tg) (n := 26) (by decide)
  have hin' := hin
  rw [hM] at hin'
  by_cases h24 : 24 < t
  · refine ⟨-1, _, M, n, 0, q1 (Or.inl h24), ?_, Re⟩
    refine qm_meth (mOk E') (by decide) rfl rfl (Nat.le_of_ble_eq_true rfl) ?_
    intro p e st mm args below meth c Q C _ _
    have c1 : (24 : Int32) < m.1 0 := by rw [m0]; exact nI_lt (a := 24) h24 (by omega)
    exact qm_step (sM_text E') C 0 9999 100 ([1], [], []) ⟨c1, rfl, hM.symm⟩
  have c1 : ¬ (24 : Int32) < m.1 0 := by rw [m0]; exact nI_nlt (a := 24) (b := t) (by omega) (by decide)
  by_cases htg : ¬ tg < 0 ∧ tg ≤ 26
  · rw [if_pos (key.mpr htg)] at hin hin'
    obtain ⟨tn, htn, rfl⟩ := (in_iff2 (x := tg) (n := 26) (by decide)).mpr htg
    by_cases hf : n = 80
    · refine ⟨-3, _, M, n, 0, q2 (by omega) htg.1 htg.2 (by rw [ec, hf]; decide), ?_, Re⟩
      have ha := xM_add_full E' M 3 (m.1 0).toInt64 (by rw [M1, hf])
      refine qm_meth (mOk E') (by decide) rfl rfl (Nat.le_of_ble_eq_true rfl) ?_
      intro p e st mm args below meth c Q C _ _
      rw [hM] at ha
      exact qm_step (sM_text E') C 0 9999 100 ([0, 1, 1], [], [(some (qI 1), (va_up m.1 0 0, m.2)), (some (qI (-3)), (va_up m.1 0 0, m.2))]) ⟨c1, hin', by decide, ha, by decide, rfl, hM.symm⟩
    · have hn2 : n < 80 := by omega
      have c := q3 (by omega) htg.1 htg.2 (by rw [ec]; exact nI_lt (b := 80) hn2 (by decide))
      rw [ec] at c
      have ha := xM_add E' M n 3 (m.1 0).toInt64 hn2 M1
      obtain ⟨A, hA⟩ : ∃ A, A = adS M n 3 (m.1 0).toInt64 := ⟨_, rfl⟩
      rw [← hA] at ha
      obtain ⟨B, hB⟩ : ∃ B, B = miW A 3 n (nI tn) := ⟨_, rfl⟩
      have jn : (nI n).toNatClampNeg = n := nI_clamp (by omega)
      have in80 : vp_in (nI n) 80 := vp_in_nI hn2 (by decide)
      obtain ⟨w1, w2, w3⟩ := ad3_w M n 3 (m.1 0).toInt64
      have fA : mAd n M A := by rw [hA]; exact ad3_fr _ _ _ _
      have fB : mAd n A B := by
        rw [hB]
        refine ⟨fun a i p q => ?_, fun _ _ _ => rfl, fun _ _ _ => rfl⟩
        rw [rI, if_neg (by omega)]
      have fAB := mAd_tr fA fB
      have f := mAd_tr fAB (tkB_fr B n t (by omega))
      obtain ⟨i1, i2, i3⟩ := tkB_i B n t
      refine ⟨nI n, _, tkB B n t, n + 1, 0, c, ?_, ?_⟩
      · refine qm_meth (mOk E') (by decide) rfl rfl (Nat.le_of_ble_eq_true rfl) ?_
        intro p e st mm args below meth c Q C _ _
        have loop : ∀ (d k : Nat) (w : Int32), k + d = t → w = nI k → qm_W (mLa E'.2.2.2) mV (mHold E') (mA E'.2.2.2) 5 p E'.1 e (rmL 2) st mm args below meth c Q 52 ([some (qR 0 0), some (qI (nI tn)), some (qI (m.1 0)), some (qI (nI n)), some (qI w)], [], tkB B n k) := by
          intro d
          induction d with
          | zero =>
            intro k w hk hw
            subst hw
            have hk : k = t := by omega
            subst hk
            have hc : m.1 0 ≤ nI k := by rw [m0]; exact Int32.le_refl _
            exact qm_step (sM_text E') C 52 9999 100 ([1], [], []) ⟨hc, rfl, rfl⟩
          | succ d ih =>
            intro k w hk hw
            subst hw
            have hc : ¬ m.1 0 ≤ nI k := by rw [m0]; exact nI_ge (by omega) (by omega)
            have ik : vp_in (nI k) 48 := vp_in_nI (by omega) (by decide)
            have jk : (nI k).toNatClampNeg = k := nI_clamp (by omega)
            have y4 := x24s (k := k) in80 (by omega)
            obtain ⟨y1, y2, y3⟩ := x24 (k := k) (in90 in80) (by omega)
            refine qm_step (sM_text E') C 52 52 100 ([0], [], []) ⟨hc, ik, y4, ?_⟩
            have := ih (k + 1) (nI k + 1) (by omega) (nI_1 k)
            have fin : mbW (tkB B n k) 0 (24 * nI n + nI k).toNatClampNeg ((tkB B n k).2.1 0 (nI k).toNatClampNeg).toInt8.toInt32 = tkB B n (k + 1) := by
              rw [y3, jk, show J (nI n) = n from jn]
              show _ = mbW (tkB B n k) 0 (24 * n + k) ((tkB B n k).2.1 0 k)
              unfold mbW
              rw [i8_8]
            rw [← fin] at this
            exact this
        have hneg : ¬ nI n < 0 := nI_pos (by omega)
        have l0 := loop t 0 0 (by omega) rfl
        have l0' : qm_W (mLa E'.2.2.2) mV (mHold E') (mA E'.2.2.2) 5 p E'.1 e (rmL 2) st mm args below meth c Q 52 ([some (qR 0 0), some (qI (nI tn)), some (qI (m.1 0)), some (qI (nI n)), some (qI 0)], [], miW A 3 (nI n).toNatClampNeg (nI tn)) := by rw [jn, ← hB]; exact l0
        rw [hM] at ha
        exact qm_step (sM_text E') C 0 52 100 ([0, 1, 0], [], [(some (qI 1), (va_up m.1 0 0, m.2)), (some (qI (nI n)), A)]) ⟨c1, hin', by decide, ha, hneg, in80, l0'⟩
      · have eT : (tkB B n t).2.1 0 = m.2.1 0 := by
          funext q
          rw [f.1 0 q (by omega) (by omega), hM]
        have b1 : (tkB B n t).2.1 1 n = 3 := by
          rw [i2, hB, rI, if_neg (by omega), hA]; exact w1
        have b3 : (tkB B n t).2.1 3 n = nI tn := by rw [i2, hB, rI, if_pos ⟨rfl, rfl⟩]
        have bS : (tkB B n t).2.2.2 0 n = lN t := by
          rw [i3, hB, rI3, hA]
          show (ad3 M n 3 (m.1 0).toInt64).2.2.2 0 n = _
          rw [w3, m0, nI_l (by omega)]
        have bB : ∀ q, q < t → (tkB B n t).2.2.1 0 (24 * n + q) = b8 (m.2.1 0 q) := by
          intro q hq
          rw [tkB_b, if_pos hq]
          have : B.2.1 0 q = m.2.1 0 q := by rw [fAB.1 0 q (by omega) (by omega), hM]
          rw [this]
        have sv : sVA (tkB B n t) n = (3, lN t, nI tn, (List.range' 0 t).map fun q => b8 (m.2.1 0 q)) := by
          unfold sVA aVw
          rw [b1, b3, bS, if_neg (by decide), if_pos rfl]
          have : min (lN t).toInt.toNat 24 = t := by rw [lN_toInt (by omega)]; omega
          rw [this]
          congr 3
          apply List.map_congr_left
          intro q hq
          rw [List.mem_range'_1] at hq
          exact bB q (by omega)
        have tx := stS_tx (bvE (emT g) n) n (nI tn) (tpL g t)
        obtain ⟨G, hG⟩ : ∃ G, G = apN (stS (bvE (emT g) n) n (nI tn)) n (tpL g t) := ⟨_, rfl⟩
        rw [← hG] at tx
        have fo := fOne_st (bvE (emT g) n) n (nI tn) (tpL g t)
        rw [← hG] at fo
        have tl : (tpL g t).length = t := by unfold tpL; simp
        have tm : (tpL g t).map b8 = (List.range' 0 t).map fun q => b8 (m.2.1 0 q) := by
          unfold tpL
          rw [List.map_map]
          apply List.map_congr_left
          intro q hq
          rw [List.mem_range'_1] at hq
          show b8 (g.2.2.2.2.1 q) = _
          rw [(R.2.2.2.2.1 q (by omega)).1]
        have eq : cVA G n = sVA (tkB B n t) n := by
          rw [tx.1, sv]
          unfold aTx
          rw [tl, if_pos (by omega), tm]
        have ok : avOk (sVA (tkB B n t) n) := by
          rw [← eq, tx.1]
          refine aTx_ok ⟨tn, htn, rfl⟩ fun b hb => ?_
          obtain ⟨q, hq, rfl⟩ := List.mem_map.mp hb
          rw [List.mem_range'_1] at hq
          rw [(R.2.2.2.2.1 q (by omega)).1]
          exact (R.2.2.2.2.1 q (by omega)).2
        have gd : vGd G n := ⟨by rw [eq]; exact ok, tx.2⟩
        have eE : (bvE (emT g) n).2.2.1 n = _ := uE_at _ _ _
        have eGE : G.2.2.1 = (bvE (emT g) n).2.2.1 := fo.2.1
        have eS : teS g (nI tn) t = oneC G := by unfold teS; rw [ecn, hG]
        rw [eS]
        have f' : mAd n m (tkB B n t) := by
          have : mAd n m M := by rw [hM]; exact ⟨fun _ _ _ _ => rfl, fun _ _ _ => rfl, fun _ _ _ => rfl⟩
          exact mAd_tr this f
        refine Rel_add R hn2 (Nat.zero_le _) (fun j hj => ?_) (fun j hj => ?_) ?_ ?_ (vGd_ok gd) ?_ ?_ f' (Or.inl ⟨?_, ?_, ⟨ok, fun _ => ⟨t, by omega, bS⟩, fun w => absurd b1 w, ?_, ?_, ?_⟩, eq.symm, gd, ?_, ?_⟩)
        · show G.2.2.1 j = _
          rw [eGE]
          exact uE_ne _ _ hj
        · exact fo.1 j hj
        · show (G.2.2.2.1.1 + 1, G.2.2.2.1.2) = _
          rw [fo.2.2.1]
          show (g.2.2.2.1.1 + 1, (0 : Int32)) = _
          rw [ec, nI_1]
          rfl
        · show G.2.2.2.2.1 = _
          rw [fo.2.2.2]
          rfl
        · rw [i1, hB, rI1, hA]; exact adS_1 _ _ _ _
        · rw [i1, hB, rI1, hA, adS_0, hM]
          show va_up m.1 0 0 0 = nI 0
          rw [va_up_self]
          rfl
        · show (G.2.2.1 n).1 = 0; rw [eGE, eE]
        · show (G.2.2.1 n).2.1 = n; rw [eGE, eE]
        · rw [b1]; decide
        · rw [b1]; decide
        · rw [b1]; decide
        · show (G.2.2.1 n).2.2.2.2.2.2.1 = 0; rw [eGE, eE]
        · show (G.2.2.1 n).2.2.2.2.2.2.2.1 = 0; rw [eGE, eE]
  · rw [if_neg (fun w => htg (key.mp w))] at hin hin'
    have : tg < 0 ∨ ¬ tg ≤ 26 := by
      by_cases w : tg < 0
      · exact Or.inl w
      · exact Or.inr (fun z => htg ⟨w, z⟩)
    refine ⟨-1, _, M, n, 0, q1 (Or.inr this), ?_, Re⟩
    refine qm_meth (mOk E') (by decide) rfl rfl (Nat.le_of_ble_eq_true rfl) ?_
    intro p e st mm args below meth c Q C _ _
    exact qm_step (sM_text E') C 0 9999 100 ([0, 0], [], [(some (qI 0), (va_up m.1 0 0, m.2))]) ⟨c1, hin', rfl, rfl, hM.symm⟩
