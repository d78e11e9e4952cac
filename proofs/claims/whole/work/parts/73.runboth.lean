/-! BOTH SIDES: what they share; run -/
theorem goOk {E : cEnv} (hE : cOk E) : goOpen E gIA gGA := fun g x y vx vy => xS_goes hE g x y vx vy
theorem xR_runV {E : cEnv} (hE : cOk E) (hX : qm_Nx E) (hW : woOpen E) (g : cG) (k : Nat) (hk : k < 80) (hex : isEx g (nI k)) (wf : wfE g k) (st : stOk g k) (hall : ∀ x, x < 88 → vOk g x) : ∃ h, cSd E mR_run [qR 0 0, qI (nI k)] g (some (qI (eV g k).1)) h ∧ (cVA h 88 = eV g k ∧ vGd h 88) ∧ (∀ j, st8 h j = st8 g j) ∧ (∀ j, j ≠ 88 → (80 ≤ j ∨ (k < j ∨ ¬ (g.2.2.1 j).1 = 2)) → h.1 j = g.1 j ∧ h.2.1 j = g.2.1 j) ∧ (∀ x, x < 88 → vOk h x) ∧ h.2.2.2.1 = g.2.2.2.1 ∧ h.2.2.2.2.1 = g.2.2.2.2.1 := by
  obtain ⟨W, hWd⟩ : ∃ W, W = gWt g k := ⟨_, rfl⟩
  have s8 : ∀ j, st8 W j = st8 g j := fun j => by rw [hWd]; exact st8_gWt g k j
  have fW := waF_gWt g k
  rw [← hWd] at fW
  obtain ⟨z0, hz0⟩ : ∃ z0, z0 = wnE (wA g k) k 1 := ⟨_, rfl⟩
  have z8 : ∀ j, st8 z0 j = st8 g j := fun j => by rw [hz0, st8_wnE, st8_wA]
  have oz : opLt z0 k := by
    intro i hi h2
    obtain ⟨q1, q2, q3, q4, q5, q6⟩ := opA_8 (z8 i)
    rw [q4, q5, q6]
    exact st.1 i hi (q1.symm.trans h2)
  have cl : ∀ i, i ≤ k → ¬ waI W i = 0 → (g.2.2.1 i).1 = 2 → ¬ waI W (opA g i) = 0 ∧ ¬ waI W (opB g i) = 0 ∧ ¬ waI W (opD g i) = 0 := by
    intro i hi h1 h2
    obtain ⟨q1, q2, q3, q4, q5, q6⟩ := opA_8 (z8 i)
    have := want_cl oz (k + 1) (Nat.le_refl _) i (by omega) hi (by rw [hz0]; rw [hWd] at h1; exact h1) (q1.trans h2)
    rw [q4, q5, q6] at this
    rw [hWd]
    unfold gWt
    rw [← hz0]
    exact this
  have wk : ¬ waI W k = 0 := by
    rw [hWd]
    unfold gWt
    rw [← hz0]
    refine want_k oz ?_ (k + 1) (Nat.le_refl _)
    rw [hz0, waI_wn, if_pos rfl]
    decide
  have inv : ∀ i, i ≤ k + 1 → rcI g W (rC gIA gGA W i) i := by
    intro i
    induction i with
    | zero =>
      intro _
      refine ⟨rfl, fun j _ => ⟨congrFun fW.1 j, congrFun fW.2.1 j⟩, fun j hj => by omega, fun j hj => by omega, fun x hx => vOk_of (congrFun fW.1 x) (hall x hx), ?_, ?_⟩
      · show W.2.2.2.1 = _; rw [fW.2.2]
      · show W.2.2.2.2.1 = _; rw [fW.2.2]
    | succ i ih => intro hi; exact rcI_s hk st s8 cl (by omega) (ih (by omega))
  have hval : ∀ i, i ≤ k → (g.2.2.1 i).1 = 2 → (g.2.2.1 i).2.1 = i := by
    intro i hi h2
    rcases st.2 i hi with ⟨_, a⟩ | ⟨a, _⟩
    · exact a
    · exact absurd h2 a
  have hne : ∀ i, i ≤ k → ∀ a, a < i → (g.2.2.1 a).2.1 ≠ i := by
    intro i hi a ha
    rcases st.2 a (by omega) with ⟨_, q⟩ | ⟨_, _, q⟩ <;> omega
  have hlt : ∀ i, i ≤ k → (g.2.2.1 i).2.1 < 88 := by
    intro i hi
    rcases st.2 i hi with ⟨_, q⟩ | ⟨_, _, q⟩ <;> omega
  have run := xR_run_open hE hX (goOk hE) hW g k hk hex wf hval hne hlt (fun i hi => by rw [← hWd]; exact (inv i hi).1) (fun i hi x hx => by rw [← hWd]; exact (inv i hi).2.2.2.2.1 x hx)
  obtain ⟨i1, i2, i3, i4, i5, i6, i7⟩ := inv (k + 1) (Nat.le_refl _)
  obtain ⟨G, hG⟩ : ∃ G, G = rC gIA gGA W (k + 1) := ⟨_, rfl⟩
  rw [← hG] at i1 i2 i3 i4 i5 i6 i7
  obtain ⟨c1, c2⟩ := i4 k (by omega) wk
  have eVi : (G.2.2.1 k).2.1 = vi g k := by rw [i1]; exact (opA_8 (s8 k)).2.1
  have eR : rnS gIA gGA g k = cpS G 88 (vi g k) (lnT G (vi g k)) := by
    unfold rnS
    rw [← hWd, ← hG, eVi]
  rw [eR] at run
  have cp := cpS_v (g := G) (i := 88) (j := vi g k) (n := lnT G (vi g k)) c2.1 (fun h => by unfold lnT; rw [if_pos h])
  have fo := fOne_cp G 88 (vi g k) (lnT G (vi g k))
  obtain ⟨H, hH⟩ : ∃ H, H = cpS G 88 (vi g k) (lnT G (vi g k)) := ⟨_, rfl⟩
  rw [← hH] at run cp fo
  have e88 : cVA H 88 = eV g k := cp.1.trans c1
  rw [show (H.1 88).1 = (eV g k).1 by rw [← e88, cVA_k]] at run
  refine ⟨H, run, ⟨e88, ⟨by rw [e88]; exact eV_ok st k (Nat.le_refl _), cp.2⟩⟩, fun j => ?_, fun j hj h => ?_, fun x hx => vOk_of (fo.1 x (by omega)).1 (i5 x hx), fo.2.2.1.trans i6, fo.2.2.2.trans i7⟩
  · rw [← s8 j]
    unfold st8
    rw [fo.2.1, i1]
  · obtain ⟨z1, z2⟩ := fo.1 j hj
    have : G.1 j = g.1 j ∧ G.2.1 j = g.2.1 j := by
      by_cases q : k + 1 ≤ j
      · exact i2 j q
      · exact i3 j (by omega) (by rcases h with h | h | h; omega; omega; exact h)
    exact ⟨z1.trans this.1, z2.trans this.2⟩
abbrev vrs (g : cG) (k : Nat) : Int32 := (g.2.2.1 k).2.2.2.2.2.2.1
abbrev lvs (g : cG) (k : Nat) : Int32 := (g.2.2.1 k).2.2.2.2.2.2.2.1
/-- an expression on both sides -/
def exR (g : cG) (m : mG) (k : Nat) : Prop :=
  ((g.2.2.1 k).1 = 0 ∧ vi g k = k ∧ sGd m k ∧ sVA m k = cVA g k ∧ vGd g k ∧ vrs g k = 0 ∧ lvs g k = 0) ∨
  ((g.2.2.1 k).1 = 1 ∧ ∃ v : Nat, v < 8 ∧ vi g k = 80 + v ∧ m.2.1 1 k = 5 ∧ m.2.2.2 0 k = lN v ∧ vrs g k = 1 <<< (nI v &&& 31) ∧ lvs g k = 0) ∨
  ((g.2.2.1 k).1 = 2 ∧ vi g k = k ∧ ∃ o a b d : Nat, o < 30 ∧ (g.2.2.1 k).2.2.1 = nI o ∧ (g.2.2.1 k).2.2.2.1 = some a ∧ (g.2.2.1 k).2.2.2.2.1 = some b ∧ (g.2.2.1 k).2.2.2.2.2.1 = some d ∧ (a < k ∧ b < k ∧ d < k) ∧ m.2.1 1 k = 6 ∧ m.2.2.2 0 k = lN o ∧ m.2.1 2 (3 * k) = nI a ∧ (1 < arN o → m.2.1 2 (3 * k + 1) = nI b) ∧ (¬ 1 < arN o → b = a) ∧ (2 < arN o → m.2.1 2 (3 * k + 2) = nI d) ∧ (¬ 2 < arN o → d = a) ∧ vrs g k = vrs g a ||| vrs g b ||| vrs g d ∧ lvs g k = lvC g a b d)
def Rel (g : cG) (m : mG) (n t : Nat) : Prop := (n ≤ 80 ∧ t ≤ 48) ∧ g.2.2.2.1 = (nI n, nI t) ∧ (m.1 1 = nI n ∧ m.1 0 = nI t) ∧ (∀ k, k < n → exR g m k) ∧ (∀ k, k < t → g.2.2.2.2.1 k = m.2.1 0 k ∧ okB (m.2.1 0 k)) ∧ (∀ v, v < 8 → vGd g (80 + v) ∧ mGd m (80 + v) ∧ cVA g (80 + v) = mVA m (80 + v)) ∧ (vGd g 88 ∧ mGd m 88 ∧ cVA g 88 = mVA m 88) ∧ (∀ x, x < 88 → vOk g x)
theorem exR_of {g h : cG} {m m' : mG} {k : Nat} (s8 : ∀ j, j ≤ k → st8 h j = st8 g j) (hv : (g.2.2.1 k).1 = 0 → h.1 k = g.1 k ∧ h.2.1 k = g.2.1 k) (t1 : m'.2.1 1 k = m.2.1 1 k) (t3 : m'.2.1 3 k = m.2.1 3 k) (t2 : ∀ i, i < 3 → m'.2.1 2 (3 * k + i) = m.2.1 2 (3 * k + i)) (tS : m'.2.2.2 0 k = m.2.2.2 0 k) (tB : ∀ i, i < 24 → m'.2.2.1 0 (24 * k + i) = m.2.2.1 0 (24 * k + i)) (e : exR g m k) : exR h m' k := by
  have p8 : ∀ j, j ≤ k → (h.2.2.1 j).1 = (g.2.2.1 j).1 ∧ vi h j = vi g j ∧ (h.2.2.1 j).2.2.1 = (g.2.2.1 j).2.2.1 ∧ (h.2.2.1 j).2.2.2.1 = (g.2.2.1 j).2.2.2.1 ∧ (h.2.2.1 j).2.2.2.2.1 = (g.2.2.1 j).2.2.2.2.1 ∧ (h.2.2.1 j).2.2.2.2.2.1 = (g.2.2.1 j).2.2.2.2.2.1 ∧ vrs h j = vrs g j ∧ lvs h j = lvs g j := by
    intro j hj
    have e := s8 j hj
    unfold st8 at e
    injection e with e1 e
    injection e with e2 e
    injection e with e3 e
    injection e with e4 e
    injection e with e5 e
    injection e with e6 e
    injection e with e7 e8
    exact ⟨e1, e2, e3, e4, e5, e6, e7, e8⟩
  obtain ⟨q1, q2, q3, q4, q5, q6, q7, q8⟩ := p8 k (Nat.le_refl _)
  rcases e with ⟨a1, a2, a3, a4, a5, a6, a7⟩ | ⟨a1, v, a2, a3, a4, a5, a6, a7⟩ | ⟨a1, a2, o, a, b, d, b1, b2, b3, b4, b5, b6, b7, b8, b9, b10, b11, b12, b13, b14, b15⟩
  · obtain ⟨v1, v2⟩ := hv a1
    have sV : sVA m' k = sVA m k := by
      unfold sVA aVw
      rw [t1, t3, tS]
      have : List.map (fun i => m'.2.2.1 0 (24 * k + i)) (List.range' 0 (min (m.2.2.2 0 k).toInt.toNat 24)) = List.map (fun i => m.2.2.1 0 (24 * k + i)) (List.range' 0 (min (m.2.2.2 0 k).toInt.toNat 24)) := by
        apply List.map_congr_left
        intro i hi
        rw [List.mem_range'_1] at hi
        exact tB i (by omega)
      rw [this]
    refine Or.inl ⟨q1.trans a1, q2.trans a2, ?_, ?_, vGd_of v1 v2 a5, q7.trans a6, q8.trans a7⟩
    · unfold sGd
      rw [sV, t1, t3, tS]
      exact a3
    · rw [sV, a4, cVA_of v1 v2]
  · exact Or.inr (Or.inl ⟨q1.trans a1, v, a2, q2.trans a3, t1.trans a4, tS.trans a5, q7.trans a6, q8.trans a7⟩)
  · obtain ⟨r1, r2, r3, r4, r5, r6, r7, r8⟩ := p8 a (by omega)
    obtain ⟨s1, s2, s3, s4, s5, s6, s7, s8⟩ := p8 b (by omega)
    obtain ⟨u1, u2, u3, u4, u5, u6, u7, u8⟩ := p8 d (by omega)
    refine Or.inr (Or.inr ⟨q1.trans a1, q2.trans a2, o, a, b, d, b1, q3.trans b2, q4.trans b3, q5.trans b4, q6.trans b5, b6, t1.trans b7, tS.trans b8, (t2 0 (by omega)).trans b9, fun w => (t2 1 (by omega)).trans (b10 w), b11, fun w => (t2 2 (by omega)).trans (b12 w), b13, ?_, ?_⟩)
    · rw [q7, r7, s7, u7]; exact b14
    · have : lvC h a b d = lvC g a b d := by
        unfold lvC
        rw [show (h.2.2.1 a).2.2.2.2.2.2.2.1 = (g.2.2.1 a).2.2.2.2.2.2.2.1 from r8, show (h.2.2.1 b).2.2.2.2.2.2.2.1 = (g.2.2.1 b).2.2.2.2.2.2.2.1 from s8, show (h.2.2.1 d).2.2.2.2.2.2.2.1 = (g.2.2.1 d).2.2.2.2.2.2.2.1 from u8]
      rw [q8, this]; exact b15
/-- what Rel gives of the class's expressions -/
theorem Rel_st {g : cG} {m : mG} {n t : Nat} (R : Rel g m n t) {k : Nat} (hk : k < n) : stOk g k ∧ wfE g k := by
  obtain ⟨⟨hn, _⟩, _, _, hx, _, hr, _, _⟩ := R
  have ops : ∀ i, i ≤ k → (g.2.2.1 i).1 = 2 → ∃ a b d : Nat, (g.2.2.1 i).2.2.2.1 = some a ∧ (g.2.2.1 i).2.2.2.2.1 = some b ∧ (g.2.2.1 i).2.2.2.2.2.1 = some d ∧ a < i ∧ b < i ∧ d < i := by
    intro i hi h2
    rcases hx i (by omega) with ⟨a1, _⟩ | ⟨a1, _⟩ | ⟨a1, a2, o, a, b, d, b1, b2, b3, b4, b5, b6, _⟩
    · rw [a1] at h2; exact absurd h2 (by decide)
    · rw [a1] at h2; exact absurd h2 (by decide)
    · exact ⟨a, b, d, b3, b4, b5, b6⟩
  refine ⟨⟨fun i hi h2 => ?_, fun i hi => ?_⟩, ops⟩
  · obtain ⟨a, b, d, c1, c2, c3, c4⟩ := ops i hi h2
    unfold opA opB opD
    rw [c1, c2, c3]
    exact c4
  · rcases hx i (by omega) with ⟨a1, a2, a3, a4, a5, _⟩ | ⟨a1, v, a2, a3, _⟩ | ⟨a1, a2, _⟩
    · exact Or.inr ⟨by rw [a1]; decide, by rw [show (g.2.2.1 i).2.1 = i from a2]; exact a5, Or.inl ⟨a2, by rw [a1]; decide⟩⟩
    · exact Or.inr ⟨by rw [a1]; decide, by rw [show (g.2.2.1 i).2.1 = 80 + v from a3]; exact (hr v a2).1, Or.inr (by rw [show (g.2.2.1 i).2.1 = 80 + v from a3]; omega)⟩
    · exact Or.inl ⟨a1, a2⟩
set_option maxHeartbeats 1000000 in
/-- run, on both sides -/
theorem run_both {E : cEnv} (hE : cOk E) (hX : qm_Nx E) (hW : woOpen E) (E' : mEnv) {g : cG} {m : mG} {n t : Nat} (R : Rel g m n t) (x : Int32) : ∃ r h h', cSd E mR_run [qR 0 0, qI x] g (some (qI r)) h ∧ mSd E' mM_run [qR 0 0, qI x] m (some (qI r)) h' ∧ Rel h h' n t := by
  have R0 := R
  obtain ⟨⟨hn, ht⟩, hc, ⟨m1, m0⟩, hx, htp, hr, h88, hv⟩ := R
  by_cases hex : ¬ x < 0 ∧ ¬ nI n ≤ x
  · obtain ⟨k, hk31, rfl⟩ := nI_of hex.1
    have hk : k < n := by
      rcases Nat.lt_or_ge k n with w | w
      · exact w
      · exact absurd (nI_le w hk31) hex.2
    obtain ⟨st, wf⟩ := Rel_st R0 hk
    obtain ⟨h, c1, c2, c3, c4, c5, c6, c7⟩ := xR_runV hE hX hW g k (by omega) (by unfold isEx; rw [hc]; exact hex) wf st hv
    have step : ∀ (j : Nat) (h : mG), j ≤ k → mFn j m h → (∀ i, i < j → mVA h i = eV g i ∧ mGd h i) → mDo E' mM_reckon [qR 0 0, qI (nI j)] h j (eV g j) := by
      intro j h hj fr hval
      have jj : J (nI j) = j := nI_clamp (by omega)
      have jx : vp_in (nI j) 80 := vp_in_nI (by omega) (by decide)
      have w1 : h.2.1 1 j = m.2.1 1 j := fr.2.1 1 _ (Or.inl ⟨by decide, by decide⟩)
      have w3 : h.2.1 3 j = m.2.1 3 j := fr.2.1 3 _ (Or.inl ⟨by decide, by decide⟩)
      have w2 : ∀ i, h.2.1 2 i = m.2.1 2 i := fun i => fr.2.1 2 _ (Or.inl ⟨by decide, by decide⟩)
      have wS : h.2.2.2 0 j = m.2.2.2 0 j := fr.2.2.2 0 _ (Or.inl (by decide))
      have wB : h.2.2.1 0 = m.2.2.1 0 := by funext q; exact fr.2.2.1 0 _ (Or.inl (by decide))
      rcases hx j (by omega) with ⟨a1, a2, a3, a4, a5, a6, a7⟩ | ⟨a1, v, a2, a3, a4, a5, a6, a7⟩ | ⟨a1, a2, o, a, b, d, b1, b2, b3, b4, b5, b6, b7, b8, b9, b10, b11, b12, b13, b14, b15⟩
      · have sV : sVA h j = sVA m j := by unfold sVA; rw [w1, w3, wS, wB]
        have sG : sGd h j := by unfold sGd; rw [sV, w1, w3, wS]; exact a3
        have := xM_reckon_con E' h (nI j) jx (by rw [jj]; exact sG)
        rw [jj, sV, a4] at this
        rw [eV_eq st.1 hj, if_neg (by rw [a1]; decide), show (g.2.2.1 j).2.1 = j from a2]
        exact this
      · have := xM_reckon_var E' h (nI j) v jx (by rw [jj, w1]; exact a4) (by rw [jj, wS]; exact a5) a2 ((mFn_v fr (by omega)).2 (hr v a2).2.1)
        rw [jj, (mFn_v fr (by omega)).1, ← (hr v a2).2.2] at this
        rw [eV_eq st.1 hj, if_neg (by rw [a1]; decide), show (g.2.2.1 j).2.1 = 80 + v from a3]
        exact this
      · have oa : opA g j = a := by unfold opA; rw [b3]; rfl
        have ob : opB g j = b := by unfold opB; rw [b4]; rfl
        have od : opD g j = d := by unfold opD; rw [b5]; rfl
        have ja : J (nI a) = a := nI_clamp (by omega)
        have jb : J (nI b) = b := nI_clamp (by omega)
        have jd : J (nI d) = d := nI_clamp (by omega)
        have B : 1 < arN o → h.2.1 2 (3 * j + 1) = nI b := fun w => (w2 _).trans (b10 w)
        have D : 2 < arN o → h.2.1 2 (3 * j + 2) = nI d := fun w => (w2 _).trans (b12 w)
        have := xM_reckon_call E' h (nI j) (nI a) (h.2.1 2 (3 * j + 1)) (h.2.1 2 (3 * j + 2)) o (eV g b) (eV g d) jx (by rw [jj, w1]; exact b7) (by rw [jj, wS]; exact b8) b1 (by rw [jj, w2]; exact b9) (by rw [jj]) (by rw [jj])
          ⟨vp_in_nI (by omega) (by decide), by rw [ja, jj]; omega, by rw [ja]; exact (hval a (by omega)).2⟩
          (fun w => by rw [B w]; exact ⟨vp_in_nI (by omega) (by decide), by rw [jb, jj]; omega, by rw [jb]; exact (hval b (by omega)).2⟩)
          (fun w => by rw [D w]; exact ⟨vp_in_nI (by omega) (by decide), by rw [jd, jj]; omega, by rw [jd]; exact (hval d (by omega)).2⟩)
          (fun w => by rw [B w, jb]; exact (hval b (by omega)).1.symm)
          (fun w => by rw [D w, jd]; exact (hval d (by omega)).1.symm)
        rw [jj, ja, (hval a (by omega)).1] at this
        have gv : mgv h a = gvI g a := by
          unfold mgv gvI
          have wa : h.2.1 1 a = m.2.1 1 a := fr.2.1 1 _ (Or.inl ⟨by decide, by decide⟩)
          have ka : mk h a = (eV g a).1 := by rw [← (hval a (by omega)).1, mVA_k]
          rcases hx a (by omega) with ⟨y1, y2, y3, _⟩ | ⟨y1, v, y2, y3, y4, _⟩ | ⟨y1, y2, o', a', b', d', z1, z2, z3, z4, z5, z6, z7, _⟩
          · rw [if_neg (by rw [wa]; exact y3.2.2.2.2.1), if_neg (by rw [y1]; decide)]
          · have ee : eV g a = cVA g (g.2.2.1 a).2.1 := by rw [eV_eq st.1 (show a ≤ k by omega), if_neg (show ¬ (g.2.2.1 a).1 = 2 by rw [y1]; decide)]
            rw [if_pos (by rw [wa]; exact y4), if_pos y1, ka, ee, cVA_k]
          · rw [if_neg (by rw [wa, z7]; decide), if_neg (by rw [y1]; decide)]
        rw [gv] at this
        rw [eV_eq st.1 hj, if_pos a1, b2, oa, ob, od]
        exact this
    obtain ⟨h', d1, d2, d3, d4⟩ := xM_run E' m k n hk hn m1 (eV g) (fun j hj => eV_ok st j hj) step
    refine ⟨(eV g k).1, h, h', c1, d1, ⟨hn, ht⟩, by rw [c6]; exact hc, ⟨(d2.1 1 (by omega)).trans m1, (d2.1 0 (by omega)).trans m0⟩, fun j hj => ?_, fun j hj => ?_, fun v hv8 => ?_, ⟨c2.2, d4, c2.1.trans d3.symm⟩, c5⟩
    · exact exR_of (fun i _ => c3 i) (fun z => c4 j (by omega) (Or.inr (Or.inr (by rw [z]; decide)))) (d2.2.1 1 _ ⟨by decide, by decide⟩) (d2.2.1 3 _ ⟨by decide, by decide⟩) (fun i _ => d2.2.1 2 _ ⟨by decide, by decide⟩) (d2.2.2.2.1 0 _ (by decide)) (fun i _ => d2.2.2.1 0 _ (by decide)) (hx j hj)
    · rw [c7, d2.2.1 0 _ ⟨by decide, by decide⟩]; exact htp j hj
    · obtain ⟨z1, z2⟩ := c4 (80 + v) (by omega) (Or.inl (by omega))
      obtain ⟨y1, y2⟩ := d2.2.2.2.2 v hv8
      exact ⟨vGd_of z1 z2 (hr v hv8).1, y2 (hr v hv8).2.1, by rw [cVA_of z1 z2, y1]; exact (hr v hv8).2.2⟩
  · exact ⟨-1, g, m, xR_run_bad hE g x (by unfold isEx; rw [hc]; exact hex), xM_run_bad E' m x n hn m1 hex, R0⟩
