/-! THE CLASS'S RUN reckons what is wanted, as all would be -/
def st8 (g : cG) (j : Nat) : Int32 × Nat × Int32 × Option Nat × Option Nat × Option Nat × Int32 × Int32 := ((g.2.2.1 j).1, (g.2.2.1 j).2.1, (g.2.2.1 j).2.2.1, (g.2.2.1 j).2.2.2.1, (g.2.2.1 j).2.2.2.2.1, (g.2.2.1 j).2.2.2.2.2.1, (g.2.2.1 j).2.2.2.2.2.2.1, (g.2.2.1 j).2.2.2.2.2.2.2.1)
theorem st8_wnE (g : cG) (k : Nat) (x : Int32) (j : Nat) : st8 (wnE g k x) j = st8 g j := by
  unfold st8
  by_cases h : j = k
  · subst h
    unfold wnE
    rw [uE_at]
  · rw [wnE_ne _ _ h]
theorem st8_wA (g : cG) : ∀ i j, st8 (wA g i) j = st8 g j
  | 0, _ => rfl
  | i + 1, j => (st8_wnE _ _ _ _).trans (st8_wA g i j)
theorem st8_woS (g : cG) (i j : Nat) : st8 (woS g i) j = st8 g j := by
  unfold woS
  split
  · rfl
  · split
    · rw [st8_wnE, st8_wnE, st8_wnE]
    · rfl
theorem st8_wB (g : cG) (k : Nat) : ∀ i j, st8 (wB g k i) j = st8 g j
  | 0, _ => rfl
  | i + 1, j => (st8_woS _ _ _).trans (st8_wB g k i j)
theorem st8_gWt (g : cG) (k j : Nat) : st8 (gWt g k) j = st8 g j := by
  unfold gWt
  rw [st8_wB, st8_wnE, st8_wA]
/-- what wanting leaves -/
def waF (g h : cG) : Prop := h.1 = g.1 ∧ h.2.1 = g.2.1 ∧ h.2.2.2 = g.2.2.2
theorem waF_rfl (g : cG) : waF g g := ⟨rfl, rfl, rfl⟩
theorem waF_tr {g h k : cG} (a : waF g h) (b : waF h k) : waF g k := ⟨b.1.trans a.1, b.2.1.trans a.2.1, b.2.2.trans a.2.2⟩
theorem waF_wn (g : cG) (k : Nat) (x : Int32) : waF g (wnE g k x) := ⟨rfl, rfl, rfl⟩
theorem waF_wA (g : cG) : ∀ i, waF g (wA g i)
  | 0 => waF_rfl g
  | i + 1 => waF_tr (waF_wA g i) (waF_wn _ _ _)
theorem waF_wo (g : cG) (i : Nat) : waF g (woS g i) := by
  unfold woS
  split
  · exact waF_rfl g
  · split
    · exact waF_tr (waF_tr (waF_wn _ _ _) (waF_wn _ _ _)) (waF_wn _ _ _)
    · exact waF_rfl g
theorem waF_wB (g : cG) (k : Nat) : ∀ i, waF g (wB g k i)
  | 0 => waF_rfl g
  | i + 1 => waF_tr (waF_wB g k i) (waF_wo _ _)
theorem waF_gWt (g : cG) (k : Nat) : waF g (gWt g k) := waF_tr (waF_tr (waF_wA g k) (waF_wn _ _ _)) (waF_wB _ _ _)
theorem waI_wn (g : cG) (k : Nat) (x : Int32) (i : Nat) : waI (wnE g k x) i = if i = k then x else waI g i := by
  unfold waI
  by_cases h : i = k
  · subst h
    unfold wnE
    rw [uE_at, if_pos rfl]
  · rw [wnE_ne _ _ h, if_neg h]
theorem opA_8 {g h : cG} {j : Nat} (e : st8 h j = st8 g j) : (h.2.2.1 j).1 = (g.2.2.1 j).1 ∧ (h.2.2.1 j).2.1 = (g.2.2.1 j).2.1 ∧ (h.2.2.1 j).2.2.1 = (g.2.2.1 j).2.2.1 ∧ opA h j = opA g j ∧ opB h j = opB g j ∧ opD h j = opD g j := by
  unfold st8 at e
  injection e with e1 e
  injection e with e2 e
  injection e with e3 e
  injection e with e4 e
  injection e with e5 e
  injection e with e6 e
  unfold opA opB opD
  rw [e1, e2, e3, e4, e5, e6]
  exact ⟨rfl, rfl, rfl, rfl, rfl, rfl⟩
def opLt (g : cG) (k : Nat) : Prop := ∀ i, i ≤ k → (g.2.2.1 i).1 = 2 → opA g i < i ∧ opB g i < i ∧ opD g i < i
theorem want_cl {g : cG} {k : Nat} (hw : opLt g k) : ∀ j, j ≤ k + 1 → ∀ i, k < i + j → i ≤ k → ¬ waI (wB g k j) i = 0 → (g.2.2.1 i).1 = 2 → ¬ waI (wB g k j) (opA g i) = 0 ∧ ¬ waI (wB g k j) (opB g i) = 0 ∧ ¬ waI (wB g k j) (opD g i) = 0
  | 0, _, i, h1, h2, _, _ => by omega
  | j + 1, hj, i, h1, h2, h3, h4 => by
    have s8 : ∀ q, st8 (wB g k j) q = st8 g q := st8_wB g k j
    obtain ⟨z, hz⟩ : ∃ z, z = wB g k j := ⟨_, rfl⟩
    have ih := want_cl hw j (by omega)
    have e1 : wB g k (j + 1) = woS (wB g k j) (k - j) := rfl
    rw [e1] at h3 ⊢
    rw [← hz] at h3 ih s8 ⊢
    obtain ⟨q1, q2, q3, q4, q5, q6⟩ := opA_8 (s8 (k - j))
    by_cases c0 : waI z (k - j) = 0
    · have e : woS z (k - j) = z := by unfold woS; rw [if_pos c0]
      rw [e] at h3 ⊢
      by_cases hi : i = k - j
      · subst hi; exact absurd c0 h3
      · exact ih i (by omega) h2 h3 h4
    · by_cases c2 : (g.2.2.1 (k - j)).1 = 2
      · have e : woS z (k - j) = wnE (wnE (wnE z (opA g (k - j)) 1) (opB g (k - j)) 1) (opD g (k - j)) 1 := by
          unfold woS
          rw [if_neg c0, if_pos (q1.trans c2), q4, q5, q6]
        have wv : ∀ q, waI (woS z (k - j)) q = if q = opD g (k - j) then 1 else if q = opB g (k - j) then 1 else if q = opA g (k - j) then 1 else waI z q := by
          intro q
          rw [e, waI_wn, waI_wn, waI_wn]
        obtain ⟨l1, l2, l3⟩ := hw (k - j) (by omega) c2
        have mono : ∀ q, ¬ waI z q = 0 → ¬ waI (woS z (k - j)) q = 0 := by
          intro q hq
          rw [wv]
          split
          · decide
          · split
            · decide
            · split
              · decide
              · exact hq
        by_cases hi : i = k - j
        · subst hi
          refine ⟨?_, ?_, ?_⟩
          · rw [wv]
            split
            · decide
            · split
              · decide
              · rw [if_pos rfl]; decide
          · rw [wv]
            split
            · decide
            · rw [if_pos rfl]; decide
          · rw [wv, if_pos rfl]; decide
        · have : waI (woS z (k - j)) i = waI z i := by rw [wv, if_neg (by omega), if_neg (by omega), if_neg (by omega)]
          rw [this] at h3
          obtain ⟨a1, a2, a3⟩ := ih i (by omega) h2 h3 h4
          exact ⟨mono _ a1, mono _ a2, mono _ a3⟩
      · have e : woS z (k - j) = z := by unfold woS; rw [if_neg c0, if_neg (by rw [q1]; exact c2)]
        rw [e] at h3 ⊢
        by_cases hi : i = k - j
        · subst hi; exact absurd h4 c2
        · exact ih i (by omega) h2 h3 h4
theorem want_k {g : cG} {k : Nat} (hw : opLt g k) (hk : ¬ waI g k = 0) : ∀ j, j ≤ k + 1 → ¬ waI (wB g k j) k = 0
  | 0, _ => hk
  | j + 1, hj => by
    have ih := want_k hw hk j (by omega)
    have s8 : ∀ q, st8 (wB g k j) q = st8 g q := st8_wB g k j
    show ¬ waI (woS (wB g k j) (k - j)) k = 0
    obtain ⟨z, hz⟩ : ∃ z, z = wB g k j := ⟨_, rfl⟩
    rw [← hz] at ih s8 ⊢
    obtain ⟨q1, q2, q3, q4, q5, q6⟩ := opA_8 (s8 (k - j))
    unfold woS
    split
    · exact ih
    · split
      · rw [waI_wn, waI_wn, waI_wn]
        split
        · decide
        · split
          · decide
          · split
            · decide
            · exact ih
      · exact ih
/-- all values, as they follow from each other -/
def evS (g : cG) (V : Nat → AV) (k : Nat) : AV := if (g.2.2.1 k).1 = 2 then opV (g.2.2.1 k).2.2.1 (V (opA g k)) (V (opB g k)) (V (opD g k)) (gvI g (opA g k)) else cVA g (g.2.2.1 k).2.1
def evV (g : cG) : Nat → Nat → AV
  | 0, _ => aErr
  | k + 1, j => if j = k then evS g (evV g k) k else evV g k j
theorem evV_lt (g : cG) : ∀ (k j : Nat), j < k → evV g k j = evV g (j + 1) j
  | 0, _, h => by omega
  | k + 1, j, h => by
    show (if j = k then evS g (evV g k) k else evV g k j) = _
    by_cases e : j = k
    · subst e
      rw [if_pos rfl]
      show _ = if j = j then _ else _
      rw [if_pos rfl]
    · rw [if_neg e]; exact evV_lt g k j (by omega)
def eV (g : cG) (j : Nat) : AV := evV g (j + 1) j
theorem eV_eq {g : cG} {k : Nat} (hw : opLt g k) {i : Nat} (hi : i ≤ k) : eV g i = if (g.2.2.1 i).1 = 2 then opV (g.2.2.1 i).2.2.1 (eV g (opA g i)) (eV g (opB g i)) (eV g (opD g i)) (gvI g (opA g i)) else cVA g (g.2.2.1 i).2.1 := by
  show (if i = i then evS g (evV g i) i else evV g i i) = _
  rw [if_pos rfl]
  unfold evS
  by_cases h : (g.2.2.1 i).1 = 2
  · rw [if_pos h, if_pos h]
    obtain ⟨l1, l2, l3⟩ := hw i hi h
    rw [evV_lt g i _ l1, evV_lt g i _ l2, evV_lt g i _ l3]
    rfl
  · rw [if_neg h, if_neg h]
/-- expressions as they may be, up to k -/
def stOk (g : cG) (k : Nat) : Prop := opLt g k ∧ ∀ i, i ≤ k → ((g.2.2.1 i).1 = 2 ∧ (g.2.2.1 i).2.1 = i) ∨ (¬ (g.2.2.1 i).1 = 2 ∧ vGd g (g.2.2.1 i).2.1 ∧ ((g.2.2.1 i).2.1 = i ∧ ¬ (g.2.2.1 i).1 = 1 ∨ (80 ≤ (g.2.2.1 i).2.1 ∧ (g.2.2.1 i).2.1 < 88)))
theorem eV_ok {g : cG} {k : Nat} (h : stOk g k) : ∀ i, i ≤ k → avOk (eV g i) := by
  intro i
  induction i using Nat.strongRecOn with
  | ind i ih =>
    intro hi
    rw [eV_eq h.1 hi]
    rcases h.2 i hi with ⟨a, _⟩ | ⟨a, b, _⟩
    · rw [if_pos a]
      obtain ⟨l1, l2, l3⟩ := h.1 i hi a
      exact opV_ok (ih _ l1 (by omega)) (ih _ l2 (by omega)) (ih _ l3 (by omega)) (gvI_3 _ _)
    · rw [if_neg a]; exact b.1
theorem vGd_of {g h : cG} {j : Nat} (e1 : h.1 j = g.1 j) (e2 : h.2.1 j = g.2.1 j) (a : vGd g j) : vGd h j := by
  unfold vGd okT
  rw [cVA_of e1 e2, e1]
  exact a
theorem vOk_of {g h : cG} {j : Nat} (e1 : h.1 j = g.1 j) (a : vOk g j) : vOk h j := by
  unfold vOk
  rw [e1]
  exact a
abbrev vi (g : cG) (j : Nat) : Nat := (g.2.2.1 j).2.1
/-- what holds of the class's state as it has reckoned below i -/
def rcI (g W G : cG) (i : Nat) : Prop := G.2.2.1 = W.2.2.1 ∧ (∀ j, i ≤ j → G.1 j = g.1 j ∧ G.2.1 j = g.2.1 j) ∧ (∀ j, j < i → ¬ (g.2.2.1 j).1 = 2 → G.1 j = g.1 j ∧ G.2.1 j = g.2.1 j) ∧ (∀ j, j < i → ¬ waI W j = 0 → cVA G (vi g j) = eV g j ∧ vGd G (vi g j)) ∧ (∀ x, x < 88 → vOk G x) ∧ G.2.2.2.1 = g.2.2.2.1 ∧ G.2.2.2.2.1 = g.2.2.2.2.1
set_option maxHeartbeats 1000000 in
theorem rcI_s {g W G : cG} {k i : Nat} (hk : k < 80) (st : stOk g k) (s8 : ∀ j, st8 W j = st8 g j) (cl : ∀ i, i ≤ k → ¬ waI W i = 0 → (g.2.2.1 i).1 = 2 → ¬ waI W (opA g i) = 0 ∧ ¬ waI W (opB g i) = 0 ∧ ¬ waI W (opD g i) = 0) (hi : i ≤ k) (h : rcI g W G i) : rcI g W (rcW gIA gGA G i) (i + 1) := by
  obtain ⟨h1, h2, h3, h4, h5, h6, h7⟩ := h
  have wI : waI G i = waI W i := by unfold waI; rw [h1]
  have sG : ∀ j, st8 G j = st8 g j := fun j => by rw [← s8 j]; unfold st8; rw [h1]
  obtain ⟨q1, q2, q3, q4, q5, q6⟩ := opA_8 (sG i)
  have noc : ∀ (hn : ¬ (g.2.2.1 i).1 = 2 ∨ waI W i = 0), rcI g W G (i + 1) := by
    intro hn
    refine ⟨h1, fun j hj => h2 j (by omega), fun j hj hs => ?_, fun j hj hw => ?_, h5, h6, h7⟩
    · by_cases e : j = i
      · subst e; exact h2 j (Nat.le_refl _)
      · exact h3 j (by omega) hs
    · by_cases e : j = i
      · subst e
        have hs : ¬ (g.2.2.1 j).1 = 2 := by
          rcases hn with hn | hn
          · exact hn
          · exact absurd hn hw
        rcases st.2 j hi with ⟨a, _⟩ | ⟨a, b, c⟩
        · exact absurd a hs
        · have hv : G.1 (vi g j) = g.1 (vi g j) ∧ G.2.1 (vi g j) = g.2.1 (vi g j) := by
            rcases c with c | c
            · rw [show vi g j = j from c.1]; exact h2 j (Nat.le_refl _)
            · exact h2 _ (by show j ≤ (g.2.2.1 j).2.1; omega)
          refine ⟨?_, vGd_of hv.1 hv.2 b⟩
          rw [cVA_of hv.1 hv.2, eV_eq st.1 hi, if_neg hs]
      · exact h4 j (by omega) hw
  unfold rcW
  rw [wI]
  by_cases c0 : waI W i = 0
  · rw [if_pos c0]; exact noc (Or.inr c0)
  · rw [if_neg c0, q1]
    by_cases c2 : (g.2.2.1 i).1 = 2
    · rw [if_pos c2, q3, q4, q5, q6]
      have vi' : ∀ j, (G.2.2.1 j).2.1 = vi g j := fun j => (opA_8 (sG j)).2.1
      rw [vi', vi', vi']
      obtain ⟨l1, l2, l3⟩ := st.1 i hi c2
      obtain ⟨w1, w2, w3⟩ := cl i hi c0 c2
      obtain ⟨a1, a2⟩ := h4 _ l1 w1
      obtain ⟨b1, b2⟩ := h4 _ l2 w2
      obtain ⟨d1, d2⟩ := h4 _ l3 w3
      have lT : ∀ x, (G.1 x).1 = 3 → lnT G x = lnN G x := fun x hx => by unfold lnT; rw [if_pos hx]
      obtain ⟨R, hR⟩ : ∃ R, R = rkS gIA gGA (g.2.2.1 i).2.2.1 G i (opA g i) (vi g (opA g i)) (lnT G (vi g (opA g i))) (vi g (opB g i)) (lnT G (vi g (opB g i))) (vi g (opD g i)) (lnT G (vi g (opD g i))) := ⟨_, rfl⟩
      have rv := rkS_v (g := G) (op := (g.2.2.1 i).2.2.1) (i := i) (a := opA g i) a2 b2 d2 (lT _) (lT _) (lT _)
      have fr : fOne i G R := by rw [hR]; exact fOne_rk a2 b2
      rw [← hR] at rv ⊢
      have vis : vi g i = i := by
        rcases st.2 i hi with ⟨_, a⟩ | ⟨a, _⟩
        · exact a
        · exact absurd c2 a
      have gv : gvI G (opA g i) = gvI g (opA g i) := by
        unfold gvI
        rw [(opA_8 (sG (opA g i))).1, vi']
        by_cases c1 : (g.2.2.1 (opA g i)).1 = 1
        · rw [if_pos c1, if_pos c1]
          rcases st.2 (opA g i) (by omega) with ⟨a, _⟩ | ⟨_, _, c⟩
          · rw [a] at c1; exact absurd c1 (by decide)
          · rcases c with c | c
            · exact absurd c1 c.2
            · rw [(h2 (vi g (opA g i)) (by show i ≤ (g.2.2.1 (opA g i)).2.1; omega)).1]
        · rw [if_neg c1, if_neg c1]
      have ev : cVA R i = eV g i := by
        rw [rv.1, a1, b1, d1, gv, eV_eq st.1 hi, if_pos c2]
      have gd : vGd R i := ⟨by rw [ev]; exact eV_ok st i hi, rv.2⟩
      have vne : ∀ j, j < i → vi g j ≠ i := by
        intro j hj
        rcases st.2 j (by omega) with ⟨_, a⟩ | ⟨_, _, c⟩
        · show (g.2.2.1 j).2.1 ≠ i; omega
        · show (g.2.2.1 j).2.1 ≠ i; omega
      refine ⟨fr.2.1.trans h1, fun j hj => ?_, fun j hj hs => ?_, fun j hj hw => ?_, fun x hx => ?_, fr.2.2.1.trans h6, fr.2.2.2.trans h7⟩
      · obtain ⟨z1, z2⟩ := fr.1 j (by omega)
        obtain ⟨y1, y2⟩ := h2 j (by omega)
        exact ⟨z1.trans y1, z2.trans y2⟩
      · have hji : j ≠ i := fun e => by subst e; exact hs c2
        obtain ⟨z1, z2⟩ := fr.1 j hji
        obtain ⟨y1, y2⟩ := h3 j (by omega) hs
        exact ⟨z1.trans y1, z2.trans y2⟩
      · by_cases e : j = i
        · subst e
          rw [vis]
          exact ⟨ev, gd⟩
        · obtain ⟨z1, z2⟩ := fr.1 (vi g j) (vne j (by omega))
          obtain ⟨y1, y2⟩ := h4 j (by omega) hw
          exact ⟨(cVA_of z1 z2).trans y1, vGd_of z1 z2 y2⟩
      · by_cases e : x = i
        · subst e; exact vGd_ok gd
        · exact vOk_of (fr.1 x e).1 (h5 x hx)
    · rw [if_neg c2]; exact noc (Or.inl c2)
