/-! ABSTRACT VALUES: (kind, number, tag, bytes); both sides' values are read as such. -/
abbrev AV : Type := Int32 × Int64 × Int32 × List Int32
def b8 (x : Int32) : Int32 := x.toInt8.toInt32
theorem i8_8 (z : Int32) : z.toInt8.toInt32.toInt8.toInt32 = z.toInt8.toInt32 := pk_vb z
theorem b8_b8 (x : Int32) : b8 (b8 x) = b8 x := pk_vb x
def aErr : AV := (0, 0, 0, [])
def aTr (t : Int32) : AV := if t = -1 then aErr else (1, t.toInt64, 0, [])
def aWh (v : Int64) : AV := if ¬ v < -1000000000000000 ∧ ¬ 1000000000000000 < v then (2, v, 0, []) else aErr
def aTx (t : Int32) (l : List Int32) : AV := if l.length ≤ 24 then (3, lN l.length, t, l.map b8) else aErr
def lA (x : AV) : Nat := x.2.2.2.length
def bA (x : AV) (k : Nat) : Int32 := x.2.2.2.getD k 0
def aPart (x : AV) (s m : Nat) : List Int32 := (List.range' s m).map (bA x)
def aVw (k : Int32) (a : Int64) (t : Int32) (n : Nat) (f : Nat → Int32) : AV := if k = 0 then aErr else if k = 3 then (3, lN n, t, (List.range' 0 n).map f) else (k, a, 0, [])
def cVA (g : cG) (j : Nat) : AV := aVw (g.1 j).1 (g.1 j).2.1 (g.1 j).2.2.1 (lnN g j) (g.2.1 j)
/-- bytes that a text may hold -/
def okB (x : Int32) : Prop := 32 ≤ x ∧ x ≤ 126
def avOk (x : AV) : Prop := x = aErr ∨ (x.1 = 1 ∧ (x.2.1 = 0 ∨ x.2.1 = 1) ∧ x.2.2 = (0, [])) ∨ (x.1 = 2 ∧ -1000000000000000 ≤ x.2.1.toInt ∧ x.2.1.toInt ≤ 1000000000000000 ∧ x.2.2 = (0, [])) ∨ (x.1 = 3 ∧ x.2.1 = lN (lA x) ∧ lA x ≤ 24 ∧ (∃ t : Nat, t ≤ 26 ∧ x.2.2.1 = nI t) ∧ ∀ b ∈ x.2.2.2, okB b) ∨ (x.1 = 4 ∧ (∃ n : Nat, n ≤ 999 ∧ x.2.1 = lN n) ∧ x.2.2 = (0, []))
theorem okB_8 {x : Int32} (h : okB x) : b8 x = x := by
  obtain ⟨h1, h2⟩ := h
  unfold b8
  apply Int32.toInt_inj.mp
  have h1' := Int32.le_iff_toInt_le.mp h1
  have h2' := Int32.le_iff_toInt_le.mp h2
  have e1 : (32 : Int32).toInt = 32 := rfl
  have e2 : (126 : Int32).toInt = 126 := rfl
  rw [e1] at h1'
  rw [e2] at h2'
  rw [Int8.toInt_toInt32, Int32.toInt_toInt8]
  rw [Int.bmod_def]
  omega
theorem okB_pos {x : Int32} (h : okB x) : ¬ x = 0 := by
  intro e
  subst e
  exact absurd h.1 (by decide)
theorem map_b8 {l : List Int32} (h : ∀ b ∈ l, okB b) : l.map b8 = l := by
  induction l with
  | nil => rfl
  | cons a l ih => rw [List.map_cons, okB_8 (h a List.mem_cons_self), ih fun b hb => h b (List.mem_cons_of_mem _ hb)]
theorem cVA_k (g : cG) (j : Nat) : (cVA g j).1 = (g.1 j).1 := by
  unfold cVA aVw
  split
  · rename_i h; rw [h]; rfl
  · split
    · rename_i h; rw [h]
    · rfl
theorem cVA_3 {g : cG} {j : Nat} (h : (g.1 j).1 = 3) : cVA g j = (3, lN (lnN g j), (g.1 j).2.2.1, bsl g j 0 (lnN g j)) := by
  unfold cVA aVw
  rw [if_neg (by rw [h]; decide), if_pos h]
  rfl
theorem cVA_0 {g : cG} {j : Nat} (h : (g.1 j).1 = 0) : cVA g j = aErr := by
  unfold cVA aVw
  rw [if_pos h]
theorem cVA_n {g : cG} {j : Nat} (h0 : ¬ (g.1 j).1 = 0) (h : ¬ (g.1 j).1 = 3) : cVA g j = ((g.1 j).1, (g.1 j).2.1, 0, []) := by
  unfold cVA aVw
  rw [if_neg h0, if_neg h]
theorem cVA_am {g : cG} {j : Nat} (h0 : ¬ (g.1 j).1 = 0) (h : ¬ (g.1 j).1 = 3) : (cVA g j).2.1 = (g.1 j).2.1 := by rw [cVA_n h0 h]
theorem cVA_of {g h : cG} {j : Nat} (e1 : h.1 j = g.1 j) (e2 : h.2.1 j = g.2.1 j) : cVA h j = cVA g j := by unfold cVA lnN; rw [e1, e2]
theorem bsl_len (g : cG) (j s m : Nat) : (bsl g j s m).length = m := by unfold bsl; rw [List.length_map, List.length_range']
/-- a TEXT operand of the class -/
theorem cVA_tx {g : cG} {j : Nat} (h : (g.1 j).1 = 3) (ok : avOk (cVA g j)) : lnN g j ≤ 24 ∧ lA (cVA g j) = lnN g j ∧ (cVA g j).2.2.1 = (g.1 j).2.2.1 ∧ (cVA g j).2.2.2 = bsl g j 0 (lnN g j) ∧ (∀ k, k < lnN g j → bA (cVA g j) k = g.2.1 j k ∧ okB (g.2.1 j k)) ∧ (cVA g j).2.1 = lN (lnN g j) := by
  have e := cVA_3 h
  have eL : lA (cVA g j) = lnN g j := by rw [e]; exact bsl_len _ _ _ _
  have e2 : (cVA g j).1 = 3 := by rw [cVA_k]; exact h
  rcases ok with o | o | o | o | o
  · rw [o] at e2; exact absurd e2 (by decide)
  · rw [o.1] at e2; exact absurd e2 (by decide)
  · rw [o.1] at e2; exact absurd e2 (by decide)
  · refine ⟨eL ▸ o.2.2.1, eL, by rw [e], by rw [e], fun k hk => ?_, by rw [e]⟩
    have e3 : bA (cVA g j) k = g.2.1 j k := by
      unfold bA
      rw [e]
      show (bsl g j 0 (lnN g j)).getD k 0 = _
      unfold bsl
      rw [List.getD_eq_getElem?_getD, List.getElem?_map, List.getElem?_range' (by omega)]
      simp
    refine ⟨e3, ?_⟩
    have o5 := o.2.2.2.2 (g.2.1 j k) (by rw [e]; exact List.mem_map.mpr ⟨k, by rw [List.mem_range'_1]; omega, rfl⟩)
    exact o5
  · rw [o.1] at e2; exact absurd e2 (by decide)
theorem cVA_vOk {g : cG} {j : Nat} (ok : avOk (cVA g j)) (hl : (g.1 j).1 = 3 → ∃ n : Nat, n ≤ 24 ∧ (g.1 j).2.2.2 = nI n) : vOk g j := by
  refine ⟨hl, fun h => ?_⟩
  have e : cVA g j = _ := cVA_n (g := g) (j := j) (by rw [h]; decide) (by rw [h]; decide)
  have e2 : (cVA g j).1 = 2 := by rw [cVA_k]; exact h
  rcases ok with o | o | o | o | o
  · rw [o] at e2; exact absurd e2 (by decide)
  · rw [o.1] at e2; exact absurd e2 (by decide)
  · rw [e] at o; exact ⟨o.2.1, o.2.2.1⟩
  · rw [o.1] at e2; exact absurd e2 (by decide)
  · rw [o.1] at e2; exact absurd e2 (by decide)
/-- appending to a TEXT -/
theorem apN_no {g : cG} {i : Nat} (h : ¬ (g.1 i).1 = 3) : ∀ l : List Int32, apN g i l = g
  | [] => rfl
  | c :: l => by
    show apN (apS g i c) i l = g
    have : apS g i c = g := by unfold apS; rw [if_neg h]
    rw [this]
    exact apN_no h l
theorem apN_val (i : Nat) : ∀ (l : List Int32) (g : cG) (n : Nat), (g.1 i).1 = 3 → n ≤ 24 → (g.1 i).2.2.2 = nI n →
    (n + l.length ≤ 24 → ((apN g i l).1 i = (3, (g.1 i).2.1, (g.1 i).2.2.1, nI (n + l.length)) ∧ bsl (apN g i l) i 0 (n + l.length) = bsl g i 0 n ++ l.map b8)) ∧ (24 < n + l.length → ((apN g i l).1 i).1 = 0)
  | [], g, n, h3, hn, hl => by
    refine ⟨fun _ => ⟨?_, ?_⟩, fun h => absurd h (by simp; omega)⟩
    · show g.1 i = _
      rw [show n + ([] : List Int32).length = n from rfl, ← hl, ← h3]
    · show bsl g i 0 n = _
      simp
  | c :: l, g, n, h3, hn, hl => by
    by_cases h : n < 24
    · have e1 : apS g i c = uVB g i (3, (g.1 i).2.1, (g.1 i).2.2.1, nI (n + 1)) (upd (g.2.1 i) n (b8 c)) := by
        unfold apS
        rw [if_pos h3, hl, if_pos (show nI n < (24 : Int32) from nI_lt (b := 24) h (by decide)), nI_1, nI_clamp (by omega)]
        rfl
      have e2 : (apS g i c).1 i = (3, (g.1 i).2.1, (g.1 i).2.2.1, nI (n + 1)) := by rw [e1]; exact uV_at _ _ _
      have e3 : (apS g i c).2.1 i = upd (g.2.1 i) n (b8 c) := by rw [e1]; exact uB_at _ _ _
      have ih := apN_val i l (apS g i c) (n + 1) (by rw [e2]) (by omega) (by rw [e2])
      have e4 : bsl (apS g i c) i 0 (n + 1) = bsl g i 0 n ++ [b8 c] := by
        unfold bsl
        rw [e3, List.range'_concat, List.map_append]
        have : List.map (upd (g.2.1 i) n (b8 c)) (List.range' 0 n) = List.map (g.2.1 i) (List.range' 0 n) := by
          apply List.map_congr_left
          intro k hk
          rw [List.mem_range'_1] at hk
          exact upd_ne2 _ _ (by omega)
        rw [this]
        simp [upd_at]
      rw [e2, e4] at ih
      rw [show n + (c :: l).length = n + 1 + l.length by simp; omega]
      refine ⟨fun h5 => ?_, fun h5 => ih.2 h5⟩
      obtain ⟨a1, a2⟩ := ih.1 h5
      refine ⟨a1, ?_⟩
      show bsl (apN (apS g i c) i l) i 0 _ = _
      rw [a2]
      simp
    · have e1 : apS g i c = uV g i (0, (g.1 i).2) := by
        unfold apS
        rw [if_pos h3, hl, if_neg (show ¬ nI n < (24 : Int32) from nI_nlt (b := 24) (by omega) (by omega))]
      have e2 : ((apS g i c).1 i).1 = 0 := by rw [e1, uV_at]
      have e3 : apN g i (c :: l) = apS g i c := apN_no (g := apS g i c) (by rw [e2]; decide) l
      refine ⟨fun h5 => absurd h5 (by simp; omega), fun _ => by rw [e3]; exact e2⟩
theorem apN_tx {g : cG} {i : Nat} {t : Int32} {am : Int64} {l : List Int32} (h : g.1 i = (3, am, t, 0)) : cVA (apN g i l) i = aTx t l ∧ okT (apN g i l) i := by
  obtain ⟨h1, h2⟩ := apN_val i l g 0 (by rw [h]) (by omega) (by rw [h]; rfl)
  refine ⟨?_, apN_ok l (fun _ => ⟨0, by omega, by rw [h]; rfl⟩)⟩
  unfold aTx
  by_cases hl : l.length ≤ 24
  · rw [if_pos hl]
    rw [Nat.zero_add] at h1
    obtain ⟨a1, a2⟩ := h1 hl
    have a3 : lnN (apN g i l) i = l.length := by unfold lnN; rw [a1]; exact nI_clamp (by omega)
    rw [cVA_3 (by rw [a1]), a3, a1, a2, h]
    rfl
  · rw [if_neg hl]
    exact cVA_0 (h2 (by omega))
theorem stS_tx (g : cG) (i : Nat) (t : Int32) (l : List Int32) : cVA (apN (stS g i t) i l) i = aTx t l ∧ okT (apN (stS g i t) i l) i := apN_tx (am := (g.1 i).2.1) (uV_at _ _ _)
theorem stS_0 (g : cG) (i : Nat) (t : Int32) : cVA (stS g i t) i = aTx t [] ∧ okT (stS g i t) i := stS_tx g i t []
theorem stS_1 (g : cG) (i : Nat) (t c : Int32) : cVA (apS (stS g i t) i c) i = aTx t [c] ∧ okT (apS (stS g i t) i c) i := stS_tx g i t [c]
theorem stS_c (g : cG) (i : Nat) (t c : Int32) (l : List Int32) : cVA (apN (apS (stS g i t) i c) i l) i = aTx t (c :: l) ∧ okT (apN (apS (stS g i t) i c) i l) i := stS_tx g i t (c :: l)
theorem stS_2 (g : cG) (i : Nat) (t : Int32) (k l : List Int32) : cVA (apN (apN (stS g i t) i k) i l) i = aTx t (k ++ l) ∧ okT (apN (apN (stS g i t) i k) i l) i := by
  rw [← apN_app]
  exact stS_tx g i t (k ++ l)
theorem okT_n3 {g : cG} {i : Nat} (h : ¬ (g.1 i).1 = 3) : okT g i := fun q => absurd q h
theorem sTr_v (g : cG) (i : Nat) (t : Int32) : cVA (sTr g i t) i = aTr t ∧ okT (sTr g i t) i := by
  have e : (sTr g i t).1 i = _ := uV_at _ _ _
  unfold aTr
  by_cases h : t = -1
  · rw [if_pos h]
    rw [if_pos h] at e
    exact ⟨cVA_0 (by rw [e]), okT_n3 (by rw [e]; exact (by decide : ¬ (0 : Int32) = 3))⟩
  · rw [if_neg h]
    rw [if_neg h] at e
    exact ⟨(cVA_n (by rw [e]; exact (by decide : ¬ (1 : Int32) = 0)) (by rw [e]; exact (by decide : ¬ (1 : Int32) = 3))).trans (by rw [e]), okT_n3 (by rw [e]; exact (by decide : ¬ (1 : Int32) = 3))⟩
theorem seS_v (g : cG) (i : Nat) : cVA (seS g i) i = aErr ∧ okT (seS g i) i := by
  have e : (seS g i).1 i = _ := uV_at _ _ _
  exact ⟨cVA_0 (by rw [e]), okT_n3 (by rw [e]; exact (by decide : ¬ (0 : Int32) = 3))⟩
theorem swS_v (g : cG) (i : Nat) (v : Int64) : cVA (swS g i v) i = aWh v ∧ okT (swS g i v) i := by
  have e : (swS g i v).1 i = _ := uV_at _ _ _
  unfold aWh
  by_cases h : ¬ v < -1000000000000000 ∧ ¬ 1000000000000000 < v
  · rw [if_pos h]
    rw [if_pos h] at e
    exact ⟨(cVA_n (by rw [e]; exact (by decide : ¬ (2 : Int32) = 0)) (by rw [e]; exact (by decide : ¬ (2 : Int32) = 3))).trans (by rw [e]), okT_n3 (by rw [e]; exact (by decide : ¬ (2 : Int32) = 3))⟩
  · rw [if_neg h]
    rw [if_neg h] at e
    exact ⟨cVA_0 (by rw [e]), okT_n3 (by rw [e]; exact (by decide : ¬ (0 : Int32) = 3))⟩
theorem cpS_v {g : cG} {i j n : Nat} (ok : avOk (cVA g j)) (hn : (g.1 j).1 = 3 → n = lnN g j) : cVA (cpS g i j n) i = cVA g j ∧ okT (cpS g i j n) i := by
  unfold cpS
  by_cases h : (g.1 j).1 = 3
  · rw [if_pos h]
    obtain ⟨o1, o2, o3, o4, o5, o6⟩ := cVA_tx h ok
    have := apN_tx (g := uV g i (3, (g.1 j).2.1, (g.1 j).2.2.1, 0)) (i := i) (l := bsl g j 0 n) (uV_at _ _ _)
    refine ⟨this.1.trans ?_, this.2⟩
    rw [hn h]
    unfold aTx
    rw [bsl_len, if_pos o1, cVA_3 h]
    rw [map_b8]
    intro b hb
    obtain ⟨k, hk, rfl⟩ := List.mem_map.mp hb
    rw [List.mem_range'_1] at hk
    exact (o5 k (by omega)).2
  · rw [if_neg h]
    have e : (uV g i ((g.1 j).1, (g.1 j).2.1, (g.1 j).2.2.1, 0)).1 i = _ := uV_at _ _ _
    refine ⟨?_, okT_n3 (by rw [e]; exact h)⟩
    unfold cVA aVw
    rw [e]
    dsimp only
    by_cases h0 : (g.1 j).1 = 0
    · rw [if_pos h0, if_pos h0]
    · rw [if_neg h0, if_neg h0, if_neg h, if_neg h]
