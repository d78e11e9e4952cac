/-! casts, the pattern's answer, and every operation of the class -/
theorem rdF_c {f h : Nat → Int32} : ∀ (m k : Nat) (s : Int32) (v : Int64), (∀ q, k ≤ q → q < k + m → f q = h q) → rdF f m k s v = rdF h m k s v
  | 0, _, _, _, _ => rfl
  | m + 1, k, s, v, e => by
    rw [rdF_s, rdF_s, e k (Nat.le_refl _) (by omega), rdF_c m (k + 1) _ _ (fun q h1 h2 => e q (by omega) (by omega))]
theorem atV_v {g : cG} {j : Nat} (h : (g.1 j).1 = 3) (ok : avOk (cVA g j)) (k : Nat) : atV g j (lnN g j) k = bA (cVA g j) k := by
  obtain ⟨o1, o2, o3, o4, o5, o6⟩ := cVA_tx h ok
  unfold atV
  by_cases hk : k < lnN g j
  · rw [if_pos hk, (o5 k hk).1]
  · rw [if_neg hk, bA_out (by omega)]
theorem rdS_v {g : cG} {i a : Nat} (h3 : (g.1 a).1 = 3) (ha : vGd g a) : cVA (rdS g i a (lnN g a)) i = aRd (cVA g a) ∧ okT (rdS g i a (lnN g a)) i := by
  obtain ⟨o1, o2, o3, o4, o5, o6⟩ := cVA_tx h3 ha.1
  unfold rdS aRd
  rw [atV_v h3 ha.1, o2]
  by_cases h : bA (cVA g a) 0 = 45
  · have h1 : 1 ≤ lnN g a := by
      rcases Nat.eq_zero_or_pos (lnN g a) with q | q
      · rw [bA_out (by omega)] at h
        exact absurd h (by decide)
      · exact q
    rw [if_pos h, if_pos h, rdF_c (f := g.2.1 a) (h := bA (cVA g a)) (lnN g a - 1) 1 _ _ (fun q h1 h2 => ((o5 q (by omega)).1).symm)]
    generalize rdF (bA (cVA g a)) (lnN g a - 1) 1 _ _ = r
    unfold rdE
    dsimp only
    by_cases hr : r.1 = 0
    · rw [if_pos hr, if_pos hr]; exact seS_v _ _
    · rw [if_neg hr, if_neg hr, if_neg (show ¬ (1 : Int32) = 0 by decide)]; exact swS_v _ _ _
  · rw [if_neg h, if_neg h, rdF_c (f := g.2.1 a) (h := bA (cVA g a)) (lnN g a) 0 _ _ (fun q h1 h2 => ((o5 q (by omega)).1).symm)]
    generalize rdF (bA (cVA g a)) (lnN g a) 0 _ _ = r
    unfold rdE
    dsimp only
    by_cases hr : r.1 = 0
    · rw [if_pos hr, if_pos hr]; exact seS_v _ _
    · rw [if_neg hr, if_neg hr, if_pos (show (0 : Int32) = 0 from rfl)]; exact swS_v _ _ _
theorem tnS_v {g : cG} {i a n : Nat} (ha : vGd g a) (hn : (g.1 a).1 = 3 → n = lnN g a) : cVA (tnS g i a n) i = aNum (cVA g a) ∧ okT (tnS g i a n) i := by
  unfold tnS aNum
  rw [cVA_k]
  by_cases h : (g.1 a).1 = 2 ∨ (g.1 a).1 = 1
  · rw [if_pos h, if_pos h, cVA_am (by rcases h with h | h <;> rw [h] <;> decide) (by rcases h with h | h <;> rw [h] <;> decide)]
    exact swS_v _ _ _
  · rw [if_neg h, if_neg h]
    by_cases h3 : (g.1 a).1 = 3
    · rw [(cVA_tx h3 ha.1).2.2.1, hn h3]
      split
      · exact rdS_v h3 ha
      · exact seS_v _ _
    · rw [if_neg (fun q => h3 q.1), if_neg (fun q => h3 q.1)]; exact seS_v _ _
theorem twS_v {g : cG} {i a n : Nat} (ha : vGd g a) (h0 : ¬ (g.1 a).1 = 0) (hn : (g.1 a).1 = 3 → n = lnN g a) : cVA (twS g i a n) i = aWo (cVA g a) ∧ okT (twS g i a n) i := by
  unfold twS aWo
  rw [cVA_k]
  by_cases h3 : (g.1 a).1 = 3
  · rw [if_pos h3, if_pos h3, (cVA_tx h3 ha.1).2.2.2.1, hn h3]; exact stS_tx _ _ _ _
  · rw [if_neg h3, if_neg h3, cVA_am h0 h3]
    by_cases h1 : (g.1 a).1 = 1
    · rw [if_pos h1, if_pos h1]; exact stS_tx _ _ _ _
    · rw [if_neg h1, if_neg h1]
      by_cases h4 : (g.1 a).1 = 4
      · rw [if_pos h4, if_pos h4]; exact stS_c _ _ _ _ _
      · rw [if_neg h4, if_neg h4]
        split
        · exact stS_c _ _ _ _ _
        · exact stS_tx _ _ _ _
theorem caS_v {g : cG} {op : Int32} {i a n b k d m : Nat} (ha : vGd g a) (hb : vGd g b) (hd : vGd g d) (hn : (g.1 a).1 = 3 → n = lnN g a) (hk : (g.1 b).1 = 3 → k = lnN g b) (hm : (g.1 d).1 = 3 → m = lnN g d) : cVA (caS op g i a n b k d m) i = aCas op (cVA g a) (cVA g b) (cVA g d) ∧ okT (caS op g i a n b k d m) i := by
  unfold caS aCas
  rw [cVA_k, tOf_v ha]
  by_cases h : op = 23
  · rw [if_pos h, if_pos h]
    split
    · exact cpS_v hb.1 hk
    · exact cpS_v ha.1 hn
  rw [if_neg h, if_neg h]
  clear h
  by_cases h : op = 22
  · rw [if_pos h, if_pos h]
    unfold chS
    split
    · exact seS_v _ _
    · split
      · exact cpS_v hb.1 hk
      · exact cpS_v hd.1 hm
  rw [if_neg h, if_neg h]
  clear h
  by_cases h0 : (g.1 a).1 = 0
  · rw [if_pos h0, if_pos h0]; exact seS_v _ _
  rw [if_neg h0, if_neg h0]
  by_cases h : op = 21
  · rw [if_pos h, if_pos h]; exact swS_v _ _ _
  rw [if_neg h, if_neg h]
  clear h
  split
  · exact tnS_v ha hn
  · exact twS_v ha h0 hn
theorem plF_c {f h : Nat → Int32} {lo hi : Int32} : ∀ (r k : Nat) (acc : Int32), (∀ q, k ≤ q → q < k + r → f q = h q) → plF f lo hi r k acc = plF h lo hi r k acc
  | 0, _, _, _ => rfl
  | r + 1, k, acc, e => by
    rw [plF_s, plF_s, e k (Nat.le_refl _) (by omega), plF_c r (k + 1) _ (fun q h1 h2 => e q (by omega) (by omega))]
theorem goA_v {g : cG} {x y : Nat} (hx : vGd g x) (hy : vGd g y) : (goA g x y).1 = aGo (cVA g x) (cVA g y) ∧ aFr g (goA g x y).2 := by
  by_cases h : (g.1 x).1 = 3 ∧ (g.1 y).1 = 3 ∧ (g.1 y).2.2.1 = 0
  · obtain ⟨h1, h2, h3⟩ := h
    obtain ⟨x1, x2, x3, x4, x5, x6⟩ := cVA_tx h1 hx.1
    obtain ⟨y1, y2, y3, y4, y5, y6⟩ := cVA_tx h2 hy.1
    obtain ⟨r1, r2⟩ := goA_V g x y h1 h2 h3 x1 y1 (fun k hk => okB_pos (y5 k hk).2)
    refine ⟨?_, r2⟩
    rw [r1]
    unfold aGo
    rw [cVA_k, cVA_k, y3, if_pos ⟨h1, h2, h3⟩, x2, y2]
    have e1 : riP g y (lnN g y) = bA (cVA g y) := by funext q; exact atV_v h2 hy.1 q
    have e2 : riT g x (lnN g x) = aTt (cVA g x) := by
      funext lo hi
      unfold riT aTt
      rw [x2]
      exact plF_c _ _ _ (fun q _ hq => ((x5 q (by omega)).1).symm)
    rw [e1, e2]
  · have e : goA g x y = (-1, g) := by unfold goA; rw [if_neg h]
    rw [e]
    refine ⟨?_, aFr_rfl g⟩
    unfold aGo
    rw [cVA_k, cVA_k]
    rw [if_neg]
    rintro ⟨h1, h2, h3⟩
    rw [(cVA_tx h2 hy.1).2.2.1] at h3
    exact h ⟨h1, h2, h3⟩
abbrev gIA (g : cG) (x y : Nat) : Int32 := (goA g x y).1
abbrev gGA (g : cG) (x y : Nat) : cG := (goA g x y).2
theorem rkS_v {g : cG} {op : Int32} {i a x n y k z m : Nat} (hx : vGd g x) (hy : vGd g y) (hz : vGd g z) (hn : (g.1 x).1 = 3 → n = lnN g x) (hk : (g.1 y).1 = 3 → k = lnN g y) (hm : (g.1 z).1 = 3 → m = lnN g z) : cVA (rkS gIA gGA op g i a x n y k z m) i = opV op (cVA g x) (cVA g y) (cVA g z) (gvI g a) ∧ okT (rkS gIA gGA op g i a x n y k z m) i := by
  unfold rkS opV
  by_cases h : op = 24
  · rw [if_pos h, if_pos h]; exact sTr_v _ _ _
  rw [if_neg h, if_neg h]
  clear h
  by_cases h : op = 27
  · rw [if_pos h, if_pos h, ← (goA_v hx hy).1]; exact sTr_v _ _ _
  rw [if_neg h, if_neg h]
  clear h
  by_cases h : ¬ op < 5 ∧ ¬ 9 < op
  · rw [if_pos h, if_pos h]; exact whS_v
  rw [if_neg h, if_neg h]
  clear h
  by_cases h : (¬ op < 10 ∧ op ≤ 20) ∨ op = 28
  · rw [if_pos h, if_pos h]; exact txS_v hx hy hz hn hk hm
  rw [if_neg h, if_neg h]
  clear h
  by_cases h : ¬ op < 21 ∧ ¬ 26 < op
  · rw [if_pos h, if_pos h]; exact caS_v hx hy hz hn hk hm
  rw [if_neg h, if_neg h, tRk_v hx (fun _ => hy) (fun _ => hz) hn hk hm]
  exact sTr_v _ _ _
/-- what an operation leaves as it was -/
def fOne (i : Nat) (g h : cG) : Prop := (∀ j, j ≠ i → h.1 j = g.1 j ∧ h.2.1 j = g.2.1 j) ∧ h.2.2.1 = g.2.2.1 ∧ h.2.2.2.1 = g.2.2.2.1 ∧ h.2.2.2.2.1 = g.2.2.2.2.1
theorem fOne_rfl (i : Nat) (g : cG) : fOne i g g := ⟨fun _ _ => ⟨rfl, rfl⟩, rfl, rfl, rfl⟩
theorem fOne_tr {i : Nat} {g h k : cG} (a : fOne i g h) (b : fOne i h k) : fOne i g k := ⟨fun j hj => ⟨((b.1 j hj).1).trans (a.1 j hj).1, ((b.1 j hj).2).trans (a.1 j hj).2⟩, b.2.1.trans a.2.1, b.2.2.1.trans a.2.2.1, b.2.2.2.trans a.2.2.2⟩
theorem fOne_uV (g : cG) (i : Nat) (x : cVR) : fOne i g (uV g i x) := ⟨fun j hj => ⟨uV_ne _ _ hj, rfl⟩, rfl, rfl, rfl⟩
theorem fOne_aFr {g h : cG} (i : Nat) (a : aFr g h) : fOne i g h := ⟨fun j _ => ⟨congrFun a.1 j, congrFun a.2.1 j⟩, a.2.2.1, a.2.2.2.1, a.2.2.2.2⟩
theorem fOne_apN (i : Nat) (l : List Int32) (g : cG) : fOne i g (apN g i l) := ⟨fun j hj => ⟨apN_V i hj l g, apN_B i hj l g⟩, by rw [apN_r], by rw [apN_r], by rw [apN_r]⟩
theorem fOne_apS (i : Nat) (c : Int32) (g : cG) : fOne i g (apS g i c) := fOne_apN i [c] g
theorem fOne_st (g : cG) (i : Nat) (t : Int32) (l : List Int32) : fOne i g (apN (stS g i t) i l) := fOne_tr (fOne_uV _ _ _) (fOne_apN _ _ _)
theorem fOne_cp (g : cG) (i j n : Nat) : fOne i g (cpS g i j n) := by
  unfold cpS
  split
  · exact fOne_tr (fOne_uV _ _ _) (fOne_apN _ _ _)
  · exact fOne_uV _ _ _
theorem fOne_wh (g : cG) (op : Int32) (i j k : Nat) : fOne i g (whS op g i j k) := by
  unfold whS
  split
  · exact fOne_uV _ _ _
  split
  · exact fOne_uV _ _ _
  split
  · exact fOne_uV _ _ _
  split
  · unfold mulS
    split <;> exact fOne_uV _ _ _
  · unfold divS
    split
    · exact fOne_uV _ _ _
    · split <;> exact fOne_uV _ _ _
theorem fOne_sk (g : cG) (op : Int32) (i a n b k : Nat) : fOne i g (skS op g i a n b k) := by
  unfold skS
  split
  · exact fOne_uV _ _ _
  split
  · exact fOne_uV _ _ _
  split
  · exact fOne_uV _ _ _
  split
  · exact fOne_uV _ _ _
  · unfold spS
    split
    · exact fOne_uV _ _ _
    · split <;> exact fOne_st _ _ _ _
theorem fOne_tx (g : cG) (op : Int32) (i a n b k d m : Nat) : fOne i g (txS op g i a n b k d m) := by
  unfold txS
  split
  · exact fOne_uV _ _ _
  split
  · exact fOne_uV _ _ _
  split
  · split
    · exact fOne_uV _ _ _
    · unfold ptS
      split
      · exact fOne_uV _ _ _
      · exact fOne_st _ _ _ _
  split
  · exact fOne_st _ _ _ _
  split
  · exact fOne_st _ _ _ _
  split
  · split
    · exact fOne_tr (fOne_st _ _ _ _) (fOne_apN _ _ _)
    · exact fOne_uV _ _ _
  split
  · unfold tlS
    split
    · exact fOne_uV _ _ _
    · exact fOne_tr (fOne_uV _ _ _) (fOne_apS _ _ _)
  split
  · unfold tuS
    split
    · exact fOne_uV _ _ _
    · exact fOne_st _ _ _ _
  · exact fOne_sk _ _ _ _ _ _ _
theorem fOne_rdE (g : cG) (i : Nat) (be : Int32) (r : Int32 × Int64) : fOne i g (rdE g i be r) := by
  unfold rdE
  split
  · exact fOne_uV _ _ _
  · split <;> exact fOne_uV _ _ _
theorem fOne_ca (g : cG) (op : Int32) (i a n b k d m : Nat) : fOne i g (caS op g i a n b k d m) := by
  unfold caS
  split
  · split <;> exact fOne_cp _ _ _ _
  split
  · unfold chS
    split
    · exact fOne_uV _ _ _
    · split <;> exact fOne_cp _ _ _ _
  split
  · exact fOne_uV _ _ _
  split
  · exact fOne_uV _ _ _
  split
  · unfold tnS
    split
    · exact fOne_uV _ _ _
    · split
      · unfold rdS
        split <;> exact fOne_rdE _ _ _ _
      · exact fOne_uV _ _ _
  · unfold twS
    split
    · exact fOne_st _ _ _ _
    split
    · exact fOne_st _ _ _ _
    split
    · exact fOne_tr (fOne_tr (fOne_uV _ _ _) (fOne_apS _ _ _)) (fOne_apN _ _ _)
    split
    · exact fOne_tr (fOne_tr (fOne_uV _ _ _) (fOne_apS _ _ _)) (fOne_apN _ _ _)
    · exact fOne_st _ _ _ _
theorem fOne_rk {g : cG} {op : Int32} {i a x n y k z m : Nat} (hx : vGd g x) (hy : vGd g y) : fOne i g (rkS gIA gGA op g i a x n y k z m) := by
  unfold rkS
  split
  · exact fOne_uV _ _ _
  split
  · exact fOne_tr (fOne_aFr _ (goA_v hx hy).2) (fOne_uV _ _ _)
  split
  · exact fOne_wh _ _ _ _ _
  split
  · exact fOne_tx _ _ _ _ _ _ _ _ _
  split
  · exact fOne_ca _ _ _ _ _ _ _ _ _
  · exact fOne_uV _ _ _
