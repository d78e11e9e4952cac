/-! Spreading: the least fixpoint -/
def clX (W : List aW) (X : Nat → Int32) : Prop := ∀ e ∈ W, ∀ p, bt (X e.1) p = true → bt e.2.2.1 p = true → bt (X e.2.1) (p + e.2.2.2) = true
def wAr (W : List aW) (mk mv : Nat → Int32) : Prop := ∀ k e, W[k]? = some e → mk k = e.2.2.1 ∧ mv k = nI e.2.2.2
def f25 (n : Nat) (R : Nat → Int32) : Prop := ∀ s, s < n → ∀ p, bt (R s) p = true → p < 25
theorem spP_bt {W : List aW} {mk mv : Nat → Int32} (hA : wAr W mk mv) {n : Nat} (hW : ∀ e ∈ W, wOk n e) {k : Nat} {e : aW} (he : W[k]? = some e) (R : Nat → Int32) (p : Nat) : bt (spP R (wFr W) mk mv k) p = true ↔ ∃ p0, p = p0 + e.2.2.2 ∧ bt (R e.1) p0 = true ∧ bt e.2.2.1 p0 = true := by
  obtain ⟨h1, h2⟩ := hA k e he
  have h3 : wFr W k = e.1 := by unfold wFr; rw [he]; rfl
  unfold spP
  rw [h1, h2, h3]
  rcases (hW e (List.mem_of_getElem? he)).2.2 with h4 | ⟨h4, h5⟩
  · rw [h4, shl_mv0, bt_and, Bool.and_eq_true]
    constructor
    · intro h; exact ⟨p, rfl, h⟩
    · rintro ⟨p0, q, h⟩; subst q; exact h
  · rw [h4, shl_mv1, bt_shl]
    constructor
    · intro h
      rw [Bool.and_eq_true, Bool.and_eq_true, decide_eq_true_eq, decide_eq_true_eq, bt_and, Bool.and_eq_true] at h
      exact ⟨p - 1, by omega, h.2⟩
    · rintro ⟨p0, q, h6, h7⟩
      have := h5 p0 h7
      subst q
      rw [Nat.add_sub_cancel, bt_and, h6, h7]
      simp
      omega
theorem spI_mono (fr tt : Nat → Nat) (mk mv : Nat → Int32) : ∀ (r k : Nat) (R : Nat → Int32) (gr : Int32) (s : Nat), sb (R s) ((spI fr tt mk mv r k R gr).1 s)
  | 0, k, R, gr, s => sb_rfl _
  | r + 1, k, R, gr, s => by
    rw [spI_s]
    split
    · exact spI_mono fr tt mk mv r (k + 1) R gr s
    · refine sb_tr ?_ (spI_mono fr tt mk mv r (k + 1) _ 1 s)
      by_cases h : s = tt k
      · subst h; rw [upd_at]; exact sb_l _ _
      · rw [upd_ne2 _ _ h]; exact sb_rfl _
theorem upd_le {n : Nat} {R X : Nat → Int32} (h : ∀ s, s < n → sb (R s) (X s)) {t : Nat} {x : Int32} (hx : sb x (X t)) (ht : t < n) : ∀ s, s < n → sb (upd R t (R t ||| x) s) (X s) := by
  intro s hs
  by_cases q : s = t
  · subst q; rw [upd_at]; exact sb_or.mpr ⟨h s hs, hx⟩
  · rw [upd_ne2 _ _ q]; exact h s hs
theorem get_lt {α : Type} {l : List α} {k : Nat} (h : k < l.length) : ∃ e, l[k]? = some e := ⟨_, List.getElem?_eq_getElem h⟩
theorem spI_le {W : List aW} {mk mv : Nat → Int32} (hA : wAr W mk mv) {n : Nat} (hW : ∀ e ∈ W, wOk n e) {X : Nat → Int32} (hX : clX W X) : ∀ (r k : Nat) (R : Nat → Int32) (gr : Int32), k + r ≤ W.length → (∀ s, s < n → sb (R s) (X s)) → ∀ s, s < n → sb ((spI (wFr W) (wTo W) mk mv r k R gr).1 s) (X s)
  | 0, k, R, gr, _, h => h
  | r + 1, k, R, gr, hk, h => by
    rw [spI_s]
    split
    · exact spI_le hA hW hX r (k + 1) R gr (by omega) h
    · obtain ⟨e, he⟩ := get_lt (l := W) (k := k) (by omega)
      have hm := List.mem_of_getElem? he
      have ht : wTo W k = e.2.1 := by unfold wTo; rw [he]; rfl
      refine spI_le hA hW hX r (k + 1) _ 1 (by omega) (upd_le h ?_ (by rw [ht]; exact (hW e hm).2.1))
      intro p hp
      obtain ⟨p0, q1, q2, q3⟩ := (spP_bt hA hW he R p).mp hp
      subst q1
      rw [ht]
      exact hX e hm p0 (h _ (hW e hm).1 p0 q2) q3
theorem spI_f25 {W : List aW} {mk mv : Nat → Int32} (hA : wAr W mk mv) {n : Nat} (hW : ∀ e ∈ W, wOk n e) : ∀ (r k : Nat) (R : Nat → Int32) (gr : Int32), k + r ≤ W.length → f25 n R → f25 n (spI (wFr W) (wTo W) mk mv r k R gr).1
  | 0, k, R, gr, _, h => h
  | r + 1, k, R, gr, hk, h => by
    rw [spI_s]
    split
    · exact spI_f25 hA hW r (k + 1) R gr (by omega) h
    · obtain ⟨e, he⟩ := get_lt (l := W) (k := k) (by omega)
      have hm := List.mem_of_getElem? he
      refine spI_f25 hA hW r (k + 1) _ 1 (by omega) ?_
      intro s hs p hp
      by_cases q : s = wTo W k
      · subst q
        rw [upd_at, bt_or, Bool.or_eq_true] at hp
        rcases hp with hp | hp
        · exact h _ hs p hp
        · obtain ⟨p0, q1, q2, q3⟩ := (spP_bt hA hW he R p).mp hp
          have q4 := h _ (hW e hm).1 p0 q2
          rcases (hW e hm).2.2 with q5 | ⟨q5, q6⟩
          · omega
          · have := q6 p0 q3; omega
      · rw [upd_ne2 _ _ q] at hp; exact h s hs p hp
theorem spI_gr (fr tt : Nat → Nat) (mk mv : Nat → Int32) : ∀ (r k : Nat) (R : Nat → Int32) (gr : Int32), (spI fr tt mk mv r k R gr).2 = 0 → gr = 0 ∧ (spI fr tt mk mv r k R gr).1 = R ∧ ∀ x, k ≤ x → x < k + r → spP R fr mk mv x &&& (R (tt x) ^^^ (-1)) = 0
  | 0, k, R, gr, h => ⟨h, rfl, fun x h1 h2 => by omega⟩
  | r + 1, k, R, gr, h => by
    rw [spI_s] at h ⊢
    by_cases h0 : spP R fr mk mv k &&& (R (tt k) ^^^ (-1)) = 0
    · rw [if_pos h0] at h ⊢
      obtain ⟨h1, h2, h3⟩ := spI_gr fr tt mk mv r (k + 1) R gr h
      refine ⟨h1, h2, fun x q1 q2 => ?_⟩
      by_cases q : x = k
      · subst q; exact h0
      · exact h3 x (by omega) (by omega)
    · rw [if_neg h0] at h
      exact absurd (spI_gr fr tt mk mv r (k + 1) _ 1 h).1 (by decide)
def cnR (R : Nat → Int32) : Nat := (List.range 1600).countP fun x => bt (R (x / 25)) (x % 25)
theorem cnR_le (R : Nat → Int32) : cnR R ≤ 1600 := by
  have := List.countP_le_length (p := fun x => bt (R (x / 25)) (x % 25)) (l := List.range 1600)
  rwa [List.length_range] at this
theorem cnR_mono {R S : Nat → Int32} (h : ∀ s, sb (R s) (S s)) : cnR R ≤ cnR S := List.countP_mono_left fun x _ => h _ _
theorem cnR_lt {R S : Nat → Int32} (h : ∀ s, sb (R s) (S s)) {s p : Nat} (hs : s < 64) (hp : p < 25) (h1 : bt (R s) p = false) (h2 : bt (S s) p = true) : cnR R < cnR S := by
  apply cn_lt
  · intro x _; exact h _ _
  · have e1 : (25 * s + p) / 25 = s := by omega
    have e2 : (25 * s + p) % 25 = p := by omega
    refine ⟨25 * s + p, List.mem_range.mpr (by omega), ?_, ?_⟩
    · rw [e1, e2]; exact h1
    · rw [e1, e2]; exact h2
theorem and_not {x y : Int32} : x &&& (y ^^^ (-1)) = 0 ↔ sb x y := by
  constructor
  · intro h p hp
    have h2 : bt (x &&& (y ^^^ (-1))) p = false := by rw [h, bt_0]
    rw [bt_and, hp, bt_not (bt_lt hp)] at h2
    cases q : bt y p
    · rw [q] at h2; cases h2
    · rfl
  · intro h
    apply bt_ext
    intro p hp
    rw [bt_and, bt_not hp, bt_0]
    cases q : bt x p
    · rfl
    · rw [h p q]; rfl
theorem spI_cn {W : List aW} {mk mv : Nat → Int32} (hA : wAr W mk mv) {n : Nat} (hn : n ≤ 64) (hW : ∀ e ∈ W, wOk n e) : ∀ (r k : Nat) (R : Nat → Int32), k + r ≤ W.length → f25 n R → ¬ (spI (wFr W) (wTo W) mk mv r k R 0).2 = 0 → cnR R < cnR (spI (wFr W) (wTo W) mk mv r k R 0).1
  | 0, k, R, _, _, h => absurd rfl h
  | r + 1, k, R, hk, hf, h => by
    rw [spI_s] at h ⊢
    by_cases h0 : spP R (wFr W) mk mv k &&& (R (wTo W k) ^^^ (-1)) = 0
    · rw [if_pos h0] at h ⊢
      exact spI_cn hA hn hW r (k + 1) R (by omega) hf h
    · rw [if_neg h0] at h ⊢
      obtain ⟨e, he⟩ := get_lt (l := W) (k := k) (by omega)
      have hm := List.mem_of_getElem? he
      have ht : wTo W k = e.2.1 := by unfold wTo; rw [he]; rfl
      obtain ⟨p, hp1, hp2⟩ := bt_ne0 h0
      rw [bt_and, Bool.and_eq_true, bt_not hp1] at hp2
      obtain ⟨hp3, hp4⟩ := hp2
      have hp5 : bt (R (wTo W k)) p = false := by simpa using hp4
      have hmono : ∀ s, sb (R s) (upd R (wTo W k) (R (wTo W k) ||| spP R (wFr W) mk mv k) s) := by
        intro s
        by_cases q : s = wTo W k
        · subst q; rw [upd_at]; exact sb_l _ _
        · rw [upd_ne2 _ _ q]; exact sb_rfl _
      have hlt : p < 25 := by
        obtain ⟨p0, q1, q2, q3⟩ := (spP_bt hA hW he R p).mp hp3
        have q4 := hf _ (hW e hm).1 p0 q2
        rcases (hW e hm).2.2 with q5 | ⟨q5, q6⟩
        · omega
        · have := q6 p0 q3; omega
      have c1 := cnR_lt hmono (s := wTo W k) (p := p) (by rw [ht]; have := (hW e hm).2.1; omega) hlt hp5 (by rw [upd_at, bt_or, hp3, Bool.or_true])
      have c2 := cnR_mono (spI_mono (wFr W) (wTo W) mk mv r (k + 1) (upd R (wTo W k) (R (wTo W k) ||| spP R (wFr W) mk mv k)) 1)
      omega
theorem spR_0 (fr tt : Nat → Nat) (mk mv : Nat → Int32) (w : Nat) (R : Nat → Int32) : ∀ r, spR fr tt mk mv w r R 0 = R
  | 0 => rfl
  | r + 1 => by rw [spR_s, if_pos rfl]
theorem clX_of {W : List aW} {mk mv : Nat → Int32} (hA : wAr W mk mv) {n : Nat} (hW : ∀ e ∈ W, wOk n e) {R : Nat → Int32} (h : ∀ x, x < W.length → spP R (wFr W) mk mv x &&& (R (wTo W x) ^^^ (-1)) = 0) : clX W R := by
  intro e he p h1 h2
  obtain ⟨k, hk⟩ := List.getElem?_of_mem he
  have hk2 : k < W.length := by
    apply Classical.byContradiction
    intro hc
    rw [List.getElem?_eq_none (by omega)] at hk
    cases hk
  have h3 := and_not.mp (h k hk2) (p + e.2.2.2) ((spP_bt hA hW hk R _).mpr ⟨p, rfl, h1, h2⟩)
  have ht : wTo W k = e.2.1 := by unfold wTo; rw [hk]; rfl
  rw [ht] at h3
  exact h3
theorem spR_fix {W : List aW} {mk mv : Nat → Int32} (hA : wAr W mk mv) {n N : Nat} (hN : ∀ R, cnR R ≤ N) (hn : n ≤ 64) (hW : ∀ e ∈ W, wOk n e) : ∀ (r : Nat) (R : Nat → Int32) (gr : Int32), ¬ gr = 0 → f25 n R → N < r + cnR R → clX W (spR (wFr W) (wTo W) mk mv W.length r R gr) ∧ (∀ s, sb (R s) (spR (wFr W) (wTo W) mk mv W.length r R gr s)) ∧ ∀ X, clX W X → (∀ s, s < n → sb (R s) (X s)) → ∀ s, s < n → sb (spR (wFr W) (wTo W) mk mv W.length r R gr s) (X s) := by
  intro r
  induction r with
  | zero =>
    intro R gr _ _ h
    have := hN R
    omega
  | succ r ih =>
    intro R gr hg hf h
    rw [spR_s, if_neg hg]
    by_cases h0 : (spI (wFr W) (wTo W) mk mv W.length 0 R 0).2 = 0
    · obtain ⟨-, h2, h3⟩ := spI_gr _ _ _ _ _ _ _ _ h0
      rw [h0, h2, spR_0]
      exact ⟨clX_of hA hW fun x hx => h3 x (Nat.zero_le _) (by omega), fun s => sb_rfl _, fun X _ hX => hX⟩
    · have c1 := spI_cn hA hn hW W.length 0 R (by omega) hf h0
      have f1 := spI_f25 hA hW W.length 0 R 0 (by omega) hf
      obtain ⟨i1, i2, i3⟩ := ih _ _ h0 f1 (by omega)
      exact ⟨i1, fun s => sb_tr (spI_mono _ _ _ _ _ _ _ _ s) (i2 s), fun X hX hR => i3 X hX (spI_le hA hW hX W.length 0 R 0 (by omega) hR)⟩
