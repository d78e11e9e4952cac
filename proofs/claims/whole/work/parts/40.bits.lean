/-! Bits of an int -/
def bt (x : Int32) (p : Nat) : Bool := x.toBitVec.getLsbD p
theorem bt_or (x y : Int32) (p : Nat) : bt (x ||| y) p = (bt x p || bt y p) := by
  unfold bt; rw [Int32.toBitVec_or, BitVec.getLsbD_or]
theorem bt_and (x y : Int32) (p : Nat) : bt (x &&& y) p = (bt x p && bt y p) := by
  unfold bt; rw [Int32.toBitVec_and, BitVec.getLsbD_and]
theorem bt_lt {x : Int32} {p : Nat} (h : bt x p = true) : p < 32 := BitVec.lt_of_getLsbD h
theorem bt_ge {x : Int32} {p : Nat} (h : 32 ≤ p) : bt x p = false := BitVec.getLsbD_of_ge _ _ h
theorem bt_m1 {p : Nat} (h : p < 32) : bt (-1) p = true := by
  unfold bt
  have : (-1 : Int32).toBitVec = BitVec.allOnes 32 := by decide +kernel
  rw [this, BitVec.getLsbD_allOnes]
  simpa using h
theorem bt_not {x : Int32} {p : Nat} (h : p < 32) : bt (x ^^^ (-1)) p = !bt x p := by
  have e : bt (x ^^^ (-1)) p = (bt x p ^^ bt (-1) p) := by unfold bt; rw [Int32.toBitVec_xor, BitVec.getLsbD_xor]
  rw [e, bt_m1 h]
  cases bt x p <;> rfl
theorem bt_0 (p : Nat) : bt 0 p = false := by
  unfold bt
  have : (0 : Int32).toBitVec = 0#32 := by decide +kernel
  rw [this, BitVec.getLsbD_zero]
theorem bt_ext {x y : Int32} (h : ∀ p, p < 32 → bt x p = bt y p) : x = y := by
  apply Int32.toBitVec_inj.mp
  apply BitVec.eq_of_getLsbD_eq
  intro i hi
  exact h i hi
theorem bt_ext2 {x y : Int32} (h : ∀ p, bt x p = true ↔ bt y p = true) : x = y := bt_ext fun p _ => Bool.eq_iff_iff.mpr (h p)
theorem bt_shl (x : Int32) (p : Nat) : bt (x <<< 1) p = (decide (0 < p) && decide (p < 32) && bt x (p - 1)) := by
  unfold bt
  have e : (x <<< 1).toBitVec = x.toBitVec <<< 1 := by
    rw [Int32.toBitVec_shiftLeft]
    have : ((1 : Int32).toBitVec.smod 32) = 1#32 := by decide +kernel
    rw [this]
    rfl
  rw [e, BitVec.getLsbD_shiftLeft]
  by_cases h1 : p < 1 <;> by_cases h2 : p < 32 <;> simp [h1, h2]
  · omega
  · intro; omega
theorem bt_shl' (x : Int32) {p : Nat} (h : p + 1 < 32) : bt (x <<< 1) (p + 1) = bt x p := by
  rw [bt_shl]; simp [h]
theorem shl_mv0 (x : Int32) : x <<< (nI 0 &&& 31) = x := by
  apply Int32.toBitVec_inj.mp
  rw [Int32.toBitVec_shiftLeft]
  have : ((nI 0 &&& 31 : Int32).toBitVec.smod 32) = 0#32 := by decide +kernel
  rw [this]
  apply BitVec.eq_of_getLsbD_eq
  intro i hi
  rw [show x.toBitVec <<< (0#32) = x.toBitVec <<< 0 from rfl, BitVec.getLsbD_shiftLeft]
  simp [hi]
theorem shl_mv1 (x : Int32) : x <<< (nI 1 &&& 31) = x <<< 1 := by
  have : (nI 1 &&& 31 : Int32) = 1 := by decide +kernel
  rw [this]
theorem one_shl_aux : ∀ k : Fin 32, ((1 : Int32) <<< (nI k.val &&& 31)).toBitVec = BitVec.twoPow 32 k.val := by decide +kernel
theorem bt_one {k : Nat} (hk : k < 32) (p : Nat) : bt (1 <<< (nI k &&& 31)) p = decide (p = k) := by
  unfold bt
  rw [one_shl_aux ⟨k, hk⟩, BitVec.getLsbD_twoPow]
  by_cases h : k = p <;> simp [h, hk]
  · omega
  · intro q; exact h q.symm
theorem low_aux : ∀ k : Fin 32, ∀ p : Fin 32, bt ((1 <<< ((nI k.val) &&& 31)) - 1) p.val = decide (p.val < k.val) := by decide +kernel
theorem bt_low {k : Nat} (hk : k < 32) {p : Nat} (hp : p < 32) : bt ((1 <<< ((nI k) &&& 31)) - 1) p = decide (p < k) := low_aux ⟨k, hk⟩ ⟨p, hp⟩
theorem bt_ne0 {x : Int32} (h : ¬ x = 0) : ∃ p, p < 32 ∧ bt x p = true := by
  apply Classical.byContradiction
  intro q
  apply h
  apply bt_ext
  intro p hp
  rw [bt_0]
  cases hb : bt x p
  · rfl
  · exact absurd ⟨p, hp, hb⟩ q
/-- one set of places within another -/
def sb (x y : Int32) : Prop := ∀ p, bt x p = true → bt y p = true
theorem sb_rfl (x : Int32) : sb x x := fun _ h => h
theorem sb_tr {x y z : Int32} (h : sb x y) (k : sb y z) : sb x z := fun p q => k p (h p q)
theorem sb_or {x y z : Int32} : sb (x ||| y) z ↔ sb x z ∧ sb y z := by
  constructor
  · intro h
    exact ⟨fun p q => h p (by rw [bt_or, q]; rfl), fun p q => h p (by rw [bt_or, q, Bool.or_true])⟩
  · rintro ⟨h, k⟩ p q
    rw [bt_or, Bool.or_eq_true] at q
    exact q.elim (h p) (k p)
theorem sb_l (x y : Int32) : sb x (x ||| y) := (sb_or.mp (sb_rfl _)).1
theorem sb_r (x y : Int32) : sb y (x ||| y) := (sb_or.mp (sb_rfl _)).2
theorem sb_anti {x y : Int32} (h : sb x y) (k : sb y x) : x = y := bt_ext2 fun p => ⟨h p, k p⟩
theorem sb_eq {x y : Int32} : x ||| y = x ↔ sb y x := by
  constructor
  · intro h; rw [← h]; exact sb_r _ _
  · intro h; exact sb_anti (sb_or.mpr ⟨sb_rfl _, h⟩) (sb_l _ _)
theorem sb_and {x y z : Int32} (h : sb x z) : sb (x &&& y) z := fun p q => by
  rw [bt_and, Bool.and_eq_true] at q
  exact h p q.1
theorem or_a (x y z : Int32) : x ||| y ||| z = x ||| (y ||| z) := bt_ext fun p _ => by rw [bt_or, bt_or, bt_or, bt_or, Bool.or_assoc]
theorem sb_0 (x : Int32) : sb 0 x := fun p q => by rw [bt_0] at q; cases q
/-- how many of the bits of a list's pairs hold -/
theorem cn_lt {α : Type} {f g : α → Bool} : ∀ {l : List α}, (∀ x ∈ l, f x = true → g x = true) → (∃ x ∈ l, f x = false ∧ g x = true) → l.countP f < l.countP g
  | [], _, ⟨_, h, _⟩ => absurd h List.not_mem_nil
  | a :: l, h1, h2 => by
    have hle : l.countP f ≤ l.countP g := List.countP_mono_left fun x hx => h1 x (List.mem_cons_of_mem _ hx)
    rw [List.countP_cons, List.countP_cons]
    obtain ⟨x, hx, q1, q2⟩ := h2
    rcases List.mem_cons.mp hx with e | e
    · subst e
      rw [q1, q2]
      simp only [if_true]
      have : (if false = true then 1 else 0) = 0 := rfl
      omega
    · have := cn_lt (fun x hx => h1 x (List.mem_cons_of_mem _ hx)) ⟨x, e, q1, q2⟩
      have : (if f a = true then 1 else 0) ≤ (if g a = true then 1 else 0) := by
        by_cases q : f a = true
        · rw [if_pos q, if_pos (h1 a List.mem_cons_self q)]; exact Nat.le_refl _
        · rw [if_neg q]; exact Nat.zero_le _
      omega
/-- closing up: what the reference's loop does -/
def itr (F : Int32 → Int32) : Nat → Int32 → Int32
  | 0, x => x
  | k + 1, x => if x ||| F x = x then x else itr F k (x ||| F x)
def bcn (x : Int32) : Nat := (List.range 32).countP (bt x)
theorem bcn_lt {x y : Int32} (h : sb x y) (k : ¬ y = x) : bcn x < bcn y := by
  apply cn_lt
  · intro p _ q; exact h p q
  · apply Classical.byContradiction
    intro q
    apply k
    apply sb_anti _ h
    intro p hp
    cases hb : bt x p
    · exact absurd ⟨p, List.mem_range.mpr (bt_lt hp), hb, hp⟩ q
    · rfl
theorem bcn_le (x : Int32) : bcn x ≤ 32 := by
  have := List.countP_le_length (p := bt x) (l := List.range 32)
  rwa [List.length_range] at this
theorem itr_fix (F : Int32 → Int32) : ∀ (k : Nat) (x : Int32), 33 ≤ k + bcn x → itr F k x ||| F (itr F k x) = itr F k x
  | 0, x, h => absurd (bcn_le x) (by omega)
  | k + 1, x, h => by
    show (if x ||| F x = x then x else itr F k (x ||| F x)) ||| F (if x ||| F x = x then x else itr F k (x ||| F x)) = _
    by_cases q : x ||| F x = x
    · rw [if_pos q]; exact q.trans (by show x = (if x ||| F x = x then x else itr F k (x ||| F x)); rw [if_pos q])
    · rw [if_neg q]
      show _ = (if x ||| F x = x then x else itr F k (x ||| F x))
      rw [if_neg q]
      have := bcn_lt (sb_l x (F x)) q
      exact itr_fix F k _ (by omega)
theorem itr_sb (F : Int32 → Int32) : ∀ (k : Nat) (x : Int32), sb x (itr F k x)
  | 0, x => sb_rfl x
  | k + 1, x => by
    show sb x (if x ||| F x = x then x else itr F k (x ||| F x))
    split
    · exact sb_rfl x
    · exact sb_tr (sb_l _ _) (itr_sb F k _)
theorem itr_le (F : Int32 → Int32) (y : Int32) (hm : ∀ x, sb x y → sb (F x) y) : ∀ (k : Nat) (x : Int32), sb x y → sb (itr F k x) y
  | 0, x, h => h
  | k + 1, x, h => by
    show sb (if x ||| F x = x then x else itr F k (x ||| F x)) y
    split
    · exact h
    · exact itr_le F y hm k _ (sb_or.mpr ⟨h, hm x h⟩)
/-- additive -/
def adv (F : Int32 → Int32) : Prop := ∀ x y, F (x ||| y) = F x ||| F y
theorem adv_mono {F : Int32 → Int32} (h : adv F) {x y : Int32} (k : sb x y) : sb (F x) (F y) := by
  have : x ||| y = y := sb_anti (sb_or.mpr ⟨k, sb_rfl _⟩) (sb_r _ _)
  rw [← this, h]
  exact sb_l _ _
theorem itr_adv {F : Int32 → Int32} (h : adv F) : adv (itr F 33) := by
  have fx : ∀ x, sb (F (itr F 33 x)) (itr F 33 x) := fun x => sb_eq.mp (itr_fix F 33 x (by omega))
  intro x y
  apply sb_anti
  · apply itr_le
    · intro z hz
      have := adv_mono h hz
      rw [h] at this
      exact sb_tr this (sb_or.mpr ⟨sb_tr (fx x) (sb_l _ _), sb_tr (fx y) (sb_r _ _)⟩)
    · exact sb_or.mpr ⟨sb_tr (itr_sb F 33 x) (sb_l _ _), sb_tr (itr_sb F 33 y) (sb_r _ _)⟩
  · have cl : ∀ z, sb z (itr F 33 (x ||| y)) → sb (F z) (itr F 33 (x ||| y)) := fun z hz => sb_tr (adv_mono h hz) (fx _)
    exact sb_or.mpr ⟨itr_le F _ cl 33 x (sb_tr (sb_l _ _) (itr_sb F 33 _)), itr_le F _ cl 33 y (sb_tr (sb_r _ _) (itr_sb F 33 _))⟩
