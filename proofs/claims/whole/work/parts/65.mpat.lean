/-! THE REFERENCE'S PATTERNS: its states while it reads, here, step, isItem -/
def pst (m : mG) (q : Nat) (bd : Int32) : mG := (va_up (va_up m.1 3 (nI q)) 4 bd, m.2)
theorem pst_3 (m : mG) (q : Nat) (bd : Int32) : (pst m q bd).1 3 = nI q := by show va_up (va_up m.1 3 (nI q)) 4 bd 3 = nI q; rw [va_up_ne _ _ (by decide), va_up_self]
theorem pst_4 (m : mG) (q : Nat) (bd : Int32) : (pst m q bd).1 4 = bd := by show va_up (va_up m.1 3 (nI q)) 4 bd 4 = bd; rw [va_up_self]
theorem pst_n (m : mG) (q : Nat) (bd : Int32) {k : Nat} (h3 : k ≠ 3) (h4 : k ≠ 4) : (pst m q bd).1 k = m.1 k := by show va_up (va_up m.1 3 (nI q)) 4 bd k = m.1 k; rw [va_up_ne _ _ h4, va_up_ne _ _ h3]
theorem pst_at (m : mG) (q r : Nat) (bd : Int32) : (va_up (pst m q bd).1 3 (nI r), (pst m q bd).2) = pst m r bd := by
  unfold pst
  dsimp only
  congr 1
  funext k
  by_cases h4 : k = 4
  · subst h4; rw [va_up_ne _ _ (by decide), va_up_self, va_up_self]
  · rw [va_up_ne _ _ h4]
    by_cases h3 : k = 3
    · subst h3; rw [va_up_self, va_up_self]
    · rw [va_up_ne _ _ h3, va_up_ne _ _ h4, va_up_ne _ _ h3, va_up_ne _ _ h3]
theorem pst_bd (m : mG) (q : Nat) (bd b2 : Int32) : (va_up (pst m q bd).1 4 b2, (pst m q bd).2) = pst m q b2 := by
  unfold pst
  congr 1
  exact bx_uu _ _ _ _
/-- what patterns stand on: a TEXT over, a pattern -/
def pOk (m : mG) (X Y : AV) : Prop := ∃ a b : Int32, m.1 5 = a ∧ m.1 2 = b ∧ vp_in a 90 ∧ vp_in b 90 ∧ mk m (J a) = 3 ∧ mk m (J b) = 3 ∧ mGd m (J a) ∧ mGd m (J b) ∧ mVA m (J a) = X ∧ mVA m (J b) = Y
theorem pOk_len {m : mG} {X Y : AV} (h : pOk m X Y) : lA X ≤ 24 ∧ lA Y ≤ 24 ∧ (∀ b ∈ X.2.2.2, okB b) ∧ (∀ b ∈ Y.2.2.2, okB b) := by
  obtain ⟨a, b, h1, h2, h3, h4, h5, h6, h7, h8, rfl, rfl⟩ := h
  have x := av_tx h7.1 (by rw [mVA_k]; exact h5)
  have y := av_tx h8.1 (by rw [mVA_k]; exact h6)
  exact ⟨x.2.1, y.2.1, x.2.2.2, y.2.2.2⟩
/-- the length of the TEXT over, in any state of reading -/
theorem xM_over (E : mEnv) {m : mG} {X Y : AV} (h : pOk m X Y) (q : Nat) (bd : Int32) : vp_in ((pst m q bd).1 5) 90 ∧ mSd E mM_length [qR 0 0, qI ((pst m q bd).1 5)] (pst m q bd) (some (qI (nI (lA X)))) (pst m q bd) ∧ ∀ k, k < lA X → mSd E mM_byteAt [qR 0 0, qI ((pst m q bd).1 5), qI (nI k)] (pst m q bd) (some (qI (bA X k))) (pst m q bd) := by
  obtain ⟨a, b, h1, h2, h3, h4, h5, h6, h7, h8, rfl, rfl⟩ := h
  rw [pst_n _ _ _ (by decide) (by decide), h1]
  exact ⟨h3, xM_lengthT E (pst m q bd) a h3 h5 h7, fun k hk => xM_byteT E (pst m q bd) a k h3 h5 h7 hk⟩
theorem xM_here (E : mEnv) {m : mG} {X Y : AV} (h : pOk m X Y) (q : Nat) (hq : q < 1000) (bd : Int32) : mSd E mM_here [qR 0 0] (pst m q bd) (some (qI (bA Y q))) (pst m q bd) := by
  obtain ⟨l1, l2, l3, l4⟩ := pOk_len h
  obtain ⟨a, b, h1, h2, h3, h4, h5, h6, h7, h8, rfl, rfl⟩ := h
  have hl := xM_lengthT E (pst m q bd) b h4 h6 h8
  have hl' : mSd E mM_length [qR 0 0, qI ((pst m q bd).1 2)] (pst m q bd) (some (qI (nI (lA (mVA m (J b)))))) (pst m q bd) := by
    rw [pst_n _ _ _ (by decide) (by decide), h2]; exact hl
  refine qm_meth (mOk E) (by decide) rfl rfl (Nat.le_of_ble_eq_true rfl) ?_
  intro p e st mm args below meth cc Q C _ _
  by_cases hc : q < lA (mVA m (J b))
  · have hb := xM_byteT E (pst m q bd) b q h4 h6 h8 hc
    have hb' : mSd E mM_byteAt [qR 0 0, qI ((pst m q bd).1 2), qI ((pst m q bd).1 3)] (pst m q bd) (some (qI (bA (mVA m (J b)) q))) (pst m q bd) := by
      rw [pst_3, pst_n _ _ _ (by decide) (by decide), h2]; exact hb
    have c1 : ¬ nI (lA (mVA m (J b))) ≤ (pst m q bd).1 3 := by rw [pst_3]; exact nI_ge hc (by omega)
    exact qm_step (sM_here E) C 0 9999 100 ([0], [], [(some (qI (nI (lA (mVA m (J b))))), pst m q bd), (some (qI (bA (mVA m (J b)) q)), pst m q bd)]) ⟨hl', c1, hb', rfl, rfl⟩
  · rw [bA_out (by omega)] at C
    have c1 : nI (lA (mVA m (J b))) ≤ (pst m q bd).1 3 := by rw [pst_3]; exact nI_le (by omega) (by omega)
    exact qm_step (sM_here E) C 0 9999 100 ([1], [], [(some (qI (nI (lA (mVA m (J b))))), pst m q bd)]) ⟨hl', c1, rfl, rfl⟩
theorem shr_aux : ∀ k : Fin 32, ((nI k.val &&& 31).toBitVec.smod 32).toNat = k.val := by decide +kernel
theorem and1_aux (x : Int32) : x &&& 1 = 1 ↔ bt x 0 = true := by
  constructor
  · intro h
    have : bt (x &&& 1) 0 = bt 1 0 := by rw [h]
    rw [bt_and] at this
    have e : bt 1 0 = true := by decide
    rw [e, Bool.and_true] at this
    exact this
  · intro h
    apply bt_ext
    intro p hp
    rw [bt_and]
    have e : bt 1 p = decide (p = 0) := by
      have : ∀ p : Fin 32, bt 1 p.val = decide (p.val = 0) := by decide +kernel
      exact this ⟨p, hp⟩
    rw [e]
    by_cases q : p = 0
    · subst q; rw [h]; rfl
    · simp [q]
theorem bt_shr (x : Int32) {k : Nat} (hk : k < 24) : (x >>> (nI k &&& 31)) &&& 1 = 1 ↔ bt x k = true := by
  rw [and1_aux]
  unfold bt
  rw [Int32.toBitVec_shiftRight]
  have e := shr_aux ⟨k, by omega⟩
  rw [BitVec.sshiftRight_eq', e, BitVec.getLsbD_sshiftRight]
  simp
  omega
def stR (f : Nat → Int32) (any c : Int32) (x : Int32) : Nat → Nat → Int32 → Int32
  | 0, _, acc => acc
  | r + 1, k, acc => stR f any c x r (k + 1) (if bt x k = true ∧ (¬ any = 0 ∨ f k = c) then acc ||| 1 <<< (nI (k + 1) &&& 31) else acc)
theorem stR_bt (f : Nat → Int32) (any c x : Int32) : ∀ (r k : Nat) (acc : Int32) (p : Nat), k + r ≤ 24 → (bt (stR f any c x r k acc) p = true ↔ bt acc p = true ∨ (k + 1 ≤ p ∧ p ≤ k + r ∧ bt x (p - 1) = true ∧ (¬ any = 0 ∨ f (p - 1) = c)))
  | 0, k, acc, p, _ => by
    show bt acc p = true ↔ _
    constructor
    · exact Or.inl
    · rintro (h | h)
      · exact h
      · omega
  | r + 1, k, acc, p, hk => by
    show bt (stR f any c x r (k + 1) _) p = true ↔ _
    rw [stR_bt f any c x r (k + 1) _ p (by omega)]
    by_cases hc : bt x k = true ∧ (¬ any = 0 ∨ f k = c)
    · rw [if_pos hc, bt_or, bt_one (by omega)]
      constructor
      · rintro (h | h)
        · rcases Bool.or_eq_true _ _ ▸ h with h | h
          · exact Or.inl h
          · have : p = k + 1 := of_decide_eq_true h
            subst this
            exact Or.inr ⟨by omega, by omega, hc⟩
        · exact Or.inr ⟨by omega, by omega, h.2.2⟩
      · rintro (h | h)
        · exact Or.inl (by rw [h]; rfl)
        · by_cases hp : p = k + 1
          · exact Or.inl (by rw [decide_eq_true hp]; simp)
          · exact Or.inr ⟨by omega, by omega, h.2.2⟩
    · rw [if_neg hc]
      constructor
      · rintro (h | h)
        · exact Or.inl h
        · exact Or.inr ⟨by omega, by omega, h.2.2⟩
      · rintro (h | h)
        · exact Or.inl h
        · by_cases hp : p = k + 1
          · subst hp
            exact absurd h.2.2 hc
          · exact Or.inr ⟨by omega, by omega, h.2.2⟩
theorem aTt_bt (X : AV) (h : lA X ≤ 24) (lo hi : Int32) (p : Nat) : bt (aTt X lo hi) p = true ↔ p < lA X ∧ ¬ bA X p < lo ∧ ¬ hi < bA X p := by
  unfold aTt
  rw [plF_bt _ _ _ _ _ _ _ (by omega), bt_0]
  constructor
  · rintro (q | q)
    · cases q
    · exact ⟨by omega, q.2.2⟩
  · intro q
    exact Or.inr ⟨by omega, by omega, q.2⟩
theorem atF_bt (pl x : Int32) (p : Nat) : bt (atF pl x) p = true ↔ 0 < p ∧ p < 32 ∧ bt x (p - 1) = true ∧ bt pl (p - 1) = true := by
  unfold atF
  rw [bt_shl, bt_and]
  simp [and_assoc]
/-- a step over any byte, or over one -/
theorem stR_any (X : AV) (h : lA X ≤ 24) (ok : ∀ b ∈ X.2.2.2, okB b) (c x : Int32) : stR (bA X) 1 c x (lA X) 0 0 = atF (aTt X 32 126) x := by
  apply bt_ext2
  intro p
  rw [stR_bt _ _ _ _ _ _ _ _ (by omega), atF_bt, aTt_bt X h, bt_0]
  constructor
  · rintro (q | q)
    · cases q
    · have := bA_ok ok (k := p - 1) (by omega)
      exact ⟨by omega, by omega, q.2.2.1, by omega, Int32.not_lt.mpr this.1, Int32.not_lt.mpr this.2⟩
  · intro q
    exact Or.inr ⟨by omega, by omega, q.2.2.1, Or.inl (by decide)⟩
theorem stR_one (X : AV) (h : lA X ≤ 24) (c x : Int32) : stR (bA X) 0 c x (lA X) 0 0 = atF (aTt X c c) x := by
  apply bt_ext2
  intro p
  rw [stR_bt _ _ _ _ _ _ _ _ (by omega), atF_bt, aTt_bt X h, bt_0]
  constructor
  · rintro (q | q)
    · cases q
    · have e := q.2.2.2.resolve_left (fun z => z rfl)
      exact ⟨by omega, by omega, q.2.2.1, by omega, by rw [e]; exact fun z => Int32.lt_irrefl z, by rw [e]; exact fun z => Int32.lt_irrefl z⟩
  · intro q
    refine Or.inr ⟨by omega, by omega, q.2.2.1, Or.inr ?_⟩
    exact Int32.le_antisymm (Int32.not_lt.mp q.2.2.2.2.2) (Int32.not_lt.mp q.2.2.2.2.1)
set_option maxHeartbeats 1000000 in
theorem xM_step0 (E : mEnv) {m : mG} {X Y : AV} (h : pOk m X Y) (q : Nat) (bd x any c : Int32) : mSd E mM_step [qR 0 0, qI x, qI any, qI c] (pst m q bd) (some (qI (stR (bA X) any c x (lA X) 0 0))) (pst m q bd) := by
  obtain ⟨l1, l2, l3, l4⟩ := pOk_len h
  obtain ⟨o1, o2, o3⟩ := xM_over E h q bd
  refine qm_meth (mOk E) (by decide) rfl rfl (Nat.le_of_ble_eq_true rfl) ?_
  intro p e st mm args below meth cc Q C _ _
  have loop : ∀ (r k : Nat) (w acc : Int32), k + r = lA X → w = nI k → stR (bA X) any c x r k acc = stR (bA X) any c x (lA X) 0 0 → qm_W (mLa E.2.2.2) mV (mHold E) (mA E.2.2.2) 6 p E.1 e (rmL 2) st mm args below meth cc Q 6 ([some (qR 0 0), some (qI x), some (qI any), some (qI c), some (qI acc), some (qI w)], [], pst m q bd) := by
    intro r
    induction r with
    | zero =>
      intro k w acc hk hw hS
      subst hw
      rw [← hS] at C
      have hc : nI (lA X) ≤ nI k := nI_le (by omega) (by omega)
      exact qm_step (sM_step E) C 6 9999 100 ([1], [], [(some (qI (nI (lA X))), pst m q bd)]) ⟨o2, hc, rfl, rfl⟩
    | succ r ih =>
      intro k w acc hk hw hS
      subst hw
      have hc : ¬ nI (lA X) ≤ nI k := nI_ge (by omega) (by omega)
      have hb := o3 k (by omega)
      have bs := bt_shr x (k := k) (by omega)
      have hS : stR (bA X) any c x r (k + 1) (if bt x k = true ∧ (¬ any = 0 ∨ bA X k = c) then acc ||| 1 <<< (nI (k + 1) &&& 31) else acc) = _ := hS
      by_cases h1 : bt x k = true
      · have h1' := bs.mpr h1
        by_cases h2 : any = 0
        · by_cases h3 : bA X k = c
          · rw [if_pos ⟨h1, Or.inr h3⟩] at hS
            refine qm_step (sM_step E) C 6 6 100 ([0, 0, 0, 0], [], [(some (qI (nI (lA X))), pst m q bd), (some (qI (bA X k)), pst m q bd)]) ⟨o2, hc, h1', h2, hb, h3, ?_⟩
            exact ih (k + 1) _ _ (by omega) (nI_1 k) (by rw [← nI_1] at hS; exact hS)
          · rw [if_neg (by rintro ⟨_, z | z⟩; exact z h2; exact h3 z)] at hS
            refine qm_step (sM_step E) C 6 6 100 ([0, 0, 0, 1], [], [(some (qI (nI (lA X))), pst m q bd), (some (qI (bA X k)), pst m q bd)]) ⟨o2, hc, h1', h2, hb, h3, ?_⟩
            exact ih (k + 1) _ _ (by omega) (nI_1 k) hS
        · rw [if_pos ⟨h1, Or.inl h2⟩] at hS
          refine qm_step (sM_step E) C 6 6 100 ([0, 0, 1], [], [(some (qI (nI (lA X))), pst m q bd)]) ⟨o2, hc, h1', h2, ?_⟩
          exact ih (k + 1) _ _ (by omega) (nI_1 k) (by rw [← nI_1] at hS; exact hS)
      · have h1' : ¬ (x >>> (nI k &&& 31)) &&& 1 = 1 := fun z => h1 (bs.mp z)
        rw [if_neg (fun z => h1 z.1)] at hS
        refine qm_step (sM_step E) C 6 6 100 ([0, 1], [], [(some (qI (nI (lA X))), pst m q bd)]) ⟨o2, hc, h1', ?_⟩
        exact ih (k + 1) _ _ (by omega) (nI_1 k) hS
  exact qm_step (sM_step E) C 0 6 100 ([], [], []) (loop (lA X) 0 0 0 (by omega) rfl rfl)
theorem xM_stepA (E : mEnv) {m : mG} {X Y : AV} (h : pOk m X Y) (q : Nat) (bd x c : Int32) : mSd E mM_step [qR 0 0, qI x, qI 1, qI c] (pst m q bd) (some (qI (atF (aTt X 32 126) x))) (pst m q bd) := by
  obtain ⟨l1, l2, l3, l4⟩ := pOk_len h
  rw [← stR_any X l1 l3 c x]
  exact xM_step0 E h q bd x 1 c
theorem xM_stepC (E : mEnv) {m : mG} {X Y : AV} (h : pOk m X Y) (q : Nat) (bd x c : Int32) : mSd E mM_step [qR 0 0, qI x, qI 0, qI c] (pst m q bd) (some (qI (atF (aTt X c c) x))) (pst m q bd) := by
  obtain ⟨l1, l2, l3, l4⟩ := pOk_len h
  rw [← stR_one X l1 c x]
  exact xM_step0 E h q bd x 0 c
theorem xM_isItem (E : mEnv) {m : mG} {X Y : AV} (h : pOk m X Y) (q : Nat) (hq : q < 1000) (bd : Int32) : mSd E mM_isItem [qR 0 0] (pst m q bd) (some (qI (if itB (bA Y q) then 1 else 0))) (pst m q bd) := by
  have hh := xM_here E h q hq bd
  refine qm_meth (mOk E) (by decide) rfl rfl (Nat.le_of_ble_eq_true rfl) ?_
  intro p e st mm args below meth cc Q C _ _
  generalize bA Y q = b at hh C
  by_cases h1 : b = 0
  · rw [show itB b = false by rw [h1]; rfl, if_neg (by decide)] at C
    exact qm_step (sM_isItem E) C 0 9999 100 ([1], [], [(some (qI b), pst m q bd)]) ⟨hh, h1, Or.inl rfl, rfl, rfl⟩
  by_cases h2 : b = 94
  · rw [show itB b = false by rw [h2]; rfl, if_neg (by decide)] at C
    exact qm_step (sM_isItem E) C 0 9999 100 ([0, 1], [], [(some (qI b), pst m q bd)]) ⟨hh, h1, h2, Or.inl rfl, rfl, rfl⟩
  by_cases h3 : b = 93
  · rw [show itB b = false by rw [h3]; rfl, if_neg (by decide)] at C
    exact qm_step (sM_isItem E) C 0 9999 100 ([0, 0, 1], [], [(some (qI b), pst m q bd)]) ⟨hh, h1, h2, h3, Or.inl rfl, rfl, rfl⟩
  by_cases h4 : b = 45
  · rw [show itB b = false by rw [h4]; rfl, if_neg (by decide)] at C
    exact qm_step (sM_isItem E) C 0 9999 100 ([0, 0, 0, 1], [], [(some (qI b), pst m q bd)]) ⟨hh, h1, h2, h3, h4, Or.inl rfl, rfl, rfl⟩
  by_cases h5 : b = 92
  · rw [show itB b = false by rw [h5]; rfl, if_neg (by decide)] at C
    exact qm_step (sM_isItem E) C 0 9999 100 ([0, 0, 0, 0, 1], [], [(some (qI b), pst m q bd)]) ⟨hh, h1, h2, h3, h4, h5, Or.inl rfl, rfl, rfl⟩
  · rw [show itB b = true by unfold itB; simp [h1, h2, h3, h4, h5], if_pos rfl] at C
    exact qm_step (sM_isItem E) C 0 9999 100 ([0, 0, 0, 0, 0], [], [(some (qI b), pst m q bd)]) ⟨hh, h1, h2, h3, h4, h5, Or.inr rfl, rfl, rfl⟩
