/-! FunctionRows.run -/
/-- what of an expression no run changes -/
def stE (g : cG) (j : Nat) : Int32 × Nat × Int32 × Option Nat × Option Nat × Option Nat := ((g.2.2.1 j).1, (g.2.2.1 j).2.1, (g.2.2.1 j).2.2.1, (g.2.2.1 j).2.2.2.1, (g.2.2.1 j).2.2.2.2.1, (g.2.2.1 j).2.2.2.2.2.1)
def waI (g : cG) (j : Nat) : Int32 := (g.2.2.1 j).2.2.2.2.2.2.2.2
theorem stE_wnE (g : cG) (k : Nat) (x : Int32) (j : Nat) : stE (wnE g k x) j = stE g j := by
  unfold stE
  by_cases h : j = k
  · subst h
    unfold wnE
    rw [uE_at]
  · rw [wnE_ne _ _ h]
def wfE (g : cG) (k : Nat) : Prop := ∀ i, i ≤ k → (g.2.2.1 i).1 = 2 → ∃ a b d : Nat, (g.2.2.1 i).2.2.2.1 = some a ∧ (g.2.2.1 i).2.2.2.2.1 = some b ∧ (g.2.2.1 i).2.2.2.2.2.1 = some d ∧ a < i ∧ b < i ∧ d < i
theorem wfE_of {g h : cG} (e : ∀ j, stE h j = stE g j) {k : Nat} (hw : wfE g k) : wfE h k := by
  intro i hi hf
  have e1 := e i
  unfold stE at e1
  obtain ⟨e2, e3, e4, e5, e6, e7⟩ := Prod.mk.injEq .. ▸ e1 |> fun q => (by simpa only [Prod.mk.injEq] using q)
  obtain ⟨a, b, d, h1, h2, h3, h4⟩ := hw i hi (e2 ▸ hf)
  exact ⟨a, b, d, e5.trans h1, e6.trans h2, e7.trans h3, h4⟩
def wA (g : cG) : Nat → cG
  | 0 => g
  | i + 1 => wnE (wA g i) i 0
def opA (g : cG) (i : Nat) : Nat := (g.2.2.1 i).2.2.2.1.getD 0
def opB (g : cG) (i : Nat) : Nat := (g.2.2.1 i).2.2.2.2.1.getD 0
def opD (g : cG) (i : Nat) : Nat := (g.2.2.1 i).2.2.2.2.2.1.getD 0
def woS (g : cG) (i : Nat) : cG := if waI g i = 0 then g else if (g.2.2.1 i).1 = 2 then wnE (wnE (wnE g (opA g i) 1) (opB g i) 1) (opD g i) 1 else g
def wB (g : cG) (k : Nat) : Nat → cG
  | 0 => g
  | j + 1 => woS (wB g k j) (k - j)
theorem stE_wA (g : cG) : ∀ i j, stE (wA g i) j = stE g j
  | 0, _ => rfl
  | i + 1, j => (stE_wnE _ _ _ _).trans (stE_wA g i j)
theorem stE_woS (g : cG) (i j : Nat) : stE (woS g i) j = stE g j := by
  unfold woS
  split
  · rfl
  · split
    · rw [stE_wnE, stE_wnE, stE_wnE]
    · rfl
theorem stE_wB (g : cG) (k : Nat) : ∀ i j, stE (wB g k i) j = stE g j
  | 0, _ => rfl
  | i + 1, j => (stE_woS _ _ _).trans (stE_wB g k i j)
/-- all that is wanted for k -/
def gWt (g : cG) (k : Nat) : cG := wB (wnE (wA g k) k 1) k (k + 1)
/-- a length that an operation may be told: that of a TEXT, else 0 -/
def lnT (g : cG) (j : Nat) : Nat := if (g.1 j).1 = 3 then lnN g j else 0
def rcW (gI : cG → Nat → Nat → Int32) (gG : cG → Nat → Nat → cG) (g : cG) (i : Nat) : cG :=
  if waI g i = 0 then g else if (g.2.2.1 i).1 = 2 then rkS gI gG (g.2.2.1 i).2.2.1 g i (opA g i) (g.2.2.1 (opA g i)).2.1 (lnT g (g.2.2.1 (opA g i)).2.1) (g.2.2.1 (opB g i)).2.1 (lnT g (g.2.2.1 (opB g i)).2.1) (g.2.2.1 (opD g i)).2.1 (lnT g (g.2.2.1 (opD g i)).2.1) else g
def rC (gI : cG → Nat → Nat → Int32) (gG : cG → Nat → Nat → cG) (g : cG) : Nat → cG
  | 0 => g
  | i + 1 => rcW gI gG (rC gI gG g i) i
theorem xR_run_bad {E : cEnv} (hE : cOk E) (g : cG) (x : Int32) (h : ¬ isEx g x) : cSd E mR_run [qR 0 0, qI x] g (some (qI (-1))) g := by
  refine qm_meth hE (by decide) rfl rfl (Nat.le_of_ble_eq_true rfl) ?_
  intro p e st mm args below meth c Q C _ _
  exact qm_step (sR_run hE) C 0 9999 100 ([0], [], [(some (qI 0), g)]) ⟨(xR_isEx hE g x).2 h, rfl, rfl, rfl⟩
theorem vOk_lnN {g : cG} {j : Nat} (h : vOk g j) (h3 : (g.1 j).1 = 3) : lnN g j ≤ 24 ∧ (g.1 j).2.2.2 = nI (lnN g j) := by
  obtain ⟨n, hn, he⟩ := h.1 h3
  have : lnN g j = n := by unfold lnN; rw [he]; exact nI_clamp (by omega)
  rw [this]
  exact ⟨hn, he⟩
theorem lnT_of {g : cG} {j : Nat} (h : vOk g j) : lnT g j ≤ 24 ∧ ((g.1 j).1 = 3 → (g.1 j).2.2.2 = nI (lnT g j)) := by
  unfold lnT
  by_cases h3 : (g.1 j).1 = 3
  · rw [if_pos h3]
    obtain ⟨h1, h2⟩ := vOk_lnN h h3
    exact ⟨h1, fun _ => h2⟩
  · rw [if_neg h3]
    exact ⟨by omega, fun q => absurd q h3⟩
