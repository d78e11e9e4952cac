/-! THE REFERENCE'S STATE: its numbers (tapeSize, many, pattern, at, bad, over), its arrays of ints (tape, what, operands, saidTags, kinds, tags, used), of bytes (saidBytes, bytes), of longs (said, numbers). -/
abbrev mG : Type := (Nat → Int32) × (Nat → Nat → Int32) × (Nat → Nat → Int32) × (Nat → Nat → Int64)
def mV : Nat → Nat → Prop
  | 0, i => i = 0
  | 1, i => i < 7
  | 2, i => i < 2
  | 3, i => i < 2
  | _, _ => False
def mOf : Nat → Nat → Nat
  | 0, _ => 0
  | 1, 0 => 1
  | 1, 1 => 2
  | 1, 2 => 4
  | 1, 3 => 5
  | 1, 4 => 7
  | 1, 5 => 9
  | 1, 6 => 11
  | 2, 0 => 6
  | 2, 1 => 10
  | 3, 0 => 3
  | 3, 1 => 8
  | _, _ => 0
def mLa (a k i : Nat) : Nat := a + mOf k i
def mA (a : Nat) : Nat → Prop := fun q => a ≤ q ∧ q < a + 12
def mWh : Nat → Nat × Nat
  | 0 => (0, 0)
  | 1 => (1, 0)
  | 2 => (1, 1)
  | 3 => (3, 0)
  | 4 => (1, 2)
  | 5 => (1, 3)
  | 6 => (2, 0)
  | 7 => (1, 4)
  | 8 => (3, 1)
  | 9 => (1, 5)
  | 10 => (2, 1)
  | _ => (1, 6)
theorem mWh_of : ∀ k i, mV k i → mWh (mOf k i) = (k, i) ∧ mOf k i < 12
  | 0, 0, _ => ⟨rfl, by decide⟩
  | 0, n + 1, h => absurd (show n + 1 = 0 from h) (by omega)
  | 1, 0, _ => ⟨rfl, by decide⟩
  | 1, 1, _ => ⟨rfl, by decide⟩
  | 1, 2, _ => ⟨rfl, by decide⟩
  | 1, 3, _ => ⟨rfl, by decide⟩
  | 1, 4, _ => ⟨rfl, by decide⟩
  | 1, 5, _ => ⟨rfl, by decide⟩
  | 1, 6, _ => ⟨rfl, by decide⟩
  | 1, n + 7, h => absurd (show n + 7 < 7 from h) (by omega)
  | 2, 0, _ => ⟨rfl, by decide⟩
  | 2, 1, _ => ⟨rfl, by decide⟩
  | 2, n + 2, h => absurd (show n + 2 < 2 from h) (by omega)
  | 3, 0, _ => ⟨rfl, by decide⟩
  | 3, 1, _ => ⟨rfl, by decide⟩
  | 3, n + 2, h => absurd (show n + 2 < 2 from h) (by omega)
  | n + 4, _, h => h.elim
theorem mLa_in (a k i : Nat) (h : mV k i) : mA a (mLa a k i) := by
  have h3 := (mWh_of k i h).2
  unfold mA mLa
  omega
theorem mLa_inj (a k i k' i' : Nat) (h : mV k i) (h' : mV k' i') (e : mLa a k i = mLa a k' i') : k = k' ∧ i = i' := by
  have e2 : mOf k i = mOf k' i' := by unfold mLa at e; omega
  have h1 := (mWh_of k i h).1
  rw [e2, (mWh_of k' i' h').1] at h1
  cases h1
  exact ⟨rfl, rfl⟩
def miN : Nat → Nat
  | 0 => 48
  | 1 => 80
  | 2 => 240
  | 3 => 80
  | 4 => 90
  | 5 => 90
  | 6 => 80
  | _ => 0
def mbN : Nat → Nat
  | 0 => 1920
  | _ => 2160
def mlN : Nat → Nat
  | 0 => 80
  | _ => 90
abbrev mQ : Type := ClassId × ClassId × ClassId
abbrev mTys (q : mQ) : List (ClassId × FieldType) := [(q.1, .byte), (q.2.1, .int), (q.2.2, .long)]
def m_ce (a : Nat) (q : mQ) (g : mG) : Nat → Nat → va_E
  | 0, _ => .inr (4, [.int (g.1 0), .ref (mLa a 1 0), .int (g.1 1), .ref (mLa a 1 1), .ref (mLa a 3 0), .ref (mLa a 1 2), .ref (mLa a 1 3), .ref (mLa a 2 0), .ref (mLa a 1 4), .ref (mLa a 3 1), .ref (mLa a 1 5), .ref (mLa a 2 1), .int (g.1 2), .int (g.1 3), .int (g.1 4), .int (g.1 5), .ref (mLa a 1 6)])
  | 1, i => .inl (q.2.1, miN i, .inl (g.2.1 i))
  | 2, i => .inl (q.1, mbN i, .inl (g.2.2.1 i))
  | 3, i => .inl (q.2.2, mlN i, .inr (.inl (g.2.2.2 i)))
  | _, _ => .inl (q.1, 0, .inl (fun _ => 0))
def m_ok (_ : mG) : Prop := True
abbrev mEnv : Type := Launch × va_G × mQ × Nat
def m_ex (_ : State) (_ : Heap) : Prop := True
abbrev mHold (E : mEnv) : State → mG → Heap → Prop := qm_hold E.2.1 tcl (mTys E.2.2.1) (mLa E.2.2.2) mV (m_ce E.2.2.2 E.2.2.1) m_ok m_ex
abbrev mK (E : mEnv) (R : Room) (cc : ByteArray) (nL : Nat) (own : String) (Ts : List Cond) (ret : Option FieldType) : Nat → Nat → qm_op mG → Prop := qm_K (mLa E.2.2.2) mV (mHold E) (mA E.2.2.2) E.1 R cc nL own Ts ret
abbrev mSd (E : mEnv) (mt : MethodName × List Cond × Room) : List qm_v → mG → Option qm_v → mG → Prop := qm_Sd (mLa E.2.2.2) mV (mHold E) (mA E.2.2.2) E.1 mt
theorem mOk (E : mEnv) : qm_sys (mLa E.2.2.2) mV m_ex (mA E.2.2.2) := ⟨mLa_inj _, mLa_in _, fun _ _ _ _ _ => trivial, fun _ _ _ _ _ => trivial⟩
theorem me_uN {a : Nat} {q : mQ} {g : mG} {x : Nat → Int32} (k j : Nat) (hv : mV k j) (h : k ≠ 0 ∨ j ≠ 0) : m_ce a q (x, g.2) k j = m_ce a q g k j := by
  match k, h, hv with
  | 0, h, hv => exact absurd hv (h.resolve_left (fun z => z rfl))
  | 1, _, _ => rfl
  | 2, _, _ => rfl
  | 3, _, _ => rfl
  | n + 4, _, _ => rfl
theorem me_uI {a : Nat} {q : mQ} {g : mG} {i : Nat} {x : Nat → Int32} (k j : Nat) (h : k ≠ 1 ∨ j ≠ i) : m_ce a q (g.1, va_up g.2.1 i x, g.2.2) k j = m_ce a q g k j := by
  match k, h with
  | 0, _ => rfl
  | 1, h =>
    have hj : j ≠ i := h.resolve_left (fun z => z rfl)
    simp only [m_ce, va_up_ne _ _ hj]
  | 2, _ => rfl
  | 3, _ => rfl
  | n + 4, _ => rfl
theorem me_uB {a : Nat} {q : mQ} {g : mG} {i : Nat} {x : Nat → Int32} (k j : Nat) (h : k ≠ 2 ∨ j ≠ i) : m_ce a q (g.1, g.2.1, va_up g.2.2.1 i x, g.2.2.2) k j = m_ce a q g k j := by
  match k, h with
  | 0, _ => rfl
  | 1, _ => rfl
  | 2, h =>
    have hj : j ≠ i := h.resolve_left (fun z => z rfl)
    simp only [m_ce, va_up_ne _ _ hj]
  | 3, _ => rfl
  | n + 4, _ => rfl
theorem me_uL {a : Nat} {q : mQ} {g : mG} {i : Nat} {x : Nat → Int64} (k j : Nat) (h : k ≠ 3 ∨ j ≠ i) : m_ce a q (g.1, g.2.1, g.2.2.1, va_up g.2.2.2 i x) k j = m_ce a q g k j := by
  match k, h with
  | 0, _ => rfl
  | 1, _ => rfl
  | 2, _ => rfl
  | 3, h =>
    have hj : j ≠ i := h.resolve_left (fun z => z rfl)
    simp only [m_ce, va_up_ne _ _ hj]
  | n + 4, _ => rfl
def miL (_ : mG) (i : Nat) : Nat := miN i
def miR (g : mG) (i : Nat) : Nat → Int32 := g.2.1 i
def miW (g : mG) (i j : Nat) (v : Int32) : mG := (g.1, va_up g.2.1 i (upd (g.2.1 i) j v), g.2.2)
def mbL (_ : mG) (i : Nat) : Nat := mbN i
def mbR (g : mG) (i : Nat) : Nat → Int32 := g.2.2.1 i
def mbW (g : mG) (i j : Nat) (v : Int32) : mG := (g.1, g.2.1, va_up g.2.2.1 i (upd (g.2.2.1 i) j v.toInt8.toInt32), g.2.2.2)
def mlL (_ : mG) (i : Nat) : Nat := mlN i
def mlR (g : mG) (i : Nat) : Nat → Int64 := g.2.2.2 i
def mlW (g : mG) (i j : Nat) (v : Int64) : mG := (g.1, g.2.1, g.2.2.1, va_up g.2.2.2 i (vp_updL (g.2.2.2 i) j v))
theorem mceI {a : Nat} {q : mQ} (g : mG) (i : Nat) (_ : mV 1 i) : m_ce a q g 1 i = .inl (q.2.1, miL g i, .inl (miR g i)) := rfl
theorem mceB {a : Nat} {q : mQ} (g : mG) (i : Nat) (_ : mV 2 i) : m_ce a q g 2 i = .inl (q.1, mbL g i, .inl (mbR g i)) := rfl
theorem mceL {a : Nat} {q : mQ} (g : mG) (i : Nat) (_ : mV 3 i) : m_ce a q g 3 i = .inl (q.2.2, mlL g i, .inr (.inl (mlR g i))) := rfl
theorem mwrI (g : mG) (i j : Nat) (v : Int32) (_ : mV 1 i) : miL (miW g i j v) i = miL g i ∧ miR (miW g i j v) i = upd (miR g i) j v := ⟨rfl, by show va_up _ i _ i = _; rw [va_up_self]; rfl⟩
theorem mwrB (g : mG) (i j : Nat) (v : Int32) (_ : mV 2 i) : mbL (mbW g i j v) i = mbL g i ∧ mbR (mbW g i j v) i = upd (mbR g i) j v.toInt8.toInt32 := ⟨rfl, by show va_up _ i _ i = _; rw [va_up_self]; rfl⟩
theorem mwrL (g : mG) (i j : Nat) (v : Int64) (_ : mV 3 i) : mlL (mlW g i j v) i = mlL g i ∧ mlR (mlW g i j v) i = vp_updL (mlR g i) j v := ⟨rfl, by show va_up _ i _ i = _; rw [va_up_self]; rfl⟩
theorem mokI {a : Nat} {q : mQ} (g : mG) (i j : Nat) (v : Int32) (_ : mV 1 i) (h : m_ok g) : m_ok (miW g i j v) ∧ ∀ k j2, mV k j2 → (k ≠ 1 ∨ j2 ≠ i) → m_ce a q (miW g i j v) k j2 = m_ce a q g k j2 := ⟨h, fun k j2 _ hne => me_uI k j2 hne⟩
theorem mokB {a : Nat} {q : mQ} (g : mG) (i j : Nat) (v : Int32) (_ : mV 2 i) (h : m_ok g) : m_ok (mbW g i j v) ∧ ∀ k j2, mV k j2 → (k ≠ 2 ∨ j2 ≠ i) → m_ce a q (mbW g i j v) k j2 = m_ce a q g k j2 := ⟨h, fun k j2 _ hne => me_uB k j2 hne⟩
theorem mokL {a : Nat} {q : mQ} (g : mG) (i j : Nat) (v : Int64) (_ : mV 3 i) (h : m_ok g) : m_ok (mlW g i j v) ∧ ∀ k j2, mV k j2 → (k ≠ 3 ∨ j2 ≠ i) → m_ce a q (mlW g i j v) k j2 = m_ce a q g k j2 := ⟨h, fun k j2 _ hne => me_uL k j2 hne⟩
theorem mrc {a : Nat} {q : mQ} (g : mG) (i : Nat) (_ : mV 0 i) (_ : m_ok g) : ∃ fs, m_ce a q g 0 i = .inr (4, fs) := ⟨_, rfl⟩
def rdM0 (g : mG) (_ : Nat) : qm_v := qI (g.1 0)
theorem glM0 {a : Nat} {q : mQ} (g : mG) (i : Nat) (_ : mV 0 i) (_ : m_ok g) : ∃ fs, m_ce a q g 0 i = .inr (4, fs) ∧ fs[0]? = some (qm_cv (mLa a) (rdM0 g i)) ∧ qm_ok mV (rdM0 g i) := ⟨_, rfl, rfl, trivial⟩
def wrM0 (g : mG) (_ : Nat) (v : qm_v) : Option (List Prop × mG) := match v with
  | .inl x => some ([], (va_up g.1 0 x, g.2))
  | _ => none
theorem plM0 {a : Nat} {q : mQ} (g : mG) (i : Nat) (v : qm_v) (cs : List Prop) (g' : mG) (hV : mV 0 i) (hk : m_ok g) (hv : qm_ok mV v) (h : wrM0 g i v = some (cs, g')) (hc : qm_all cs) : m_ok g' ∧ (∃ fs, m_ce a q g 0 i = .inr (4, fs) ∧ 0 < fs.length ∧ m_ce a q g' 0 i = .inr (4, fs.set 0 (qm_cv (mLa a) v))) ∧ (∀ k j, mV k j → (k ≠ 0 ∨ j ≠ i) → m_ce a q g' k j = m_ce a q g k j) ∧ narrow .int (qm_cv (mLa a) v) = qm_cv (mLa a) v ∧ fits .int (qm_cv (mLa a) v) = true := by
  rcases v with x | x | x
  case inl =>
    cases h
    refine ⟨hk, ⟨_, rfl, Nat.le_of_ble_eq_true rfl, ?_⟩, ?_, rfl, rfl⟩
    · rfl
    · exact fun k j hv hne => me_uN k j hv (by rw [show i = 0 from hV] at hne; exact hne)
  all_goals cases h
def rdM1 (_ : mG) (_ : Nat) : qm_v := qR 1 0
theorem glM1 {a : Nat} {q : mQ} (g : mG) (i : Nat) (_ : mV 0 i) (_ : m_ok g) : ∃ fs, m_ce a q g 0 i = .inr (4, fs) ∧ fs[1]? = some (qm_cv (mLa a) (rdM1 g i)) ∧ qm_ok mV (rdM1 g i) := ⟨_, rfl, rfl, (show 0 < 7 by decide)⟩
def rdM2 (g : mG) (_ : Nat) : qm_v := qI (g.1 1)
theorem glM2 {a : Nat} {q : mQ} (g : mG) (i : Nat) (_ : mV 0 i) (_ : m_ok g) : ∃ fs, m_ce a q g 0 i = .inr (4, fs) ∧ fs[2]? = some (qm_cv (mLa a) (rdM2 g i)) ∧ qm_ok mV (rdM2 g i) := ⟨_, rfl, rfl, trivial⟩
def wrM2 (g : mG) (_ : Nat) (v : qm_v) : Option (List Prop × mG) := match v with
  | .inl x => some ([], (va_up g.1 1 x, g.2))
  | _ => none
theorem plM2 {a : Nat} {q : mQ} (g : mG) (i : Nat) (v : qm_v) (cs : List Prop) (g' : mG) (hV : mV 0 i) (hk : m_ok g) (hv : qm_ok mV v) (h : wrM2 g i v = some (cs, g')) (hc : qm_all cs) : m_ok g' ∧ (∃ fs, m_ce a q g 0 i = .inr (4, fs) ∧ 2 < fs.length ∧ m_ce a q g' 0 i = .inr (4, fs.set 2 (qm_cv (mLa a) v))) ∧ (∀ k j, mV k j → (k ≠ 0 ∨ j ≠ i) → m_ce a q g' k j = m_ce a q g k j) ∧ narrow .int (qm_cv (mLa a) v) = qm_cv (mLa a) v ∧ fits .int (qm_cv (mLa a) v) = true := by
  rcases v with x | x | x
  case inl =>
    cases h
    refine ⟨hk, ⟨_, rfl, Nat.le_of_ble_eq_true rfl, ?_⟩, ?_, rfl, rfl⟩
    · rfl
    · exact fun k j hv hne => me_uN k j hv (by rw [show i = 0 from hV] at hne; exact hne)
  all_goals cases h
def rdM3 (_ : mG) (_ : Nat) : qm_v := qR 1 1
theorem glM3 {a : Nat} {q : mQ} (g : mG) (i : Nat) (_ : mV 0 i) (_ : m_ok g) : ∃ fs, m_ce a q g 0 i = .inr (4, fs) ∧ fs[3]? = some (qm_cv (mLa a) (rdM3 g i)) ∧ qm_ok mV (rdM3 g i) := ⟨_, rfl, rfl, (show 1 < 7 by decide)⟩
def rdM4 (_ : mG) (_ : Nat) : qm_v := qR 3 0
theorem glM4 {a : Nat} {q : mQ} (g : mG) (i : Nat) (_ : mV 0 i) (_ : m_ok g) : ∃ fs, m_ce a q g 0 i = .inr (4, fs) ∧ fs[4]? = some (qm_cv (mLa a) (rdM4 g i)) ∧ qm_ok mV (rdM4 g i) := ⟨_, rfl, rfl, (show 0 < 2 by decide)⟩
def rdM5 (_ : mG) (_ : Nat) : qm_v := qR 1 2
theorem glM5 {a : Nat} {q : mQ} (g : mG) (i : Nat) (_ : mV 0 i) (_ : m_ok g) : ∃ fs, m_ce a q g 0 i = .inr (4, fs) ∧ fs[5]? = some (qm_cv (mLa a) (rdM5 g i)) ∧ qm_ok mV (rdM5 g i) := ⟨_, rfl, rfl, (show 2 < 7 by decide)⟩
def rdM6 (_ : mG) (_ : Nat) : qm_v := qR 1 3
theorem glM6 {a : Nat} {q : mQ} (g : mG) (i : Nat) (_ : mV 0 i) (_ : m_ok g) : ∃ fs, m_ce a q g 0 i = .inr (4, fs) ∧ fs[6]? = some (qm_cv (mLa a) (rdM6 g i)) ∧ qm_ok mV (rdM6 g i) := ⟨_, rfl, rfl, (show 3 < 7 by decide)⟩
def rdM7 (_ : mG) (_ : Nat) : qm_v := qR 2 0
theorem glM7 {a : Nat} {q : mQ} (g : mG) (i : Nat) (_ : mV 0 i) (_ : m_ok g) : ∃ fs, m_ce a q g 0 i = .inr (4, fs) ∧ fs[7]? = some (qm_cv (mLa a) (rdM7 g i)) ∧ qm_ok mV (rdM7 g i) := ⟨_, rfl, rfl, (show 0 < 2 by decide)⟩
def rdM8 (_ : mG) (_ : Nat) : qm_v := qR 1 4
theorem glM8 {a : Nat} {q : mQ} (g : mG) (i : Nat) (_ : mV 0 i) (_ : m_ok g) : ∃ fs, m_ce a q g 0 i = .inr (4, fs) ∧ fs[8]? = some (qm_cv (mLa a) (rdM8 g i)) ∧ qm_ok mV (rdM8 g i) := ⟨_, rfl, rfl, (show 4 < 7 by decide)⟩
def rdM9 (_ : mG) (_ : Nat) : qm_v := qR 3 1
theorem glM9 {a : Nat} {q : mQ} (g : mG) (i : Nat) (_ : mV 0 i) (_ : m_ok g) : ∃ fs, m_ce a q g 0 i = .inr (4, fs) ∧ fs[9]? = some (qm_cv (mLa a) (rdM9 g i)) ∧ qm_ok mV (rdM9 g i) := ⟨_, rfl, rfl, (show 1 < 2 by decide)⟩
def rdM10 (_ : mG) (_ : Nat) : qm_v := qR 1 5
theorem glM10 {a : Nat} {q : mQ} (g : mG) (i : Nat) (_ : mV 0 i) (_ : m_ok g) : ∃ fs, m_ce a q g 0 i = .inr (4, fs) ∧ fs[10]? = some (qm_cv (mLa a) (rdM10 g i)) ∧ qm_ok mV (rdM10 g i) := ⟨_, rfl, rfl, (show 5 < 7 by decide)⟩
def rdM11 (_ : mG) (_ : Nat) : qm_v := qR 2 1
theorem glM11 {a : Nat} {q : mQ} (g : mG) (i : Nat) (_ : mV 0 i) (_ : m_ok g) : ∃ fs, m_ce a q g 0 i = .inr (4, fs) ∧ fs[11]? = some (qm_cv (mLa a) (rdM11 g i)) ∧ qm_ok mV (rdM11 g i) := ⟨_, rfl, rfl, (show 1 < 2 by decide)⟩
def rdM12 (g : mG) (_ : Nat) : qm_v := qI (g.1 2)
theorem glM12 {a : Nat} {q : mQ} (g : mG) (i : Nat) (_ : mV 0 i) (_ : m_ok g) : ∃ fs, m_ce a q g 0 i = .inr (4, fs) ∧ fs[12]? = some (qm_cv (mLa a) (rdM12 g i)) ∧ qm_ok mV (rdM12 g i) := ⟨_, rfl, rfl, trivial⟩
def wrM12 (g : mG) (_ : Nat) (v : qm_v) : Option (List Prop × mG) := match v with
  | .inl x => some ([], (va_up g.1 2 x, g.2))
  | _ => none
theorem plM12 {a : Nat} {q : mQ} (g : mG) (i : Nat) (v : qm_v) (cs : List Prop) (g' : mG) (hV : mV 0 i) (hk : m_ok g) (hv : qm_ok mV v) (h : wrM12 g i v = some (cs, g')) (hc : qm_all cs) : m_ok g' ∧ (∃ fs, m_ce a q g 0 i = .inr (4, fs) ∧ 12 < fs.length ∧ m_ce a q g' 0 i = .inr (4, fs.set 12 (qm_cv (mLa a) v))) ∧ (∀ k j, mV k j → (k ≠ 0 ∨ j ≠ i) → m_ce a q g' k j = m_ce a q g k j) ∧ narrow .int (qm_cv (mLa a) v) = qm_cv (mLa a) v ∧ fits .int (qm_cv (mLa a) v) = true := by
  rcases v with x | x | x
  case inl =>
    cases h
    refine ⟨hk, ⟨_, rfl, Nat.le_of_ble_eq_true rfl, ?_⟩, ?_, rfl, rfl⟩
    · rfl
    · exact fun k j hv hne => me_uN k j hv (by rw [show i = 0 from hV] at hne; exact hne)
  all_goals cases h
def rdM13 (g : mG) (_ : Nat) : qm_v := qI (g.1 3)
theorem glM13 {a : Nat} {q : mQ} (g : mG) (i : Nat) (_ : mV 0 i) (_ : m_ok g) : ∃ fs, m_ce a q g 0 i = .inr (4, fs) ∧ fs[13]? = some (qm_cv (mLa a) (rdM13 g i)) ∧ qm_ok mV (rdM13 g i) := ⟨_, rfl, rfl, trivial⟩
def wrM13 (g : mG) (_ : Nat) (v : qm_v) : Option (List Prop × mG) := match v with
  | .inl x => some ([], (va_up g.1 3 x, g.2))
  | _ => none
theorem plM13 {a : Nat} {q : mQ} (g : mG) (i : Nat) (v : qm_v) (cs : List Prop) (g' : mG) (hV : mV 0 i) (hk : m_ok g) (hv : qm_ok mV v) (h : wrM13 g i v = some (cs, g')) (hc : qm_all cs) : m_ok g' ∧ (∃ fs, m_ce a q g 0 i = .inr (4, fs) ∧ 13 < fs.length ∧ m_ce a q g' 0 i = .inr (4, fs.set 13 (qm_cv (mLa a) v))) ∧ (∀ k j, mV k j → (k ≠ 0 ∨ j ≠ i) → m_ce a q g' k j = m_ce a q g k j) ∧ narrow .int (qm_cv (mLa a) v) = qm_cv (mLa a) v ∧ fits .int (qm_cv (mLa a) v) = true := by
  rcases v with x | x | x
  case inl =>
    cases h
    refine ⟨hk, ⟨_, rfl, Nat.le_of_ble_eq_true rfl, ?_⟩, ?_, rfl, rfl⟩
    · rfl
    · exact fun k j hv hne => me_uN k j hv (by rw [show i = 0 from hV] at hne; exact hne)
  all_goals cases h
def rdM14 (g : mG) (_ : Nat) : qm_v := qI (g.1 4)
theorem glM14 {a : Nat} {q : mQ} (g : mG) (i : Nat) (_ : mV 0 i) (_ : m_ok g) : ∃ fs, m_ce a q g 0 i = .inr (4, fs) ∧ fs[14]? = some (qm_cv (mLa a) (rdM14 g i)) ∧ qm_ok mV (rdM14 g i) := ⟨_, rfl, rfl, trivial⟩
def wrM14 (g : mG) (_ : Nat) (v : qm_v) : Option (List Prop × mG) := match v with
  | .inl x => some ([x = 0 ∨ x = 1], (va_up g.1 4 x, g.2))
  | _ => none
theorem plM14 {a : Nat} {q : mQ} (g : mG) (i : Nat) (v : qm_v) (cs : List Prop) (g' : mG) (hV : mV 0 i) (hk : m_ok g) (hv : qm_ok mV v) (h : wrM14 g i v = some (cs, g')) (hc : qm_all cs) : m_ok g' ∧ (∃ fs, m_ce a q g 0 i = .inr (4, fs) ∧ 14 < fs.length ∧ m_ce a q g' 0 i = .inr (4, fs.set 14 (qm_cv (mLa a) v))) ∧ (∀ k j, mV k j → (k ≠ 0 ∨ j ≠ i) → m_ce a q g' k j = m_ce a q g k j) ∧ narrow .boolean (qm_cv (mLa a) v) = qm_cv (mLa a) v ∧ fits .boolean (qm_cv (mLa a) v) = true := by
  rcases v with x | x | x
  case inl =>
    cases h
    refine ⟨hk, ⟨_, rfl, Nat.le_of_ble_eq_true rfl, ?_⟩, ?_, (show narrow .boolean (.int x) = .int x from by rcases (show x = 0 ∨ x = 1 from hc) with rfl | rfl <;> decide +kernel), (show fits .boolean (.int x) = true from by rcases (show x = 0 ∨ x = 1 from hc) with rfl | rfl <;> decide +kernel)⟩
    · rfl
    · exact fun k j hv hne => me_uN k j hv (by rw [show i = 0 from hV] at hne; exact hne)
  all_goals cases h
def rdM15 (g : mG) (_ : Nat) : qm_v := qI (g.1 5)
theorem glM15 {a : Nat} {q : mQ} (g : mG) (i : Nat) (_ : mV 0 i) (_ : m_ok g) : ∃ fs, m_ce a q g 0 i = .inr (4, fs) ∧ fs[15]? = some (qm_cv (mLa a) (rdM15 g i)) ∧ qm_ok mV (rdM15 g i) := ⟨_, rfl, rfl, trivial⟩
def wrM15 (g : mG) (_ : Nat) (v : qm_v) : Option (List Prop × mG) := match v with
  | .inl x => some ([], (va_up g.1 5 x, g.2))
  | _ => none
theorem plM15 {a : Nat} {q : mQ} (g : mG) (i : Nat) (v : qm_v) (cs : List Prop) (g' : mG) (hV : mV 0 i) (hk : m_ok g) (hv : qm_ok mV v) (h : wrM15 g i v = some (cs, g')) (hc : qm_all cs) : m_ok g' ∧ (∃ fs, m_ce a q g 0 i = .inr (4, fs) ∧ 15 < fs.length ∧ m_ce a q g' 0 i = .inr (4, fs.set 15 (qm_cv (mLa a) v))) ∧ (∀ k j, mV k j → (k ≠ 0 ∨ j ≠ i) → m_ce a q g' k j = m_ce a q g k j) ∧ narrow .int (qm_cv (mLa a) v) = qm_cv (mLa a) v ∧ fits .int (qm_cv (mLa a) v) = true := by
  rcases v with x | x | x
  case inl =>
    cases h
    refine ⟨hk, ⟨_, rfl, Nat.le_of_ble_eq_true rfl, ?_⟩, ?_, rfl, rfl⟩
    · rfl
    · exact fun k j hv hne => me_uN k j hv (by rw [show i = 0 from hV] at hne; exact hne)
  all_goals cases h
def rdM16 (_ : mG) (_ : Nat) : qm_v := qR 1 6
theorem glM16 {a : Nat} {q : mQ} (g : mG) (i : Nat) (_ : mV 0 i) (_ : m_ok g) : ∃ fs, m_ce a q g 0 i = .inr (4, fs) ∧ fs[16]? = some (qm_cv (mLa a) (rdM16 g i)) ∧ qm_ok mV (rdM16 g i) := ⟨_, rfl, rfl, (show 6 < 7 by decide)⟩
