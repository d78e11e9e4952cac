/-! The states that the constructors leave -/
theorem arrV_to {cA : ClassId} {n : Nat} {f f' : Nat → Value} (h : ∀ j, j < n → f j = f' j) : arrV cA n f = arrV cA n f' := by
  unfold arrV
  congr 2
  funext j
  exact h j j.2
theorem fR_to {D : va_G} {q : gQ} {a : Nat} {H : Heap} (hw : ∀ k, k < 270 → va_at D tcl (a + k, fR q a 80 8 k) H) (k i : Nat) (hv : cV k i) : va_at D tcl (cLa a k i, c_ce a (gC q) g_0 k i) H := by
  have h1 := cLa_in a k i hv
  have h2 := cWh_of a k i hv
  have h3 := hw (cLa a k i - a) (by have := h1.2; omega)
  rw [show a + (cLa a k i - a) = cLa a k i by have := h1.1; omega] at h3
  by_cases e1 : cLa a k i - a = 1
  · rw [e1] at h2
    cases h2
    rw [e1] at h3
    have h3 : H[cLa a 4 0]? = some (vp_cell q.2.2.1 (80, .inr (.inr (.inr (.inr (fun x => if x < 80 then some (a + 14 + 3 * x) else none)))))) := h3
    show H[cLa a 4 0]? = some (vp_cell q.2.2.1 (80, .inr (.inr (.inr (.inr (fun j => some (cLa a 3 j)))))))
    rw [h3, vp_cell_q, vp_cell_q]
    exact congrArg some (arrV_to (fun j hj => congrArg va_rf (if_pos hj)))
  · by_cases e2 : cLa a k i - a = 2
    · rw [e2] at h2
      cases h2
      rw [e2] at h3
      have h3 : H[cLa a 5 0]? = some (vp_cell q.2.2.2.1 (8, .inr (.inr (.inr (.inr (fun x => if x < 8 then some (a + 254 + 2 * x) else none)))))) := h3
      show H[cLa a 5 0]? = some (vp_cell q.2.2.2.1 (8, .inr (.inr (.inr (.inr (fun j => some (cLa a 1 (80 + j))))))))
      rw [h3, vp_cell_q, vp_cell_q]
      refine congrArg some (arrV_to (fun j hj => ?_))
      have e : cLa a 1 (80 + j) = a + 254 + 2 * j := by rw [cLa_1, if_neg (by omega), if_pos (by omega)]; omega
      rw [e]
      exact congrArg va_rf (if_pos hj)
    · rw [fR_at q a 80 8 e1 e2 h2] at h3
      exact h3
theorem c_start {l : Launch} {D : va_G} {q : gQ} {a : Nat} {ex : State → Heap → Prop} {s : State} {H : Heap} (hK : va_K D tcl (gTys q) s) (hw : ∀ k, k < 270 → va_at D tcl (a + k, fR q a 80 8 k) H) (hx : ex s H) : cHold (l, D, gC q, a, ex) s g_0 H :=
  ⟨hK.sub [0, 1, 2, 3] rfl, fR_to hw, fun i hi => ⟨show i < 89 by omega, (fun j h => by cases h), (fun j h => by cases h), (fun j h => by cases h)⟩, hx⟩
theorem m_start {l : Launch} {D : va_G} {q : gQ} {a : Nat} {s : State} {H : Heap} (hK : va_K D tcl (gTys q) s) (hw : ∀ k, k < 12 → va_at D tcl (a + k, mC q a k) H) : mHold (l, D, gM q, a) s m_0 H :=
  ⟨hK.sub [0, 1, 4] rfl, fun k i hv => by
    obtain ⟨h1, h2⟩ := mWh_of k i hv
    have h3 := hw (mOf k i) h2
    unfold mC at h3
    rw [h1] at h3
    exact h3, trivial, trivial⟩
theorem rel_0 : Rel g_0 m_0 0 0 := by
  have hv : ∀ j, vGd g_0 j ∧ mGd m_0 j ∧ cVA g_0 j = mVA m_0 j := fun j => ⟨⟨Or.inl rfl, fun h => absurd h (show ¬ (0 : Int32) = 3 by decide)⟩, ⟨Or.inl rfl, fun h => absurd h (show ¬ (0 : Int32) = 3 by decide), fun h => absurd rfl h⟩, rfl⟩
  exact ⟨⟨by omega, by omega⟩, rfl, ⟨rfl, rfl⟩, fun k h => absurd h (by omega), fun k h => absurd h (by omega), fun v _ => hv _, hv 88, fun x _ => ⟨fun h => absurd h (show ¬ (0 : Int32) = 3 by decide), fun h => absurd h (show ¬ (0 : Int32) = 2 by decide)⟩⟩
