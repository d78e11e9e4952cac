/-! takes: a static table -/
def tkEx (tk : Nat) (A : Nat → Prop) (s : State) (H : Heap) : Prop := va_Z "FunctionRows" "TAKEN" "[I" (.ref tk) A s H ∧ va_T .int tk 30 (fun j => .int (tkL.getD j 0)) A s H
def tkOk (E : cEnv) (tk : Nat) : Prop := ∀ (s : State) (H : Heap), E.2.2.2.2 s H → tkEx tk (cA E.2.2.2.1) s H
theorem os_tkl {E : cEnv} {tk : Nat} (hT : tkOk E tk) {R : Room} {cc : ByteArray} {nL : Nat} {own : String} {Ts : List Cond} {ret : Option FieldType} {pc idx : Nat} (hd1 : decode cc pc = .ok (.getstatic idx, 3)) (hd2 : decode cc (pc + 3) = .ok (.arraylength, 1)) (hl : Cond.fieldLink own idx "FunctionRows" "TAKEN" "[I" ∈ Ts) : cK E R cc nL own Ts ret pc (pc + 4) (o_ic 30) := by
  intro Fq p e s m args below meth c Q C0 o t hc1 hn H locs ls hA
  obtain ⟨L, S, g⟩ := t
  obtain ⟨a1, a2, a3, a4, a5⟩ := hA
  obtain ⟨⟨cf, kf, fi, f, a, cell, h1, h2, h3, h4, h5, h6, h7, h8⟩, ⟨cell2, k1, k2, k3, k4, k5, k6, k7⟩⟩ := hT s H a1.2.2.2
  refine W.gets C0.1.1 C0.1.2.1 C0.1.2.2.2.1 (C0.1.2.2.2.2 _ hl) h1 h2 h3 h4 h5 (fun e => by rw [e] at h6; cases h6) h7 rfl hd1 ?_
  refine W.alen (n := Int32.ofNat 30) C0.1.1 C0.1.2.1 k1 k2 k5 rfl rfl hd2 ?_
  exact hn H locs ls ⟨a1, a2, qm_fa trivial a3, a4, a5⟩
def o_tka (k : Nat) : qm_op cG := fun o t => match qm_nth t.1 k with
  | some (.inl x) => ([vp_in x 30], none, (t.1, .inl (tkL.getD x.toNatClampNeg 0) :: t.2.1, t.2.2), o)
  | _ => ([False], none, t, o)
theorem os_tka {E : cEnv} {tk : Nat} (hT : tkOk E tk) {R : Room} {cc : ByteArray} {nL : Nat} {own : String} {Ts : List Cond} {ret : Option FieldType} {pc idx k : Nat} {j : Fin 4} (hd1 : decode cc pc = .ok (.getstatic idx, 3)) (hd2 : decode cc (pc + 3) = .ok (.iload_n j, 1)) (hj : (j : Nat) = k) (hd3 : decode cc (pc + 4) = .ok (.iaload, 1)) (hl : Cond.fieldLink own idx "FunctionRows" "TAKEN" "[I" ∈ Ts) : cK E R cc nL own Ts ret pc (pc + 5) (o_tka k) := by
  intro Fq p e s m args below meth c Q C0 o t hc1 hn H locs ls hA
  obtain ⟨L, S, g⟩ := t
  obtain ⟨a1, a2, a3, a4, a5⟩ := hA
  unfold o_tka at hc1 hn
  dsimp only at hc1 hn
  rcases hf : qm_nth L k with _ | x | x <;> rw [hf] at hc1 hn
  · exact hc1.elim
  · obtain ⟨⟨cf, kf, fi, f, a, cell, h1, h2, h3, h4, h5, h6, h7, h8⟩, ⟨cell2, k1, k2, k3, k4, k5, k6, k7⟩⟩ := hT s H a1.2.2.2
    have hin : vp_in x 30 := hc1
    refine W.gets C0.1.1 C0.1.2.1 C0.1.2.2.2.1 (C0.1.2.2.2.2 _ hl) h1 h2 h3 h4 h5 (fun e => by rw [e] at h6; cases h6) h7 rfl hd1 ?_
    refine lv_iload_n C0.1.1 C0.1.2.1 hd2 hj (a4.at hf) ?_
    have hlt : x.toNatClampNeg < 30 := Nat.not_le.mp fun q => hin (Or.inr q)
    have hin' : ¬ (x < 0 ∨ cell2.slots.size ≤ x.toNatClampNeg) := by
      intro q
      rcases q with q | q
      · exact hin (Or.inl q)
      · omega
    refine W.iald (v := .int (tkL.getD x.toNatClampNeg 0)) C0.1.1 C0.1.2.1 k1 k2 k3 hin' (k6 _ hlt) rfl rfl hd3 ?_
    exact hn H locs ls ⟨a1, a2, qm_fa trivial a3, a4, a5⟩
  · exact hc1.elim
theorem lkR_93 : Cond.fieldLink "FunctionRows" 93 "FunctionRows" "TAKEN" "[I" ∈ gw_tbl := tb_T2 (i := 11) (by decide +kernel) (by decide +kernel)
def kR_takes : List (Nat × qm_op cG) := [(0, o_il 1), (1, o_iflt 12), (4, o_il 1), (5, o_ic 30), (9, o_iclt 14), (12, o_ic (-1)), (13, o_reti), (14, o_tka 1), (19, o_reti)]
theorem sR_takes {E : cEnv} (hE : cOk E) {tk : Nat} (hT : tkOk E tk) : qm_cok (cK E (rmL 1) prog_1_method_7_code 2 "FunctionRows" (wsT yR_takes prog_1_method_7_code 2 (some .int)) (some .int)) kR_takes :=
  ⟨os_il_n (j := 1) (by decide +kernel) rfl, os_iflt (off := 11) (by decide +kernel) (by decide), os_il_n (j := 1) (by decide +kernel) rfl, os_tkl hT (idx := 93) (by decide +kernel) (by decide +kernel) (tb_in lkR_93), os_iclt (off := 5) (by decide +kernel) (by decide), os_iconst (n := -1) (by decide +kernel) (by decide +kernel), os_reti hE (by decide +kernel) rfl, os_tka hT (idx := 93) (j := 1) (by decide +kernel) (by decide +kernel) rfl (by decide +kernel) (tb_in lkR_93), os_reti hE (by decide +kernel) rfl⟩
theorem ta_ok {E : cEnv} (hE : cOk E) {tk : Nat} (hT : tkOk E tk) : taOpen E := by
  intro g x
  refine qm_meth hE (by decide) rfl rfl (Nat.le_of_ble_eq_true rfl) ?_
  intro p e s m args below meth c Q C _ _
  unfold tkI at C
  by_cases h1 : x < 0
  · rw [if_pos (Or.inl h1)] at C
    exact qm_step (sR_takes hE hT) C 0 9999 100 ([1], [], []) ⟨h1, rfl, rfl⟩
  · by_cases h2 : 30 ≤ x
    · rw [if_pos (Or.inr h2)] at C
      have h2' : ¬ x < 30 := Int32.not_lt.mpr h2
      exact qm_step (sR_takes hE hT) C 0 9999 100 ([0, 0], [], []) ⟨h1, h2', rfl, rfl⟩
    · rw [if_neg (not_or.mpr ⟨h1, h2⟩)] at C
      have h2' : x < 30 := Int32.not_le.mp h2
      obtain ⟨j, hj31, rfl⟩ := nI_of h1
      have hj : j < 30 := (nI_ltI (b := 30) hj31 (by decide)).mp h2'
      have hin : vp_in (nI j) 30 := vp_in_nI hj (by decide)
      exact qm_step (sR_takes hE hT) C 0 9999 100 ([0, 1], [], []) ⟨h1, h2', hin, rfl, rfl⟩
