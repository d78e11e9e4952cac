/-! What holds at the law's entry -/
theorem tl_T1 {i : Nat} {w : Cond} (h : tables_1_1[i]? = some w) : w ∈ lw_tbl := List.mem_append_right _ (List.mem_append_left _ (List.mem_of_getElem? h))
theorem tl_T2 {i : Nat} {w : Cond} (h : tables_1_2[i]? = some w) : w ∈ lw_tbl := List.mem_append_right _ (List.mem_append_right _ (List.mem_append_left _ (List.mem_of_getElem? h)))
theorem tl_T3 {i : Nat} {w : Cond} (h : tables_1_3[i]? = some w) : w ∈ lw_tbl := List.mem_append_right _ (List.mem_append_right _ (List.mem_append_right _ (List.mem_append_left _ (List.mem_of_getElem? h))))
theorem tl_g {w : Cond} (h : w ∈ gw_tbl) : w ∈ lw_tbl := (List.mem_filter.mp h).1
def exW (tk : Nat) (adK adV : Nat → Nat) (A : Nat → Prop) (s : State) (H : Heap) : Prop := va_Nw (.methodLinkNest "FunctionRows$Value" 23 yR_isWhole "FunctionRows") s ∧ tkEx tk A s H ∧ wdEx adK adV A s H
theorem exW.kept {tk : Nat} {adK adV : Nat → Nat} {A : Nat → Prop} {s : State} {H H1 : Heap} (h : exW tk adK adV A s H) (hq : ∀ x : Nat, x < H.size → ¬ A x → H1[x]? = H[x]?) : exW tk adK adV A s H1 := ⟨h.1, ⟨h.2.1.1.kept hq, h.2.1.2.kept hq⟩, ⟨h.2.2.1.kept hq, h.2.2.2⟩⟩
theorem jP.narrow {adK adV : Nat → Nat} {A B : Nat → Prop} {s : State} {H : Heap} (h : jP adK adV A s H) (hAB : ∀ x, B x → A x) : jP adK adV B s H := ⟨h.1.narrow hAB, h.2.1.narrow hAB, h.2.2.narrow hAB⟩
abbrev eC0 (l : Launch) (D : va_G) (q : gQ) (a tk : Nat) (adK adV : Nat → Nat) : cEnv := (l, D, gC q, a, exW tk adK adV (fun x => a ≤ x))
theorem exW_ok (l : Launch) (D : va_G) (q : gQ) (a tk : Nat) (adK adV : Nat → Nat) : cOk (eC0 l D q a tk adK adV) :=
  ⟨cLa_inj a, cLa_in a, fun s H H1 h hq => exW.kept h (fun x hx hn => hq x hx (fun z => hn z.1)),
   fun s t H hW h => ⟨h.1.warmM hW, ⟨h.2.1.1.moved hW.alike, h.2.1.2.moved hW.alike⟩, ⟨h.2.2.1.moved hW.alike, h.2.2.2.1.warm hW, h.2.2.2.2.warm hW⟩⟩⟩
theorem exW_nx (l : Launch) (D : va_G) (q : gQ) (a tk : Nat) (adK adV : Nat → Nat) : qm_Nx (eC0 l D q a tk adK adV) := fun s H h => h.1
theorem exW_tk (l : Launch) (D : va_G) (q : gQ) (a tk : Nat) (adK adV : Nat → Nat) : taOpen (eC0 l D q a tk adK adV) := ta_ok (exW_ok l D q a tk adK adV) (tk := tk) (fun s H h => ⟨h.2.1.1.narrow (fun x z => z.1), h.2.1.2.narrow (fun x z => z.1)⟩)
theorem exW_wd (l : Launch) (D : va_G) (q : gQ) (a tk : Nat) (adK adV : Nat → Nat) : woOpen (eC0 l D q a tk adK adV) := wo_ok (exW_ok l D q a tk adK adV) (adK := adK) (adV := adV) (fun s H h => ⟨h.2.2.1.narrow (fun x z => z.1), h.2.2.2⟩)
theorem ar_of {s : State} {ty : FieldType} {args : Array Value} (h : (Cond.arrayClass ty).before args s = true) : ∃ cA : ClassId, ArrOfT s cA ty ∧ s.vm.findClass ("[" ++ ty.toString) = some cA := by
  obtain ⟨c, k, comp, h1, h2, h3⟩ := Cond.arrayClass_spec (args := args) (first := s) (o := none) (s := s) (idx := []) h
  exact ⟨c, fun n z => ⟨(fun k h => by cases h), k, h2, comp, h3⟩, h1⟩
theorem ao_of {s : State} {C : String} {args : Array Value} (h : (Cond.arrayOver (.object C)).before args s = true) : ∃ cA : ClassId, ArrOfT s cA (.object C) ∧ va_RA s cA (.object C) := by
  obtain ⟨comp, c, k, h1, h2, h3, h4, h5⟩ := Cond.arrayOver_spec (args := args) (first := s) (o := none) (s := s) (idx := []) h
  exact ⟨c, fun n z => ⟨(fun k h => by cases h), k, h3, comp, h4⟩, k, comp, h3, h4, h1, h5⟩
theorem ev_K {args : Array Value} {s : State} (hts : ∀ w ∈ lw_tbl, w.before args s = true) : ∃ (D : va_G) (q : gQ), cnW D q s := by
  have hg : ∀ w ∈ gw_tbl, w.before args s = true := fun w h => hts w (tl_g h)
  obtain ⟨c0, i0, h0⟩ := u_known (T := FV) (N := 5) (n := 5) hg fiV (hg _ (tb_T1 (i := 27) rfl rfl))
  obtain ⟨c1, i1, h1⟩ := u_known (T := FE) (N := 10) (n := 10) hg fiE (hg _ (tb_T1 (i := 119) rfl rfl))
  obtain ⟨c2, i2, h2⟩ := u_known (T := FS) (N := 14) (n := 14) hg fiS (hg _ (tb_T1 (i := 70) rfl rfl))
  obtain ⟨c3, i3, h3⟩ := u_known (T := FR) (N := 7) (n := 7) hg fiR (hg _ (tb_T1 (i := 16) rfl rfl))
  obtain ⟨c4, i4, h4⟩ := u_known (T := FM) (N := 17) (n := 17) hg fiM (hg _ (tb_T3 (i := 115) rfl rfl))
  obtain ⟨qB, b1, b2⟩ := ar_of (hts _ (tl_T1 (i := 68) rfl))
  obtain ⟨qI, b3, b4⟩ := ar_of (hts _ (tl_T1 (i := 118) rfl))
  obtain ⟨qL, b5, b6⟩ := ar_of (hts _ (tl_T3 (i := 172) rfl))
  have hE : (Cond.arrayOver (.object "FunctionRows$Expression")).before args s = true := hts _ (tl_T1 (i := 24) rfl)
  have hV : (Cond.arrayOver (.object "FunctionRows$Value")).before args s = true := hts _ (tl_T1 (i := 26) rfl)
  obtain ⟨qE, b7, b8⟩ := ao_of hE
  obtain ⟨qV, b9, b10⟩ := ao_of hV
  refine ⟨(fun c => match c with | 0 => c0 | 1 => c1 | 2 => c2 | 3 => c3 | _ => c4, fun c => match c with | 0 => i0 | 1 => i1 | 2 => i2 | 3 => i3 | _ => i4), (qB, qI, qE, qV, qL), ⟨?_, ?_⟩, va_AO.of hV, va_AO.of hE, va_Nw.of rfl (hts _ (tl_T1 (i := 28) rfl)), va_Nw.of rfl (hts _ (tl_T1 (i := 71) rfl)), va_Nw.of rfl (hts _ (tl_T1 (i := 120) rfl)), va_Nw.of rfl (hts _ (tl_T1 (i := 125) rfl))⟩
  · intro c q hq
    match c, hq with
    | 0, hq => cases hq; exact h0
    | 1, hq => cases hq; exact h1
    | 2, hq => cases hq; exact h2
    | 3, hq => cases hq; exact h3
    | 4, hq => cases hq; exact h4
    | n + 5, hq => cases hq
  · intro k q hq
    match k, hq with
    | 0, hq => cases hq; exact ⟨b1, b2⟩
    | 1, hq => cases hq; exact ⟨b3, b4⟩
    | 2, hq => cases hq; exact ⟨b7, b8⟩
    | 3, hq => cases hq; exact ⟨b9, b10⟩
    | 4, hq => cases hq; exact ⟨b5, b6⟩
    | n + 5, hq => cases hq
abbrev tK (i : Nat) : Term := .string "FunctionRows$Casts" (if i = 0 then 77 else 79)
theorem ev_ex {b : Nat} {s : State} (hgv : (Jvm.Cond.and given_1 narrow_1).before #[Value.ref b] s = true) (hts : ∀ w ∈ lw_tbl, w.before #[Value.ref b] s = true) {A : Nat → Prop} (hA : ∀ x : Nat, x < s.heap.size → ¬ A x) : ∃ (tk : Nat) (adK adV : Nat → Nat), exW tk adK adV A s s.heap := by
  have hs := flat_of_before _ hgv
  have hm : ∀ j, j < 30 → Cond.eq (.elem (.static "FunctionRows" "TAKEN" "[I") (.int (Int32.ofNat j))) (.int (tkL.getD j 0)) ∈ flatC (Jvm.Cond.and given_1 narrow_1) := by decide +kernel
  obtain ⟨tk, t1, t2⟩ := va_Tof (args := #[Value.ref b]) (tm := .static "FunctionRows" "TAKEN" "[I") (ty := .int) (N := 30) (f := fun j => .int (tkL.getD j 0)) (A := A) (by decide) (hs _ (by decide +kernel)) (va_eqt (hs (.eq (.length (.static "FunctionRows" "TAKEN" "[I")) (.int (Int32.ofNat 30))) (by decide +kernel))) (fun j hj => va_eqt (hs _ (hm j hj))) hA
  have z1 : va_Z "FunctionRows" "TAKEN" "[I" (.ref tk) A s s.heap := va_Zof (hts _ (tl_T2 (i := 12) rfl)) (hts _ (tl_T1 (i := 1) rfl)) t1 hA
  have k1 : ∀ i, i < 2 → Cond.exactly (tK i) "java/lang/String" ∈ flatC (Jvm.Cond.and given_1 narrow_1) := by decide +kernel
  have k2 : ∀ i, i < 2 → Cond.eq (.field (tK i) "java/lang/String" "coder" "B") (.int 0) ∈ flatC (Jvm.Cond.and given_1 narrow_1) := by decide +kernel
  have k3 : ∀ i, i < 2 → Cond.arrayOf (.field (tK i) "java/lang/String" "value" "[B") .byte ∈ flatC (Jvm.Cond.and given_1 narrow_1) := by decide +kernel
  have k4 : ∀ i, i < 2 → Cond.eq (.length (.field (tK i) "java/lang/String" "value" "[B")) (.int (Int32.ofNat (jLn.getD i 0))) ∈ flatC (Jvm.Cond.and given_1 narrow_1) := by decide +kernel
  have k5 : ∀ i, i < 2 → ∀ j, j < jLn.getD i 0 → Cond.eq (.elem (.field (tK i) "java/lang/String" "value" "[B") (.int (Int32.ofNat j))) (.int ((jBy.getD i []).getD j 0)) ∈ flatC (Jvm.Cond.and given_1 narrow_1) := by decide +kernel
  have k6 : ∀ i, i < 2 → ∀ j, j < 2 → i ≠ j → Cond.not (.eq (tK i) (tK j)) ∈ flatC (Jvm.Cond.and given_1 narrow_1) ∨ Cond.not (.eq (tK j) (tK i)) ∈ flatC (Jvm.Cond.and given_1 narrow_1) := by decide +kernel
  obtain ⟨adK, adV, v1, v2⟩ := vk_Sof (args := #[Value.ref b]) (s := s) (N := 2) (tm := tK) (len := jLn) (byt := jBy) (A := A) jLn_lt (fun i hi => hs _ (k1 i hi)) (fun i hi => hs _ (k2 i hi)) (fun i hi => hs _ (k3 i hi)) (fun i hi => hs _ (k4 i hi)) (fun i hi j hj => hs _ (k5 i hi j hj)) (fun i j hi hj n => (k6 i hi j hj n).elim (fun h => Or.inl (hs _ h)) (fun h => Or.inr (hs _ h))) hA
  refine ⟨tk, adK, adV, va_Nw.of rfl (hts _ (tl_T1 (i := 223) rfl)), ⟨z1, t2⟩, ⟨v1, ?_, ?_⟩, vk_R.of (hts _ (tl_T2 (i := 227) rfl)) (v2 0 (by decide)), vk_R.of (hts _ (tl_T2 (i := 228) rfl)) (v2 1 (by decide))⟩
  · exact va_Zof (hts _ (tl_T3 (i := 1) rfl)) (hts _ (tl_T1 (i := 11) rfl)) (va_eqi (hs _ (by decide +kernel))) hA
  · exact va_Zqof (hts _ (tl_T3 (i := 17) rfl)) (hts _ (tl_T1 (i := 13) rfl)) (hs _ (by decide +kernel)) hA
