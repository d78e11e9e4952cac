/-! appendWord and toWords -/
/-- what is held beside: the two texts, and what String's methods stand on -/
def wdEx (adK adV : Nat → Nat) (A : Nat → Prop) (s : State) (H : Heap) : Prop := jP adK adV A s H ∧ vk_R "FunctionRows$Casts" 77 "true" (adK 0) s ∧ vk_R "FunctionRows$Casts" 79 "false" (adK 1) s
def wdOk (E : cEnv) (adK adV : Nat → Nat) : Prop := ∀ (s : State) (H : Heap), E.2.2.2.2 s H → wdEx adK adV (cA E.2.2.2.1) s H
theorem jBy_len : ∀ w, w < 2 → (jBy.getD w []).length = jLn.getD w 0 := by decide
theorem jBy_and : ∀ w, w < 2 → ∀ k, k < jLn.getD w 0 → (jBy.getD w []).getD k 0 &&& 255 = (jBy.getD w []).getD k 0 := by decide +kernel
theorem jBy_nx (g : cG) (i w k : Nat) (hw : w < 2) (hk : k < jLn.getD w 0) : apS (apN g i ((jBy.getD w []).take k)) i ((jBy.getD w []).getD k 0) = apN g i ((jBy.getD w []).take (k + 1)) := by
  have hl : k < (jBy.getD w []).length := by rw [jBy_len w hw]; exact hk
  have e : (jBy.getD w []).take (k + 1) = (jBy.getD w []).take k ++ [(jBy.getD w []).getD k 0] := by
    generalize jBy.getD w [] = l at hl
    rw [List.take_add_one, List.getD_eq_getElem?_getD, List.getElem?_eq_getElem hl]
    rfl
  rw [e, apN_app]
  rfl
theorem aw_loop {E : cEnv} (hE : cOk E) {adK adV : Nat → Nat} (hW : wdOk E adK adV) {g : cG} {i w : Nat} (hi : i < 89) (hw : w < 2) (h0 : okT g i) {p : Program} {e : Env} {s : State} {m : MethodId} {args : Array Value} {below : List Frame} {meth : Method} {c : Code}
    (C : CallFix p m c prog_2_method_7_code 3 s args (wsT yC_appendWord prog_2_method_7_code 3 none) "FunctionRows$Casts") (hr : meth.sig.returnType = none) (hk : meth.locks = false) :
    ∀ (n k : Nat) (H : Heap) (locs : List Loc) (ls : Array Slot), k + n = jLn.getD w 0 → cHold E s (apN g i ((jBy.getD w []).take k)) H → va_S (cA E.2.2.2.1) s.heap H locs → lv_has ls 3 [(2, .int (nI k)), (0, .ref (cLa E.2.2.2.1 1 i)), (1, .ref (adK w))] →
    W p E.1 e (rmL 5) s m args below meth c H locs 0 0 (MQ below (qm_Qc (cLa E.2.2.2.1) cV (cHold E) (cA E.2.2.2.1) (fun r1 g1 => r1 = none ∧ g1 = apN g i (jBy.getD w []))) args s 0 0 (cA E.2.2.2.1)) (F0 m 2 ls []) := by
  intro n
  have hn := jLn_lt w hw
  induction n with
  | zero =>
    intro k H locs ls hkn hh hS hl
    have l2 : ls[2]? = some (.val (.int (nI k))) := lv_at hl 0 rfl
    have l1 : ls[1]? = some (.val (.ref (adK w))) := lv_at hl 2 rfl
    have hP := (hW s H hh.2.2.2).1
    refine lv_iload_n C.1 C.2.1 (k := 2) (by decide +kernel) rfl l2 ?_
    refine lv_aload_n C.1 C.2.1 (k := 1) (by decide +kernel) rfl l1 ?_
    refine j_callV (n := 0) (idx := 97) (rest := [.int (nI k)]) (r := some (.int (nI (jLn.getD w 0)))) (as := []) C (xJ_le hw) hw (cwT_v (n := 0) (idx := 97) (dy := 1) (dx := 5) cJ_le (tb_T1 (i := 11) (by decide +kernel) (by decide +kernel)) (tb_T2 (i := 232) (by decide +kernel) (by decide +kernel)) (tb_T2 (i := 233) (by decide +kernel) (by decide +kernel)) (tb_T2 (i := 234) (by decide +kernel) (by decide +kernel)) (by decide +kernel) (by decide) s args C.2.2.2.2) hP rfl hl.1 rfl (Nat.le_of_ble_eq_true rfl) (by decide +kernel) ⟨Nat.zero_le _, Nat.zero_le _⟩ ?_
    refine lv_icmp_ge C.1 C.2.1 (off := 18) (tgt := 25) (by decide +kernel) (by decide) (fun _ => ?_) (fun h => absurd (nI_le (by omega) (by omega)) h)
    refine W.vret (hlocks := hk) C.1 C.2.1 hr (fun t ht hT => ⟨none, _, rfl, ⟨rfl, ?_⟩, (fun v hv => by cases hv), hh.out hE hT ht, hS.F ht⟩) hS.2.2 (by decide +kernel)
    rw [List.take_of_length_le (by rw [jBy_len w hw]; omega)]
  | succ n ih =>
    intro k H locs ls hkn hh hS hl
    have l2 : ls[2]? = some (.val (.int (nI k))) := lv_at hl 0 rfl
    have l1 : ls[1]? = some (.val (.ref (adK w))) := lv_at hl 2 rfl
    have l0 : ls[0]? = some (.val (.ref (cLa E.2.2.2.1 1 i))) := lv_at hl 1 rfl
    have hP := (hW s H hh.2.2.2).1
    have hkl : k < jLn.getD w 0 := by omega
    refine lv_iload_n C.1 C.2.1 (k := 2) (by decide +kernel) rfl l2 ?_
    refine lv_aload_n C.1 C.2.1 (k := 1) (by decide +kernel) rfl l1 ?_
    refine j_callV (n := 0) (idx := 97) (rest := [.int (nI k)]) (r := some (.int (nI (jLn.getD w 0)))) (as := []) C (xJ_le hw) hw (cwT_v (n := 0) (idx := 97) (dy := 1) (dx := 5) cJ_le (tb_T1 (i := 11) (by decide +kernel) (by decide +kernel)) (tb_T2 (i := 232) (by decide +kernel) (by decide +kernel)) (tb_T2 (i := 233) (by decide +kernel) (by decide +kernel)) (tb_T2 (i := 234) (by decide +kernel) (by decide +kernel)) (by decide +kernel) (by decide) s args C.2.2.2.2) hP rfl hl.1 rfl (Nat.le_of_ble_eq_true rfl) (by decide +kernel) ⟨Nat.zero_le _, Nat.zero_le _⟩ ?_
    refine lv_icmp_ge C.1 C.2.1 (off := 18) (tgt := 25) (by decide +kernel) (by decide) (fun h => absurd h (nI_ge hkl (by omega))) (fun _ => ?_)
    refine lv_aload_n C.1 C.2.1 (k := 0) (by decide +kernel) rfl l0 ?_
    refine lv_aload_n C.1 C.2.1 (k := 1) (by decide +kernel) rfl l1 ?_
    refine lv_iload_n C.1 C.2.1 (k := 2) (by decide +kernel) rfl l2 ?_
    refine j_callV (n := 1) (idx := 102) (rest := [.ref (cLa E.2.2.2.1 1 i)]) (r := some (.int ((jBy.getD w []).getD k 0 &&& 255))) (as := [.int (nI k)]) C (xJ_ca hw hkl) hw (cwT_v (n := 1) (idx := 102) (dy := 3) (dx := 5) cJ_ca (tb_T1 (i := 11) (by decide +kernel) (by decide +kernel)) (tb_T3 (i := 2) (by decide +kernel) (by decide +kernel)) (tb_T3 (i := 3) (by decide +kernel) (by decide +kernel)) (tb_T3 (i := 4) (by decide +kernel) (by decide +kernel)) (by decide +kernel) (by decide) s args C.2.2.2.2) hP rfl hl.1 rfl (Nat.le_of_ble_eq_true rfl) (by decide +kernel) ⟨Nat.zero_le _, Nat.zero_le _⟩ ?_
    rw [jBy_and w hw k hkl]
    have hV : cV 1 i := hi
    have hat := hh.2.1 1 i hV
    have has : ∀ v ∈ [qR 1 i, qI ((jBy.getD w []).getD k 0)], qm_ok cV v := qm_fa hV (qm_fa trivial (fun v hv => by cases hv))
    have hpre := qm_pre hE (as := [qR 1 i, qI ((jBy.getD w []).getD k 0)]) hh has
    refine qm_go hE (pc := 16) (rest := []) (va_runV (b := cLa E.2.2.2.1 1 i) (As := [.int ((jBy.getD w []).getD k 0)]) (rest := []) C (xV_append hE _ i ((jBy.getD w []).getD k 0) (apN_ok _ h0)) (cwT_v (n := 1) (idx := 85) (dy := 1) (dx := 5) cV_append inV (tb_T3 (i := 40) (by decide +kernel) (by decide +kernel)) imV_append seV_append (by decide +kernel) (by decide) s args C.2.2.2.2) ⟨hpre.1, va_recv hh.1 (qm_one hat) (q0 := 0) (ci := 0) rfl rfl, hpre.2⟩ rfl rfl hl.1 rfl (lv_room (Nat.zero_le _)) (show decode prog_2_method_7_code 16 = _ from by decide +kernel) ⟨Nat.zero_le _, Nat.zero_le _⟩) hS hh.2.2.2 ?_
    rintro r1 g1 H1 locs1 ⟨rfl, rfl⟩ hok hh1 hS1
    refine lv_iinc (n := 1) (v := nI (k + 1)) (k := 0) C.1 C.2.1 (by decide +kernel) hl rfl (nI_1 k) (by decide) rfl (fun ls' hl' => ?_)
    refine lv_goto C.1 C.2.1 (off := -20) (tgt := 2) (by decide +kernel) (by decide) ?_
    rw [jBy_nx g i w k hw hkl] at hh1
    exact ih (k + 1) H1 locs1 ls' (by omega) hh1 hS1 hl'
def aw_M (E : cEnv) (adK : Nat → Nat) (g : cG) (i w : Nat) : Prop := Met E.1 yC_appendWord (wsT yC_appendWord prog_2_method_7_code 3 none) (rmL 5) (fun v U => v = #[.ref (cLa E.2.2.2.1 1 i), .ref (adK w)] ∧ cHold E U g U.heap) (qm_Qc (cLa E.2.2.2.1) cV (cHold E) (cA E.2.2.2.1) (fun r1 g1 => r1 = none ∧ g1 = apN g i (jBy.getD w []))) 0 0 (cA E.2.2.2.1)
theorem aw_ok {E : cEnv} (hE : cOk E) {adK adV : Nat → Nat} (hW : wdOk E adK adV) {g : cG} {i w : Nat} (hi : i < 89) (hw : w < 2) (h0 : okT g i) : aw_M E adK g i w := by
  refine Met.ofW (cc := prog_2_method_7_code) (maxL := 3) (ret := none) (by decide) rfl ?_
  intro p e s m args below meth c s₁ B hml hv
  obtain ⟨rfl, hH⟩ := hv
  have hts := atoms_spec (ws := wsT yC_appendWord prog_2_method_7_code 3 none) B.pre
  have hown : s.vm.findClass "FunctionRows$Casts" = some m.cls := findClass_of_methodNamed B.named
  have hl := lv_entry [.ref (cLa E.2.2.2.1 1 i), .ref (adK w)] (n := 3) (Nat.le_of_ble_eq_true rfl)
  rw [show (#[.ref (cLa E.2.2.2.1 1 i), .ref (adK w)] : Array Value) = [.ref (cLa E.2.2.2.1 1 i), .ref (adK w)].toArray from rfl, lg_entry_eq]
  generalize (lg_sl [Value.ref (cLa E.2.2.2.1 1 i), .ref (adK w)] ++ List.replicate (3 - (lg_sl [Value.ref (cLa E.2.2.2.1 1 i), .ref (adK w)]).length) Slot.unset).toArray = ls at hl ⊢
  have C : CallFix p m c prog_2_method_7_code 3 s [.ref (cLa E.2.2.2.1 1 i), .ref (adK w)].toArray (wsT yC_appendWord prog_2_method_7_code 3 none) "FunctionRows$Casts" := ⟨B.exec, B.bytes, hml, hown, hts⟩
  refine lv_iconst C.1 C.2.1 (n := 0) (v := 0) (by decide +kernel) (by decide +kernel) ?_
  refine lv_istore_n (k := 2) C.1 C.2.1 (by decide +kernel) rfl hl (by decide) rfl (fun ls' hl' => ?_)
  exact aw_loop hE hW hi hw h0 C B.returns B.notSynchronized (jLn.getD w 0) 0 s.heap [] ls' (Nat.zero_add _) hH va_S.rf hl'
def o_word (w : List Int32) : qm_op cG := fun o t => match t.2.1 with
  | [.inr (.inr (some (1, i)))] => ([okT t.2.2 i], some (some 54), (t.1, [], apN t.2.2 i w), o)
  | _ => ([False], none, t, o)
theorem ow_go {E : cEnv} (hE : cOk E) {adK adV : Nat → Nat} (hW : wdOk E adK adV) {g : cG} {i w : Nat} (hi : i < 89) (hw : w < 2) (h0 : okT g i) {p : Program} {e : Env} {s : State} {m : MethodId} {args : Array Value} {below : List Frame} {meth : Method} {c : Code} {Q : State → Prop} {H : Heap} {locs : List Loc} {ls : Array Slot}
    (C : CallFix p m c prog_2_method_6_code 2 s args (wsT yC_toWords prog_2_method_6_code 2 none) "FunctionRows$Casts") (hh : cHold E s g H) (hS : va_S (cA E.2.2.2.1) s.heap H locs) (hz : ls.size = 2)
    (kk : ∀ (H1 : Heap) (locs1 : List Loc), cHold E s (apN g i (jBy.getD w [])) H1 → va_S (cA E.2.2.2.1) s.heap H1 locs1 → W p E.1 e (rmL 6) s m args below meth c H1 locs1 0 0 Q (F0 m 54 ls [])) : W p E.1 e (rmL 6) s m args below meth c H locs 0 0 Q (F0 m 51 ls [.ref (adK w), .ref (cLa E.2.2.2.1 1 i)]) := by
  have hpre : PreS s H (fun v U => v = #[.ref (cLa E.2.2.2.1 1 i), .ref (adK w)] ∧ cHold E U g U.heap) [.ref (cLa E.2.2.2.1 1 i), .ref (adK w)] := ⟨fun a U f mk q => ⟨q.1, q.2.moved hE (s := U) (t := U.calling f mk a) (State.WarmedH.refl U)⟩, fun U hU hW => ⟨rfl, hh.out hE hW hU⟩⟩
  refine qm_go hE (pc := 51) (rest := []) (va_runS (As := [.ref (cLa E.2.2.2.1 1 i), .ref (adK w)]) (rest := []) C (aw_ok hE hW hi hw h0) (cwT_s (n := 2) (idx := 81) (dy := 5) (dx := 6) cC_appendWord inC (tb_T2 (i := 229) (by decide +kernel) (by decide +kernel)) (tb_T2 (i := 230) (by decide +kernel) (by decide +kernel)) (by decide +kernel) (by decide) s args C.2.2.2.2) hpre rfl rfl hz rfl (lv_room (Nat.zero_le _)) (show decode prog_2_method_6_code 51 = _ from by decide +kernel) ⟨Nat.zero_le _, Nat.zero_le _⟩) hS hh.2.2.2 ?_
  rintro r1 g1 H1 locs1 ⟨rfl, rfl⟩ hok hh1 hS1
  exact kk H1 locs1 hh1 hS1
theorem o_word_of {w : List Int32} {o : qm_O cG} {L : List (Option qm_v)} {S : List qm_v} {g : cG} (h : qm_all (o_word w o (L, S, g)).1) : ∃ i, S = [qR 1 i] ∧ okT g i := by
  unfold o_word at h
  dsimp only at h
  split at h
  · next i => exact ⟨i, rfl, h⟩
  · exact h.elim
theorem o_word_eq (w : List Int32) (o : qm_O cG) (L : List (Option qm_v)) (i : Nat) (g : cG) : o_word w o (L, [qR 1 i], g) = ([okT g i], some (some 54), (L, [], apN g i w), o) := rfl
theorem os_word {E : cEnv} (hE : cOk E) {adK adV : Nat → Nat} (hW : wdOk E adK adV) {pc nx w : Nat} {wl : List Int32} (hwl : wl = jBy.getD w []) (hw : w < 2) (hl : ∀ (p : Program) (e : Env) (s : State) (m : MethodId) (args : Array Value) (below : List Frame) (meth : Method) (c : Code) (Q : State → Prop) (H : Heap) (locs : List Loc) (ls : Array Slot) (st : List Value), CallFix p m c prog_2_method_6_code 2 s args (wsT yC_toWords prog_2_method_6_code 2 none) "FunctionRows$Casts" → wdEx adK adV (cA E.2.2.2.1) s H → W p E.1 e (rmL 6) s m args below meth c H locs 0 0 Q (F0 m 51 ls (.ref (adK w) :: st)) → W p E.1 e (rmL 6) s m args below meth c H locs 0 0 Q (F0 m pc ls st)) : cK E (rmL 6) prog_2_method_6_code 2 "FunctionRows$Casts" (wsT yC_toWords prog_2_method_6_code 2 none) none pc nx (o_word wl) := by
  subst hwl
  intro Fq p e s m args below meth c Q C0 o t hc1 hn H locs ls hA
  obtain ⟨L, S, g⟩ := t
  obtain ⟨a1, a2, a3, a4, a5⟩ := hA
  obtain ⟨i, rfl, hok⟩ := o_word_of hc1
  have hi : i < 89 := (qm_fa2 a3).1
  rw [o_word_eq] at hn
  dsimp only at hn
  refine hl p e s m args below meth c Q H locs ls _ C0.1 (hW s H a1.2.2.2) ?_
  exact ow_go hE hW hi hw hok C0.1 a1 a5 a4.1.1 (fun H1 locs1 h1 h2 => hn H1 locs1 ls ⟨h1, a2, (fun v hv => by cases hv), a4, h2⟩)
theorem os_word44 {E : cEnv} (hE : cOk E) {adK adV : Nat → Nat} (hW : wdOk E adK adV) {nx : Nat} {wl : List Int32} (hwl : wl = jBy.getD 0 []) : cK E (rmL 6) prog_2_method_6_code 2 "FunctionRows$Casts" (wsT yC_toWords prog_2_method_6_code 2 none) none 44 nx (o_word wl) :=
  os_word hE hW hwl (by decide) fun p e s m args below meth c Q H locs ls st C h k => va_ldcS C.1 C.2.1 C.2.2.2.1 h.2.1 (by decide +kernel) (lv_goto C.1 C.2.1 (off := 5) (tgt := 51) (by decide +kernel) (by decide) k)
theorem os_word49 {E : cEnv} (hE : cOk E) {adK adV : Nat → Nat} (hW : wdOk E adK adV) {nx : Nat} {wl : List Int32} (hwl : wl = jBy.getD 1 []) : cK E (rmL 6) prog_2_method_6_code 2 "FunctionRows$Casts" (wsT yC_toWords prog_2_method_6_code 2 none) none 49 nx (o_word wl) :=
  os_word hE hW hwl (by decide) fun p e s m args below meth c Q H locs ls st C h k => va_ldcS C.1 C.2.1 C.2.2.2.1 h.2.2 (by decide +kernel) k
def kC_toWords (w0 w1 : List Int32) (P : MethodName × List Cond × Room → List qm_v → cG → Option qm_v → cG → Prop) : List (Nat × qm_op cG) := [(0, o_al 0), (1, o_ic 0), (2, o_callv 1 2 (P mV_startText)), (5, o_al 1), (6, o_get 1 rdV0), (9, o_ic 3), (10, o_icne 26), (13, o_al 0), (14, o_al 1), (15, o_ic 0), (16, o_al 1), (17, o_get 1 rdV3), (20, o_callv 1 4 (P mV_appendPart)), (23, o_go 100), (26, o_al 1), (27, o_get 1 rdV0), (30, o_ic 1), (31, o_icne 57), (34, o_al 0), (35, o_al 1), (36, o_get 1 rdV1), (39, o_lc 1), (40, o_lcne 49), (44, o_word w0), (49, o_word w1), (54, o_go 100), (57, o_al 1), (58, o_get 1 rdV0), (61, o_ic 4), (62, o_icne 74), (65, o_al 0), (66, o_ic 35), (68, o_callv 1 2 (P mV_append)), (71, o_go 89), (74, o_al 1), (75, o_get 1 rdV1), (78, o_lc 0), (79, o_lcge 89), (83, o_al 0), (84, o_ic 45), (86, o_callv 1 2 (P mV_append)), (89, o_al 0), (90, o_al 1), (91, o_get 1 rdV1), (94, o_labs), (97, o_callv 1 2 (P mV_appendDigits)), (100, o_ret0)]
theorem gC_9 {E : cEnv} {R : Room} {cc : ByteArray} {nL : Nat} {ret : Option FieldType} {y : MethodName} {b : ByteArray} {n : Nat} {r : Option FieldType} {pc : Nat} (hd : decode cc pc = .ok (.getfield 9, 3)) : cK E R cc nL "FunctionRows$Casts" (wsT y b n r) ret pc (pc + 3) (o_get 1 rdV0) := os_get (idx := 9) (f := 0) (ci := 0) (C := "FunctionRows$Value") (T := FV) (N := 5) hd rfl (fun w h => tb_in (fiV w h)) (by decide) (tb_in lkC_9) glV0
theorem gC_45 {E : cEnv} {R : Room} {cc : ByteArray} {nL : Nat} {ret : Option FieldType} {y : MethodName} {b : ByteArray} {n : Nat} {r : Option FieldType} {pc : Nat} (hd : decode cc pc = .ok (.getfield 45, 3)) : cK E R cc nL "FunctionRows$Casts" (wsT y b n r) ret pc (pc + 3) (o_get 1 rdV1) := os_get (idx := 45) (f := 1) (ci := 0) (C := "FunctionRows$Value") (T := FV) (N := 5) hd rfl (fun w h => tb_in (fiV w h)) (by decide) (tb_in lkC_45) glV1
theorem mlC_69 : Cond.methodLink "FunctionRows$Casts" 69 yV_startText ∈ gw_tbl := tb_T2 (i := 225) rfl rfl
theorem mlC_73 : Cond.methodLink "FunctionRows$Casts" 73 yV_appendPart ∈ gw_tbl := tb_T2 (i := 226) rfl rfl
theorem mlC_85 : Cond.methodLink "FunctionRows$Casts" 85 yV_append ∈ gw_tbl := tb_T3 (i := 40) rfl rfl
theorem mlC_88 : Cond.methodLink "FunctionRows$Casts" 88 Lib.MathLoose.abs_long.x ∈ gw_tbl := tb_T3 (i := 41) rfl rfl
theorem mlC_94 : Cond.methodLink "FunctionRows$Casts" 94 yV_appendDigits ∈ gw_tbl := tb_T3 (i := 42) rfl rfl
theorem imV_appendDigits : Cond.instanceMethod yV_appendDigits ∈ gw_tbl := tb_T3 (i := 43) rfl rfl
theorem seV_appendDigits : Cond.selects "FunctionRows$Value" yV_appendDigits yV_appendDigits ∈ gw_tbl := tb_T3 (i := 44) rfl rfl
theorem sC_toWords {E : cEnv} (hE : cOk E) {adK adV : Nat → Nat} (hW : wdOk E adK adV) {w0 w1 : List Int32} (h0 : w0 = jBy.getD 0 []) (h1 : w1 = jBy.getD 1 []) : qm_cok (cK E (rmL 6) prog_2_method_6_code 2 "FunctionRows$Casts" (wsT yC_toWords prog_2_method_6_code 2 none) none) (kC_toWords w0 w1 (cSd E)) :=
  ⟨os_al_n (j := 0) (by decide +kernel) rfl, os_iconst (n := 0) (by decide +kernel) (by decide +kernel), os_callv hE (pc := 2) (idx := 69) (ci := 0) (by decide +kernel) rfl crc1 (cwT_v cV_startText inV mlC_69 imV_startText seV_startText (by decide +kernel) (by decide)), os_al_n (j := 1) (by decide +kernel) rfl, gC_9 (by decide +kernel), os_iconst (n := 3) (by decide +kernel) (by decide +kernel), os_icne (off := 16) (by decide +kernel) (by decide), os_al_n (j := 0) (by decide +kernel) rfl, os_al_n (j := 1) (by decide +kernel) rfl, os_iconst (n := 0) (by decide +kernel) (by decide +kernel), os_al_n (j := 1) (by decide +kernel) rfl,
   os_get (idx := 62) (f := 3) (ci := 0) (C := "FunctionRows$Value") (T := FV) (N := 5) (by decide +kernel) rfl (fun w h => tb_in (fiV w h)) (by decide) (tb_in lkC_62) glV3, os_callv hE (pc := 20) (idx := 73) (ci := 0) (by decide +kernel) rfl crc1 (cwT_v cV_appendPart inV mlC_73 imV_appendPart seV_appendPart (by decide +kernel) (by decide)), os_go (off := 77) (by decide +kernel) (by decide), os_al_n (j := 1) (by decide +kernel) rfl, gC_9 (by decide +kernel), os_iconst (n := 1) (by decide +kernel) (by decide +kernel), os_icne (off := 26) (by decide +kernel) (by decide), os_al_n (j := 0) (by decide +kernel) rfl, os_al_n (j := 1) (by decide +kernel) rfl, gC_45 (by decide +kernel), os_lconst (n := 1) (by decide +kernel) (by decide +kernel), os_lcne (off := 8) (by decide +kernel) (by decide +kernel) (by decide),
   os_word44 hE hW h0, os_word49 hE hW h1, os_go (off := 46) (by decide +kernel) (by decide), os_al_n (j := 1) (by decide +kernel) rfl, gC_9 (by decide +kernel), os_iconst (n := 4) (by decide +kernel) (by decide +kernel), os_icne (off := 12) (by decide +kernel) (by decide), os_al_n (j := 0) (by decide +kernel) rfl, os_bipush (n := 35) (by decide +kernel) (by decide +kernel), os_callv hE (pc := 68) (idx := 85) (ci := 0) (by decide +kernel) rfl crc1 (cwT_v cV_append inV mlC_85 imV_append seV_append (by decide +kernel) (by decide)), os_go (off := 18) (by decide +kernel) (by decide), os_al_n (j := 1) (by decide +kernel) rfl, gC_45 (by decide +kernel), os_lconst (n := 0) (by decide +kernel) (by decide +kernel), os_lcge (off := 9) (by decide +kernel) (by decide +kernel) (by decide), os_al_n (j := 0) (by decide +kernel) rfl, os_bipush (n := 45) (by decide +kernel) (by decide +kernel), os_callv hE (pc := 86) (idx := 85) (ci := 0) (by decide +kernel) rfl crc1 (cwT_v cV_append inV mlC_85 imV_append seV_append (by decide +kernel) (by decide)), os_al_n (j := 0) (by decide +kernel) rfl, os_al_n (j := 1) (by decide +kernel) rfl, gC_45 (by decide +kernel), os_labs (idx := 88) (by decide +kernel) (tb_in mlC_88) (tb_in ms_labs) (tb_in mi_math) (tb_in mc_labs) (by decide) (by decide), os_callv hE (pc := 97) (idx := 94) (ci := 0) (by decide +kernel) rfl crc1 (cwT_v cV_appendDigits inV mlC_94 imV_appendDigits seV_appendDigits (by decide +kernel) (by decide)), os_ret0 hE (by decide +kernel) rfl⟩
theorem wo_ok {E : cEnv} (hE : cOk E) {adK adV : Nat → Nat} (hW : wdOk E adK adV) : woOpen E := by
  intro g i a n hai hn ha
  refine qm_meth hE (by decide) rfl rfl (Nat.le_of_ble_eq_true rfl) ?_
  intro p e st mm args below meth c Q C _ _
  have e1 : (stS g i 0).1 a = g.1 a := uV_ne _ _ hai
  have okS := stS_ok g i 0
  have hst : cSd E mV_startText [qR 1 i, qI 0] g none (stS g i 0) := xV_startText hE g i 0
  have hbs : bsl (stS g i 0) a 0 n = bsl g a 0 n := bsl_of rfl 0 n
  have w0 : ([116, 114, 117, 101] : List Int32) = jBy.getD 0 [] := rfl
  have w1 : ([102, 97, 108, 115, 101] : List Int32) = jBy.getD 1 [] := rfl
  unfold twS at C
  generalize ([116, 114, 117, 101] : List Int32) = W0 at w0 C
  generalize ([102, 97, 108, 115, 101] : List Int32) = W1 at w1 C
  generalize stS g i 0 = h at C e1 okS hst hbs
  rw [← e1] at C ha
  by_cases h1 : (h.1 a).1 = 3
  · rw [if_pos h1] at C
    have hap := xV_appendPart hE h i a 0 n n hai okS hn (ha h1) (by omega)
    rw [Nat.zero_add, hbs, ← ha h1] at hap
    exact qm_step (sC_toWords hE hW w0 w1) C 0 9999 100 ([0], [], [(none, h), (none, _)]) ⟨hst, h1, hap, rfl, rfl⟩
  rw [if_neg h1] at C
  by_cases h2 : (h.1 a).1 = 1
  · rw [if_pos h2] at C
    by_cases h3 : (h.1 a).2.1 = 1
    · rw [if_pos h3] at C
      exact qm_step (sC_toWords hE hW w0 w1) C 0 9999 100 ([1, 0, 0], [], [(none, h)]) ⟨hst, h1, h2, h3, okS, rfl, rfl⟩
    · rw [if_neg h3] at C
      exact qm_step (sC_toWords hE hW w0 w1) C 0 9999 100 ([1, 0, 1], [], [(none, h)]) ⟨hst, h1, h2, h3, okS, rfl, rfl⟩
  rw [if_neg h2] at C
  by_cases h4 : (h.1 a).1 = 4
  · rw [if_pos h4] at C
    have e2 : (apS h i 35).1 a = h.1 a := apS_V h i 35 hai
    have hd := xV_appendDigits hE (apS h i 35) i (lAbs ((apS h i 35).1 a).2.1) (apS_ok okS 35)
    rw [← e2] at C
    have hp := xV_append hE h i 35 okS
    generalize apS h i 35 = h' at C e2 hd hp
    exact qm_step (sC_toWords hE hW w0 w1) C 0 9999 100 ([1, 1, 0], [], [(none, h), (none, h'), (none, _)]) ⟨hst, h1, h2, h4, hp, hd, rfl, rfl⟩
  rw [if_neg h4] at C
  by_cases h5 : (h.1 a).2.1 < 0
  · rw [if_pos h5] at C
    have e2 : (apS h i 45).1 a = h.1 a := apS_V h i 45 hai
    have hd := xV_appendDigits hE (apS h i 45) i (lAbs ((apS h i 45).1 a).2.1) (apS_ok okS 45)
    rw [← e2] at C
    have hp := xV_append hE h i 45 okS
    generalize apS h i 45 = h' at C e2 hd hp
    exact qm_step (sC_toWords hE hW w0 w1) C 0 9999 100 ([1, 1, 1, 0], [], [(none, h), (none, h'), (none, _)]) ⟨hst, h1, h2, h4, Int64.not_le.mpr h5, hp, hd, rfl, rfl⟩
  · rw [if_neg h5] at C
    exact qm_step (sC_toWords hE hW w0 w1) C 0 9999 100 ([1, 1, 1, 1], [], [(none, h), (none, _)]) ⟨hst, h1, h2, h4, Int64.not_lt.mp h5, xV_appendDigits hE h i _ okS, rfl, rfl⟩
