/-! The JDK's String methods over the two texts "true" and "false" -/
def jLn : List Nat := [4, 5]
def jBy : List (List Int32) := [[116, 114, 117, 101], [102, 97, 108, 115, 101]]
def jP (adK adV : Nat → Nat) (A : Nat → Prop) (s : State) (H : Heap) : Prop :=
  vk_S 2 jLn jBy adK adV A s H ∧ va_Z "java/lang/String" "COMPACT_STRINGS" "Z" (.int 1) A s H ∧ va_Zq "jdk/internal/util/Preconditions" "SIOOBE_FORMATTER" "Ljava/util/function/BiFunction;" A s H
theorem jP.moved {adK adV : Nat → Nat} {A : Nat → Prop} {s t : State} {H : Heap} (hv : s.vm.Alike t.vm) (h : jP adK adV A s H) : jP adK adV A t H := ⟨h.1.moved hv, h.2.1.moved hv, h.2.2.moved hv⟩
theorem jP.kept {adK adV : Nat → Nat} {A : Nat → Prop} {s : State} {H H1 : Heap} (h : jP adK adV A s H) (hq : ∀ a : Nat, a < H.size → ¬ A a → H1[a]? = H[a]?) : jP adK adV A s H1 := ⟨h.1.kept hq, h.2.1.kept hq, h.2.2.kept hq⟩
def jq (r : Option Value) : Array Value → State → Outcome → State → Prop := fun _ st oc t => oc = .returned r ∧ t.heap = st.heap
def jS (adK adV : Nat → Nat) (A : Nat → Prop) (l : Launch) (mt : MethodName × List Cond × Room) (as : List Value) (r : Option Value) : Prop :=
  Met l mt.1 mt.2.1 mt.2.2 (fun v U => v = as.toArray ∧ jP adK adV A U U.heap) (jq r) 0 0 (fun _ => False)
section JM
variable {p : Program} {l : Launch} {e : Env} {R : Room} {s : State} {m : MethodId} {args : Array Value} {below : List Frame} {meth : Method} {c : Code} {H : Heap} {locs : List Loc} {Q : State → Prop} {cells slots : Nat}
variable {adK adV : Nat → Nat} {A : Nat → Prop}
theorem j_pre {as : List Value} (h : jP adK adV A s H) : PreS s H (fun v U => v = as.toArray ∧ jP adK adV A U U.heap) as :=
  ⟨fun a U f mk q => ⟨q.1, q.2.moved (t := U.calling f mk a) (Vm.Alike.refl U.vm)⟩, fun U hU hW => ⟨rfl, by rw [hU]; exact h.moved hW.alike⟩⟩
theorem j_go {pc : Nat} {ls : Array Slot} {st0 rest : List Value} {a : Array Value} {r : Option Value}
    (hr : va_Run p l e R s m args below meth c H locs cells slots 0 0 (F0 m pc ls st0) rest (jq r a) (fun _ => False))
    (kk : W p l e R s m args below meth c H locs cells slots Q (F0 m (pc + 3) ls (r.toList ++ rest))) : W p l e R s m args below meth c H locs cells slots Q (F0 m pc ls st0) := by
  intro T hT X
  obtain ⟨v, st₀, t, T', L, h0, X', hL, e1, e2, ⟨hv, hz⟩, st⟩ := hr T hT X
  cases hv
  have hn : L = [] := List.eq_nil_iff_forall_not_mem.mpr hL
  subst hn
  rw [List.append_nil] at X'
  obtain ⟨t2, a1, b1⟩ := kk T' (by rw [e1, hz, h0]) X'
  exact ⟨t2, st t2 a1, b1⟩
theorem j_meth {y : MethodName} {cc : ByteArray} {nL : Nat} {ret : Option FieldType} {Ts ws' : List Cond} {as : List Value} {r : Option Value} (hy : plainName y.cls = true) (hws : Ts = Cond.code y cc nL ret :: ws') (hfit : (lg_sl as).length ≤ nL)
    (body : ∀ (p : Program) (e : Env) (s : State) (m : MethodId) (args : Array Value) (below : List Frame) (meth : Method) (c : Code) (ls : Array Slot), CallFix p m c cc nL s args Ts y.cls → meth.sig.returnType = ret → meth.locks = false → jP adK adV A s s.heap → lv_has ls nL (lv_args 0 as) → W p l e R s m args below meth c s.heap [] 0 0 (MQ below (jq r) args s 0 0 (fun _ => False)) (F0 m 0 ls [])) : jS adK adV A l (y, Ts, R) as r := by
  refine Met.ofW (cc := cc) (maxL := nL) (ret := ret) hy hws ?_
  intro p e s m args below meth c s₁ B hml hv
  obtain ⟨rfl, hH⟩ := hv
  have hts := atoms_spec (ws := Ts) B.pre
  have hown : s.vm.findClass y.cls = some m.cls := findClass_of_methodNamed B.named
  have hl := lv_entry as (n := nL) hfit
  rw [lg_entry_eq]
  generalize (lg_sl as ++ List.replicate (nL - (lg_sl as).length) Slot.unset).toArray = ls at hl ⊢
  exact body p e s m _ below meth c ls ⟨B.exec, B.bytes, hml, hown, hts⟩ B.returns B.notSynchronized hH hl
theorem j_alen {cc : ByteArray} {pc : Nat} {ls : Array Slot} {rest : List Value} {ty : FieldType} {t N : Nat} {f : Nat → Value} (hexec : p.tables.exec = Jvm.exec) (hb : c.code = cc) (hT : va_T ty t N f A s H) (hd : decode cc pc = .ok (.arraylength, 1)) (kk : W p l e R s m args below meth c H locs cells slots Q (F0 m (pc + 1) ls (.int (nI N) :: rest))) : W p l e R s m args below meth c H locs cells slots Q (F0 m pc ls (.ref t :: rest)) := by
  obtain ⟨cell, k1, k2, k3, k4, k5, k6, k7⟩ := hT
  exact W.alen (n := nI N) hexec hb k1 k2 k5 rfl rfl hd kk
theorem j_bald {cc : ByteArray} {pc : Nat} {ls : Array Slot} {rest : List Value} {t N j : Nat} {f : Nat → Value} (hexec : p.tables.exec = Jvm.exec) (hb : c.code = cc) (hT : va_T .byte t N f A s H) (hj : j < N) (hN : N < 2 ^ 31) (hd : decode cc pc = .ok (.baload, 1)) (kk : W p l e R s m args below meth c H locs cells slots Q (F0 m (pc + 1) ls (f j :: rest))) : W p l e R s m args below meth c H locs cells slots Q (F0 m pc ls (.int (nI j) :: .ref t :: rest)) := by
  obtain ⟨cell, k1, k2, k3, k4, k5, k6, k7⟩ := hT
  have hcl : (nI j).toNatClampNeg = j := nI_clamp (by omega)
  refine W.bald (v := f j) hexec hb k1 k2 k3 ?_ (by rw [hcl]; exact k6 j hj) rfl rfl hd kk
  rintro (h | h)
  · exact nI_pos (by omega) h
  · rw [hcl] at h
    omega
theorem j_callS {cc : ByteArray} {nL n idx maxL pc : Nat} {Ts ws : List Cond} {own : String} {y : MethodName} {bytes : ByteArray} {ret : Option FieldType} {rm : Room} {as rest : List Value} {r : Option Value} {ls : Array Slot} {st0 : List Value} (C : CallFix p m c cc nL s args Ts own) (hM : jS adK adV A l (y, ws, rm) as r) (cw : CallB R s args own idx y bytes maxL ret ws rm 0 0 n ∧ (Cond.static y).before args s = true) (hP : jP adK adV A s H) (hn : as.length = n) (hz : ls.size = nL) (hst : st0 = as.reverse ++ rest) (hw : (rest.map fun v => v.category).sum ≤ 8) (hd : decode cc pc = .ok (.invokestatic idx, 3)) (hf : cells ≤ R.cells ∧ slots ≤ R.slots)
    (kk : W p l e R s m args below meth c H locs cells slots Q (F0 m (pc + 3) ls (r.toList ++ rest))) : W p l e R s m args below meth c H locs cells slots Q (F0 m pc ls st0) :=
  j_go (va_runS (As := as) C hM cw (j_pre hP) rfl hn hz hst (lv_room hw) hd hf) kk
theorem j_callV {cc : ByteArray} {nL n idx maxL pc i : Nat} {Ts ws : List Cond} {own : String} {y : MethodName} {bytes : ByteArray} {ret : Option FieldType} {rm : Room} {as rest : List Value} {r : Option Value} {ls : Array Slot} {st0 : List Value} (C : CallFix p m c cc nL s args Ts own) (hM : jS adK adV A l (y, ws, rm) (.ref (adK i) :: as) r) (hi : i < 2) (cw : CallW R s args own "java/lang/String" idx y bytes maxL ret ws rm 0 0 n) (hP : jP adK adV A s H) (hn : as.length = n) (hz : ls.size = nL) (hst : st0 = as.reverse ++ .ref (adK i) :: rest) (hw : (rest.map fun v => v.category).sum ≤ 8) (hd : decode cc pc = .ok (.invokevirtual idx, 3)) (hf : cells ≤ R.cells ∧ slots ≤ R.slots)
    (kk : W p l e R s m args below meth c H locs cells slots Q (F0 m (pc + 3) ls (r.toList ++ rest))) : W p l e R s m args below meth c H locs cells slots Q (F0 m pc ls st0) := by
  have hp := j_pre (as := .ref (adK i) :: as) hP
  obtain ⟨cell, h1, h2, h3, -⟩ := (hP.1.1 i hi).1
  exact j_go (va_runV (b := adK i) (As := as) C hM cw ⟨hp.1, ⟨cell, h1, h2, h3⟩, hp.2⟩ rfl hn hz hst (lv_room hw) hd hf) kk
end JM
def yJ_check : MethodName := { cls := "jdk/internal/util/Preconditions", name := "checkIndex", desc := "(IILjava/util/function/BiFunction;)I" }
def yJ_ci : MethodName := { cls := "java/lang/String", name := "checkIndex", desc := "(II)V" }
def yJ_lc : MethodName := { cls := "java/lang/StringLatin1", name := "charAt", desc := "([BI)C" }
def yJ_il : MethodName := { cls := "java/lang/String", name := "isLatin1", desc := "()Z" }
def yJ_ca : MethodName := { cls := "java/lang/String", name := "charAt", desc := "(I)C" }
def yJ_co : MethodName := { cls := "java/lang/String", name := "coder", desc := "()B" }
def yJ_le : MethodName := { cls := "java/lang/String", name := "length", desc := "()I" }
def mJ_check : MethodName × List Cond × Room := (yJ_check, wsT yJ_check prog_15_method_11_code 3 (some .int), rmL 0)
def mJ_ci : MethodName × List Cond × Room := (yJ_ci, wsT yJ_ci prog_12_method_155_code 2 none, rmL 1)
def mJ_lc : MethodName × List Cond × Room := (yJ_lc, wsT yJ_lc prog_13_method_2_code 2 (some .char), rmL 2)
def mJ_il : MethodName × List Cond × Room := (yJ_il, wsT yJ_il prog_12_method_154_code 1 (some .boolean), rmL 0)
def mJ_ca : MethodName × List Cond × Room := (yJ_ca, wsT yJ_ca prog_12_method_56_code 2 (some .char), rmL 3)
def mJ_co : MethodName × List Cond × Room := (yJ_co, wsT yJ_co prog_12_method_152_code 1 (some .byte), rmL 0)
def mJ_le : MethodName × List Cond × Room := (yJ_le, wsT yJ_le prog_12_method_54_code 1 (some .int), rmL 1)
theorem cJ_check : Cond.code yJ_check prog_15_method_11_code 3 (some .int) ∈ gw_tbl := tb_T3 (i := 20) rfl rfl
theorem cJ_ci : Cond.code yJ_ci prog_12_method_155_code 2 none ∈ gw_tbl := tb_T3 (i := 15) rfl rfl
theorem cJ_lc : Cond.code yJ_lc prog_13_method_2_code 2 (some .char) ∈ gw_tbl := tb_T3 (i := 12) rfl rfl
theorem cJ_il : Cond.code yJ_il prog_12_method_154_code 1 (some .boolean) ∈ gw_tbl := tb_T3 (i := 9) rfl rfl
theorem cJ_ca : Cond.code yJ_ca prog_12_method_56_code 2 (some .char) ∈ gw_tbl := tb_T3 (i := 5) rfl rfl
theorem cJ_co : Cond.code yJ_co prog_12_method_152_code 1 (some .byte) ∈ gw_tbl := tb_T2 (i := 239) rfl rfl
theorem cJ_le : Cond.code yJ_le prog_12_method_54_code 1 (some .int) ∈ gw_tbl := tb_T2 (i := 235) rfl rfl
section JX
variable {l : Launch} {adK adV : Nat → Nat} {A : Nat → Prop}
theorem xJ_check {j n : Nat} {v : Value} (hj : j < n) (hn : n < 2 ^ 31) (hc : v.category = 1) : jS adK adV A l mJ_check [.int (nI j), .int (nI n), v] (some (.int (nI j))) := by
  refine j_meth (by decide) rfl (by simp [lg_sl, hc]; exact Nat.le_refl 3) ?_
  intro p e s m args below meth c ls C hr hk hP hl
  have l0 : ls[0]? = some (.val (.int (nI j))) := lv_at hl 0 rfl
  have l1 : ls[1]? = some (.val (.int (nI n))) := lv_at hl 1 rfl
  refine lv_iload_n C.1 C.2.1 (k := 0) (by decide +kernel) rfl l0 ?_
  refine lv_if_lt C.1 C.2.1 (off := 8) (tgt := 9) (by decide +kernel) (by decide) (fun h => absurd h (nI_pos (by omega))) (fun _ => ?_)
  refine lv_iload_n C.1 C.2.1 (k := 0) (by decide +kernel) rfl l0 ?_
  refine lv_iload_n C.1 C.2.1 (k := 1) (by decide +kernel) rfl l1 ?_
  refine lv_icmp_lt C.1 C.2.1 (off := 10) (tgt := 16) (by decide +kernel) (by decide) (fun _ => ?_) (fun h => absurd (nI_lt hj hn) h)
  refine lv_iload_n C.1 C.2.1 (k := 0) (by decide +kernel) rfl l0 ?_
  exact W.iret (hlocks := hk) C.1 C.2.1 hr (fun t ht _ => ⟨rfl, ht⟩) (fun q hq => by cases hq) (by decide +kernel)
theorem xJ_ci {j n : Nat} (hj : j < n) (hn : n < 2 ^ 31) : jS adK adV A l mJ_ci [.int (nI j), .int (nI n)] none := by
  refine j_meth (by decide) rfl (Nat.le_refl 2) ?_
  intro p e s m args below meth c ls C hr hk hP hl
  have l0 : ls[0]? = some (.val (.int (nI j))) := lv_at hl 0 rfl
  have l1 : ls[1]? = some (.val (.int (nI n))) := lv_at hl 1 rfl
  refine lv_iload_n C.1 C.2.1 (k := 0) (by decide +kernel) rfl l0 ?_
  refine lv_iload_n C.1 C.2.1 (k := 1) (by decide +kernel) rfl l1 ?_
  have hz : ∃ v : Value, v.category = 1 ∧ va_Z "jdk/internal/util/Preconditions" "SIOOBE_FORMATTER" "Ljava/util/function/BiFunction;" v A s s.heap := by
    rcases hP.2.2 with h | ⟨t, h⟩
    · exact ⟨_, rfl, h⟩
    · exact ⟨_, rfl, h⟩
  obtain ⟨v, hv, hz⟩ := hz
  refine va_gets (index := 1053) C.1 C.2.1 hz va_S.rf C.2.2.2.1 (C.2.2.2.2 _ (tb_in (tb_T3 (i := 16) (by decide +kernel) (by decide +kernel)))) (fun _ h => h) (by decide +kernel) ?_
  refine j_callS (n := 3) (idx := 1059) (rest := []) (r := some (.int (nI j))) (as := [.int (nI j), .int (nI n), v]) C (xJ_check hj hn hv) (cwT_s (n := 3) (idx := 1059) (dy := 0) (dx := 1) cJ_check (tb_T1 (i := 13) (by decide +kernel) (by decide +kernel)) (tb_T3 (i := 18) (by decide +kernel) (by decide +kernel)) (tb_T3 (i := 19) (by decide +kernel) (by decide +kernel)) (by decide +kernel) (by decide) s args C.2.2.2.2) hP rfl hl.1 rfl (by decide) (by decide +kernel) ⟨Nat.zero_le _, Nat.zero_le _⟩ ?_
  refine lv_pop C.1 C.2.1 (by decide +kernel) rfl ?_
  exact W.vret (hlocks := hk) C.1 C.2.1 hr (fun t ht _ => ⟨rfl, ht⟩) (fun q hq => by cases hq) (by decide +kernel)
theorem jLn_lt : ∀ i, i < 2 → jLn.getD i 0 < 2 ^ 31 := by decide
theorem xJ_lc {i j : Nat} (hi : i < 2) (hj : j < jLn.getD i 0) : jS adK adV A l mJ_lc [.ref (adV i), .int (nI j)] (some (.int ((jBy.getD i []).getD j 0 &&& 255))) := by
  have hn := jLn_lt i hi
  refine j_meth (by decide) rfl (Nat.le_refl 2) ?_
  intro p e s m args below meth c ls C hr hk hP hl
  have l0 : ls[0]? = some (.val (.ref (adV i))) := lv_at hl 0 rfl
  have l1 : ls[1]? = some (.val (.int (nI j))) := lv_at hl 1 rfl
  refine lv_iload_n C.1 C.2.1 (k := 1) (by decide +kernel) rfl l1 ?_
  refine lv_aload_n C.1 C.2.1 (k := 0) (by decide +kernel) rfl l0 ?_
  refine j_alen C.1 C.2.1 (hP.1.1 i hi).2.2.2 (by decide +kernel) ?_
  refine j_callS (n := 2) (idx := 9) (rest := []) (r := none) (as := [.int (nI j), .int (nI (jLn.getD i 0))]) C (xJ_ci hj hn) (cwT_s (n := 2) (idx := 9) (dy := 1) (dx := 2) cJ_ci (tb_T1 (i := 11) (by decide +kernel) (by decide +kernel)) (tb_T3 (i := 13) (by decide +kernel) (by decide +kernel)) (tb_T3 (i := 14) (by decide +kernel) (by decide +kernel)) (by decide +kernel) (by decide) s args C.2.2.2.2) hP rfl hl.1 rfl (by decide) (by decide +kernel) ⟨Nat.zero_le _, Nat.zero_le _⟩ ?_
  refine lv_aload_n C.1 C.2.1 (k := 0) (by decide +kernel) rfl l0 ?_
  refine lv_iload_n C.1 C.2.1 (k := 1) (by decide +kernel) rfl l1 ?_
  refine j_bald C.1 C.2.1 (hP.1.1 i hi).2.2.2 hj hn (by decide +kernel) ?_
  refine lv_sipush C.1 C.2.1 (n := 255) (v := 255) (by decide +kernel) (by decide +kernel) ?_
  refine lv_iand C.1 C.2.1 (by decide +kernel) ?_
  refine lv_i2c C.1 C.2.1 (v := (jBy.getD i []).getD j 0 &&& 255) (by decide +kernel) (sc_c2 _) ?_
  exact W.zret (hlocks := hk) C.1 C.2.1 hr (sc_nar _) (fun t ht _ => ⟨rfl, ht⟩) (fun q hq => by cases hq) (by decide +kernel)
theorem xJ_il {i : Nat} (hi : i < 2) : jS adK adV A l mJ_il [.ref (adK i)] (some (.int 1)) := by
  refine j_meth (by decide) rfl (Nat.le_refl 1) ?_
  intro p e s m args below meth c ls C hr hk hP hl
  have l0 : ls[0]? = some (.val (.ref (adK i))) := lv_at hl 0 rfl
  refine va_gets (index := 38) C.1 C.2.1 hP.2.1 va_S.rf C.2.2.2.1 (C.2.2.2.2 _ (tb_in (tb_T3 (i := 0) (by decide +kernel) (by decide +kernel)))) (fun _ h => h) (by decide +kernel) ?_
  refine lv_if_eq C.1 C.2.1 (off := 14) (tgt := 17) (by decide +kernel) (by decide) (fun h => by cases h) (fun _ => ?_)
  refine lv_aload_n C.1 C.2.1 (k := 0) (by decide +kernel) rfl l0 ?_
  refine vk_getf (index := 15) C.1 C.2.1 (hP.1.1 i hi).2.1 va_S.rf C.2.2.2.1 (C.2.2.2.2 _ (tb_in (tb_T4 (i := 168) (by decide +kernel) (by decide +kernel)))) (fun _ h => h) (by decide +kernel) ?_
  refine lv_if_ne C.1 C.2.1 (off := 7) (tgt := 17) (by decide +kernel) (by decide) (fun h => absurd rfl h) (fun _ => ?_)
  refine lv_iconst C.1 C.2.1 (n := 1) (v := 1) (by decide +kernel) (by decide +kernel) ?_
  refine lv_goto C.1 C.2.1 (off := 4) (tgt := 18) (by decide +kernel) (by decide) ?_
  exact W.zret (hlocks := hk) C.1 C.2.1 hr (by decide +kernel) (fun t ht _ => ⟨rfl, ht⟩) (fun q hq => by cases hq) (by decide +kernel)
theorem xJ_co {i : Nat} (hi : i < 2) : jS adK adV A l mJ_co [.ref (adK i)] (some (.int 0)) := by
  refine j_meth (by decide) rfl (Nat.le_refl 1) ?_
  intro p e s m args below meth c ls C hr hk hP hl
  have l0 : ls[0]? = some (.val (.ref (adK i))) := lv_at hl 0 rfl
  refine va_gets (index := 38) C.1 C.2.1 hP.2.1 va_S.rf C.2.2.2.1 (C.2.2.2.2 _ (tb_in (tb_T3 (i := 0) (by decide +kernel) (by decide +kernel)))) (fun _ h => h) (by decide +kernel) ?_
  refine lv_if_eq C.1 C.2.1 (off := 10) (tgt := 13) (by decide +kernel) (by decide) (fun h => by cases h) (fun _ => ?_)
  refine lv_aload_n C.1 C.2.1 (k := 0) (by decide +kernel) rfl l0 ?_
  refine vk_getf (index := 15) C.1 C.2.1 (hP.1.1 i hi).2.1 va_S.rf C.2.2.2.1 (C.2.2.2.2 _ (tb_in (tb_T4 (i := 168) (by decide +kernel) (by decide +kernel)))) (fun _ h => h) (by decide +kernel) ?_
  refine lv_goto C.1 C.2.1 (off := 4) (tgt := 14) (by decide +kernel) (by decide) ?_
  exact W.zret (hlocks := hk) C.1 C.2.1 hr (by decide +kernel) (fun t ht _ => ⟨rfl, ht⟩) (fun q hq => by cases hq) (by decide +kernel)
theorem xJ_le {i : Nat} (hi : i < 2) : jS adK adV A l mJ_le [.ref (adK i)] (some (.int (nI (jLn.getD i 0)))) := by
  have hn := jLn_lt i hi
  refine j_meth (by decide) rfl (Nat.le_refl 1) ?_
  intro p e s m args below meth c ls C hr hk hP hl
  have l0 : ls[0]? = some (.val (.ref (adK i))) := lv_at hl 0 rfl
  refine lv_aload_n C.1 C.2.1 (k := 0) (by decide +kernel) rfl l0 ?_
  refine vk_getf (index := 9) C.1 C.2.1 (hP.1.1 i hi).2.2.1 va_S.rf C.2.2.2.1 (C.2.2.2.2 _ (tb_in (tb_T4 (i := 167) (by decide +kernel) (by decide +kernel)))) (fun _ h => h) (by decide +kernel) ?_
  refine j_alen C.1 C.2.1 (hP.1.1 i hi).2.2.2 (by decide +kernel) ?_
  refine lv_aload_n C.1 C.2.1 (k := 0) (by decide +kernel) rfl l0 ?_
  refine j_callV (n := 0) (idx := 335) (rest := [.int (nI (jLn.getD i 0))]) (r := some (.int 0)) (as := []) C (xJ_co hi) hi (cwT_v (n := 0) (idx := 335) (dy := 0) (dx := 1) cJ_co (tb_T1 (i := 11) (by decide +kernel) (by decide +kernel)) (tb_T2 (i := 236) (by decide +kernel) (by decide +kernel)) (tb_T2 (i := 237) (by decide +kernel) (by decide +kernel)) (tb_T2 (i := 238) (by decide +kernel) (by decide +kernel)) (by decide +kernel) (by decide) s args C.2.2.2.2) hP rfl hl.1 rfl (Nat.le_of_ble_eq_true rfl) (by decide +kernel) ⟨Nat.zero_le _, Nat.zero_le _⟩ ?_
  refine lv_ishr C.1 C.2.1 (by decide +kernel) ?_
  have hx : nI (jLn.getD i 0) >>> ((0 : Int32) &&& 31) = nI (jLn.getD i 0) := sc_shr0 (by omega)
  rw [hx]
  exact W.iret (hlocks := hk) C.1 C.2.1 hr (fun t ht _ => ⟨rfl, ht⟩) (fun q hq => by cases hq) (by decide +kernel)
theorem xJ_ca {i j : Nat} (hi : i < 2) (hj : j < jLn.getD i 0) : jS adK adV A l mJ_ca [.ref (adK i), .int (nI j)] (some (.int ((jBy.getD i []).getD j 0 &&& 255))) := by
  have hn := jLn_lt i hi
  refine j_meth (by decide) rfl (Nat.le_refl 2) ?_
  intro p e s m args below meth c ls C hr hk hP hl
  have l0 : ls[0]? = some (.val (.ref (adK i))) := lv_at hl 0 rfl
  have l1 : ls[1]? = some (.val (.int (nI j))) := lv_at hl 1 rfl
  refine lv_aload_n C.1 C.2.1 (k := 0) (by decide +kernel) rfl l0 ?_
  refine j_callV (n := 0) (idx := 492) (rest := []) (r := some (.int 1)) (as := []) C (xJ_il hi) hi (cwT_v (n := 0) (idx := 492) (dy := 0) (dx := 3) cJ_il (tb_T1 (i := 11) (by decide +kernel) (by decide +kernel)) (tb_T3 (i := 6) (by decide +kernel) (by decide +kernel)) (tb_T3 (i := 7) (by decide +kernel) (by decide +kernel)) (tb_T3 (i := 8) (by decide +kernel) (by decide +kernel)) (by decide +kernel) (by decide) s args C.2.2.2.2) hP rfl hl.1 rfl (Nat.le_of_ble_eq_true rfl) (by decide +kernel) ⟨Nat.zero_le _, Nat.zero_le _⟩ ?_
  refine lv_if_eq C.1 C.2.1 (off := 12) (tgt := 16) (by decide +kernel) (by decide) (fun h => by cases h) (fun _ => ?_)
  refine lv_aload_n C.1 C.2.1 (k := 0) (by decide +kernel) rfl l0 ?_
  refine vk_getf (index := 9) C.1 C.2.1 (hP.1.1 i hi).2.2.1 va_S.rf C.2.2.2.1 (C.2.2.2.2 _ (tb_in (tb_T4 (i := 167) (by decide +kernel) (by decide +kernel)))) (fun _ h => h) (by decide +kernel) ?_
  refine lv_iload_n C.1 C.2.1 (k := 1) (by decide +kernel) rfl l1 ?_
  refine j_callS (n := 2) (idx := 495) (rest := []) (r := some (.int ((jBy.getD i []).getD j 0 &&& 255))) (as := [.ref (adV i), .int (nI j)]) C (xJ_lc hi hj) (cwT_s (n := 2) (idx := 495) (dy := 2) (dx := 3) cJ_lc (tb_T1 (i := 12) (by decide +kernel) (by decide +kernel)) (tb_T3 (i := 10) (by decide +kernel) (by decide +kernel)) (tb_T3 (i := 11) (by decide +kernel) (by decide +kernel)) (by decide +kernel) (by decide) s args C.2.2.2.2) hP rfl hl.1 rfl (by decide) (by decide +kernel) ⟨Nat.zero_le _, Nat.zero_le _⟩ ?_
  exact W.zret (hlocks := hk) C.1 C.2.1 hr (sc_nar _) (fun t ht _ => ⟨rfl, ht⟩) (fun q hq => by cases hq) (by decide +kernel)
end JX
