/-! The constructors of values, expressions, searches and of the reference -/
abbrev gQ : Type := ClassId × ClassId × ClassId × ClassId × ClassId
abbrev gTys (q : gQ) : List (ClassId × FieldType) := [(q.1, .byte), (q.2.1, .int), (q.2.2.1, .object "FunctionRows$Expression"), (q.2.2.2.1, .object "FunctionRows$Value"), (q.2.2.2.2, .long)]
def cnW (D : va_G) (q : gQ) (s : State) : Prop := va_K D tcl (gTys q) s ∧ va_AO "FunctionRows$Value" s ∧ va_AO "FunctionRows$Expression" s ∧ va_Nw (.methodLinkNest "FunctionRows" 21 yV_init "FunctionRows") s ∧ va_Nw (.methodLinkNest "FunctionRows" 32 yS_init "FunctionRows") s ∧ va_Nw (.methodLinkNest "FunctionRows" 37 yE_init "FunctionRows") s ∧ va_Nw (.methodLinkNest "FunctionRows$Expression" 11 yV_init "FunctionRows") s
theorem cnW.warm {D : va_G} {q : gQ} {s U : State} (hW : s.WarmedH U.vm) (h : cnW D q s) : cnW D q U := by
  obtain ⟨h1, h2, h3, h4, h5, h6, h7⟩ := h
  exact ⟨h1.moved hW.alike, h2.moved hW.alike, h3.moved hW.alike, h4.warmM hW, h5.warmM hW, h6.warmM hW, h7.warmM hW⟩
def rmC (d mc ms : Nat) : Room := { frames := d, cells := mc, slots := ms, locals := 40 * d }
def gq (D : va_G) (a n' : Nat) (f' : Nat → va_E) : Array Value → State → Outcome → State → Prop := fun _ st oc t => oc = .returned none ∧ gw D a n' f' t.heap ∧ ∀ q : Nat, q < a → t.heap[q]? = st.heap[q]?
def gS (l : Launch) (y : MethodName) (b : ByteArray) (nL d : Nat) (D : va_G) (q : gQ) (a : Nat) (x : va_E) (n' : Nat) (f' : Nat → va_E) (mc ms : Nat) : Prop :=
  Met l y (wsT y b nL none) (rmC d mc ms) (fun v U => v = #[.ref a] ∧ cnW D q U ∧ gw D a 1 (fun _ => x) U.heap) (gq D a n' f') mc ms (fun p => a ≤ p)
section GM
variable {p : Program} {l : Launch} {e : Env} {R : Room} {s : State} {m : MethodId} {args : Array Value} {below : List Frame} {meth : Method} {c : Code} {H H0 : Heap} {locs : List Loc} {cells slots : Nat} {Q : State → Prop}
variable {cc : ByteArray} {pc nL : Nat} {ls : Array Slot} {rest : List Value} {D : va_G} {q : gQ} {a n : Nat} {f : Nat → va_E} {own : String} {y : MethodName} {by2 : ByteArray} {ny : Nat} {ry : Option FieldType}
theorem g_meth {d n' mc ms : Nat} {x : va_E} {f' : Nat → va_E} (hy : plainName y.cls = true) (hin : y.name = "<init>") (hnL : 1 ≤ nL)
    (body : ∀ (p : Program) (e : Env) (s : State) (m : MethodId) (args : Array Value) (below : List Frame) (meth : Method) (c : Code) (ls : Array Slot), CallFix p m c cc nL s args (wsT y cc nL none) y.cls → meth.sig.returnType = none → meth.locks = false → meth.name = "<init>" → cnW D q s → gst D a 1 (fun _ => x) s.heap s.heap [] → lv_has ls nL [(0, .ref a)] → W p l e (rmC d mc ms) s m args below meth c s.heap [] 0 0 (MQ below (gq D a n' f') args s mc ms (fun p => a ≤ p)) (F0 m 0 ls [])) : gS l y cc nL d D q a x n' f' mc ms := by
  refine Met.ofW (cc := cc) (maxL := nL) (ret := none) hy rfl ?_
  intro p e s m args below meth c s₁ B hml hv
  obtain ⟨rfl, hK, hG⟩ := hv
  have hts := atoms_spec (ws := wsT y cc nL none) B.pre
  have hown : s.vm.findClass y.cls = some m.cls := findClass_of_methodNamed B.named
  have hnm : meth.name = "<init>" := (name_of_methodNamed B.named B.method).1.trans hin
  have hl := lv_entry [.ref a] (n := nL) (show (lg_sl [Value.ref a]).length ≤ nL from hnL)
  rw [show (#[.ref a] : Array Value) = [.ref a].toArray from rfl, lg_entry_eq]
  generalize (lg_sl [Value.ref a] ++ List.replicate (nL - (lg_sl [Value.ref a]).length) Slot.unset).toArray = ls at hl ⊢
  exact body p e s m _ below meth c ls ⟨B.exec, B.bytes, hml, hown, hts⟩ B.returns B.notSynchronized hnm hK ⟨hG, fun _ _ => rfl, fun q hq => by cases hq⟩ hl
theorem g_ret {n' : Nat} {f' : Nat → va_E} (C : CallFix p m c cc nL s args (wsT y by2 ny ry) own) (hr : meth.sig.returnType = none) (hk : meth.locks = false) (hw : gst D a n' f' s.heap H locs) (hd : decode cc pc = .ok (.return_, 1)) : W p l e R s m args below meth c H locs cells slots (MQ below (gq D a n' f') args s cells slots (fun p => a ≤ p)) (F0 m pc ls []) :=
  W.vret (hlocks := hk) C.1 C.2.1 hr (fun t ht _ => ⟨rfl, by rw [ht]; exact hw.1, by rw [ht]; exact hw.2.1⟩) hw.2.2 hd
theorem g_obj {idx x : Nat} (C : CallFix p m c cc nL s args (wsT y by2 ny ry) own) (hz : ls.size = nL) (hlk : Cond.methodLink own idx Lib.objectInit ∈ gw_tbl) (hd : decode cc pc = .ok (.invokespecial idx, 3)) (hf : 1 ≤ R.frames) (hlo : 20 ≤ R.locals) (kk : W p l e R s m args below meth c H locs cells slots Q (F0 m (pc + 3) ls [])) : W p l e R s m args below meth c H locs cells slots Q (F0 m pc ls [.ref x]) :=
  W.objInit C.1 C.2.1 C.2.2.2.1 (C.2.2.2.2 _ (tb_in hlk)) (C.2.2.2.2 _ (tb_in (tb_T1 (i := 21) rfl rfl))) (C.2.2.2.2 _ (tb_in (tb_T1 (i := 22) rfl rfl))) rfl (hz.trans C.2.2.1.symm) rfl hd hf (by show 2 * 0 + 0 + 12 ≤ _; omega) kk
theorem g_go {z : MethodName} {n' mc ms k : Nat} {f' : Nat → va_E} {st0 : List Value} {aa : Array Value} (hr : va_Run p l e R s m args below meth c H locs cells slots mc ms (F0 m pc ls st0) rest (gq D (a + k) n' f' aa) (fun p => a + k ≤ p)) (hw : gst D a (k + 1) f H0 H locs)
    (kk : ∀ (H1 : Heap) (locs1 : List Loc), gst D a (k + n') (fun j => if j < k then f j else f' (j - k)) H0 H1 locs1 → W p l e R s m args below meth c H1 locs1 (cells + mc) (slots + ms) Q (F0 m (pc + 3) ls rest)) : W p l e R s m args below meth c H locs cells slots Q (F0 m pc ls st0) := by
  intro T hT X
  obtain ⟨v, st₀, t, T', L, h0, X', hL, e1, e2, ⟨hv, hz, hk⟩, st⟩ := hr T hT X
  cases hv
  obtain ⟨t2, a1, b1⟩ := kk T'.heap (locs ++ L) (hw.join (Nat.le_succ k) (by rw [e1]; exact hz) (fun q hq => by rw [e1, hk q hq, h0]) hL) T' rfl X'
  exact ⟨t2, st t2 a1, b1⟩
theorem g_pre {x : va_E} {k : Nat} (hK : cnW D q s) (hw : gst D a (k + 1) f H0 H locs) (hfk : f k = x) : PreS s H (fun v U => v = #[.ref (a + k)] ∧ cnW D q U ∧ gw D (a + k) 1 (fun _ => x) U.heap) [.ref (a + k)] :=
  ⟨fun a U f mk q => ⟨q.1, q.2.1.warm (U := U.calling f mk a) (State.WarmedH.refl U), q.2.2⟩, fun U hU hW => ⟨rfl, hK.warm hW, by
    rw [hU]
    refine ⟨by rw [hw.1.1]; omega, fun j hj => ?_⟩
    have h := hw.1.2 k (by omega)
    rw [hfk] at h
    rw [show j = 0 by omega]
    exact h⟩⟩
theorem g_callN {z : MethodName} {bz : ByteArray} {nz d idx n' mc ms k : Nat} {x : va_E} {f' : Nat → va_E} {host : String} (C : CallFix p m c cc nL s args (wsT y by2 ny ry) own) (hM : gS l z bz nz d D q (a + k) x n' f' mc ms) (hK : cnW D q s) (hw : gst D a (k + 1) f H0 H locs) (hfk : f k = x) (hcode : Cond.code z bz nz none ∈ gw_tbl) (hini : Cond.initialized z.cls ∈ gw_tbl) (him : Cond.instanceMethod z ∈ gw_tbl) (hnest : va_Nw (.methodLinkNest own idx z host) s) (hz1 : z.name = "<init>") (hzd : z.cls ≠ "java/lang/invoke/MethodHandle" ∧ z.cls ≠ "java/lang/invoke/VarHandle" ∧ (parseMethodDescriptor z.desc).map (fun d => d.parameters.length) = some 0) (hR : d + 1 ≤ R.frames ∧ nz + 19 + 40 * d ≤ R.locals) (hz : ls.size = nL) (hwt : (rest.map fun v => v.category).sum ≤ 8) (hd : decode cc pc = .ok (.invokespecial idx, 3)) (hf : cells + mc ≤ R.cells ∧ slots + ms ≤ R.slots)
    (kk : ∀ (H1 : Heap) (locs1 : List Loc), gst D a (k + n') (fun j => if j < k then f j else f' (j - k)) H0 H1 locs1 → W p l e R s m args below meth c H1 locs1 (cells + mc) (slots + ms) Q (F0 m (pc + 3) ls rest)) : W p l e R s m args below meth c H locs cells slots Q (F0 m pc ls (.ref (a + k) :: rest)) := by
  have hts := C.2.2.2.2
  exact g_go (z := z) (va_runIN (As := []) (rest := rest) C hM ⟨va_cnB 0 hts (tb_goodIn hcode) rfl rfl rfl hnest (hts _ (tb_in hini)) hzd ⟨hR.1, by show 8 + (nz + 11) + 40 * d ≤ _; omega⟩, hz1, hts _ (tb_in him)⟩ (g_pre hK hw hfk) rfl rfl hz rfl (lv_room hwt) hd hf) hw kk
theorem g_callI {z : MethodName} {bz : ByteArray} {nz d idx n' mc ms k : Nat} {x : va_E} {f' : Nat → va_E} (C : CallFix p m c cc nL s args (wsT y by2 ny ry) own) (hM : gS l z bz nz d D q (a + k) x n' f' mc ms) (hK : cnW D q s) (hw : gst D a (k + 1) f H0 H locs) (hfk : f k = x) (hcode : Cond.code z bz nz none ∈ gw_tbl) (hini : Cond.initialized z.cls ∈ gw_tbl) (him : Cond.instanceMethod z ∈ gw_tbl) (hlk : Cond.methodLink own idx z ∈ gw_tbl) (hz1 : z.name = "<init>") (hzd : z.cls ≠ "java/lang/invoke/MethodHandle" ∧ z.cls ≠ "java/lang/invoke/VarHandle" ∧ (parseMethodDescriptor z.desc).map (fun d => d.parameters.length) = some 0) (hR : d + 1 ≤ R.frames ∧ nz + 19 + 40 * d ≤ R.locals) (hz : ls.size = nL) (hwt : (rest.map fun v => v.category).sum ≤ 8) (hd : decode cc pc = .ok (.invokespecial idx, 3)) (hf : cells + mc ≤ R.cells ∧ slots + ms ≤ R.slots)
    (kk : ∀ (H1 : Heap) (locs1 : List Loc), gst D a (k + n') (fun j => if j < k then f j else f' (j - k)) H0 H1 locs1 → W p l e R s m args below meth c H1 locs1 (cells + mc) (slots + ms) Q (F0 m (pc + 3) ls rest)) : W p l e R s m args below meth c H locs cells slots Q (F0 m pc ls (.ref (a + k) :: rest)) := by
  have hts := C.2.2.2.2
  exact g_go (z := z) (va_runI (As := []) (rest := rest) C hM ⟨callB_of 0 hts (tb_goodIn hcode) rfl rfl rfl (hts _ (tb_in hini)) (hts _ (tb_in hlk)) hzd ⟨hR.1, by show 8 + (nz + 11) + 40 * d ≤ _; omega⟩, hz1, hts _ (tb_in him)⟩ (g_pre hK hw hfk) rfl rfl hz rfl (lv_room hwt) hd hf) hw kk
end GM
def vB : va_E := .inr (0, [.int 0, .long 0, .int 0, .int 0, .null])
def vC (q : gQ) (a : Nat) : Nat → va_E
  | 0 => .inr (0, [.int 0, .long 0, .int 0, .int 0, .ref (a + 1)])
  | _ => .inl (q.1, 24, .inl (fun _ => 0))
def eB : va_E := .inr (1, [.null, .int 0, .null, .int 0, .null, .null, .null, .int 0, .int 0, .int 0])
def eC (q : gQ) (a : Nat) : Nat → va_E
  | 0 => .inr (1, [.ref (a + 1), .int 0, .ref (a + 1), .int 0, .null, .null, .null, .int 0, .int 0, .int 0])
  | k + 1 => vC q (a + 1) k
def sB : va_E := .inr (2, [.null, .int 0, .null, .null, .null, .null, .int 0, .null, .null, .int 0, .int 0, .int 0, .int 0, .int 0])
def sC (q : gQ) (a : Nat) : Nat → va_E
  | 0 => .inr (2, [.ref (a + 1), .int 0, .ref (a + 2), .ref (a + 3), .ref (a + 4), .ref (a + 5), .int 0, .ref (a + 6), .ref (a + 7), .int 0, .int 0, .int 0, .int 0, .int 0])
  | k + 1 => .inl (q.2.1, cSl k, .inl (fun _ => 0))

theorem gV_init {l : Launch} {D : va_G} {q : gQ} {a : Nat} : gS l yV_init prog_7_method_1_code 1 1 D q a vB 2 (vC q a) 1 24 := by
  refine g_meth (by decide) rfl (Nat.le_refl 1) ?_
  intro p e s m args below meth c ls C hr hk hnm hK hw hl
  have l0 : ls[0]? = some (.val (.ref a)) := lv_at hl 0 rfl
  refine lv_aload_n C.1 C.2.1 (k := 0) (by decide +kernel) rfl l0 ?_
  refine g_obj (idx := 3) C hl.1 (tb_T1 (i := 31) rfl rfl) (by decide +kernel) (by decide) (by decide) ?_
  refine lv_aload_n C.1 C.2.1 (k := 0) (by decide +kernel) rfl l0 ?_
  refine lv_bipush C.1 C.2.1 (n := 24) (v := 24) (by decide +kernel) (by decide +kernel) ?_
  refine g_newa (t0 := 0) (atype := .byte) (N := 24) (a0 := (24, .inl (fun _ => 0))) C hK.1 hw rfl (tb_T1 (i := 68) rfl rfl) (fun _ => rfl) (by decide +kernel) (by decide +kernel) (by decide) (by decide) (by decide) (by decide +kernel) (fun H hw => ?_)
  refine g_putF (k := 0) (ci := 0) (index := 9) (fi := 4) (fs := [.int 0, .long 0, .int 0, .int 0, .null]) (ty := .array .byte) C hK.1 hw hnm rfl fiV ftV ftV_ok fnV (by omega) rfl (by decide) lkV_9 rfl rfl (by decide +kernel) rfl rfl (Nat.le_of_ble_eq_true rfl) (by decide +kernel) (fun H locs hw => ?_)
  refine g_ret C hr hk (hw.to (fun k hk => ?_)) (by decide +kernel)
  match k, hk with
  | 0, _ => rfl
  | 1, _ => rfl
  | n + 2, h => exact absurd h (by omega)
theorem gE_init {l : Launch} {D : va_G} {q : gQ} {a : Nat} : gS l yE_init prog_3_method_1_code 1 2 D q a eB 3 (eC q a) 2 29 := by
  refine g_meth (by decide) rfl (Nat.le_refl 1) ?_
  intro p e s m args below meth c ls C hr hk hnm hK hw hl
  have l0 : ls[0]? = some (.val (.ref a)) := lv_at hl 0 rfl
  refine lv_aload_n C.1 C.2.1 (k := 0) (by decide +kernel) rfl l0 ?_
  refine g_obj (idx := 3) C hl.1 (tb_T1 (i := 123) rfl rfl) (by decide +kernel) (by decide) (by decide) ?_
  refine lv_aload_n C.1 C.2.1 (k := 0) (by decide +kernel) rfl l0 ?_
  refine g_new (index := 9) (ci := 0) (fs := [.int 0, .long 0, .int 0, .int 0, .null]) C hK.1 hw rfl fiV ftV ftV_ok (tb_T1 (i := 124) rfl rfl) (tb_T1 (i := 27) rfl rfl) inV (by decide +kernel) (by decide) (by decide) (by decide +kernel) (fun H hw _ => ?_)
  refine lv_dup C.1 C.2.1 (by decide +kernel) rfl ?_
  refine g_callN (k := 1) (rest := [.ref (a + 1), .ref a]) C gV_init hK hw rfl cV_init inV (tb_T1 (i := 29) rfl rfl) hK.2.2.2.2.2.2 rfl (by decide +kernel) (by decide) hl.1 (Nat.le_of_ble_eq_true rfl) (by decide +kernel) (by decide) (fun H locs hw => ?_)
  refine g_putF (k := 0) (ci := 1) (index := 12) (fi := 0) (fs := [.null, .int 0, .null, .int 0, .null, .null, .null, .int 0, .int 0, .int 0]) (ty := .object "FunctionRows$Value") C hK.1 hw hnm rfl fiE ftE ftE_ok fnE (by omega) rfl (by decide) lkE_12 rfl rfl (by decide +kernel) rfl rfl (Nat.le_of_ble_eq_true rfl) (by decide +kernel) (fun H locs hw => ?_)
  refine lv_aload_n C.1 C.2.1 (k := 0) (by decide +kernel) rfl l0 ?_
  refine lv_aload_n C.1 C.2.1 (k := 0) (by decide +kernel) rfl l0 ?_
  refine g_get (k := 0) (ci := 1) (index := 12) (fi := 0) (fs := [.ref (a + 1), .int 0, .null, .int 0, .null, .null, .null, .int 0, .int 0, .int 0]) (v := .ref (a + 1)) C hK.1 hw rfl fiE (by omega) rfl (by decide) lkE_12 rfl (by decide +kernel) ?_
  refine g_put (k := 0) (ci := 1) (index := 18) (fi := 2) (fs := [.ref (a + 1), .int 0, .null, .int 0, .null, .null, .null, .int 0, .int 0, .int 0]) (ty := .object "FunctionRows$Value") C hK.1 hw rfl fiE ftE ftE_ok fnE (by omega) rfl (by decide) lkE_18 rfl (by decide +kernel) rfl rfl (Nat.le_of_ble_eq_true rfl) (by decide +kernel) (fun H locs hw => ?_)
  refine g_ret C hr hk (hw.to (fun k hk => ?_)) (by decide +kernel)
  match k, hk with
  | 0, _ => rfl
  | 1, _ => rfl
  | 2, _ => rfl
  | n + 3, h => exact absurd h (by omega)

def sI (q : gQ) (a i : Nat) : Nat → va_E
  | 0 => .inr (2, [(if 0 < i then .ref (a + 1) else .null), .int 0, (if 1 < i then .ref (a + 2) else .null), (if 2 < i then .ref (a + 3) else .null), (if 3 < i then .ref (a + 4) else .null), (if 4 < i then .ref (a + 5) else .null), .int 0, (if 5 < i then .ref (a + 6) else .null), (if 6 < i then .ref (a + 7) else .null), .int 0, .int 0, .int 0, .int 0, .int 0])
  | k + 1 => .inl (q.2.1, cSl k, .inl (fun _ => 0))
set_option maxHeartbeats 4000000 in
theorem gS_init {l : Launch} {D : va_G} {q : gQ} {a : Nat} : gS l yS_init prog_4_method_1_code 1 1 D q a sB 8 (sC q a) 7 368 := by
  refine g_meth (by decide) rfl (Nat.le_refl 1) ?_
  intro p e s m args below meth c ls C hr hk hnm hK hw hl
  have l0 : ls[0]? = some (.val (.ref a)) := lv_at hl 0 rfl
  refine lv_aload_n C.1 C.2.1 (k := 0) (by decide +kernel) rfl l0 ?_
  refine g_obj (idx := 5) C hl.1 (tb_T1 (i := 74) rfl rfl) (by decide +kernel) (by decide) (by decide) ?_
  refine lv_aload_n C.1 C.2.1 (k := 0) (by decide +kernel) rfl l0 ?_
  refine lv_bipush C.1 C.2.1 (n := 64) (v := 64) (by decide +kernel) (by decide +kernel) ?_
  refine g_newa (t0 := 1) (atype := .int) (N := 64) (a0 := (64, .inl (fun _ => 0))) C hK.1 hw rfl (tb_T1 (i := 118) rfl rfl) (fun _ => rfl) (by decide +kernel) (by decide +kernel) (by decide) (Nat.le_of_ble_eq_true rfl) (Nat.le_of_ble_eq_true rfl) (by decide +kernel) (fun H hw => ?_)
  refine g_putF (k := 0) (ci := 2) (index := 11) (fi := 0) (fs := [.null, .int 0, .null, .null, .null, .null, .int 0, .null, .null, .int 0, .int 0, .int 0, .int 0, .int 0]) (ty := .array .int) C hK.1 hw hnm rfl fiS ftS ftS_ok fnS (by omega) rfl (by decide) lkS_11 rfl rfl (by decide +kernel) rfl rfl (Nat.le_of_ble_eq_true rfl) (by decide +kernel) (fun H locs hw => ?_)
  replace hw := hw.to (f' := sI q a 1) (fun k hk => by
    match k, hk with
    | 0, _ => rfl
    | 1, _ => rfl
    | n + 2, h => exact absurd h (by omega))
  refine lv_aload_n C.1 C.2.1 (k := 0) (by decide +kernel) rfl l0 ?_
  refine lv_bipush C.1 C.2.1 (n := 64) (v := 64) (by decide +kernel) (by decide +kernel) ?_
  refine g_newa (t0 := 1) (atype := .int) (N := 64) (a0 := (64, .inl (fun _ => 0))) C hK.1 hw rfl (tb_T1 (i := 118) rfl rfl) (fun _ => rfl) (by decide +kernel) (by decide +kernel) (by decide) (Nat.le_of_ble_eq_true rfl) (Nat.le_of_ble_eq_true rfl) (by decide +kernel) (fun H hw => ?_)
  refine g_putF (k := 0) (ci := 2) (index := 15) (fi := 2) (fs := [.ref (a + 1), .int 0, .null, .null, .null, .null, .int 0, .null, .null, .int 0, .int 0, .int 0, .int 0, .int 0]) (ty := .array .int) C hK.1 hw hnm rfl fiS ftS ftS_ok fnS (by omega) rfl (by decide) lkS_15 rfl rfl (by decide +kernel) rfl rfl (Nat.le_of_ble_eq_true rfl) (by decide +kernel) (fun H locs hw => ?_)
  replace hw := hw.to (f' := sI q a 2) (fun k hk => by
    match k, hk with
    | 0, _ => rfl
    | 1, _ => rfl
    | 2, _ => rfl
    | n + 3, h => exact absurd h (by omega))
  refine lv_aload_n C.1 C.2.1 (k := 0) (by decide +kernel) rfl l0 ?_
  refine lv_bipush C.1 C.2.1 (n := 64) (v := 64) (by decide +kernel) (by decide +kernel) ?_
  refine g_newa (t0 := 1) (atype := .int) (N := 64) (a0 := (64, .inl (fun _ => 0))) C hK.1 hw rfl (tb_T1 (i := 118) rfl rfl) (fun _ => rfl) (by decide +kernel) (by decide +kernel) (by decide) (Nat.le_of_ble_eq_true rfl) (Nat.le_of_ble_eq_true rfl) (by decide +kernel) (fun H hw => ?_)
  refine g_putF (k := 0) (ci := 2) (index := 18) (fi := 3) (fs := [.ref (a + 1), .int 0, .ref (a + 2), .null, .null, .null, .int 0, .null, .null, .int 0, .int 0, .int 0, .int 0, .int 0]) (ty := .array .int) C hK.1 hw hnm rfl fiS ftS ftS_ok fnS (by omega) rfl (by decide) lkS_18 rfl rfl (by decide +kernel) rfl rfl (Nat.le_of_ble_eq_true rfl) (by decide +kernel) (fun H locs hw => ?_)
  replace hw := hw.to (f' := sI q a 3) (fun k hk => by
    match k, hk with
    | 0, _ => rfl
    | 1, _ => rfl
    | 2, _ => rfl
    | 3, _ => rfl
    | n + 4, h => exact absurd h (by omega))
  refine lv_aload_n C.1 C.2.1 (k := 0) (by decide +kernel) rfl l0 ?_
  refine lv_bipush C.1 C.2.1 (n := 64) (v := 64) (by decide +kernel) (by decide +kernel) ?_
  refine g_newa (t0 := 1) (atype := .int) (N := 64) (a0 := (64, .inl (fun _ => 0))) C hK.1 hw rfl (tb_T1 (i := 118) rfl rfl) (fun _ => rfl) (by decide +kernel) (by decide +kernel) (by decide) (Nat.le_of_ble_eq_true rfl) (Nat.le_of_ble_eq_true rfl) (by decide +kernel) (fun H hw => ?_)
  refine g_putF (k := 0) (ci := 2) (index := 21) (fi := 4) (fs := [.ref (a + 1), .int 0, .ref (a + 2), .ref (a + 3), .null, .null, .int 0, .null, .null, .int 0, .int 0, .int 0, .int 0, .int 0]) (ty := .array .int) C hK.1 hw hnm rfl fiS ftS ftS_ok fnS (by omega) rfl (by decide) lkS_21 rfl rfl (by decide +kernel) rfl rfl (Nat.le_of_ble_eq_true rfl) (by decide +kernel) (fun H locs hw => ?_)
  replace hw := hw.to (f' := sI q a 4) (fun k hk => by
    match k, hk with
    | 0, _ => rfl
    | 1, _ => rfl
    | 2, _ => rfl
    | 3, _ => rfl
    | 4, _ => rfl
    | n + 5, h => exact absurd h (by omega))
  refine lv_aload_n C.1 C.2.1 (k := 0) (by decide +kernel) rfl l0 ?_
  refine lv_bipush C.1 C.2.1 (n := 64) (v := 64) (by decide +kernel) (by decide +kernel) ?_
  refine g_newa (t0 := 1) (atype := .int) (N := 64) (a0 := (64, .inl (fun _ => 0))) C hK.1 hw rfl (tb_T1 (i := 118) rfl rfl) (fun _ => rfl) (by decide +kernel) (by decide +kernel) (by decide) (Nat.le_of_ble_eq_true rfl) (Nat.le_of_ble_eq_true rfl) (by decide +kernel) (fun H hw => ?_)
  refine g_putF (k := 0) (ci := 2) (index := 24) (fi := 5) (fs := [.ref (a + 1), .int 0, .ref (a + 2), .ref (a + 3), .ref (a + 4), .null, .int 0, .null, .null, .int 0, .int 0, .int 0, .int 0, .int 0]) (ty := .array .int) C hK.1 hw hnm rfl fiS ftS ftS_ok fnS (by omega) rfl (by decide) lkS_24 rfl rfl (by decide +kernel) rfl rfl (Nat.le_of_ble_eq_true rfl) (by decide +kernel) (fun H locs hw => ?_)
  replace hw := hw.to (f' := sI q a 5) (fun k hk => by
    match k, hk with
    | 0, _ => rfl
    | 1, _ => rfl
    | 2, _ => rfl
    | 3, _ => rfl
    | 4, _ => rfl
    | 5, _ => rfl
    | n + 6, h => exact absurd h (by omega))
  refine lv_aload_n C.1 C.2.1 (k := 0) (by decide +kernel) rfl l0 ?_
  refine lv_bipush C.1 C.2.1 (n := 24) (v := 24) (by decide +kernel) (by decide +kernel) ?_
  refine g_newa (t0 := 1) (atype := .int) (N := 24) (a0 := (24, .inl (fun _ => 0))) C hK.1 hw rfl (tb_T1 (i := 118) rfl rfl) (fun _ => rfl) (by decide +kernel) (by decide +kernel) (by decide) (Nat.le_of_ble_eq_true rfl) (Nat.le_of_ble_eq_true rfl) (by decide +kernel) (fun H hw => ?_)
  refine g_putF (k := 0) (ci := 2) (index := 27) (fi := 7) (fs := [.ref (a + 1), .int 0, .ref (a + 2), .ref (a + 3), .ref (a + 4), .ref (a + 5), .int 0, .null, .null, .int 0, .int 0, .int 0, .int 0, .int 0]) (ty := .array .int) C hK.1 hw hnm rfl fiS ftS ftS_ok fnS (by omega) rfl (by decide) lkS_27 rfl rfl (by decide +kernel) rfl rfl (Nat.le_of_ble_eq_true rfl) (by decide +kernel) (fun H locs hw => ?_)
  replace hw := hw.to (f' := sI q a 6) (fun k hk => by
    match k, hk with
    | 0, _ => rfl
    | 1, _ => rfl
    | 2, _ => rfl
    | 3, _ => rfl
    | 4, _ => rfl
    | 5, _ => rfl
    | 6, _ => rfl
    | n + 7, h => exact absurd h (by omega))
  refine lv_aload_n C.1 C.2.1 (k := 0) (by decide +kernel) rfl l0 ?_
  refine lv_bipush C.1 C.2.1 (n := 24) (v := 24) (by decide +kernel) (by decide +kernel) ?_
  refine g_newa (t0 := 1) (atype := .int) (N := 24) (a0 := (24, .inl (fun _ => 0))) C hK.1 hw rfl (tb_T1 (i := 118) rfl rfl) (fun _ => rfl) (by decide +kernel) (by decide +kernel) (by decide) (Nat.le_of_ble_eq_true rfl) (Nat.le_of_ble_eq_true rfl) (by decide +kernel) (fun H hw => ?_)
  refine g_putF (k := 0) (ci := 2) (index := 30) (fi := 8) (fs := [.ref (a + 1), .int 0, .ref (a + 2), .ref (a + 3), .ref (a + 4), .ref (a + 5), .int 0, .ref (a + 6), .null, .int 0, .int 0, .int 0, .int 0, .int 0]) (ty := .array .int) C hK.1 hw hnm rfl fiS ftS ftS_ok fnS (by omega) rfl (by decide) lkS_30 rfl rfl (by decide +kernel) rfl rfl (Nat.le_of_ble_eq_true rfl) (by decide +kernel) (fun H locs hw => ?_)
  replace hw := hw.to (f' := sI q a 7) (fun k hk => by
    match k, hk with
    | 0, _ => rfl
    | 1, _ => rfl
    | 2, _ => rfl
    | 3, _ => rfl
    | 4, _ => rfl
    | 5, _ => rfl
    | 6, _ => rfl
    | 7, _ => rfl
    | n + 8, h => exact absurd h (by omega))
  refine g_ret C hr hk (hw.to (fun k hk => ?_)) (by decide +kernel)
  match k, hk with
  | 0, _ => rfl
  | 1, _ => rfl
  | 2, _ => rfl
  | 3, _ => rfl
  | 4, _ => rfl
  | 5, _ => rfl
  | 6, _ => rfl
  | 7, _ => rfl
  | n + 8, h => exact absurd h (by omega)

def mB : va_E := .inr (4, [.int 0, .null, .int 0, .null, .null, .null, .null, .null, .null, .null, .null, .null, .int 0, .int 0, .int 0, .int 0, .null])
def m_0 : mG := (fun _ => 0, fun _ _ => 0, fun _ _ => 0, fun _ _ => 0)
abbrev gM (q : gQ) : mQ := (q.1, q.2.1, q.2.2.2.2)
def mC (q : gQ) (a k : Nat) : va_E := m_ce a (gM q) m_0 (mWh k).1 (mWh k).2
def mI (q : gQ) (a i : Nat) : Nat → va_E
  | 0 => .inr (4, [.int 0, (if 0 < i then .ref (a + 1) else .null), .int 0, (if 1 < i then .ref (a + 2) else .null), (if 2 < i then .ref (a + 3) else .null), (if 3 < i then .ref (a + 4) else .null), (if 4 < i then .ref (a + 5) else .null), (if 5 < i then .ref (a + 6) else .null), (if 6 < i then .ref (a + 7) else .null), (if 7 < i then .ref (a + 8) else .null), (if 8 < i then .ref (a + 9) else .null), (if 9 < i then .ref (a + 10) else .null), .int 0, .int 0, .int 0, .int 0, (if 10 < i then .ref (a + 11) else .null)])
  | k + 1 => mC q a (k + 1)
set_option maxHeartbeats 4000000 in
theorem gM_init {l : Launch} {D : va_G} {q : gQ} {a : Nat} : gS l yM_init prog_10_method_1_code 1 1 D q a mB 12 (mC q a) 11 4958 := by
  refine g_meth (by decide) rfl (Nat.le_refl 1) ?_
  intro p e s m args below meth c ls C hr hk hnm hK hw hl
  have l0 : ls[0]? = some (.val (.ref a)) := lv_at hl 0 rfl
  refine lv_aload_n C.1 C.2.1 (k := 0) (by decide +kernel) rfl l0 ?_
  refine g_obj (idx := 1) C hl.1 (tb_T3 (i := 119) rfl rfl) (by decide +kernel) (by decide) (by decide) ?_
  refine lv_aload_n C.1 C.2.1 (k := 0) (by decide +kernel) rfl l0 ?_
  refine lv_bipush C.1 C.2.1 (n := 48) (v := 48) (by decide +kernel) (by decide +kernel) ?_
  refine g_newa (t0 := 1) (atype := .int) (N := 48) (a0 := (48, .inl (fun _ => 0))) C hK.1 hw rfl (tb_T1 (i := 118) rfl rfl) (fun _ => rfl) (by decide +kernel) (by decide +kernel) (by decide) (Nat.le_of_ble_eq_true rfl) (Nat.le_of_ble_eq_true rfl) (by decide +kernel) (fun H hw => ?_)
  refine g_putF (k := 0) (ci := 4) (index := 7) (fi := 1) (fs := [.int 0, .null, .int 0, .null, .null, .null, .null, .null, .null, .null, .null, .null, .int 0, .int 0, .int 0, .int 0, .null]) (ty := .array .int) C hK.1 hw hnm rfl fiM ftM ftM_ok fnM (by omega) rfl (by decide) lkM_7 rfl rfl (by decide +kernel) rfl rfl (Nat.le_of_ble_eq_true rfl) (by decide +kernel) (fun H locs hw => ?_)
  replace hw := hw.to (f' := mI q a 1) (fun k hk => by
    match k, hk with
    | 0, _ => rfl
    | 1, _ => rfl
    | n + 2, h => exact absurd h (by omega))
  refine lv_aload_n C.1 C.2.1 (k := 0) (by decide +kernel) rfl l0 ?_
  refine lv_bipush C.1 C.2.1 (n := 80) (v := 80) (by decide +kernel) (by decide +kernel) ?_
  refine g_newa (t0 := 1) (atype := .int) (N := 80) (a0 := (80, .inl (fun _ => 0))) C hK.1 hw rfl (tb_T1 (i := 118) rfl rfl) (fun _ => rfl) (by decide +kernel) (by decide +kernel) (by decide) (Nat.le_of_ble_eq_true rfl) (Nat.le_of_ble_eq_true rfl) (by decide +kernel) (fun H hw => ?_)
  refine g_putF (k := 0) (ci := 4) (index := 13) (fi := 3) (fs := [.int 0, .ref (a + 1), .int 0, .null, .null, .null, .null, .null, .null, .null, .null, .null, .int 0, .int 0, .int 0, .int 0, .null]) (ty := .array .int) C hK.1 hw hnm rfl fiM ftM ftM_ok fnM (by omega) rfl (by decide) lkM_13 rfl rfl (by decide +kernel) rfl rfl (Nat.le_of_ble_eq_true rfl) (by decide +kernel) (fun H locs hw => ?_)
  replace hw := hw.to (f' := mI q a 2) (fun k hk => by
    match k, hk with
    | 0, _ => rfl
    | 1, _ => rfl
    | 2, _ => rfl
    | n + 3, h => exact absurd h (by omega))
  refine lv_aload_n C.1 C.2.1 (k := 0) (by decide +kernel) rfl l0 ?_
  refine lv_bipush C.1 C.2.1 (n := 80) (v := 80) (by decide +kernel) (by decide +kernel) ?_
  refine g_newa (t0 := 4) (atype := .long) (N := 80) (a0 := (80, .inr (.inl (fun _ => 0)))) C hK.1 hw rfl (tb_T3 (i := 172) rfl rfl) (fun _ => rfl) (by decide +kernel) (by decide +kernel) (by decide) (Nat.le_of_ble_eq_true rfl) (Nat.le_of_ble_eq_true rfl) (by decide +kernel) (fun H hw => ?_)
  refine g_putF (k := 0) (ci := 4) (index := 16) (fi := 4) (fs := [.int 0, .ref (a + 1), .int 0, .ref (a + 2), .null, .null, .null, .null, .null, .null, .null, .null, .int 0, .int 0, .int 0, .int 0, .null]) (ty := .array .long) C hK.1 hw hnm rfl fiM ftM ftM_ok fnM (by omega) rfl (by decide) lkM_16 rfl rfl (by decide +kernel) rfl rfl (Nat.le_of_ble_eq_true rfl) (by decide +kernel) (fun H locs hw => ?_)
  replace hw := hw.to (f' := mI q a 3) (fun k hk => by
    match k, hk with
    | 0, _ => rfl
    | 1, _ => rfl
    | 2, _ => rfl
    | 3, _ => rfl
    | n + 4, h => exact absurd h (by omega))
  refine lv_aload_n C.1 C.2.1 (k := 0) (by decide +kernel) rfl l0 ?_
  refine lv_sipush C.1 C.2.1 (n := 240) (v := 240) (by decide +kernel) (by decide +kernel) ?_
  refine g_newa (t0 := 1) (atype := .int) (N := 240) (a0 := (240, .inl (fun _ => 0))) C hK.1 hw rfl (tb_T1 (i := 118) rfl rfl) (fun _ => rfl) (by decide +kernel) (by decide +kernel) (by decide) (Nat.le_of_ble_eq_true rfl) (Nat.le_of_ble_eq_true rfl) (by decide +kernel) (fun H hw => ?_)
  refine g_putF (k := 0) (ci := 4) (index := 20) (fi := 5) (fs := [.int 0, .ref (a + 1), .int 0, .ref (a + 2), .ref (a + 3), .null, .null, .null, .null, .null, .null, .null, .int 0, .int 0, .int 0, .int 0, .null]) (ty := .array .int) C hK.1 hw hnm rfl fiM ftM ftM_ok fnM (by omega) rfl (by decide) lkM_20 rfl rfl (by decide +kernel) rfl rfl (Nat.le_of_ble_eq_true rfl) (by decide +kernel) (fun H locs hw => ?_)
  replace hw := hw.to (f' := mI q a 4) (fun k hk => by
    match k, hk with
    | 0, _ => rfl
    | 1, _ => rfl
    | 2, _ => rfl
    | 3, _ => rfl
    | 4, _ => rfl
    | n + 5, h => exact absurd h (by omega))
  refine lv_aload_n C.1 C.2.1 (k := 0) (by decide +kernel) rfl l0 ?_
  refine lv_bipush C.1 C.2.1 (n := 80) (v := 80) (by decide +kernel) (by decide +kernel) ?_
  refine g_newa (t0 := 1) (atype := .int) (N := 80) (a0 := (80, .inl (fun _ => 0))) C hK.1 hw rfl (tb_T1 (i := 118) rfl rfl) (fun _ => rfl) (by decide +kernel) (by decide +kernel) (by decide) (Nat.le_of_ble_eq_true rfl) (Nat.le_of_ble_eq_true rfl) (by decide +kernel) (fun H hw => ?_)
  refine g_putF (k := 0) (ci := 4) (index := 23) (fi := 6) (fs := [.int 0, .ref (a + 1), .int 0, .ref (a + 2), .ref (a + 3), .ref (a + 4), .null, .null, .null, .null, .null, .null, .int 0, .int 0, .int 0, .int 0, .null]) (ty := .array .int) C hK.1 hw hnm rfl fiM ftM ftM_ok fnM (by omega) rfl (by decide) lkM_23 rfl rfl (by decide +kernel) rfl rfl (Nat.le_of_ble_eq_true rfl) (by decide +kernel) (fun H locs hw => ?_)
  replace hw := hw.to (f' := mI q a 5) (fun k hk => by
    match k, hk with
    | 0, _ => rfl
    | 1, _ => rfl
    | 2, _ => rfl
    | 3, _ => rfl
    | 4, _ => rfl
    | 5, _ => rfl
    | n + 6, h => exact absurd h (by omega))
  refine lv_aload_n C.1 C.2.1 (k := 0) (by decide +kernel) rfl l0 ?_
  refine lv_sipush C.1 C.2.1 (n := 1920) (v := 1920) (by decide +kernel) (by decide +kernel) ?_
  refine g_newa (t0 := 0) (atype := .byte) (N := 1920) (a0 := (1920, .inl (fun _ => 0))) C hK.1 hw rfl (tb_T1 (i := 68) rfl rfl) (fun _ => rfl) (by decide +kernel) (by decide +kernel) (by decide) (Nat.le_of_ble_eq_true rfl) (Nat.le_of_ble_eq_true rfl) (by decide +kernel) (fun H hw => ?_)
  refine g_putF (k := 0) (ci := 4) (index := 26) (fi := 7) (fs := [.int 0, .ref (a + 1), .int 0, .ref (a + 2), .ref (a + 3), .ref (a + 4), .ref (a + 5), .null, .null, .null, .null, .null, .int 0, .int 0, .int 0, .int 0, .null]) (ty := .array .byte) C hK.1 hw hnm rfl fiM ftM ftM_ok fnM (by omega) rfl (by decide) lkM_26 rfl rfl (by decide +kernel) rfl rfl (Nat.le_of_ble_eq_true rfl) (by decide +kernel) (fun H locs hw => ?_)
  replace hw := hw.to (f' := mI q a 6) (fun k hk => by
    match k, hk with
    | 0, _ => rfl
    | 1, _ => rfl
    | 2, _ => rfl
    | 3, _ => rfl
    | 4, _ => rfl
    | 5, _ => rfl
    | 6, _ => rfl
    | n + 7, h => exact absurd h (by omega))
  refine lv_aload_n C.1 C.2.1 (k := 0) (by decide +kernel) rfl l0 ?_
  refine lv_bipush C.1 C.2.1 (n := 90) (v := 90) (by decide +kernel) (by decide +kernel) ?_
  refine g_newa (t0 := 1) (atype := .int) (N := 90) (a0 := (90, .inl (fun _ => 0))) C hK.1 hw rfl (tb_T1 (i := 118) rfl rfl) (fun _ => rfl) (by decide +kernel) (by decide +kernel) (by decide) (Nat.le_of_ble_eq_true rfl) (Nat.le_of_ble_eq_true rfl) (by decide +kernel) (fun H hw => ?_)
  refine g_putF (k := 0) (ci := 4) (index := 30) (fi := 8) (fs := [.int 0, .ref (a + 1), .int 0, .ref (a + 2), .ref (a + 3), .ref (a + 4), .ref (a + 5), .ref (a + 6), .null, .null, .null, .null, .int 0, .int 0, .int 0, .int 0, .null]) (ty := .array .int) C hK.1 hw hnm rfl fiM ftM ftM_ok fnM (by omega) rfl (by decide) lkM_30 rfl rfl (by decide +kernel) rfl rfl (Nat.le_of_ble_eq_true rfl) (by decide +kernel) (fun H locs hw => ?_)
  replace hw := hw.to (f' := mI q a 7) (fun k hk => by
    match k, hk with
    | 0, _ => rfl
    | 1, _ => rfl
    | 2, _ => rfl
    | 3, _ => rfl
    | 4, _ => rfl
    | 5, _ => rfl
    | 6, _ => rfl
    | 7, _ => rfl
    | n + 8, h => exact absurd h (by omega))
  refine lv_aload_n C.1 C.2.1 (k := 0) (by decide +kernel) rfl l0 ?_
  refine lv_bipush C.1 C.2.1 (n := 90) (v := 90) (by decide +kernel) (by decide +kernel) ?_
  refine g_newa (t0 := 4) (atype := .long) (N := 90) (a0 := (90, .inr (.inl (fun _ => 0)))) C hK.1 hw rfl (tb_T3 (i := 172) rfl rfl) (fun _ => rfl) (by decide +kernel) (by decide +kernel) (by decide) (Nat.le_of_ble_eq_true rfl) (Nat.le_of_ble_eq_true rfl) (by decide +kernel) (fun H hw => ?_)
  refine g_putF (k := 0) (ci := 4) (index := 33) (fi := 9) (fs := [.int 0, .ref (a + 1), .int 0, .ref (a + 2), .ref (a + 3), .ref (a + 4), .ref (a + 5), .ref (a + 6), .ref (a + 7), .null, .null, .null, .int 0, .int 0, .int 0, .int 0, .null]) (ty := .array .long) C hK.1 hw hnm rfl fiM ftM ftM_ok fnM (by omega) rfl (by decide) lkM_33 rfl rfl (by decide +kernel) rfl rfl (Nat.le_of_ble_eq_true rfl) (by decide +kernel) (fun H locs hw => ?_)
  replace hw := hw.to (f' := mI q a 8) (fun k hk => by
    match k, hk with
    | 0, _ => rfl
    | 1, _ => rfl
    | 2, _ => rfl
    | 3, _ => rfl
    | 4, _ => rfl
    | 5, _ => rfl
    | 6, _ => rfl
    | 7, _ => rfl
    | 8, _ => rfl
    | n + 9, h => exact absurd h (by omega))
  refine lv_aload_n C.1 C.2.1 (k := 0) (by decide +kernel) rfl l0 ?_
  refine lv_bipush C.1 C.2.1 (n := 90) (v := 90) (by decide +kernel) (by decide +kernel) ?_
  refine g_newa (t0 := 1) (atype := .int) (N := 90) (a0 := (90, .inl (fun _ => 0))) C hK.1 hw rfl (tb_T1 (i := 118) rfl rfl) (fun _ => rfl) (by decide +kernel) (by decide +kernel) (by decide) (Nat.le_of_ble_eq_true rfl) (Nat.le_of_ble_eq_true rfl) (by decide +kernel) (fun H hw => ?_)
  refine g_putF (k := 0) (ci := 4) (index := 36) (fi := 10) (fs := [.int 0, .ref (a + 1), .int 0, .ref (a + 2), .ref (a + 3), .ref (a + 4), .ref (a + 5), .ref (a + 6), .ref (a + 7), .ref (a + 8), .null, .null, .int 0, .int 0, .int 0, .int 0, .null]) (ty := .array .int) C hK.1 hw hnm rfl fiM ftM ftM_ok fnM (by omega) rfl (by decide) lkM_36 rfl rfl (by decide +kernel) rfl rfl (Nat.le_of_ble_eq_true rfl) (by decide +kernel) (fun H locs hw => ?_)
  replace hw := hw.to (f' := mI q a 9) (fun k hk => by
    match k, hk with
    | 0, _ => rfl
    | 1, _ => rfl
    | 2, _ => rfl
    | 3, _ => rfl
    | 4, _ => rfl
    | 5, _ => rfl
    | 6, _ => rfl
    | 7, _ => rfl
    | 8, _ => rfl
    | 9, _ => rfl
    | n + 10, h => exact absurd h (by omega))
  refine lv_aload_n C.1 C.2.1 (k := 0) (by decide +kernel) rfl l0 ?_
  refine lv_sipush C.1 C.2.1 (n := 2160) (v := 2160) (by decide +kernel) (by decide +kernel) ?_
  refine g_newa (t0 := 0) (atype := .byte) (N := 2160) (a0 := (2160, .inl (fun _ => 0))) C hK.1 hw rfl (tb_T1 (i := 68) rfl rfl) (fun _ => rfl) (by decide +kernel) (by decide +kernel) (by decide) (Nat.le_of_ble_eq_true rfl) (Nat.le_of_ble_eq_true rfl) (by decide +kernel) (fun H hw => ?_)
  refine g_putF (k := 0) (ci := 4) (index := 39) (fi := 11) (fs := [.int 0, .ref (a + 1), .int 0, .ref (a + 2), .ref (a + 3), .ref (a + 4), .ref (a + 5), .ref (a + 6), .ref (a + 7), .ref (a + 8), .ref (a + 9), .null, .int 0, .int 0, .int 0, .int 0, .null]) (ty := .array .byte) C hK.1 hw hnm rfl fiM ftM ftM_ok fnM (by omega) rfl (by decide) lkM_39 rfl rfl (by decide +kernel) rfl rfl (Nat.le_of_ble_eq_true rfl) (by decide +kernel) (fun H locs hw => ?_)
  replace hw := hw.to (f' := mI q a 10) (fun k hk => by
    match k, hk with
    | 0, _ => rfl
    | 1, _ => rfl
    | 2, _ => rfl
    | 3, _ => rfl
    | 4, _ => rfl
    | 5, _ => rfl
    | 6, _ => rfl
    | 7, _ => rfl
    | 8, _ => rfl
    | 9, _ => rfl
    | 10, _ => rfl
    | n + 11, h => exact absurd h (by omega))
  refine lv_aload_n C.1 C.2.1 (k := 0) (by decide +kernel) rfl l0 ?_
  refine lv_bipush C.1 C.2.1 (n := 80) (v := 80) (by decide +kernel) (by decide +kernel) ?_
  refine g_newa (t0 := 1) (atype := .int) (N := 80) (a0 := (80, .inl (fun _ => 0))) C hK.1 hw rfl (tb_T1 (i := 118) rfl rfl) (fun _ => rfl) (by decide +kernel) (by decide +kernel) (by decide) (Nat.le_of_ble_eq_true rfl) (Nat.le_of_ble_eq_true rfl) (by decide +kernel) (fun H hw => ?_)
  refine g_putF (k := 0) (ci := 4) (index := 42) (fi := 16) (fs := [.int 0, .ref (a + 1), .int 0, .ref (a + 2), .ref (a + 3), .ref (a + 4), .ref (a + 5), .ref (a + 6), .ref (a + 7), .ref (a + 8), .ref (a + 9), .ref (a + 10), .int 0, .int 0, .int 0, .int 0, .null]) (ty := .array .int) C hK.1 hw hnm rfl fiM ftM ftM_ok fnM (by omega) rfl (by decide) lkM_42 rfl rfl (by decide +kernel) rfl rfl (Nat.le_of_ble_eq_true rfl) (by decide +kernel) (fun H locs hw => ?_)
  replace hw := hw.to (f' := mI q a 11) (fun k hk => by
    match k, hk with
    | 0, _ => rfl
    | 1, _ => rfl
    | 2, _ => rfl
    | 3, _ => rfl
    | 4, _ => rfl
    | 5, _ => rfl
    | 6, _ => rfl
    | 7, _ => rfl
    | 8, _ => rfl
    | 9, _ => rfl
    | 10, _ => rfl
    | 11, _ => rfl
    | n + 12, h => exact absurd h (by omega))
  refine g_ret C hr hk (hw.to (fun k hk => ?_)) (by decide +kernel)
  match k, hk with
  | 0, _ => rfl
  | 1, _ => rfl
  | 2, _ => rfl
  | 3, _ => rfl
  | 4, _ => rfl
  | 5, _ => rfl
  | 6, _ => rfl
  | 7, _ => rfl
  | 8, _ => rfl
  | 9, _ => rfl
  | 10, _ => rfl
  | 11, _ => rfl
  | n + 12, h => exact absurd h (by omega)

