/-! THE CLAIM OUT OF ONE WALK OF THE LAW'S BODY. Your part is whole_start (and what it stands on); all else here is the same for every law, but numbers. -/
def R_law : String := "FunctionRowsLaw"
def lw_P (b : Addr) (xs : List Int32) (args : Array Value) (s : State) : Prop := args = #[.ref b] ∧ s.IntsAt b xs ∧ xs.length ≤ 2560 ∧ (Jvm.Cond.and given_1 narrow_1).before args s = true
def lw_Q (_ : Array Value) (s : State) (o : Outcome) (t : State) : Prop := o = .returned (some (.int 1)) ∧ Framed s o t [] 600000 7302250
def lw_Z (below : List Frame) (a : Array Value) (s : State) : State → Prop := fun t => ∃ o, t.status = .running ∧ Ended t below o ∧ lw_Q a s o t
/-- the law's own end, with 1 on the stack, nothing written that was there before, its room as the claim has it -/
theorem lw_ret {p : Program} {l : Launch} {e : Env} {s : State} {m : MethodId} {below : List Frame} {meth : Method} {c : Code} {b : Nat} (hx : p.tables.exec = Jvm.exec) (hb : c.code = code) (hr : meth.sig.returnType = ret) (hlocks : meth.locks = false) {pc : Nat} {H : Heap} {ls : Array Slot} (hdg : decode code pc = .ok (.ireturn, 1)) : W p l e room_1 s m #[Value.ref b] below meth c H [] 600000 7302250 (lw_Z below #[Value.ref b] s) (F0 m pc ls [.int 1]) := by
  intro T hT X
  obtain ⟨fs, hret, hrun, hended, hW, hframe⟩ := X.leave (v := some (.int 1)) (hlocks := hlocks) (fun h => by rw [hr] at h; cases h)
  have hmeth' : T.vm.method? m = some meth := X.method'
  refine ⟨T.setFrames fs, ?_, .returned (some (.int 1)), hrun, hended, rfl, ⟨_, rfl⟩, hW, hframe⟩
  jvm_step X.here [X.here.top, hx, hb, hdg, hmeth', hr, ret, narrow_b1]
  (try refine ⟨rfl, ?_⟩); (try refine ⟨rfl, ?_⟩)
  first | (intro acts; rw [hret _ acts rfl rfl rfl]) | rw [hret _ _ rfl rfl rfl]
  exact Steps.refl _
/-- what holds at the law's entry: the machine, the code, the tables' words (any of lw_tbl by 'hts w (by decide +kernel)'), the script of L ints xs at the cell b, what the Statement gives of the start (any of its parts by flat_of_before) -/
def lw_At (p : Program) (s : State) (m : MethodId) (meth : Method) (c : Code) (b L : Nat) (xs : Nat → Int32) : Prop :=
  p.tables.exec = Jvm.exec ∧ c.code = code ∧ meth.sig.returnType = ret ∧ c.maxLocals = 4 ∧ s.vm.findClass R_law = some m.cls ∧ (∀ w ∈ lw_tbl, w.before #[Value.ref b] s = true) ∧ va_X b L xs s s.heap ∧ b < s.heap.size ∧ meth.locks = false ∧ (Jvm.Cond.and given_1 narrow_1).before #[Value.ref b] s = true
/-! Rows of the law's walk -/
theorem ql_go {G : Type} {D : va_G} {cl : List vw_C} {tys : List (ClassId × FieldType)} {Λ : Nat → Nat → Nat} {V : Nat → Nat → Prop} {ce : G → Nat → Nat → va_E} {okg : G → Prop} {ex : State → Heap → Prop} {A B : Nat → Prop} (hsys : qm_sys Λ V ex A) (hAB : ∀ q, A q → B q) {p : Program} {l : Launch} {e : Env} {R : Room} {s : State} {m : MethodId} {args : Array Value} {below : List Frame} {meth : Method} {c : Code} {H : Heap} {locs : List Loc} {cells slots : Nat} {Q : State → Prop} {pc : Nat} {ls : Array Slot} {st0 rest : List Value} {aa : Array Value} {Fq : Option qm_v → G → Prop}
    (hr : va_Run p l e R s m args below meth c H locs cells slots 0 0 (F0 m pc ls st0) rest (qm_Qc Λ V (qm_hold D cl tys Λ V ce okg ex) A Fq aa) A) (hS : va_S B s.heap H locs) (hx : ex s H)
    (kk : ∀ (r : Option qm_v) (g : G) (H1 : Heap) (locs1 : List Loc), Fq r g → qm_hold D cl tys Λ V ce okg ex s g H1 → (∀ q : Nat, q < H.size → ¬ A q → H1[q]? = H[q]?) → va_S B s.heap H1 locs1 → W p l e R s m args below meth c H1 locs1 cells slots Q (F0 m (pc + 3) ls ((r.map (qm_cv Λ)).toList ++ rest))) : W p l e R s m args below meth c H locs cells slots Q (F0 m pc ls st0) := by
  intro T hT X
  obtain ⟨v, st₀, t, T', L, h0, X', hL, e1, e2, ⟨r, g, hv, hF, hok, hh, hz, hk⟩, st⟩ := hr T hT X
  cases hv
  rw [h0] at hz hk
  have hal : s.vm.Alike t.vm := by rw [← e2]; exact X'.warmed.alike
  obtain ⟨t2, a1, b1⟩ := kk r g T'.heap (locs ++ L) hF (by rw [e1]; exact ⟨va_K.moved hal.symm hh.1, hh.2.1, hh.2.2.1, hsys.2.2.1 s H t.heap hx (fun q h1 h2 => hk q h1 h2)⟩) (fun q h1 h2 => by rw [e1]; exact hk q h1 h2)
    ⟨Nat.le_trans hS.1 (by rw [e1]; exact hz), fun q h1 h2 => by rw [e1, hk q (Nat.lt_of_lt_of_le h1 hS.1) (fun z => h2 (hAB q z))]; exact hS.2.1 q h1 h2, fun q hq => by
      rcases List.mem_append.mp hq with h | h
      · exact hS.2.2 q h
      · exact hAB _ (hL q h)⟩ T' rfl X'
  exact ⟨t2, st t2 a1, b1⟩
theorem ql_kept {G : Type} {D : va_G} {cl : List vw_C} {tys : List (ClassId × FieldType)} {Λ : Nat → Nat → Nat} {V : Nat → Nat → Prop} {ce : G → Nat → Nat → va_E} {okg : G → Prop} {ex : State → Heap → Prop} {s : State} {g : G} {H H1 : Heap} {A : Nat → Prop} (h : qm_hold D cl tys Λ V ce okg ex s g H) (ho : ∀ q : Nat, q < H.size → ¬ A q → H1[q]? = H[q]?) (hA : ∀ k i, V k i → ¬ A (Λ k i)) (hx : ex s H1) : qm_hold D cl tys Λ V ce okg ex s g H1 :=
  ⟨h.1, fun k i hv => (h.2.1 k i hv).kept (ho _ (h.2.1 k i hv).lt (hA k i hv)), h.2.2.1, hx⟩
abbrev lT : List Cond := wsT yV_init prog_7_method_1_code 1 none
abbrev lC (p : Program) (m : MethodId) (c : Code) (s : State) (b : Nat) : Prop := CallFix p m c code 4 s #[Value.ref b] lT "FunctionRowsLaw"
theorem lC_of {p : Program} {s : State} {m : MethodId} {meth : Method} {c : Code} {b L : Nat} {xs : Nat → Int32} (C0 : lw_At p s m meth c b L xs) : lC p m c s b :=
  ⟨C0.1, C0.2.1, C0.2.2.2.1, C0.2.2.2.2.1, fun w hw => by
    rcases List.mem_cons.mp hw with rfl | hw
    · exact C0.2.2.2.2.2.1 _ (tl_g cV_init)
    · exact C0.2.2.2.2.2.1 _ (tl_g hw)⟩
/-- what holds between two calls -/
def lI (l : Launch) (D : va_G) (q : gQ) (tk : Nat) (adK adV : Nat → Nat) (s : State) (g : cG) (m' : mG) (H : Heap) (locs : List Loc) : Prop :=
  cHold (eC0 l D q s.heap.size tk adK adV) s g H ∧ mHold (l, D, gM q, s.heap.size + 270) s m' H ∧ va_S (fun x => s.heap.size ≤ x) s.heap H locs
section LAW
variable {p : Program} {l : Launch} {e : Env} {s : State} {m : MethodId} {below : List Frame} {meth : Method} {c : Code} {b L : Nat} {xs : Nat → Int32} {H : Heap} {locs : List Loc} {Q : State → Prop} {pc : Nat} {ls : Array Slot} {rest : List Value} {D : va_G} {q : gQ} {tk : Nat} {adK adV : Nat → Nat} {cells slots : Nat} {g : cG} {m' : mG}
theorem cwT_r {y : MethodName} {by2 : ByteArray} {ny : Nat} {ry : Option FieldType} {Cn : String} {idx n dy : Nat} (C : lC p m c s b) (hcode : Cond.code y by2 ny ry ∈ gw_tbl) (hini : Cond.initialized y.cls ∈ gw_tbl) (hl : Cond.methodLink "FunctionRowsLaw" idx y ∈ gw_tbl) (him : Cond.instanceMethod y ∈ gw_tbl) (hsel : Cond.selects Cn y y ∈ gw_tbl) (hd : y.cls ≠ "java/lang/invoke/MethodHandle" ∧ y.cls ≠ "java/lang/invoke/VarHandle" ∧ (parseMethodDescriptor y.desc).map (fun d => d.parameters.length) = some n) (hR : dy + 1 ≤ 2048 ∧ ny + 19 + 40 * dy ≤ 84000) : CallW room_1 s #[Value.ref b] "FunctionRowsLaw" Cn idx y by2 ny ry (wsT y by2 ny ry) (rmL dy) 0 0 n :=
  ⟨callB_of n C.2.2.2.2 (tb_goodIn hcode) rfl rfl rfl (C.2.2.2.2 _ (tb_in hini)) (C.2.2.2.2 _ (tb_in hl)) hd ⟨hR.1, by show 8 + (ny + 11) + 40 * dy ≤ 84000; omega⟩, C.2.2.2.2 _ (tb_in him), C.2.2.2.2 _ (tb_in hsel)⟩
theorem lc_call {y : MethodName} {by2 : ByteArray} {ny : Nat} {ry : Option FieldType} {idx n dy : Nat} {as : List qm_v} {r : Option qm_v} {g' : cG} {st0 : List Value} (C : lC p m c s b) (hI : lI l D q tk adK adV s g m' H locs) (hM : cSd (eC0 l D q s.heap.size tk adK adV) (y, wsT y by2 ny ry, rmL dy) (qR 0 0 :: as) g r g') (cw : CallW room_1 s #[Value.ref b] "FunctionRowsLaw" "FunctionRows" idx y by2 ny ry (wsT y by2 ny ry) (rmL dy) 0 0 n) (has : ∀ v ∈ as, qm_ok cV v) (hn : as.length = n) (hz : ls.size = 4) (hst : st0 = (as.map (qm_cv (cLa s.heap.size))).reverse ++ .ref s.heap.size :: rest) (hw : (rest.map fun v => v.category).sum ≤ 8) (hd : decode code pc = .ok (.invokevirtual idx, 3)) (hf : cells ≤ 600000 ∧ slots ≤ 7302250)
    (kk : ∀ (H1 : Heap) (locs1 : List Loc), lI l D q tk adK adV s g' m' H1 locs1 → W p l e room_1 s m #[Value.ref b] below meth c H1 locs1 cells slots Q (F0 m (pc + 3) ls ((r.map (qm_cv (cLa s.heap.size))).toList ++ rest))) : W p l e room_1 s m #[Value.ref b] below meth c H locs cells slots Q (F0 m pc ls st0) := by
  have hE := exW_ok l D q s.heap.size tk adK adV
  have hV : cV 0 0 := rfl
  have has' : ∀ v ∈ qR 0 0 :: as, qm_ok cV v := qm_fa hV has
  have hpre := qm_pre hE (as := qR 0 0 :: as) hI.1 has'
  have hat := hI.1.2.1 0 0 hV
  refine ql_go hE (B := fun x => s.heap.size ≤ x) (fun x z => z.1) (va_runV (b := s.heap.size) (As := as.map (qm_cv (cLa s.heap.size))) (rest := rest) C hM cw ⟨hpre.1, va_recv hI.1.1 (qm_one hat) (q0 := 0) (ci := 3) rfl rfl, hpre.2⟩ rfl (by rw [List.length_map]; exact hn) hz hst (lv_room hw) hd hf) hI.2.2 hI.1.2.2.2 ?_
  rintro r1 g1 H1 locs1 ⟨rfl, rfl⟩ hh ho hS
  exact kk H1 locs1 ⟨hh, ql_kept hI.2.1 ho (fun k i hv z => by have h1 : s.heap.size + 270 ≤ mLa (s.heap.size + 270) k i := (mLa_in _ k i hv).1; have h2 : mLa (s.heap.size + 270) k i < s.heap.size + 270 := z.2; omega) trivial, hS⟩
theorem lm_call {y : MethodName} {by2 : ByteArray} {ny : Nat} {ry : Option FieldType} {idx n dy : Nat} {as : List qm_v} {r : Option qm_v} {g' : mG} {st0 : List Value} (C : lC p m c s b) (hI : lI l D q tk adK adV s g m' H locs) (hM : mSd (l, D, gM q, s.heap.size + 270) (y, wsT y by2 ny ry, rmL dy) (qR 0 0 :: as) m' r g') (cw : CallW room_1 s #[Value.ref b] "FunctionRowsLaw" "FunctionRowsModel" idx y by2 ny ry (wsT y by2 ny ry) (rmL dy) 0 0 n) (has : ∀ v ∈ as, qm_ok mV v) (hn : as.length = n) (hz : ls.size = 4) (hst : st0 = (as.map (qm_cv (mLa (s.heap.size + 270)))).reverse ++ .ref (s.heap.size + 270) :: rest) (hw : (rest.map fun v => v.category).sum ≤ 8) (hd : decode code pc = .ok (.invokevirtual idx, 3)) (hf : cells ≤ 600000 ∧ slots ≤ 7302250)
    (kk : ∀ (H1 : Heap) (locs1 : List Loc), lI l D q tk adK adV s g g' H1 locs1 → W p l e room_1 s m #[Value.ref b] below meth c H1 locs1 cells slots Q (F0 m (pc + 3) ls ((r.map (qm_cv (mLa (s.heap.size + 270)))).toList ++ rest))) : W p l e room_1 s m #[Value.ref b] below meth c H locs cells slots Q (F0 m pc ls st0) := by
  have hE := mOk (l, D, gM q, s.heap.size + 270)
  have hV : mV 0 0 := rfl
  have has' : ∀ v ∈ qR 0 0 :: as, qm_ok mV v := qm_fa hV has
  have hpre := qm_pre hE (as := qR 0 0 :: as) hI.2.1 has'
  have hat := hI.2.1.2.1 0 0 hV
  refine ql_go hE (B := fun x => s.heap.size ≤ x) (fun x z => by have h : s.heap.size + 270 ≤ x := z.1; show s.heap.size ≤ x; omega) (va_runV (b := s.heap.size + 270) (As := as.map (qm_cv (mLa (s.heap.size + 270)))) (rest := rest) C hM cw ⟨hpre.1, va_recv hI.2.1.1 (qm_one hat) (q0 := 0) (ci := 4) rfl rfl, hpre.2⟩ rfl (by rw [List.length_map]; exact hn) hz hst (lv_room hw) hd hf) hI.2.2 trivial ?_
  rintro r1 g1 H1 locs1 ⟨rfl, rfl⟩ hh ho hS
  refine kk H1 locs1 ⟨ql_kept hI.1 ho (fun k i hv z => by have h1 : cLa s.heap.size k i < s.heap.size + 270 := (cLa_in _ k i hv).2; have h2 : s.heap.size + 270 ≤ cLa s.heap.size k i := z.1; omega) ?_, hh, hS⟩
  exact hI.1.2.2.2.kept (fun x hx hn => ho x hx (fun z => hn (by have h : s.heap.size + 270 ≤ x := z.1; show s.heap.size ≤ x; omega)))
/-- an int of the script -/
theorem la_arg {i k : Nat} {k' : Int} (C : lC p m c s b) (hX : va_X b L xs s s.heap) (hbl : b < s.heap.size) (hS : va_S (fun x => s.heap.size ≤ x) s.heap H locs) (hL : L ≤ 2560) (hl0 : ls[0]? = some (.val (.ref b))) (hl3 : ls[3]? = some (.val (.int (nI i)))) (hik : i + k < L) (d1 : decode code pc = .ok (.aload_n 0, 1)) (d2 : decode code (pc + 1) = .ok (.iload_n 3, 1)) (d3 : decode code (pc + 2) = .ok (.iconst k', 1)) (hk : Int32.ofInt k' = nI k) (d4 : decode code (pc + 3) = .ok (.iadd, 1)) (d5 : decode code (pc + 4) = .ok (.iaload, 1))
    (kk : W p l e room_1 s m #[Value.ref b] below meth c H locs cells slots Q (F0 m (pc + 5) ls (.int (xs (i + k)) :: rest))) : W p l e room_1 s m #[Value.ref b] below meth c H locs cells slots Q (F0 m pc ls rest) := by
  refine lv_aload_n C.1 C.2.1 d1 rfl hl0 ?_
  refine lv_iload_n C.1 C.2.1 d2 rfl hl3 ?_
  refine lv_iconst C.1 C.2.1 d3 hk ?_
  refine lv_iadd C.1 C.2.1 d4 ?_
  rw [nI_add]
  refine va_sld C.1 C.2.1 hX hbl (Nat.not_le.mpr hbl) hS (vp_in_nI hik (by omega)) d5 ?_
  rw [nI_clamp (by omega)]
  exact kk
def lgV (x y : Int32) : Int64 := x.toInt64 <<< ((32 : Int32).toInt64 &&& 63) ||| y.toInt64 &&& 4294967295
theorem la_long {i : Nat} (C : lC p m c s b) (hX : va_X b L xs s s.heap) (hbl : b < s.heap.size) (hS : va_S (fun x => s.heap.size ≤ x) s.heap H locs) (hL : L ≤ 2560) (hl0 : ls[0]? = some (.val (.ref b))) (hl3 : ls[3]? = some (.val (.int (nI i)))) (hik : i + 2 < L) (d1 : decode code pc = .ok (.aload_n 0, 1)) (d2 : decode code (pc + 1) = .ok (.iload_n 3, 1)) (d3 : decode code (pc + 2) = .ok (.iconst 1, 1)) (d4 : decode code (pc + 3) = .ok (.iadd, 1)) (d5 : decode code (pc + 4) = .ok (.iaload, 1)) (d6 : decode code (pc + 5) = .ok (.i2l, 1)) (d7 : decode code (pc + 6) = .ok (.bipush 32, 2)) (d8 : decode code (pc + 8) = .ok (.lshl, 1)) (d9 : decode code (pc + 9) = .ok (.aload_n 0, 1)) (d10 : decode code (pc + 10) = .ok (.iload_n 3, 1)) (d11 : decode code (pc + 11) = .ok (.iconst 2, 1)) (d12 : decode code (pc + 12) = .ok (.iadd, 1)) (d13 : decode code (pc + 13) = .ok (.iaload, 1)) (d14 : decode code (pc + 14) = .ok (.i2l, 1)) (d15 : decode code (pc + 15) = .ok (.ldc2_w 13, 3)) (d16 : decode code (pc + 18) = .ok (.land, 1)) (d17 : decode code (pc + 19) = .ok (.lor, 1))
    (kk : W p l e room_1 s m #[Value.ref b] below meth c H locs cells slots Q (F0 m (pc + 20) ls (.long (lgV (xs (i + 1)) (xs (i + 2))) :: rest))) : W p l e room_1 s m #[Value.ref b] below meth c H locs cells slots Q (F0 m pc ls rest) := by
  refine la_arg (k := 1) C hX hbl hS hL hl0 hl3 (by omega) d1 d2 d3 (by decide) d4 d5 ?_
  refine lv_i2l C.1 C.2.1 d6 rfl ?_
  refine lv_bipush (v := 32) C.1 C.2.1 d7 (by decide) ?_
  refine lv_lshl C.1 C.2.1 d8 rfl ?_
  refine la_arg (k := 2) C hX hbl hS hL hl0 hl3 (by omega) d9 d10 d11 (by decide) d12 d13 ?_
  refine lv_i2l C.1 C.2.1 d14 rfl ?_
  refine lv_ldc2 (v := 4294967295) C.1 C.2.1 C.2.2.2.1 (C.2.2.2.2 _ (tb_in (tb_T4 (i := 166) rfl rfl))) d15 ?_
  refine lv_land C.1 C.2.1 d16 ?_
  refine lv_lor C.1 C.2.1 d17 ?_
  exact kk
end LAW
