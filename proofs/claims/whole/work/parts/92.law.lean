/-! The law's loop and its start -/
theorem lw_sub {L i : Nat} (hL : L ≤ 2560) (hi : i ≤ 4000) (h : ¬ nI L - 5 < nI i) : i + 5 ≤ L := by
  have e : (nI L - nI 5).toInt = (L : Int) - (5 : Nat) := pk_sub_toInt (by omega) (by decide)
  have h2 : ¬ (nI L - nI 5).toInt < (nI i).toInt := fun z => h (Int32.lt_iff_toInt_lt.mpr z)
  rw [e, nI_toInt (by omega)] at h2
  omega
theorem lw_loop {p : Program} {l : Launch} {e : Env} {s : State} {m : MethodId} {below : List Frame} {meth : Method} {c : Code} {b L : Nat} {xs : Nat → Int32} {D : va_G} {q : gQ} {tk : Nat} {adK adV : Nat → Nat} (C : lC p m c s b) (hr : meth.sig.returnType = ret) (hk : meth.locks = false) (hX : va_X b L xs s s.heap) (hbl : b < s.heap.size) (hL : L ≤ 2560) :
    ∀ (n i : Nat) (H : Heap) (locs : List Loc) (ls : Array Slot) (g : cG) (m' : mG) (nn t : Nat), L + 1 ≤ i + 5 * n + 5 → i ≤ L → lv_has ls 4 [(3, .int (nI i)), (2, .ref (s.heap.size + 270)), (1, .ref s.heap.size), (0, .ref b)] → lI l D q tk adK adV s g m' H locs → Rel g m' nn t → W p l e room_1 s m #[Value.ref b] below meth c H locs 282 8881 (lw_Z below #[Value.ref b] s) (F0 m 18 ls []) := by
  intro n
  induction n with
  | zero =>
    intro i H locs ls g m' nn t hn hiL hl hI hR
    have l3 : ls[3]? = some (.val (.int (nI i))) := lv_at hl 0 rfl
    have l0 : ls[0]? = some (.val (.ref b)) := lv_at hl 3 rfl
    refine lv_iload_n (k := 3) C.1 C.2.1 (by decide +kernel) rfl l3 ?_
    refine lv_aload_n (k := 0) C.1 C.2.1 (by decide +kernel) rfl l0 ?_
    refine va_slen C.1 C.2.1 hX hbl (Nat.not_le.mpr hbl) hI.2.2 (by decide +kernel) ?_
    refine lv_iconst (n := 5) (v := 5) C.1 C.2.1 (by decide +kernel) (by decide) ?_
    refine lv_isub C.1 C.2.1 (by decide +kernel) ?_
    refine lv_icmp_gt C.1 C.2.1 (off := 534) (tgt := 557) (by decide +kernel) (by decide) (fun _ => ?_) (fun h => absurd (lw_sub hL (by omega) h) (by omega))
    refine lv_iconst (n := 1) (v := 1) C.1 C.2.1 (by decide +kernel) (by decide) ?_
    refine W.widen (k := 600000) (n := 7302250) (by decide) (by decide) ?_
    refine va_forget hI.2.2.2.2 ?_
    exact lw_ret C.1 C.2.1 hr hk (by decide +kernel)
  | succ n ih =>
    intro i H locs ls g m' nn t hn hiL hl hI hR
    have l3 : ls[3]? = some (.val (.int (nI i))) := lv_at hl 0 rfl
    have l0 : ls[0]? = some (.val (.ref b)) := lv_at hl 3 rfl
    refine lv_iload_n (k := 3) C.1 C.2.1 (by decide +kernel) rfl l3 ?_
    refine lv_aload_n (k := 0) C.1 C.2.1 (by decide +kernel) rfl l0 ?_
    refine va_slen C.1 C.2.1 hX hbl (Nat.not_le.mpr hbl) hI.2.2 (by decide +kernel) ?_
    refine lv_iconst (n := 5) (v := 5) C.1 C.2.1 (by decide +kernel) (by decide) ?_
    refine lv_isub C.1 C.2.1 (by decide +kernel) ?_
    refine lv_icmp_gt C.1 C.2.1 (off := 534) (tgt := 557) (by decide +kernel) (by decide) (fun _ => ?_) (fun h => ?_)
    · refine lv_iconst (n := 1) (v := 1) C.1 C.2.1 (by decide +kernel) (by decide) ?_
      refine W.widen (k := 600000) (n := 7302250) (by decide) (by decide) ?_
      refine va_forget hI.2.2.2.2 ?_
      exact lw_ret C.1 C.2.1 hr hk (by decide +kernel)
    · have hi : i + 5 ≤ L := lw_sub hL (by omega) h
      have kk : lK p l e s m b below meth c (lw_Z below #[Value.ref b] s) ls D q tk adK adV := by
        intro g1 m1 n1 t1 H1 locs1 hI1 hR1
        refine lv_iinc (n := 5) (v := nI (i + 5)) (k := 0) C.1 C.2.1 (by decide +kernel) hl rfl (nI_add i 5) (by decide) rfl (fun ls' hl' => ?_)
        refine lv_goto C.1 C.2.1 (off := -536) (tgt := 18) (by decide +kernel) (by decide) ?_
        exact ih (i + 5) H1 locs1 ls' g1 m1 n1 t1 (by omega) hi hl' hI1 hR1
      refine lv_aload_n (k := 0) C.1 C.2.1 (by decide +kernel) rfl l0 ?_
      refine lv_iload_n (k := 3) C.1 C.2.1 (by decide +kernel) rfl l3 ?_
      refine va_sld C.1 C.2.1 hX hbl (Nat.not_le.mpr hbl) hI.2.2 (vp_in_nI (by omega) (by omega)) (by decide +kernel) ?_
      refine lv_bipush (n := 15) (v := 15) C.1 C.2.1 (by decide +kernel) (by decide) ?_
      refine lv_iand C.1 C.2.1 (by decide +kernel) ?_
      obtain ⟨j, hj, ej⟩ := pk_andE (xs (nI i).toNatClampNeg) (m := 15) 4 (by decide)
      rw [ej]
      match j, hj with
      | 0, _ => exact lv_tableIn C.1 C.2.1 (dflt := 519) (lo := 0) (hi := 15) (offs := #[80, 143, 166, 219, 252, 305, 328, 351, 365, 378, 401, 424, 447, 470, 493, 506]) (len := 80) (off := 80) (tgt := 112) (by decide +kernel) (by decide +kernel) (by decide +kernel) (by decide +kernel) (by decide) (lk_type C hX hbl hL hl hi hI hR kk)
      | 1, _ => exact lv_tableIn C.1 C.2.1 (dflt := 519) (lo := 0) (hi := 15) (offs := #[80, 143, 166, 219, 252, 305, 328, 351, 365, 378, 401, 424, 447, 470, 493, 506]) (len := 80) (off := 143) (tgt := 175) (by decide +kernel) (by decide +kernel) (by decide +kernel) (by decide +kernel) (by decide) (lk_text C hX hbl hL hl hi hI hR kk)
      | 2, _ => exact lv_tableIn C.1 C.2.1 (dflt := 519) (lo := 0) (hi := 15) (offs := #[80, 143, 166, 219, 252, 305, 328, 351, 365, 378, 401, 424, 447, 470, 493, 506]) (len := 80) (off := 166) (tgt := 198) (by decide +kernel) (by decide +kernel) (by decide +kernel) (by decide +kernel) (by decide) (lk_whole C hX hbl hL hl hi hI hR kk)
      | 3, _ => exact lv_tableIn C.1 C.2.1 (dflt := 519) (lo := 0) (hi := 15) (offs := #[80, 143, 166, 219, 252, 305, 328, 351, 365, 378, 401, 424, 447, 470, 493, 506]) (len := 80) (off := 219) (tgt := 251) (by decide +kernel) (by decide +kernel) (by decide +kernel) (by decide +kernel) (by decide) (lk_leaf C hX hbl hL hl hi hI hR kk)
      | 4, _ => exact lv_tableIn C.1 C.2.1 (dflt := 519) (lo := 0) (hi := 15) (offs := #[80, 143, 166, 219, 252, 305, 328, 351, 365, 378, 401, 424, 447, 470, 493, 506]) (len := 80) (off := 252) (tgt := 284) (by decide +kernel) (by decide +kernel) (by decide +kernel) (by decide +kernel) (by decide) (lk_call C hX hbl hL hl hi hI hR kk)
      | 5, _ => exact lv_tableIn C.1 C.2.1 (dflt := 519) (lo := 0) (hi := 15) (offs := #[80, 143, 166, 219, 252, 305, 328, 351, 365, 378, 401, 424, 447, 470, 493, 506]) (len := 80) (off := 305) (tgt := 337) (by decide +kernel) (by decide +kernel) (by decide +kernel) (by decide +kernel) (by decide) (lk_takes C hX hbl hL hl hi hI hR kk)
      | 6, _ => exact lv_tableIn C.1 C.2.1 (dflt := 519) (lo := 0) (hi := 15) (offs := #[80, 143, 166, 219, 252, 305, 328, 351, 365, 378, 401, 424, 447, 470, 493, 506]) (len := 80) (off := 328) (tgt := 360) (by decide +kernel) (by decide +kernel) (by decide +kernel) (by decide +kernel) (by decide) (lk_run C hX hbl hL hl hi hI hR kk)
      | 7, _ => exact lv_tableIn C.1 C.2.1 (dflt := 519) (lo := 0) (hi := 15) (offs := #[80, 143, 166, 219, 252, 305, 328, 351, 365, 378, 401, 424, 447, 470, 493, 506]) (len := 80) (off := 351) (tgt := 383) (by decide +kernel) (by decide +kernel) (by decide +kernel) (by decide +kernel) (by decide) (lk_number C hX hbl hL hl hi hI hR kk)
      | 8, _ => exact lv_tableIn C.1 C.2.1 (dflt := 519) (lo := 0) (hi := 15) (offs := #[80, 143, 166, 219, 252, 305, 328, 351, 365, 378, 401, 424, 447, 470, 493, 506]) (len := 80) (off := 365) (tgt := 397) (by decide +kernel) (by decide +kernel) (by decide +kernel) (by decide +kernel) (by decide) (lk_tag C hX hbl hL hl hi hI hR kk)
      | 9, _ => exact lv_tableIn C.1 C.2.1 (dflt := 519) (lo := 0) (hi := 15) (offs := #[80, 143, 166, 219, 252, 305, 328, 351, 365, 378, 401, 424, 447, 470, 493, 506]) (len := 80) (off := 378) (tgt := 410) (by decide +kernel) (by decide +kernel) (by decide +kernel) (by decide +kernel) (by decide) (lk_letter C hX hbl hL hl hi hI hR kk)
      | 10, _ => exact lv_tableIn C.1 C.2.1 (dflt := 519) (lo := 0) (hi := 15) (offs := #[80, 143, 166, 219, 252, 305, 328, 351, 365, 378, 401, 424, 447, 470, 493, 506]) (len := 80) (off := 401) (tgt := 433) (by decide +kernel) (by decide +kernel) (by decide +kernel) (by decide +kernel) (by decide) (lk_give C hX hbl hL hl hi hI hR kk)
      | 11, _ => exact lv_tableIn C.1 C.2.1 (dflt := 519) (lo := 0) (hi := 15) (offs := #[80, 143, 166, 219, 252, 305, 328, 351, 365, 378, 401, 424, 447, 470, 493, 506]) (len := 80) (off := 424) (tgt := 456) (by decide +kernel) (by decide +kernel) (by decide +kernel) (by decide +kernel) (by decide) (lk_drop C hX hbl hL hl hi hI hR kk)
      | 12, _ => exact lv_tableIn C.1 C.2.1 (dflt := 519) (lo := 0) (hi := 15) (offs := #[80, 143, 166, 219, 252, 305, 328, 351, 365, 378, 401, 424, 447, 470, 493, 506]) (len := 80) (off := 447) (tgt := 479) (by decide +kernel) (by decide +kernel) (by decide +kernel) (by decide +kernel) (by decide) (lk_uses C hX hbl hL hl hi hI hR kk)
      | 13, _ => exact lv_tableIn C.1 C.2.1 (dflt := 519) (lo := 0) (hi := 15) (offs := #[80, 143, 166, 219, 252, 305, 328, 351, 365, 378, 401, 424, 447, 470, 493, 506]) (len := 80) (off := 470) (tgt := 502) (by decide +kernel) (by decide +kernel) (by decide +kernel) (by decide +kernel) (by decide) (lk_depth C hX hbl hL hl hi hI hR kk)
      | 14, _ => exact lv_tableIn C.1 C.2.1 (dflt := 519) (lo := 0) (hi := 15) (offs := #[80, 143, 166, 219, 252, 305, 328, 351, 365, 378, 401, 424, 447, 470, 493, 506]) (len := 80) (off := 493) (tgt := 525) (by decide +kernel) (by decide +kernel) (by decide +kernel) (by decide +kernel) (by decide) (lk_clear C hX hbl hL hl hi hI hR kk)
      | 15, _ => exact lv_tableIn C.1 C.2.1 (dflt := 519) (lo := 0) (hi := 15) (offs := #[80, 143, 166, 219, 252, 305, 328, 351, 365, 378, 401, 424, 447, 470, 493, 506]) (len := 80) (off := 506) (tgt := 538) (by decide +kernel) (by decide +kernel) (by decide +kernel) (by decide +kernel) (by decide) (lk_size C hX hbl hL hl hi hI hR kk)
      | n + 16, h => exact absurd h (by omega)
/-- YOUR PART: from the entry, for every script of at most 2560 ints, the law comes to its end with true -/
theorem whole_start {p : Program} {e : Env} {s : State} {m : MethodId} {below : List Frame} {meth : Method} {c : Code} (l : Launch) {b L : Nat} {xs : Nat → Int32} (hL : L ≤ 2560) (C0 : lw_At p s m meth c b L xs) : W p l e room_1 s m #[Value.ref b] below meth c s.heap [] 0 0 (lw_Z below #[Value.ref b] s) (entryFrame m ([Value.ref b] : List Value).toArray 4) := by
  have C := lC_of C0
  obtain ⟨-, -, hr, -, -, hts, hX, hbl, hk, hgv⟩ := C0
  obtain ⟨D, q, hK⟩ := ev_K hts
  obtain ⟨tk, adK, adV, hx⟩ := ev_ex hgv hts (A := fun x => s.heap.size ≤ x) (fun x h => Nat.not_le.mpr h)
  have hl := lv_entry [Value.ref b] (n := 4) (Nat.le_of_ble_eq_true rfl)
  rw [lg_entry_eq]
  generalize (lg_sl [Value.ref b] ++ List.replicate (4 - (lg_sl [Value.ref b]).length) Slot.unset).toArray = ls at hl ⊢
  have hw : gst D s.heap.size 0 (fun _ => mB) s.heap s.heap [] := ⟨⟨rfl, fun k h => absurd h (by omega)⟩, fun _ _ => rfl, fun x h => by cases h⟩
  refine g_new (index := 7) (ci := 3) (fs := [.null, .int 0, .null, .null, .null, .int 0, .null]) C hK.1 hw rfl fiR ftR ftR_ok (tb_T1 (i := 15) rfl rfl) (tb_T1 (i := 16) rfl rfl) inR (by decide +kernel) (by decide) (by decide) (by decide +kernel) (fun H hw _ => ?_)
  refine lv_dup C.1 C.2.1 (by decide +kernel) rfl ?_
  refine g_callI (k := 0) (idx := 9) (rest := [.ref s.heap.size]) C gR_init hK hw rfl cR_init inR (tb_T1 (i := 18) rfl rfl) (tb_T1 (i := 17) rfl rfl) rfl (by decide +kernel) (by decide) hl.1 (Nat.le_of_ble_eq_true rfl) (by decide +kernel) (by decide) (fun H locs hw => ?_)
  refine lv_astore_n (k := 1) C.1 C.2.1 (by decide +kernel) rfl hl (by decide) rfl (fun ls hl => ?_)
  replace hw := hw.to (f' := fR q s.heap.size 80 8) (fun k hk => by show (if k < 0 then _ else _) = _; rw [if_neg (by omega)]; rfl)
  refine g_new (index := 10) (ci := 4) (fs := [.int 0, .null, .int 0, .null, .null, .null, .null, .null, .null, .null, .null, .null, .int 0, .int 0, .int 0, .int 0, .null]) C hK.1 hw rfl fiM ftM ftM_ok (tb_T3 (i := 114) rfl rfl) (tb_T3 (i := 115) rfl rfl) inM (by decide +kernel) (by decide) (by decide) (by decide +kernel) (fun H hw _ => ?_)
  refine lv_dup C.1 C.2.1 (by decide +kernel) rfl ?_
  refine g_callI (k := 270) (idx := 12) (rest := [.ref (s.heap.size + 270)]) C gM_init hK hw (va_up_self _ _ _) cM_init inM (tb_T3 (i := 117) rfl rfl) (tb_T3 (i := 116) rfl rfl) rfl (by decide +kernel) (by decide) hl.1 (Nat.le_of_ble_eq_true rfl) (by decide +kernel) (by decide) (fun H locs hw => ?_)
  refine lv_astore_n (k := 2) C.1 C.2.1 (by decide +kernel) rfl hl (by decide) rfl (fun ls hl => ?_)
  refine lv_iconst (n := 0) (v := 0) C.1 C.2.1 (by decide +kernel) (by decide) ?_
  refine lv_istore_n (k := 3) C.1 C.2.1 (by decide +kernel) rfl hl (by decide) rfl (fun ls hl => ?_)
  have hI : lI l D q tk adK adV s g_0 m_0 H locs := by
    obtain ⟨⟨h1, h2⟩, h3, h4⟩ := hw
    refine ⟨c_start hK.1 (fun k hk => ?_) (hx.kept (fun x hx' hn => h3 x hx')), m_start hK.1 (fun k hk => ?_), ⟨by omega, fun x hx' _ => h3 x hx', h4⟩⟩
    · have h := h2 k (by omega)
      dsimp only at h
      rw [if_pos hk, va_up_ne _ _ (by omega)] at h
      exact h
    · have h := h2 (270 + k) (by omega)
      dsimp only at h
      rw [if_neg (by omega), show 270 + k - 270 = k by omega, show s.heap.size + (270 + k) = s.heap.size + 270 + k by omega] at h
      exact h
  exact lw_loop C hr hk hX hbl hL L 0 H locs ls g_0 m_0 0 0 (by omega) (Nat.zero_le _) hl hI rel_0
set_option maxHeartbeats 4000000 in
theorem lw_walk (l : Launch) (b : Addr) (xs : List Int32) : MetFree l x (headSpec (Jvm.Cond.code x code maxLocals ret :: tables_1) room_1) (lw_P b xs) (fun _ _ _ _ _ => True) lw_Q := by
  refine MetFree.of_bodyS (code := code) (maxLocals := maxLocals) (ret := ret) (by decide) ?_ ?_
  · intro args s m h hn
    obtain ⟨meth, c, h1, h2, h3, h4, h5, h6, -, -⟩ := Cond.code_spec hn (atoms_spec (ws := Jvm.Cond.code x code maxLocals ret :: tables_1) h _ List.mem_cons_self)
    exact ⟨meth, c, h1, h2, h3, h4, h5, h6⟩
  · intro p e s m args below meth c s₁ B hml0 hP _
    obtain ⟨rfl, hx, hbd, hgv⟩ := hP
    obtain ⟨scr, harrAt, hlist, hof, hsmall⟩ := hx
    obtain ⟨hcb, hkn, -, -⟩ := State.arrayAt?_spec harrAt
    have hown : s.vm.findClass R_law = some m.cls := findClass_of_methodNamed B.named
    have hts0 : ∀ c ∈ (Jvm.Cond.code x code maxLocals ret :: tables_1), c.before #[Value.ref b] s = true := atoms_spec (ws := Jvm.Cond.code x code maxLocals ret :: tables_1) B.pre
    have hts : ∀ w ∈ lw_tbl, w.before #[Value.ref b] s = true := k2_hts_sels lw_privs (fun w hw => hts0 w (List.mem_cons_of_mem _ hw)) lw_privs_ok
    have hml : c.maxLocals = 4 := B.maxLocals_eq (hts0 _ List.mem_cons_self)
    have X₀ : Stand p l e room_1 s m #[Value.ref b] below meth c s₁ [] 0 0 := Stand.of_body B
    have hh0 : s₁.heap = s.heap := by rw [B.state]; rfl
    have hsz : scr.slots.size = xs.length := by rw [← Array.length_toList, hlist, List.length_map]
    have hval : ∀ j : Nat, j < xs.length → scr.slots[j]? = some (.int (xs.getD j 0)) := fun j hj => by
      rw [← Array.getElem?_toList, hlist]
      simp [hj]
    have hbl : b < s.heap.size := (Array.getElem?_eq_some_iff.mp hcb).1
    have hX : va_X b xs.length (fun j => xs.getD j 0) s s.heap := ⟨scr, hcb, hof, hkn, hsz, hval⟩
    have K : W p l e room_1 s m #[Value.ref b] below meth c s₁.heap [] 0 0 (lw_Z below #[Value.ref b] s) (entryFrame m ([Value.ref b] : List Value).toArray 4) := by
      rw [hh0]
      exact whole_start l hbd ⟨B.exec, B.bytes, B.returns, hml, hown, hts, hX, hbl, B.notSynchronized, hgv⟩
    obtain ⟨t, a1, o, b1, b2, b3⟩ := K s₁ rfl X₀
    exact ⟨t, o, a1, b1, b2, b3⟩
theorem lw_pre_spec {args : Array Value} {s : State} (h : (Jvm.Cond.and given_1 narrow_1).before args s = true) (hr : rest_1_c.before args s = true) : ∃ (b : Addr) (xs : List Int32), lw_P b xs args s := by
  have hs := flat_of_before _ h
  have hq := flat_of_before _ hr
  have hc : (Cond.count 1).before args s = true := hs _ (by decide +kernel)
  have harr : (Cond.arrayOf (.arg 0) .int).before args s = true := hs _ (by decide +kernel)
  have hle : (Cond.le (.length (.arg 0)) (.int 2560)).before args s = true := hs _ (by decide +kernel)
  have hlen : (Cond.isInt (.length (.arg 0))).before args s = true := hq _ (by decide +kernel)
  have hall : (Cond.all (.arg 0) (.isInt (.elem (.arg 0) (.index 0)))).before args s = true := hq _ (by decide +kernel)
  obtain ⟨b, xs, hb, hx⟩ := State.ints_of_pre rfl harr hlen hall
  have hsm : xs.length < 2 ^ 31 := hx.choose_spec.2.2.2
  have hev : (Term.length (.arg 0)).eval args s none [] s = some (.int xs.length.toInt32) := hx.length_eval hb
  have hv := Cond.le_ints hev (show (Term.int 2560).eval args s none [] s = some (.int 2560) from rfl)
  have hd : xs.length.toInt32 ≤ 2560 := by
    simpa [Cond.before, Cond.holds, hv] using hle
  have hN : xs.length ≤ 2560 := (Int32.ofNat_le_ofNat hsm (by decide)).mp (show Int32.ofNat xs.length ≤ Int32.ofNat 2560 from hd)
  exact ⟨b, xs, Cond.one_arg hc (show args[0]? = some (.ref b) from hb), hx, hN, h⟩
theorem lw_comes (l : Launch) : Comes l x (Jvm.Cond.code x code maxLocals ret :: tables_1) room_1 (fun tb e args s => Calls_1 tb e args s ∧ rest_1 tb e args s ∧ Pre_1 tb e args s)
    (fun _ _ args s o t => lw_Q args s o t) := by
  intro p e ha hc hk s m args below hf hfit hheap happ hpre
  obtain ⟨b, xs, hP⟩ := lw_pre_spec hpre.2.2 hpre.2.1
  obtain ⟨k, o, h1, h2, h3, hQ⟩ := lw_walk l b xs p e ha hc hk s m args below hf ((Spec.applies_iff_loose hf).mp happ).1 hP trivial
  exact ⟨k, o, h1, h2, h3, hQ⟩
theorem lw_frame {s t : State} {o : Outcome} {args : Array Value} (h : Framed s o t [] 600000 7302250) :
    Framed s o t (fieldLocs frame_1_writes args s ++ arrayLocs frame_1_arrays args s ++ staticLocs frame_1_statics s) 600000 7302250 := h
theorem lw_limb (L : Cond) (hL : ∀ (args : Array Value) (s t : State), L.after args s (.returned (some (.int 1))) t = true) :
    ArmFor flags0 classFile x code maxLocals ret World_1 tables_1 room_1 Calls_1 rest_1 Pre_1
      (fun tb e a s o t => postC L tb e a s o t ∧ Framed s o t (fieldLocs frame_1_writes a s ++ arrayLocs frame_1_arrays a s ++ staticLocs frame_1_statics s) 600000 7302250) := by
  intro l _ _ _ p e ha hc hk s m args below hf hfit hheap happ hpre
  obtain ⟨k, o, h1, h2, h3, rfl, hF⟩ := lw_comes l p e ha hc hk s m args below hf hfit hheap happ hpre
  exact ⟨k, _, h1, h2, h3, hL args s _, lw_frame hF⟩
theorem i_vc : Claimed_1_1 ∧ Claimed_1_2 := ⟨lw_limb limb_1_1 (fun args s t => by simp [limb_1_1, Cond.after, Cond.holds, Cond.value]), lw_limb limb_1_2 (fun args s t => Cond.after_iff.mpr (by
  first | (rw [show limb_1_2 = Cond.eq .result (.int 1) from rfl, Cond.eq_ints (x := 1) (y := 1) rfl rfl]; simp; done) | (simp [limb_1_2, Cond.value, Term.eval]; done)))⟩
