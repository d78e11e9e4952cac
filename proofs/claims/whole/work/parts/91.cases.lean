/-! The law's sixteen cases -/
section CASES
variable {p : Program} {l : Launch} {e : Env} {s : State} {m : MethodId} {below : List Frame} {meth : Method} {c : Code} {b L : Nat} {xs : Nat → Int32} {H : Heap} {locs : List Loc} {Q : State → Prop} {ls : Array Slot} {D : va_G} {q : gQ} {tk : Nat} {adK adV : Nat → Nat} {g : cG} {m' : mG} {i n t : Nat}
/-- where a case ends -/
def lK (p : Program) (l : Launch) (e : Env) (s : State) (m : MethodId) (b : Nat) (below : List Frame) (meth : Method) (c : Code) (Q : State → Prop) (ls : Array Slot) (D : va_G) (q : gQ) (tk : Nat) (adK adV : Nat → Nat) : Prop :=
  ∀ (g1 : cG) (m1 : mG) (n1 t1 : Nat) (H1 : Heap) (locs1 : List Loc), lI l D q tk adK adV s g1 m1 H1 locs1 → Rel g1 m1 n1 t1 → W p l e room_1 s m #[Value.ref b] below meth c H1 locs1 282 8881 Q (F0 m 551 ls [])
theorem lk_type (C : lC p m c s b) (hX : va_X b L xs s s.heap) (hbl : b < s.heap.size) (hL : L ≤ 2560) (hl : lv_has ls 4 [(3, .int (nI i)), (2, .ref (s.heap.size + 270)), (1, .ref s.heap.size), (0, .ref b)]) (hi : i + 5 ≤ L) (hI : lI l D q tk adK adV s g m' H locs) (hR : Rel g m' n t) (kk : lK p l e s m b below meth c Q ls D q tk adK adV) : W p l e room_1 s m #[Value.ref b] below meth c H locs 282 8881 Q (F0 m 112 ls []) := by
  have hE := exW_ok l D q s.heap.size tk adK adV
  have hN := exW_nx l D q s.heap.size tk adK adV
  have hT := exW_tk l D q s.heap.size tk adK adV
  have hW := exW_wd l D q s.heap.size tk adK adV
  have l3 : ls[3]? = some (.val (.int (nI i))) := lv_at hl 0 rfl
  have l2 : ls[2]? = some (.val (.ref (s.heap.size + 270))) := lv_at hl 1 rfl
  have l1 : ls[1]? = some (.val (.ref s.heap.size)) := lv_at hl 2 rfl
  have l0 : ls[0]? = some (.val (.ref b)) := lv_at hl 3 rfl
  obtain ⟨r, h, h', t', hc, hm, hR'⟩ := type_both hE (l, D, gM q, s.heap.size + 270) hR (lgV (xs (i + 1)) (xs (i + 2))) (xs (i + 3))
  refine lv_aload_n (k := 1) C.1 C.2.1 (by decide +kernel) rfl l1 ?_
  refine la_long C hX hbl hI.2.2 hL l0 l3 (by omega) (by decide +kernel) (by decide +kernel) (by decide +kernel) (by decide +kernel) (by decide +kernel) (by decide +kernel) (by decide +kernel) (by decide +kernel) (by decide +kernel) (by decide +kernel) (by decide +kernel) (by decide +kernel) (by decide +kernel) (by decide +kernel) (by decide +kernel) (by decide +kernel) (by decide +kernel) ?_
  refine la_arg (k := 3) (k' := 3) C hX hbl hI.2.2 hL l0 l3 (by omega) (by decide +kernel) (by decide +kernel) (by decide +kernel) (by decide) (by decide +kernel) (by decide +kernel) ?_
  refine lc_call (pc := 138) (as := [qL (lgV (xs (i + 1)) (xs (i + 2))), qI (xs (i + 3))]) (idx := 15) (n := 2) (rest := []) C hI hc (cwT_r C cR_type inR (tb_T1 (i := 187) rfl rfl) (tb_T1 (i := 188) rfl rfl) (tb_T1 (i := 189) rfl rfl) (by decide +kernel) (by decide)) (qm_fa trivial (qm_fa trivial (fun v hv => by cases hv))) rfl hl.1 rfl (Nat.zero_le _) (by decide +kernel) ⟨by decide, by decide⟩ (fun H1 locs1 hI1 => ?_)
  refine lv_aload_n (k := 2) C.1 C.2.1 (by decide +kernel) rfl l2 ?_
  refine la_long C hX hbl hI1.2.2 hL l0 l3 (by omega) (by decide +kernel) (by decide +kernel) (by decide +kernel) (by decide +kernel) (by decide +kernel) (by decide +kernel) (by decide +kernel) (by decide +kernel) (by decide +kernel) (by decide +kernel) (by decide +kernel) (by decide +kernel) (by decide +kernel) (by decide +kernel) (by decide +kernel) (by decide +kernel) (by decide +kernel) ?_
  refine la_arg (k := 3) (k' := 3) C hX hbl hI1.2.2 hL l0 l3 (by omega) (by decide +kernel) (by decide +kernel) (by decide +kernel) (by decide) (by decide +kernel) (by decide +kernel) ?_
  refine lm_call (pc := 167) (as := [qL (lgV (xs (i + 1)) (xs (i + 2))), qI (xs (i + 3))]) (idx := 19) (n := 2) (rest := [.int r]) C hI1 hm (cwT_r C cM_type inM (tb_T3 (i := 173) rfl rfl) (tb_T3 (i := 174) rfl rfl) (tb_T3 (i := 175) rfl rfl) (by decide +kernel) (by decide)) (qm_fa trivial (qm_fa trivial (fun v hv => by cases hv))) rfl hl.1 rfl (Nat.le_of_ble_eq_true rfl) (by decide +kernel) ⟨by decide, by decide⟩ (fun H2 locs2 hI2 => ?_)
  exact lv_icmp_eq (pc := 170) C.1 C.2.1 (off := 381) (tgt := 551) (by decide +kernel) (by decide) (fun _ => kk h h' n t' H2 locs2 hI2 hR') (fun hne => absurd rfl hne)
theorem lk_text (C : lC p m c s b) (hX : va_X b L xs s s.heap) (hbl : b < s.heap.size) (hL : L ≤ 2560) (hl : lv_has ls 4 [(3, .int (nI i)), (2, .ref (s.heap.size + 270)), (1, .ref s.heap.size), (0, .ref b)]) (hi : i + 5 ≤ L) (hI : lI l D q tk adK adV s g m' H locs) (hR : Rel g m' n t) (kk : lK p l e s m b below meth c Q ls D q tk adK adV) : W p l e room_1 s m #[Value.ref b] below meth c H locs 282 8881 Q (F0 m 175 ls []) := by
  have hE := exW_ok l D q s.heap.size tk adK adV
  have hN := exW_nx l D q s.heap.size tk adK adV
  have hT := exW_tk l D q s.heap.size tk adK adV
  have hW := exW_wd l D q s.heap.size tk adK adV
  have l3 : ls[3]? = some (.val (.int (nI i))) := lv_at hl 0 rfl
  have l2 : ls[2]? = some (.val (.ref (s.heap.size + 270))) := lv_at hl 1 rfl
  have l1 : ls[1]? = some (.val (.ref s.heap.size)) := lv_at hl 2 rfl
  have l0 : ls[0]? = some (.val (.ref b)) := lv_at hl 3 rfl
  obtain ⟨r, h, h', n', t', hc, hm, hR'⟩ := text_both hE (l, D, gM q, s.heap.size + 270) hR (xs (i + 1))
  refine lv_aload_n (k := 1) C.1 C.2.1 (by decide +kernel) rfl l1 ?_
  refine la_arg (k := 1) (k' := 1) C hX hbl hI.2.2 hL l0 l3 (by omega) (by decide +kernel) (by decide +kernel) (by decide +kernel) (by decide) (by decide +kernel) (by decide +kernel) ?_
  refine lc_call (pc := 181) (as := [qI (xs (i + 1))]) (idx := 20) (n := 1) (rest := []) C hI hc (cwT_r C cR_text inR (tb_T1 (i := 194) rfl rfl) (tb_T1 (i := 195) rfl rfl) (tb_T1 (i := 196) rfl rfl) (by decide +kernel) (by decide)) (qm_fa trivial (fun v hv => by cases hv)) rfl hl.1 rfl (Nat.zero_le _) (by decide +kernel) ⟨by decide, by decide⟩ (fun H1 locs1 hI1 => ?_)
  refine lv_aload_n (k := 2) C.1 C.2.1 (by decide +kernel) rfl l2 ?_
  refine la_arg (k := 1) (k' := 1) C hX hbl hI1.2.2 hL l0 l3 (by omega) (by decide +kernel) (by decide +kernel) (by decide +kernel) (by decide) (by decide +kernel) (by decide +kernel) ?_
  refine lm_call (pc := 190) (as := [qI (xs (i + 1))]) (idx := 24) (n := 1) (rest := [.int r]) C hI1 hm (cwT_r C cM_text inM (tb_T3 (i := 184) rfl rfl) (tb_T3 (i := 185) rfl rfl) (tb_T3 (i := 186) rfl rfl) (by decide +kernel) (by decide)) (qm_fa trivial (fun v hv => by cases hv)) rfl hl.1 rfl (Nat.le_of_ble_eq_true rfl) (by decide +kernel) ⟨by decide, by decide⟩ (fun H2 locs2 hI2 => ?_)
  exact lv_icmp_eq (pc := 193) C.1 C.2.1 (off := 358) (tgt := 551) (by decide +kernel) (by decide) (fun _ => kk h h' n' t' H2 locs2 hI2 hR') (fun hne => absurd rfl hne)
theorem lk_whole (C : lC p m c s b) (hX : va_X b L xs s s.heap) (hbl : b < s.heap.size) (hL : L ≤ 2560) (hl : lv_has ls 4 [(3, .int (nI i)), (2, .ref (s.heap.size + 270)), (1, .ref s.heap.size), (0, .ref b)]) (hi : i + 5 ≤ L) (hI : lI l D q tk adK adV s g m' H locs) (hR : Rel g m' n t) (kk : lK p l e s m b below meth c Q ls D q tk adK adV) : W p l e room_1 s m #[Value.ref b] below meth c H locs 282 8881 Q (F0 m 198 ls []) := by
  have hE := exW_ok l D q s.heap.size tk adK adV
  have hN := exW_nx l D q s.heap.size tk adK adV
  have hT := exW_tk l D q s.heap.size tk adK adV
  have hW := exW_wd l D q s.heap.size tk adK adV
  have l3 : ls[3]? = some (.val (.int (nI i))) := lv_at hl 0 rfl
  have l2 : ls[2]? = some (.val (.ref (s.heap.size + 270))) := lv_at hl 1 rfl
  have l1 : ls[1]? = some (.val (.ref s.heap.size)) := lv_at hl 2 rfl
  have l0 : ls[0]? = some (.val (.ref b)) := lv_at hl 3 rfl
  obtain ⟨r, h, h', n', hc, hm, hR'⟩ := whole_both hE hN (l, D, gM q, s.heap.size + 270) hR (lgV (xs (i + 1)) (xs (i + 2)))
  refine lv_aload_n (k := 1) C.1 C.2.1 (by decide +kernel) rfl l1 ?_
  refine la_long C hX hbl hI.2.2 hL l0 l3 (by omega) (by decide +kernel) (by decide +kernel) (by decide +kernel) (by decide +kernel) (by decide +kernel) (by decide +kernel) (by decide +kernel) (by decide +kernel) (by decide +kernel) (by decide +kernel) (by decide +kernel) (by decide +kernel) (by decide +kernel) (by decide +kernel) (by decide +kernel) (by decide +kernel) (by decide +kernel) ?_
  refine lc_call (pc := 219) (as := [qL (lgV (xs (i + 1)) (xs (i + 2)))]) (idx := 25) (n := 1) (rest := []) C hI hc (cwT_r C cR_whole inR (tb_T1 (i := 210) rfl rfl) (tb_T1 (i := 211) rfl rfl) (tb_T1 (i := 212) rfl rfl) (by decide +kernel) (by decide)) (qm_fa trivial (fun v hv => by cases hv)) rfl hl.1 rfl (Nat.zero_le _) (by decide +kernel) ⟨by decide, by decide⟩ (fun H1 locs1 hI1 => ?_)
  refine lv_aload_n (k := 2) C.1 C.2.1 (by decide +kernel) rfl l2 ?_
  refine la_long C hX hbl hI1.2.2 hL l0 l3 (by omega) (by decide +kernel) (by decide +kernel) (by decide +kernel) (by decide +kernel) (by decide +kernel) (by decide +kernel) (by decide +kernel) (by decide +kernel) (by decide +kernel) (by decide +kernel) (by decide +kernel) (by decide +kernel) (by decide +kernel) (by decide +kernel) (by decide +kernel) (by decide +kernel) (by decide +kernel) ?_
  refine lm_call (pc := 243) (as := [qL (lgV (xs (i + 1)) (xs (i + 2)))]) (idx := 29) (n := 1) (rest := [.int r]) C hI1 hm (cwT_r C cM_whole inM (tb_T3 (i := 193) rfl rfl) (tb_T3 (i := 194) rfl rfl) (tb_T3 (i := 195) rfl rfl) (by decide +kernel) (by decide)) (qm_fa trivial (fun v hv => by cases hv)) rfl hl.1 rfl (Nat.le_of_ble_eq_true rfl) (by decide +kernel) ⟨by decide, by decide⟩ (fun H2 locs2 hI2 => ?_)
  exact lv_icmp_eq (pc := 246) C.1 C.2.1 (off := 305) (tgt := 551) (by decide +kernel) (by decide) (fun _ => kk h h' n' t H2 locs2 hI2 hR') (fun hne => absurd rfl hne)
theorem lk_leaf (C : lC p m c s b) (hX : va_X b L xs s s.heap) (hbl : b < s.heap.size) (hL : L ≤ 2560) (hl : lv_has ls 4 [(3, .int (nI i)), (2, .ref (s.heap.size + 270)), (1, .ref s.heap.size), (0, .ref b)]) (hi : i + 5 ≤ L) (hI : lI l D q tk adK adV s g m' H locs) (hR : Rel g m' n t) (kk : lK p l e s m b below meth c Q ls D q tk adK adV) : W p l e room_1 s m #[Value.ref b] below meth c H locs 282 8881 Q (F0 m 251 ls []) := by
  have hE := exW_ok l D q s.heap.size tk adK adV
  have hN := exW_nx l D q s.heap.size tk adK adV
  have hT := exW_tk l D q s.heap.size tk adK adV
  have hW := exW_wd l D q s.heap.size tk adK adV
  have l3 : ls[3]? = some (.val (.int (nI i))) := lv_at hl 0 rfl
  have l2 : ls[2]? = some (.val (.ref (s.heap.size + 270))) := lv_at hl 1 rfl
  have l1 : ls[1]? = some (.val (.ref s.heap.size)) := lv_at hl 2 rfl
  have l0 : ls[0]? = some (.val (.ref b)) := lv_at hl 3 rfl
  obtain ⟨r, h, h', n', hc, hm, hR'⟩ := leaf_both hE (l, D, gM q, s.heap.size + 270) hR (xs (i + 1)) (xs (i + 2))
  refine lv_aload_n (k := 1) C.1 C.2.1 (by decide +kernel) rfl l1 ?_
  refine la_arg (k := 1) (k' := 1) C hX hbl hI.2.2 hL l0 l3 (by omega) (by decide +kernel) (by decide +kernel) (by decide +kernel) (by decide) (by decide +kernel) (by decide +kernel) ?_
  refine la_arg (k := 2) (k' := 2) C hX hbl hI.2.2 hL l0 l3 (by omega) (by decide +kernel) (by decide +kernel) (by decide +kernel) (by decide) (by decide +kernel) (by decide +kernel) ?_
  refine lc_call (pc := 262) (as := [qI (xs (i + 1)), qI (xs (i + 2))]) (idx := 30) (n := 2) (rest := []) C hI hc (cwT_r C cR_leaf inR (tb_T1 (i := 224) rfl rfl) (tb_T1 (i := 225) rfl rfl) (tb_T1 (i := 226) rfl rfl) (by decide +kernel) (by decide)) (qm_fa trivial (qm_fa trivial (fun v hv => by cases hv))) rfl hl.1 rfl (Nat.zero_le _) (by decide +kernel) ⟨by decide, by decide⟩ (fun H1 locs1 hI1 => ?_)
  refine lv_aload_n (k := 2) C.1 C.2.1 (by decide +kernel) rfl l2 ?_
  refine la_arg (k := 1) (k' := 1) C hX hbl hI1.2.2 hL l0 l3 (by omega) (by decide +kernel) (by decide +kernel) (by decide +kernel) (by decide) (by decide +kernel) (by decide +kernel) ?_
  refine la_arg (k := 2) (k' := 2) C hX hbl hI1.2.2 hL l0 l3 (by omega) (by decide +kernel) (by decide +kernel) (by decide +kernel) (by decide) (by decide +kernel) (by decide +kernel) ?_
  refine lm_call (pc := 276) (as := [qI (xs (i + 1)), qI (xs (i + 2))]) (idx := 34) (n := 2) (rest := [.int r]) C hI1 hm (cwT_r C cM_leaf inM (tb_T3 (i := 199) rfl rfl) (tb_T3 (i := 200) rfl rfl) (tb_T3 (i := 201) rfl rfl) (by decide +kernel) (by decide)) (qm_fa trivial (qm_fa trivial (fun v hv => by cases hv))) rfl hl.1 rfl (Nat.le_of_ble_eq_true rfl) (by decide +kernel) ⟨by decide, by decide⟩ (fun H2 locs2 hI2 => ?_)
  exact lv_icmp_eq (pc := 279) C.1 C.2.1 (off := 272) (tgt := 551) (by decide +kernel) (by decide) (fun _ => kk h h' n' t H2 locs2 hI2 hR') (fun hne => absurd rfl hne)
theorem lk_call (C : lC p m c s b) (hX : va_X b L xs s s.heap) (hbl : b < s.heap.size) (hL : L ≤ 2560) (hl : lv_has ls 4 [(3, .int (nI i)), (2, .ref (s.heap.size + 270)), (1, .ref s.heap.size), (0, .ref b)]) (hi : i + 5 ≤ L) (hI : lI l D q tk adK adV s g m' H locs) (hR : Rel g m' n t) (kk : lK p l e s m b below meth c Q ls D q tk adK adV) : W p l e room_1 s m #[Value.ref b] below meth c H locs 282 8881 Q (F0 m 284 ls []) := by
  have hE := exW_ok l D q s.heap.size tk adK adV
  have hN := exW_nx l D q s.heap.size tk adK adV
  have hT := exW_tk l D q s.heap.size tk adK adV
  have hW := exW_wd l D q s.heap.size tk adK adV
  have l3 : ls[3]? = some (.val (.int (nI i))) := lv_at hl 0 rfl
  have l2 : ls[2]? = some (.val (.ref (s.heap.size + 270))) := lv_at hl 1 rfl
  have l1 : ls[1]? = some (.val (.ref s.heap.size)) := lv_at hl 2 rfl
  have l0 : ls[0]? = some (.val (.ref b)) := lv_at hl 3 rfl
  obtain ⟨r, h, h', n', hc, hm, hR'⟩ := call_both hE hT (l, D, gM q, s.heap.size + 270) hR (xs (i + 1)) (xs (i + 2)) (xs (i + 3)) (xs (i + 4))
  refine lv_aload_n (k := 1) C.1 C.2.1 (by decide +kernel) rfl l1 ?_
  refine la_arg (k := 1) (k' := 1) C hX hbl hI.2.2 hL l0 l3 (by omega) (by decide +kernel) (by decide +kernel) (by decide +kernel) (by decide) (by decide +kernel) (by decide +kernel) ?_
  refine la_arg (k := 2) (k' := 2) C hX hbl hI.2.2 hL l0 l3 (by omega) (by decide +kernel) (by decide +kernel) (by decide +kernel) (by decide) (by decide +kernel) (by decide +kernel) ?_
  refine la_arg (k := 3) (k' := 3) C hX hbl hI.2.2 hL l0 l3 (by omega) (by decide +kernel) (by decide +kernel) (by decide +kernel) (by decide) (by decide +kernel) (by decide +kernel) ?_
  refine la_arg (k := 4) (k' := 4) C hX hbl hI.2.2 hL l0 l3 (by omega) (by decide +kernel) (by decide +kernel) (by decide +kernel) (by decide) (by decide +kernel) (by decide +kernel) ?_
  refine lc_call (pc := 305) (as := [qI (xs (i + 1)), qI (xs (i + 2)), qI (xs (i + 3)), qI (xs (i + 4))]) (idx := 35) (n := 4) (rest := []) C hI hc (cwT_r C cR_call inR (tb_T2 (i := 3) rfl rfl) (tb_T2 (i := 4) rfl rfl) (tb_T2 (i := 5) rfl rfl) (by decide +kernel) (by decide)) (qm_fa trivial (qm_fa trivial (qm_fa trivial (qm_fa trivial (fun v hv => by cases hv))))) rfl hl.1 rfl (Nat.zero_le _) (by decide +kernel) ⟨by decide, by decide⟩ (fun H1 locs1 hI1 => ?_)
  refine lv_aload_n (k := 2) C.1 C.2.1 (by decide +kernel) rfl l2 ?_
  refine la_arg (k := 1) (k' := 1) C hX hbl hI1.2.2 hL l0 l3 (by omega) (by decide +kernel) (by decide +kernel) (by decide +kernel) (by decide) (by decide +kernel) (by decide +kernel) ?_
  refine la_arg (k := 2) (k' := 2) C hX hbl hI1.2.2 hL l0 l3 (by omega) (by decide +kernel) (by decide +kernel) (by decide +kernel) (by decide) (by decide +kernel) (by decide +kernel) ?_
  refine la_arg (k := 3) (k' := 3) C hX hbl hI1.2.2 hL l0 l3 (by omega) (by decide +kernel) (by decide +kernel) (by decide +kernel) (by decide) (by decide +kernel) (by decide +kernel) ?_
  refine la_arg (k := 4) (k' := 4) C hX hbl hI1.2.2 hL l0 l3 (by omega) (by decide +kernel) (by decide +kernel) (by decide +kernel) (by decide) (by decide +kernel) (by decide +kernel) ?_
  refine lm_call (pc := 329) (as := [qI (xs (i + 1)), qI (xs (i + 2)), qI (xs (i + 3)), qI (xs (i + 4))]) (idx := 39) (n := 4) (rest := [.int r]) C hI1 hm (cwT_r C cM_call inM (tb_T3 (i := 213) rfl rfl) (tb_T3 (i := 214) rfl rfl) (tb_T3 (i := 215) rfl rfl) (by decide +kernel) (by decide)) (qm_fa trivial (qm_fa trivial (qm_fa trivial (qm_fa trivial (fun v hv => by cases hv))))) rfl hl.1 rfl (Nat.le_of_ble_eq_true rfl) (by decide +kernel) ⟨by decide, by decide⟩ (fun H2 locs2 hI2 => ?_)
  exact lv_icmp_eq (pc := 332) C.1 C.2.1 (off := 219) (tgt := 551) (by decide +kernel) (by decide) (fun _ => kk h h' n' t H2 locs2 hI2 hR') (fun hne => absurd rfl hne)
theorem lk_takes (C : lC p m c s b) (hX : va_X b L xs s s.heap) (hbl : b < s.heap.size) (hL : L ≤ 2560) (hl : lv_has ls 4 [(3, .int (nI i)), (2, .ref (s.heap.size + 270)), (1, .ref s.heap.size), (0, .ref b)]) (hi : i + 5 ≤ L) (hI : lI l D q tk adK adV s g m' H locs) (hR : Rel g m' n t) (kk : lK p l e s m b below meth c Q ls D q tk adK adV) : W p l e room_1 s m #[Value.ref b] below meth c H locs 282 8881 Q (F0 m 337 ls []) := by
  have hE := exW_ok l D q s.heap.size tk adK adV
  have hN := exW_nx l D q s.heap.size tk adK adV
  have hT := exW_tk l D q s.heap.size tk adK adV
  have hW := exW_wd l D q s.heap.size tk adK adV
  have l3 : ls[3]? = some (.val (.int (nI i))) := lv_at hl 0 rfl
  have l2 : ls[2]? = some (.val (.ref (s.heap.size + 270))) := lv_at hl 1 rfl
  have l1 : ls[1]? = some (.val (.ref s.heap.size)) := lv_at hl 2 rfl
  have l0 : ls[0]? = some (.val (.ref b)) := lv_at hl 3 rfl
  obtain ⟨r, hc, hm⟩ := takes_both hT (l, D, gM q, s.heap.size + 270) hR (xs (i + 1))
  refine lv_aload_n (k := 1) C.1 C.2.1 (by decide +kernel) rfl l1 ?_
  refine la_arg (k := 1) (k' := 1) C hX hbl hI.2.2 hL l0 l3 (by omega) (by decide +kernel) (by decide +kernel) (by decide +kernel) (by decide) (by decide +kernel) (by decide +kernel) ?_
  refine lc_call (pc := 343) (as := [qI (xs (i + 1))]) (idx := 40) (n := 1) (rest := []) C hI hc (cwT_r C cR_takes inR (tb_T2 (i := 24) rfl rfl) (tb_T2 (i := 8) rfl rfl) (tb_T2 (i := 9) rfl rfl) (by decide +kernel) (by decide)) (qm_fa trivial (fun v hv => by cases hv)) rfl hl.1 rfl (Nat.zero_le _) (by decide +kernel) ⟨by decide, by decide⟩ (fun H1 locs1 hI1 => ?_)
  refine lv_aload_n (k := 2) C.1 C.2.1 (by decide +kernel) rfl l2 ?_
  refine la_arg (k := 1) (k' := 1) C hX hbl hI1.2.2 hL l0 l3 (by omega) (by decide +kernel) (by decide +kernel) (by decide +kernel) (by decide) (by decide +kernel) (by decide +kernel) ?_
  refine lm_call (pc := 352) (as := [qI (xs (i + 1))]) (idx := 43) (n := 1) (rest := [.int r]) C hI1 hm (cwT_r C cM_takes inM (tb_T3 (i := 205) rfl rfl) (tb_T3 (i := 206) rfl rfl) (tb_T3 (i := 207) rfl rfl) (by decide +kernel) (by decide)) (qm_fa trivial (fun v hv => by cases hv)) rfl hl.1 rfl (Nat.le_of_ble_eq_true rfl) (by decide +kernel) ⟨by decide, by decide⟩ (fun H2 locs2 hI2 => ?_)
  exact lv_icmp_eq (pc := 355) C.1 C.2.1 (off := 196) (tgt := 551) (by decide +kernel) (by decide) (fun _ => kk g m' n t H2 locs2 hI2 hR) (fun hne => absurd rfl hne)
theorem lk_run (C : lC p m c s b) (hX : va_X b L xs s s.heap) (hbl : b < s.heap.size) (hL : L ≤ 2560) (hl : lv_has ls 4 [(3, .int (nI i)), (2, .ref (s.heap.size + 270)), (1, .ref s.heap.size), (0, .ref b)]) (hi : i + 5 ≤ L) (hI : lI l D q tk adK adV s g m' H locs) (hR : Rel g m' n t) (kk : lK p l e s m b below meth c Q ls D q tk adK adV) : W p l e room_1 s m #[Value.ref b] below meth c H locs 282 8881 Q (F0 m 360 ls []) := by
  have hE := exW_ok l D q s.heap.size tk adK adV
  have hN := exW_nx l D q s.heap.size tk adK adV
  have hT := exW_tk l D q s.heap.size tk adK adV
  have hW := exW_wd l D q s.heap.size tk adK adV
  have l3 : ls[3]? = some (.val (.int (nI i))) := lv_at hl 0 rfl
  have l2 : ls[2]? = some (.val (.ref (s.heap.size + 270))) := lv_at hl 1 rfl
  have l1 : ls[1]? = some (.val (.ref s.heap.size)) := lv_at hl 2 rfl
  have l0 : ls[0]? = some (.val (.ref b)) := lv_at hl 3 rfl
  obtain ⟨r, h, h', hc, hm, hR'⟩ := run_both hE hN hW (l, D, gM q, s.heap.size + 270) hR (xs (i + 1))
  refine lv_aload_n (k := 1) C.1 C.2.1 (by decide +kernel) rfl l1 ?_
  refine la_arg (k := 1) (k' := 1) C hX hbl hI.2.2 hL l0 l3 (by omega) (by decide +kernel) (by decide +kernel) (by decide +kernel) (by decide) (by decide +kernel) (by decide +kernel) ?_
  refine lc_call (pc := 366) (as := [qI (xs (i + 1))]) (idx := 44) (n := 1) (rest := []) C hI hc (cwT_r C cR_run inR (tb_T2 (i := 25) rfl rfl) (tb_T2 (i := 26) rfl rfl) (tb_T2 (i := 27) rfl rfl) (by decide +kernel) (by decide)) (qm_fa trivial (fun v hv => by cases hv)) rfl hl.1 rfl (Nat.zero_le _) (by decide +kernel) ⟨by decide, by decide⟩ (fun H1 locs1 hI1 => ?_)
  refine lv_aload_n (k := 2) C.1 C.2.1 (by decide +kernel) rfl l2 ?_
  refine la_arg (k := 1) (k' := 1) C hX hbl hI1.2.2 hL l0 l3 (by omega) (by decide +kernel) (by decide +kernel) (by decide +kernel) (by decide) (by decide +kernel) (by decide +kernel) ?_
  refine lm_call (pc := 375) (as := [qI (xs (i + 1))]) (idx := 47) (n := 1) (rest := [.int r]) C hI1 hm (cwT_r C cM_run inM (tb_T3 (i := 221) rfl rfl) (tb_T3 (i := 222) rfl rfl) (tb_T3 (i := 223) rfl rfl) (by decide +kernel) (by decide)) (qm_fa trivial (fun v hv => by cases hv)) rfl hl.1 rfl (Nat.le_of_ble_eq_true rfl) (by decide +kernel) ⟨by decide, by decide⟩ (fun H2 locs2 hI2 => ?_)
  exact lv_icmp_eq (pc := 378) C.1 C.2.1 (off := 173) (tgt := 551) (by decide +kernel) (by decide) (fun _ => kk h h' n t H2 locs2 hI2 hR') (fun hne => absurd rfl hne)
theorem lk_number (C : lC p m c s b) (hX : va_X b L xs s s.heap) (hbl : b < s.heap.size) (hL : L ≤ 2560) (hl : lv_has ls 4 [(3, .int (nI i)), (2, .ref (s.heap.size + 270)), (1, .ref s.heap.size), (0, .ref b)]) (hi : i + 5 ≤ L) (hI : lI l D q tk adK adV s g m' H locs) (hR : Rel g m' n t) (kk : lK p l e s m b below meth c Q ls D q tk adK adV) : W p l e room_1 s m #[Value.ref b] below meth c H locs 282 8881 Q (F0 m 383 ls []) := by
  have hE := exW_ok l D q s.heap.size tk adK adV
  have hN := exW_nx l D q s.heap.size tk adK adV
  have hT := exW_tk l D q s.heap.size tk adK adV
  have hW := exW_wd l D q s.heap.size tk adK adV
  have l3 : ls[3]? = some (.val (.int (nI i))) := lv_at hl 0 rfl
  have l2 : ls[2]? = some (.val (.ref (s.heap.size + 270))) := lv_at hl 1 rfl
  have l1 : ls[1]? = some (.val (.ref s.heap.size)) := lv_at hl 2 rfl
  have l0 : ls[0]? = some (.val (.ref b)) := lv_at hl 3 rfl
  obtain ⟨r, hc, hm⟩ := number_both hE (l, D, gM q, s.heap.size + 270) hR
  refine lv_aload_n (k := 1) C.1 C.2.1 (by decide +kernel) rfl l1 ?_
  refine lc_call (pc := 384) (as := []) (idx := 48) (n := 0) (rest := []) C hI hc (cwT_r C cR_number inR (tb_T3 (i := 72) rfl rfl) (tb_T3 (i := 73) rfl rfl) (tb_T3 (i := 74) rfl rfl) (by decide +kernel) (by decide)) (fun v hv => by cases hv) rfl hl.1 rfl (Nat.zero_le _) (by decide +kernel) ⟨by decide, by decide⟩ (fun H1 locs1 hI1 => ?_)
  refine lv_aload_n (k := 2) C.1 C.2.1 (by decide +kernel) rfl l2 ?_
  refine lm_call (pc := 388) (as := []) (idx := 52) (n := 0) (rest := [.long r]) C hI1 hm (cwT_r C cM_number inM (tb_T4 (i := 128) rfl rfl) (tb_T4 (i := 129) rfl rfl) (tb_T4 (i := 130) rfl rfl) (by decide +kernel) (by decide)) (fun v hv => by cases hv) rfl hl.1 rfl (Nat.le_of_ble_eq_true rfl) (by decide +kernel) ⟨by decide, by decide⟩ (fun H2 locs2 hI2 => ?_)
  exact W.lcmp C.1 C.2.1 (show decode code 391 = _ from (by decide +kernel)) (lv_if_eq (pc := 392) C.1 C.2.1 (off := 159) (tgt := 551) (by decide +kernel) (by decide) (fun _ => kk g m' n t H2 locs2 hI2 hR) (fun hne => absurd ((lg_cmp_eq r r).mpr rfl) hne))
theorem lk_tag (C : lC p m c s b) (hX : va_X b L xs s s.heap) (hbl : b < s.heap.size) (hL : L ≤ 2560) (hl : lv_has ls 4 [(3, .int (nI i)), (2, .ref (s.heap.size + 270)), (1, .ref s.heap.size), (0, .ref b)]) (hi : i + 5 ≤ L) (hI : lI l D q tk adK adV s g m' H locs) (hR : Rel g m' n t) (kk : lK p l e s m b below meth c Q ls D q tk adK adV) : W p l e room_1 s m #[Value.ref b] below meth c H locs 282 8881 Q (F0 m 397 ls []) := by
  have hE := exW_ok l D q s.heap.size tk adK adV
  have hN := exW_nx l D q s.heap.size tk adK adV
  have hT := exW_tk l D q s.heap.size tk adK adV
  have hW := exW_wd l D q s.heap.size tk adK adV
  have l3 : ls[3]? = some (.val (.int (nI i))) := lv_at hl 0 rfl
  have l2 : ls[2]? = some (.val (.ref (s.heap.size + 270))) := lv_at hl 1 rfl
  have l1 : ls[1]? = some (.val (.ref s.heap.size)) := lv_at hl 2 rfl
  have l0 : ls[0]? = some (.val (.ref b)) := lv_at hl 3 rfl
  obtain ⟨r, hc, hm⟩ := tag_both hE (l, D, gM q, s.heap.size + 270) hR
  refine lv_aload_n (k := 1) C.1 C.2.1 (by decide +kernel) rfl l1 ?_
  refine lc_call (pc := 398) (as := []) (idx := 53) (n := 0) (rest := []) C hI hc (cwT_r C cR_tag inR (tb_T3 (i := 77) rfl rfl) (tb_T3 (i := 78) rfl rfl) (tb_T3 (i := 79) rfl rfl) (by decide +kernel) (by decide)) (fun v hv => by cases hv) rfl hl.1 rfl (Nat.zero_le _) (by decide +kernel) ⟨by decide, by decide⟩ (fun H1 locs1 hI1 => ?_)
  refine lv_aload_n (k := 2) C.1 C.2.1 (by decide +kernel) rfl l2 ?_
  refine lm_call (pc := 402) (as := []) (idx := 57) (n := 0) (rest := [.int r]) C hI1 hm (cwT_r C cM_tag inM (tb_T4 (i := 133) rfl rfl) (tb_T4 (i := 134) rfl rfl) (tb_T4 (i := 135) rfl rfl) (by decide +kernel) (by decide)) (fun v hv => by cases hv) rfl hl.1 rfl (Nat.le_of_ble_eq_true rfl) (by decide +kernel) ⟨by decide, by decide⟩ (fun H2 locs2 hI2 => ?_)
  exact lv_icmp_eq (pc := 405) C.1 C.2.1 (off := 146) (tgt := 551) (by decide +kernel) (by decide) (fun _ => kk g m' n t H2 locs2 hI2 hR) (fun hne => absurd rfl hne)
theorem lk_letter (C : lC p m c s b) (hX : va_X b L xs s s.heap) (hbl : b < s.heap.size) (hL : L ≤ 2560) (hl : lv_has ls 4 [(3, .int (nI i)), (2, .ref (s.heap.size + 270)), (1, .ref s.heap.size), (0, .ref b)]) (hi : i + 5 ≤ L) (hI : lI l D q tk adK adV s g m' H locs) (hR : Rel g m' n t) (kk : lK p l e s m b below meth c Q ls D q tk adK adV) : W p l e room_1 s m #[Value.ref b] below meth c H locs 282 8881 Q (F0 m 410 ls []) := by
  have hE := exW_ok l D q s.heap.size tk adK adV
  have hN := exW_nx l D q s.heap.size tk adK adV
  have hT := exW_tk l D q s.heap.size tk adK adV
  have hW := exW_wd l D q s.heap.size tk adK adV
  have l3 : ls[3]? = some (.val (.int (nI i))) := lv_at hl 0 rfl
  have l2 : ls[2]? = some (.val (.ref (s.heap.size + 270))) := lv_at hl 1 rfl
  have l1 : ls[1]? = some (.val (.ref s.heap.size)) := lv_at hl 2 rfl
  have l0 : ls[0]? = some (.val (.ref b)) := lv_at hl 3 rfl
  obtain ⟨r, hc, hm⟩ := letter_both hE (l, D, gM q, s.heap.size + 270) hR (xs (i + 1))
  refine lv_aload_n (k := 1) C.1 C.2.1 (by decide +kernel) rfl l1 ?_
  refine la_arg (k := 1) (k' := 1) C hX hbl hI.2.2 hL l0 l3 (by omega) (by decide +kernel) (by decide +kernel) (by decide +kernel) (by decide) (by decide +kernel) (by decide +kernel) ?_
  refine lc_call (pc := 416) (as := [qI (xs (i + 1))]) (idx := 58) (n := 1) (rest := []) C hI hc (cwT_r C cR_letter inR (tb_T3 (i := 81) rfl rfl) (tb_T3 (i := 82) rfl rfl) (tb_T3 (i := 83) rfl rfl) (by decide +kernel) (by decide)) (qm_fa trivial (fun v hv => by cases hv)) rfl hl.1 rfl (Nat.zero_le _) (by decide +kernel) ⟨by decide, by decide⟩ (fun H1 locs1 hI1 => ?_)
  refine lv_aload_n (k := 2) C.1 C.2.1 (by decide +kernel) rfl l2 ?_
  refine la_arg (k := 1) (k' := 1) C hX hbl hI1.2.2 hL l0 l3 (by omega) (by decide +kernel) (by decide +kernel) (by decide +kernel) (by decide) (by decide +kernel) (by decide +kernel) ?_
  refine lm_call (pc := 425) (as := [qI (xs (i + 1))]) (idx := 61) (n := 1) (rest := [.int r]) C hI1 hm (cwT_r C cM_letter inM (tb_T4 (i := 137) rfl rfl) (tb_T4 (i := 138) rfl rfl) (tb_T4 (i := 139) rfl rfl) (by decide +kernel) (by decide)) (qm_fa trivial (fun v hv => by cases hv)) rfl hl.1 rfl (Nat.le_of_ble_eq_true rfl) (by decide +kernel) ⟨by decide, by decide⟩ (fun H2 locs2 hI2 => ?_)
  exact lv_icmp_eq (pc := 428) C.1 C.2.1 (off := 123) (tgt := 551) (by decide +kernel) (by decide) (fun _ => kk g m' n t H2 locs2 hI2 hR) (fun hne => absurd rfl hne)
theorem lk_give (C : lC p m c s b) (hX : va_X b L xs s s.heap) (hbl : b < s.heap.size) (hL : L ≤ 2560) (hl : lv_has ls 4 [(3, .int (nI i)), (2, .ref (s.heap.size + 270)), (1, .ref s.heap.size), (0, .ref b)]) (hi : i + 5 ≤ L) (hI : lI l D q tk adK adV s g m' H locs) (hR : Rel g m' n t) (kk : lK p l e s m b below meth c Q ls D q tk adK adV) : W p l e room_1 s m #[Value.ref b] below meth c H locs 282 8881 Q (F0 m 433 ls []) := by
  have hE := exW_ok l D q s.heap.size tk adK adV
  have hN := exW_nx l D q s.heap.size tk adK adV
  have hT := exW_tk l D q s.heap.size tk adK adV
  have hW := exW_wd l D q s.heap.size tk adK adV
  have l3 : ls[3]? = some (.val (.int (nI i))) := lv_at hl 0 rfl
  have l2 : ls[2]? = some (.val (.ref (s.heap.size + 270))) := lv_at hl 1 rfl
  have l1 : ls[1]? = some (.val (.ref s.heap.size)) := lv_at hl 2 rfl
  have l0 : ls[0]? = some (.val (.ref b)) := lv_at hl 3 rfl
  obtain ⟨r, h, h', hc, hm, hR'⟩ := give_both hE (l, D, gM q, s.heap.size + 270) hR (xs (i + 1))
  refine lv_aload_n (k := 1) C.1 C.2.1 (by decide +kernel) rfl l1 ?_
  refine la_arg (k := 1) (k' := 1) C hX hbl hI.2.2 hL l0 l3 (by omega) (by decide +kernel) (by decide +kernel) (by decide +kernel) (by decide) (by decide +kernel) (by decide +kernel) ?_
  refine lc_call (pc := 439) (as := [qI (xs (i + 1))]) (idx := 62) (n := 1) (rest := []) C hI hc (cwT_r C cR_give inR (tb_T3 (i := 86) rfl rfl) (tb_T3 (i := 87) rfl rfl) (tb_T3 (i := 88) rfl rfl) (by decide +kernel) (by decide)) (qm_fa trivial (fun v hv => by cases hv)) rfl hl.1 rfl (Nat.zero_le _) (by decide +kernel) ⟨by decide, by decide⟩ (fun H1 locs1 hI1 => ?_)
  refine lv_aload_n (k := 2) C.1 C.2.1 (by decide +kernel) rfl l2 ?_
  refine la_arg (k := 1) (k' := 1) C hX hbl hI1.2.2 hL l0 l3 (by omega) (by decide +kernel) (by decide +kernel) (by decide +kernel) (by decide) (by decide +kernel) (by decide +kernel) ?_
  refine lm_call (pc := 448) (as := [qI (xs (i + 1))]) (idx := 65) (n := 1) (rest := [.int r]) C hI1 hm (cwT_r C cM_give inM (tb_T4 (i := 141) rfl rfl) (tb_T4 (i := 142) rfl rfl) (tb_T4 (i := 143) rfl rfl) (by decide +kernel) (by decide)) (qm_fa trivial (fun v hv => by cases hv)) rfl hl.1 rfl (Nat.le_of_ble_eq_true rfl) (by decide +kernel) ⟨by decide, by decide⟩ (fun H2 locs2 hI2 => ?_)
  exact lv_icmp_eq (pc := 451) C.1 C.2.1 (off := 100) (tgt := 551) (by decide +kernel) (by decide) (fun _ => kk h h' n t H2 locs2 hI2 hR') (fun hne => absurd rfl hne)
theorem lk_drop (C : lC p m c s b) (hX : va_X b L xs s s.heap) (hbl : b < s.heap.size) (hL : L ≤ 2560) (hl : lv_has ls 4 [(3, .int (nI i)), (2, .ref (s.heap.size + 270)), (1, .ref s.heap.size), (0, .ref b)]) (hi : i + 5 ≤ L) (hI : lI l D q tk adK adV s g m' H locs) (hR : Rel g m' n t) (kk : lK p l e s m b below meth c Q ls D q tk adK adV) : W p l e room_1 s m #[Value.ref b] below meth c H locs 282 8881 Q (F0 m 456 ls []) := by
  have hE := exW_ok l D q s.heap.size tk adK adV
  have hN := exW_nx l D q s.heap.size tk adK adV
  have hT := exW_tk l D q s.heap.size tk adK adV
  have hW := exW_wd l D q s.heap.size tk adK adV
  have l3 : ls[3]? = some (.val (.int (nI i))) := lv_at hl 0 rfl
  have l2 : ls[2]? = some (.val (.ref (s.heap.size + 270))) := lv_at hl 1 rfl
  have l1 : ls[1]? = some (.val (.ref s.heap.size)) := lv_at hl 2 rfl
  have l0 : ls[0]? = some (.val (.ref b)) := lv_at hl 3 rfl
  obtain ⟨r, h, h', hc, hm, hR'⟩ := drop_both hE (l, D, gM q, s.heap.size + 270) hR (xs (i + 1))
  refine lv_aload_n (k := 1) C.1 C.2.1 (by decide +kernel) rfl l1 ?_
  refine la_arg (k := 1) (k' := 1) C hX hbl hI.2.2 hL l0 l3 (by omega) (by decide +kernel) (by decide +kernel) (by decide +kernel) (by decide) (by decide +kernel) (by decide +kernel) ?_
  refine lc_call (pc := 462) (as := [qI (xs (i + 1))]) (idx := 66) (n := 1) (rest := []) C hI hc (cwT_r C cR_drop inR (tb_T3 (i := 93) rfl rfl) (tb_T3 (i := 94) rfl rfl) (tb_T3 (i := 95) rfl rfl) (by decide +kernel) (by decide)) (qm_fa trivial (fun v hv => by cases hv)) rfl hl.1 rfl (Nat.zero_le _) (by decide +kernel) ⟨by decide, by decide⟩ (fun H1 locs1 hI1 => ?_)
  refine lv_aload_n (k := 2) C.1 C.2.1 (by decide +kernel) rfl l2 ?_
  refine la_arg (k := 1) (k' := 1) C hX hbl hI1.2.2 hL l0 l3 (by omega) (by decide +kernel) (by decide +kernel) (by decide +kernel) (by decide) (by decide +kernel) (by decide +kernel) ?_
  refine lm_call (pc := 471) (as := [qI (xs (i + 1))]) (idx := 69) (n := 1) (rest := [.int r]) C hI1 hm (cwT_r C cM_drop inM (tb_T4 (i := 145) rfl rfl) (tb_T4 (i := 146) rfl rfl) (tb_T4 (i := 147) rfl rfl) (by decide +kernel) (by decide)) (qm_fa trivial (fun v hv => by cases hv)) rfl hl.1 rfl (Nat.le_of_ble_eq_true rfl) (by decide +kernel) ⟨by decide, by decide⟩ (fun H2 locs2 hI2 => ?_)
  exact lv_icmp_eq (pc := 474) C.1 C.2.1 (off := 77) (tgt := 551) (by decide +kernel) (by decide) (fun _ => kk h h' n t H2 locs2 hI2 hR') (fun hne => absurd rfl hne)
theorem lk_uses (C : lC p m c s b) (hX : va_X b L xs s s.heap) (hbl : b < s.heap.size) (hL : L ≤ 2560) (hl : lv_has ls 4 [(3, .int (nI i)), (2, .ref (s.heap.size + 270)), (1, .ref s.heap.size), (0, .ref b)]) (hi : i + 5 ≤ L) (hI : lI l D q tk adK adV s g m' H locs) (hR : Rel g m' n t) (kk : lK p l e s m b below meth c Q ls D q tk adK adV) : W p l e room_1 s m #[Value.ref b] below meth c H locs 282 8881 Q (F0 m 479 ls []) := by
  have hE := exW_ok l D q s.heap.size tk adK adV
  have hN := exW_nx l D q s.heap.size tk adK adV
  have hT := exW_tk l D q s.heap.size tk adK adV
  have hW := exW_wd l D q s.heap.size tk adK adV
  have l3 : ls[3]? = some (.val (.int (nI i))) := lv_at hl 0 rfl
  have l2 : ls[2]? = some (.val (.ref (s.heap.size + 270))) := lv_at hl 1 rfl
  have l1 : ls[1]? = some (.val (.ref s.heap.size)) := lv_at hl 2 rfl
  have l0 : ls[0]? = some (.val (.ref b)) := lv_at hl 3 rfl
  obtain ⟨r, h', hc, hm, hR'⟩ := uses_both hE (l, D, gM q, s.heap.size + 270) hR (xs (i + 1))
  refine lv_aload_n (k := 1) C.1 C.2.1 (by decide +kernel) rfl l1 ?_
  refine la_arg (k := 1) (k' := 1) C hX hbl hI.2.2 hL l0 l3 (by omega) (by decide +kernel) (by decide +kernel) (by decide +kernel) (by decide) (by decide +kernel) (by decide +kernel) ?_
  refine lc_call (pc := 485) (as := [qI (xs (i + 1))]) (idx := 70) (n := 1) (rest := []) C hI hc (cwT_r C cR_uses inR (tb_T3 (i := 98) rfl rfl) (tb_T3 (i := 99) rfl rfl) (tb_T3 (i := 100) rfl rfl) (by decide +kernel) (by decide)) (qm_fa trivial (fun v hv => by cases hv)) rfl hl.1 rfl (Nat.zero_le _) (by decide +kernel) ⟨by decide, by decide⟩ (fun H1 locs1 hI1 => ?_)
  refine lv_aload_n (k := 2) C.1 C.2.1 (by decide +kernel) rfl l2 ?_
  refine la_arg (k := 1) (k' := 1) C hX hbl hI1.2.2 hL l0 l3 (by omega) (by decide +kernel) (by decide +kernel) (by decide +kernel) (by decide) (by decide +kernel) (by decide +kernel) ?_
  refine lm_call (pc := 494) (as := [qI (xs (i + 1))]) (idx := 73) (n := 1) (rest := [.int r]) C hI1 hm (cwT_r C cM_uses inM (tb_T4 (i := 149) rfl rfl) (tb_T4 (i := 150) rfl rfl) (tb_T4 (i := 151) rfl rfl) (by decide +kernel) (by decide)) (qm_fa trivial (fun v hv => by cases hv)) rfl hl.1 rfl (Nat.le_of_ble_eq_true rfl) (by decide +kernel) ⟨by decide, by decide⟩ (fun H2 locs2 hI2 => ?_)
  exact lv_icmp_eq (pc := 497) C.1 C.2.1 (off := 54) (tgt := 551) (by decide +kernel) (by decide) (fun _ => kk g h' n t H2 locs2 hI2 hR') (fun hne => absurd rfl hne)
theorem lk_depth (C : lC p m c s b) (hX : va_X b L xs s s.heap) (hbl : b < s.heap.size) (hL : L ≤ 2560) (hl : lv_has ls 4 [(3, .int (nI i)), (2, .ref (s.heap.size + 270)), (1, .ref s.heap.size), (0, .ref b)]) (hi : i + 5 ≤ L) (hI : lI l D q tk adK adV s g m' H locs) (hR : Rel g m' n t) (kk : lK p l e s m b below meth c Q ls D q tk adK adV) : W p l e room_1 s m #[Value.ref b] below meth c H locs 282 8881 Q (F0 m 502 ls []) := by
  have hE := exW_ok l D q s.heap.size tk adK adV
  have hN := exW_nx l D q s.heap.size tk adK adV
  have hT := exW_tk l D q s.heap.size tk adK adV
  have hW := exW_wd l D q s.heap.size tk adK adV
  have l3 : ls[3]? = some (.val (.int (nI i))) := lv_at hl 0 rfl
  have l2 : ls[2]? = some (.val (.ref (s.heap.size + 270))) := lv_at hl 1 rfl
  have l1 : ls[1]? = some (.val (.ref s.heap.size)) := lv_at hl 2 rfl
  have l0 : ls[0]? = some (.val (.ref b)) := lv_at hl 3 rfl
  obtain ⟨r, h', hc, hm, hR'⟩ := depth_both hE (l, D, gM q, s.heap.size + 270) hR (xs (i + 1))
  refine lv_aload_n (k := 1) C.1 C.2.1 (by decide +kernel) rfl l1 ?_
  refine la_arg (k := 1) (k' := 1) C hX hbl hI.2.2 hL l0 l3 (by omega) (by decide +kernel) (by decide +kernel) (by decide +kernel) (by decide) (by decide +kernel) (by decide +kernel) ?_
  refine lc_call (pc := 508) (as := [qI (xs (i + 1))]) (idx := 74) (n := 1) (rest := []) C hI hc (cwT_r C cR_depth inR (tb_T3 (i := 102) rfl rfl) (tb_T3 (i := 103) rfl rfl) (tb_T3 (i := 104) rfl rfl) (by decide +kernel) (by decide)) (qm_fa trivial (fun v hv => by cases hv)) rfl hl.1 rfl (Nat.zero_le _) (by decide +kernel) ⟨by decide, by decide⟩ (fun H1 locs1 hI1 => ?_)
  refine lv_aload_n (k := 2) C.1 C.2.1 (by decide +kernel) rfl l2 ?_
  refine la_arg (k := 1) (k' := 1) C hX hbl hI1.2.2 hL l0 l3 (by omega) (by decide +kernel) (by decide +kernel) (by decide +kernel) (by decide) (by decide +kernel) (by decide +kernel) ?_
  refine lm_call (pc := 517) (as := [qI (xs (i + 1))]) (idx := 77) (n := 1) (rest := [.int r]) C hI1 hm (cwT_r C cM_depth inM (tb_T4 (i := 153) rfl rfl) (tb_T4 (i := 154) rfl rfl) (tb_T4 (i := 155) rfl rfl) (by decide +kernel) (by decide)) (qm_fa trivial (fun v hv => by cases hv)) rfl hl.1 rfl (Nat.le_of_ble_eq_true rfl) (by decide +kernel) ⟨by decide, by decide⟩ (fun H2 locs2 hI2 => ?_)
  exact lv_icmp_eq (pc := 520) C.1 C.2.1 (off := 31) (tgt := 551) (by decide +kernel) (by decide) (fun _ => kk g h' n t H2 locs2 hI2 hR') (fun hne => absurd rfl hne)
theorem lk_clear (C : lC p m c s b) (hX : va_X b L xs s s.heap) (hbl : b < s.heap.size) (hL : L ≤ 2560) (hl : lv_has ls 4 [(3, .int (nI i)), (2, .ref (s.heap.size + 270)), (1, .ref s.heap.size), (0, .ref b)]) (hi : i + 5 ≤ L) (hI : lI l D q tk adK adV s g m' H locs) (hR : Rel g m' n t) (kk : lK p l e s m b below meth c Q ls D q tk adK adV) : W p l e room_1 s m #[Value.ref b] below meth c H locs 282 8881 Q (F0 m 525 ls []) := by
  have hE := exW_ok l D q s.heap.size tk adK adV
  have hN := exW_nx l D q s.heap.size tk adK adV
  have hT := exW_tk l D q s.heap.size tk adK adV
  have hW := exW_wd l D q s.heap.size tk adK adV
  have l3 : ls[3]? = some (.val (.int (nI i))) := lv_at hl 0 rfl
  have l2 : ls[2]? = some (.val (.ref (s.heap.size + 270))) := lv_at hl 1 rfl
  have l1 : ls[1]? = some (.val (.ref s.heap.size)) := lv_at hl 2 rfl
  have l0 : ls[0]? = some (.val (.ref b)) := lv_at hl 3 rfl
  obtain ⟨r, h, h', hc, hm, hR'⟩ := clear_both hE (l, D, gM q, s.heap.size + 270) hR
  refine lv_aload_n (k := 1) C.1 C.2.1 (by decide +kernel) rfl l1 ?_
  refine lc_call (pc := 526) (as := []) (idx := 78) (n := 0) (rest := []) C hI hc (cwT_r C cR_clear inR (tb_T3 (i := 106) rfl rfl) (tb_T3 (i := 107) rfl rfl) (tb_T3 (i := 108) rfl rfl) (by decide +kernel) (by decide)) (fun v hv => by cases hv) rfl hl.1 rfl (Nat.zero_le _) (by decide +kernel) ⟨by decide, by decide⟩ (fun H1 locs1 hI1 => ?_)
  refine lv_aload_n (k := 2) C.1 C.2.1 (by decide +kernel) rfl l2 ?_
  refine lm_call (pc := 530) (as := []) (idx := 81) (n := 0) (rest := [.int r]) C hI1 hm (cwT_r C cM_clear inM (tb_T4 (i := 158) rfl rfl) (tb_T4 (i := 159) rfl rfl) (tb_T4 (i := 160) rfl rfl) (by decide +kernel) (by decide)) (fun v hv => by cases hv) rfl hl.1 rfl (Nat.le_of_ble_eq_true rfl) (by decide +kernel) ⟨by decide, by decide⟩ (fun H2 locs2 hI2 => ?_)
  exact lv_icmp_eq (pc := 533) C.1 C.2.1 (off := 18) (tgt := 551) (by decide +kernel) (by decide) (fun _ => kk h h' 0 t H2 locs2 hI2 hR') (fun hne => absurd rfl hne)
theorem lk_size (C : lC p m c s b) (hX : va_X b L xs s s.heap) (hbl : b < s.heap.size) (hL : L ≤ 2560) (hl : lv_has ls 4 [(3, .int (nI i)), (2, .ref (s.heap.size + 270)), (1, .ref s.heap.size), (0, .ref b)]) (hi : i + 5 ≤ L) (hI : lI l D q tk adK adV s g m' H locs) (hR : Rel g m' n t) (kk : lK p l e s m b below meth c Q ls D q tk adK adV) : W p l e room_1 s m #[Value.ref b] below meth c H locs 282 8881 Q (F0 m 538 ls []) := by
  have hE := exW_ok l D q s.heap.size tk adK adV
  have hN := exW_nx l D q s.heap.size tk adK adV
  have hT := exW_tk l D q s.heap.size tk adK adV
  have hW := exW_wd l D q s.heap.size tk adK adV
  have l3 : ls[3]? = some (.val (.int (nI i))) := lv_at hl 0 rfl
  have l2 : ls[2]? = some (.val (.ref (s.heap.size + 270))) := lv_at hl 1 rfl
  have l1 : ls[1]? = some (.val (.ref s.heap.size)) := lv_at hl 2 rfl
  have l0 : ls[0]? = some (.val (.ref b)) := lv_at hl 3 rfl
  obtain ⟨r, hc, hm⟩ := size_both hE (l, D, gM q, s.heap.size + 270) hR
  refine lv_aload_n (k := 1) C.1 C.2.1 (by decide +kernel) rfl l1 ?_
  refine lc_call (pc := 539) (as := []) (idx := 82) (n := 0) (rest := []) C hI hc (cwT_r C cR_size inR (tb_T3 (i := 110) rfl rfl) (tb_T3 (i := 111) rfl rfl) (tb_T3 (i := 112) rfl rfl) (by decide +kernel) (by decide)) (fun v hv => by cases hv) rfl hl.1 rfl (Nat.zero_le _) (by decide +kernel) ⟨by decide, by decide⟩ (fun H1 locs1 hI1 => ?_)
  refine lv_aload_n (k := 2) C.1 C.2.1 (by decide +kernel) rfl l2 ?_
  refine lm_call (pc := 543) (as := []) (idx := 85) (n := 0) (rest := [.int r]) C hI1 hm (cwT_r C cM_size inM (tb_T4 (i := 162) rfl rfl) (tb_T4 (i := 163) rfl rfl) (tb_T4 (i := 164) rfl rfl) (by decide +kernel) (by decide)) (fun v hv => by cases hv) rfl hl.1 rfl (Nat.le_of_ble_eq_true rfl) (by decide +kernel) ⟨by decide, by decide⟩ (fun H2 locs2 hI2 => ?_)
  exact lv_icmp_eq (pc := 546) C.1 C.2.1 (off := 5) (tgt := 551) (by decide +kernel) (by decide) (fun _ => kk g m' n t H2 locs2 hI2 hR) (fun hne => absurd rfl hne)
end CASES
