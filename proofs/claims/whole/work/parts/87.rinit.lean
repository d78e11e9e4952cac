/-! The class's constructor -/
def g_0 : cG := (fun _ => (0, 0, 0, 0), fun _ _ => 0, fun i => (0, i, 0, none, none, none, 0, 0, 0), (0, 0), fun _ => 0, fun _ => 0, fun _ _ => 0)
abbrev gC (q : gQ) : cQ := (q.1, q.2.1, q.2.2.1, q.2.2.2.1)
def fR (q : gQ) (a i j k : Nat) : va_E :=
  if k = 1 then .inl (q.2.2.1, 80, .inr (.inr (.inr (.inr (fun x => if x < i then some (a + 14 + 3 * x) else none)))))
  else if k = 2 then .inl (q.2.2.2.1, 8, .inr (.inr (.inr (.inr (fun x => if x < j then some (a + 254 + 2 * x) else none)))))
  else c_ce a (gC q) g_0 (cWh k).1 (cWh k).2
def rBl : va_E := .inr (3, [.null, .int 0, .null, .null, .null, .int 0, .null])
theorem fR_ne (q : gQ) (a i j i' j' k : Nat) (h1 : k ≠ 1) (h2 : k ≠ 2) : fR q a i j k = fR q a i' j' k := by
  unfold fR
  rw [if_neg h1, if_neg h2, if_neg h1, if_neg h2]
theorem fR_at (q : gQ) (a i j : Nat) {k kd x : Nat} (h1 : k ≠ 1) (h2 : k ≠ 2) (hw : cWh k = (kd, x)) : fR q a i j k = c_ce a (gC q) g_0 kd x := by
  unfold fR
  rw [if_neg h1, if_neg h2, hw]
theorem cWh_3 (i : Nat) (h : i < 80) : cWh (14 + 3 * i) = (3, i) := by
  have := cWh_of 0 3 i h
  rwa [show cLa 0 3 i - 0 = 14 + 3 * i by show 0 + 14 + 3 * i - 0 = _; omega] at this
theorem cWh_1 (i : Nat) (h : i < 80) : cWh (14 + 3 * i + 1) = (1, i) := by
  have := cWh_of 0 1 i (show i < 89 by omega)
  rw [cLa_1, if_pos h] at this
  rwa [show 0 + 15 + 3 * i - 0 = 14 + 3 * i + 1 by omega] at this
theorem cWh_2 (i : Nat) (h : i < 80) : cWh (14 + 3 * i + 2) = (2, i) := by
  have := cWh_of 0 2 i (show i < 89 by omega)
  rw [cLa_2, if_pos h] at this
  rwa [show 0 + 16 + 3 * i - 0 = 14 + 3 * i + 2 by omega] at this
theorem cWh_1b (j : Nat) (h : j < 8) : cWh (254 + 2 * j) = (1, 80 + j) := by
  have := cWh_of 0 1 (80 + j) (show 80 + j < 89 by omega)
  rw [cLa_1, if_neg (by omega), if_pos (by omega)] at this
  rwa [show 0 + 94 + 2 * (80 + j) - 0 = 254 + 2 * j by omega] at this
theorem cWh_2b (j : Nat) (h : j < 8) : cWh (254 + 2 * j + 1) = (2, 80 + j) := by
  have := cWh_of 0 2 (80 + j) (show 80 + j < 89 by omega)
  rw [cLa_2, if_neg (by omega), if_pos (by omega)] at this
  rwa [show 0 + 95 + 2 * (80 + j) - 0 = 254 + 2 * j + 1 by omega] at this
def fX (q : gQ) (a i k : Nat) : va_E := if k < 14 + 3 * i then fR q a i 0 k else eC q (a + (14 + 3 * i)) (k - (14 + 3 * i))
def fY (q : gQ) (a j k : Nat) : va_E := if k < 254 + 2 * j then fR q a 80 j k else vC q (a + (254 + 2 * j)) (k - (254 + 2 * j))
theorem fX_nx (q : gQ) (a i : Nat) (hi : i < 80) (k : Nat) (hk : k < 14 + 3 * i + 3) : va_up (fX q a i) 1 (.inl (q.2.2.1, 80, .inr (.inr (.inr (.inr (va_up (fun x => if x < i then some (a + 14 + 3 * x) else none) i (some (a + (14 + 3 * i))))))))) k = fR q a (i + 1) 0 k := by
  by_cases h1 : k = 1
  · subst h1
    rw [va_up_self]
    unfold fR
    rw [if_pos rfl]
    congr 7
    funext x
    by_cases hx : x = i
    · subst hx
      rw [va_up_self, if_pos (by omega)]
      congr 1
      omega
    · rw [va_up_ne _ _ hx]
      by_cases h2 : x < i
      · rw [if_pos h2, if_pos (by omega)]
      · rw [if_neg h2, if_neg (by omega)]
  · rw [va_up_ne _ _ h1]
    unfold fX
    by_cases h2 : k < 14 + 3 * i
    · rw [if_pos h2]
      by_cases h3 : k = 2
      · subst h3; rfl
      · exact fR_ne q a _ _ _ _ k h1 h3
    · rw [if_neg h2]
      have hd : k = 14 + 3 * i ∨ k = 14 + 3 * i + 1 ∨ k = 14 + 3 * i + 2 := by omega
      have e1 : cLa a 1 i = a + (14 + 3 * i) + 1 := by rw [cLa_1, if_pos hi]; omega
      have e2 : cLa a 2 i = a + (14 + 3 * i) + 1 + 1 := by rw [cLa_2, if_pos hi]; omega
      rcases hd with rfl | rfl | rfl
      · rw [fR_at q a _ _ h1 (by omega) (cWh_3 i hi), Nat.sub_self]
        show eC q _ 0 = Sum.inr (1, [.ref (cLa a 1 i), .int 0, .ref (cLa a 1 i), .int 0, .null, .null, .null, .int 0, .int 0, .int 0])
        rw [e1]
        rfl
      · rw [fR_at q a _ _ h1 (by omega) (cWh_1 i hi), show 14 + 3 * i + 1 - (14 + 3 * i) = 1 by omega]
        show eC q _ 1 = Sum.inr (0, [.int 0, .long 0, .int 0, .int 0, .ref (cLa a 2 i)])
        rw [e2]
        rfl
      · rw [fR_at q a _ _ h1 (by omega) (cWh_2 i hi), show 14 + 3 * i + 2 - (14 + 3 * i) = 2 by omega]
        rfl
theorem fY_nx (q : gQ) (a j : Nat) (hj : j < 8) (k : Nat) (hk : k < 254 + 2 * j + 2) : va_up (fY q a j) 2 (.inl (q.2.2.2.1, 8, .inr (.inr (.inr (.inr (va_up (fun x => if x < j then some (a + 254 + 2 * x) else none) j (some (a + (254 + 2 * j))))))))) k = fR q a 80 (j + 1) k := by
  by_cases h1 : k = 2
  · subst h1
    rw [va_up_self]
    unfold fR
    rw [if_neg (by decide), if_pos rfl]
    congr 7
    funext x
    by_cases hx : x = j
    · subst hx
      rw [va_up_self, if_pos (by omega)]
      congr 1
      omega
    · rw [va_up_ne _ _ hx]
      by_cases h2 : x < j
      · rw [if_pos h2, if_pos (by omega)]
      · rw [if_neg h2, if_neg (by omega)]
  · rw [va_up_ne _ _ h1]
    unfold fY
    by_cases h2 : k < 254 + 2 * j
    · rw [if_pos h2]
      by_cases h3 : k = 1
      · subst h3; rfl
      · exact fR_ne q a _ _ _ _ k h3 h1
    · rw [if_neg h2]
      have hd : k = 254 + 2 * j ∨ k = 254 + 2 * j + 1 := by omega
      have e2 : cLa a 2 (80 + j) = a + (254 + 2 * j) + 1 := by rw [cLa_2, if_neg (by omega), if_pos (by omega)]; omega
      rcases hd with rfl | rfl
      · rw [fR_at q a _ _ (by omega) h1 (cWh_1b j hj), Nat.sub_self]
        show vC q _ 0 = Sum.inr (0, [.int 0, .long 0, .int 0, .int 0, .ref (cLa a 2 (80 + j))])
        rw [e2]
        rfl
      · rw [fR_at q a _ _ (by omega) h1 (cWh_2b j hj), show 254 + 2 * j + 1 - (254 + 2 * j) = 1 by omega]
        rfl
section RI
variable {l : Launch} {D : va_G} {q : gQ} {a : Nat} {p : Program} {e : Env} {s : State} {m : MethodId} {args : Array Value} {below : List Frame} {meth : Method} {c : Code}
theorem ri_2 (C : CallFix p m c prog_1_method_1_code 2 s args (wsT yR_init prog_1_method_1_code 2 none) "FunctionRows") (hr : meth.sig.returnType = none) (hk : meth.locks = false) (hK : cnW D q s) :
    ∀ (n j : Nat) (H : Heap) (locs : List Loc) (ls : Array Slot), j + n = 8 → gst D a (254 + 2 * j) (fR q a 80 j) s.heap H locs → lv_has ls 2 [(1, .int (nI j)), (0, .ref a)] → W p l e (rmC 3 269 3899) s m args below meth c H locs (253 + 2 * j) (3667 + 29 * j) (MQ below (gq D a 270 (fR q a 80 8)) args s 269 3899 (fun p => a ≤ p)) (F0 m 81 ls []) := by
  intro n
  induction n with
  | zero =>
    intro j H locs ls hj hw hl
    have hj8 : j = 8 := by omega
    subst hj8
    have l1 : ls[1]? = some (.val (.int (nI 8))) := lv_at hl 0 rfl
    refine lv_iload_n C.1 C.2.1 (k := 1) (by decide +kernel) rfl l1 ?_
    refine lv_bipush C.1 C.2.1 (n := 8) (v := 8) (by decide +kernel) (by decide +kernel) ?_
    refine lv_icmp_ge C.1 C.2.1 (off := 22) (tgt := 106) (by decide +kernel) (by decide) (fun _ => ?_) (fun h => absurd (by decide) h)
    exact g_ret C hr hk hw (by decide +kernel)
  | succ n ih =>
    intro j H locs ls hj hw hl
    have hj8 : j < 8 := by omega
    have l1 : ls[1]? = some (.val (.int (nI j))) := lv_at hl 0 rfl
    have l0 : ls[0]? = some (.val (.ref a)) := lv_at hl 1 rfl
    refine lv_iload_n C.1 C.2.1 (k := 1) (by decide +kernel) rfl l1 ?_
    refine lv_bipush C.1 C.2.1 (n := 8) (v := 8) (by decide +kernel) (by decide +kernel) ?_
    refine lv_icmp_ge C.1 C.2.1 (off := 22) (tgt := 106) (by decide +kernel) (by decide) (fun h => absurd h (nI_ge (b := 8) hj8 (by decide))) (fun _ => ?_)
    refine lv_aload_n C.1 C.2.1 (k := 0) (by decide +kernel) rfl l0 ?_
    refine g_get (k := 0) (ci := 3) (index := 17) (fi := 2) (fs := [.ref (a + 1), .int 0, .ref (a + 2), .ref (a + 3), .ref (a + 5), .int 0, .ref (a + 6)]) (v := .ref (a + 2)) C hK.1 hw rfl fiR (by omega) rfl (by decide) lkR_17 rfl (by decide +kernel) ?_
    refine lv_iload_n C.1 C.2.1 (k := 1) (by decide +kernel) rfl l1 ?_
    refine g_new (index := 15) (ci := 0) (fs := [.int 0, .long 0, .int 0, .int 0, .null]) C hK.1 hw rfl fiV ftV ftV_ok (tb_T1 (i := 25) rfl rfl) (tb_T1 (i := 27) rfl rfl) inV (by decide +kernel) (show 253 + 2 * j + 1 ≤ 269 by omega) (show 3667 + 29 * j + 5 ≤ 3899 by omega) (by decide +kernel) (fun H hw _ => ?_)
    refine lv_dup C.1 C.2.1 (by decide +kernel) rfl ?_
    refine g_callN (k := 254 + 2 * j) (rest := [.ref (a + (254 + 2 * j)), .int (nI j), .ref (a + 2)]) C gV_init hK hw (va_up_self _ _ _) cV_init inV (tb_T1 (i := 29) rfl rfl) hK.2.2.2.1 rfl (by decide +kernel) (by decide) hl.1 (Nat.le_of_ble_eq_true rfl) (by decide +kernel) ⟨show 253 + 2 * j + 1 + 1 ≤ 269 by omega, show 3667 + 29 * j + 5 + 24 ≤ 3899 by omega⟩ (fun H locs hw => ?_)
    replace hw := hw.to (f' := fY q a j) (fun k hk => by
      unfold fY
      by_cases h : k < 254 + 2 * j
      · rw [if_pos h, if_pos h, va_up_ne _ _ (by omega)]
      · rw [if_neg h, if_neg h])
    have h2 : fY q a j 2 = .inl (q.2.2.2.1, 8, .inr (.inr (.inr (.inr (fun x => if x < j then some (a + 254 + 2 * x) else none))))) := by
      unfold fY; rw [if_pos (by omega)]; rfl
    have h3 : fY q a j (254 + 2 * j) = .inr (0, [.int 0, .long 0, .int 0, .int 0, .ref (a + (254 + 2 * j) + 1)]) := by
      unfold fY; rw [if_neg (by omega), Nat.sub_self]; rfl
    refine g_aast (k := 2) (k2 := 254 + 2 * j) (t0 := 3) (ci := 0) C hK.1 hw rfl (by omega) h2 rfl (by omega) h3 (vp_in_nI hj8 (by decide)) (by decide +kernel) (fun H locs hw => ?_)
    rw [nI_clamp (by omega)] at hw
    refine lv_iinc (n := 1) (v := nI (j + 1)) (k := 0) C.1 C.2.1 (by decide +kernel) hl rfl (nI_1 j) (by decide) rfl (fun ls' hl' => ?_)
    refine lv_goto C.1 C.2.1 (off := -22) (tgt := 81) (by decide +kernel) (by decide) ?_
    rw [show 253 + 2 * j + 1 + 1 = 253 + 2 * (j + 1) by omega, show 3667 + 29 * j + 5 + 24 = 3667 + 29 * (j + 1) by omega]
    exact ih (j + 1) H locs ls' (by omega) (hw.to (fun k hk => fY_nx q a j hj8 k (by omega))) hl'
theorem ri_1 (C : CallFix p m c prog_1_method_1_code 2 s args (wsT yR_init prog_1_method_1_code 2 none) "FunctionRows") (hr : meth.sig.returnType = none) (hk : meth.locks = false) (hK : cnW D q s) :
    ∀ (n i : Nat) (H : Heap) (locs : List Loc) (ls : Array Slot), i + n = 80 → gst D a (14 + 3 * i) (fR q a i 0) s.heap H locs → lv_has ls 2 [(1, .int (nI i)), (0, .ref a)] → W p l e (rmC 3 269 3899) s m args below meth c H locs (13 + 3 * i) (547 + 39 * i) (MQ below (gq D a 270 (fR q a 80 8)) args s 269 3899 (fun p => a ≤ p)) (F0 m 54 ls []) := by
  intro n
  induction n with
  | zero =>
    intro i H locs ls hi hw hl
    have hi8 : i = 80 := by omega
    subst hi8
    have l1 : ls[1]? = some (.val (.int (nI 80))) := lv_at hl 0 rfl
    refine lv_iload_n C.1 C.2.1 (k := 1) (by decide +kernel) rfl l1 ?_
    refine lv_bipush C.1 C.2.1 (n := 80) (v := 80) (by decide +kernel) (by decide +kernel) ?_
    refine lv_icmp_ge C.1 C.2.1 (off := 22) (tgt := 79) (by decide +kernel) (by decide) (fun _ => ?_) (fun h => absurd (by decide) h)
    refine lv_iconst C.1 C.2.1 (n := 0) (v := 0) (by decide +kernel) (by decide +kernel) ?_
    refine lv_istore_n (k := 1) C.1 C.2.1 (by decide +kernel) rfl hl (by decide) rfl (fun ls' hl' => ?_)
    exact ri_2 C hr hk hK 8 0 H locs ls' rfl hw hl'
  | succ n ih =>
    intro i H locs ls hi hw hl
    have hi8 : i < 80 := by omega
    have l1 : ls[1]? = some (.val (.int (nI i))) := lv_at hl 0 rfl
    have l0 : ls[0]? = some (.val (.ref a)) := lv_at hl 1 rfl
    refine lv_iload_n C.1 C.2.1 (k := 1) (by decide +kernel) rfl l1 ?_
    refine lv_bipush C.1 C.2.1 (n := 80) (v := 80) (by decide +kernel) (by decide +kernel) ?_
    refine lv_icmp_ge C.1 C.2.1 (off := 22) (tgt := 79) (by decide +kernel) (by decide) (fun h => absurd h (nI_ge (b := 80) hi8 (by decide))) (fun _ => ?_)
    refine lv_aload_n C.1 C.2.1 (k := 0) (by decide +kernel) rfl l0 ?_
    refine g_get (k := 0) (ci := 3) (index := 11) (fi := 0) (fs := [.ref (a + 1), .int 0, .ref (a + 2), .ref (a + 3), .ref (a + 5), .int 0, .ref (a + 6)]) (v := .ref (a + 1)) C hK.1 hw rfl fiR (by omega) rfl (by decide) lkR_11 rfl (by decide +kernel) ?_
    refine lv_iload_n C.1 C.2.1 (k := 1) (by decide +kernel) rfl l1 ?_
    refine g_new (index := 9) (ci := 1) (fs := [.null, .int 0, .null, .int 0, .null, .null, .null, .int 0, .int 0, .int 0]) C hK.1 hw rfl fiE ftE ftE_ok (tb_T1 (i := 23) rfl rfl) (tb_T1 (i := 119) rfl rfl) inE (by decide +kernel) (show 13 + 3 * i + 1 ≤ 269 by omega) (show 547 + 39 * i + 10 ≤ 3899 by omega) (by decide +kernel) (fun H hw _ => ?_)
    refine lv_dup C.1 C.2.1 (by decide +kernel) rfl ?_
    refine g_callN (k := 14 + 3 * i) (rest := [.ref (a + (14 + 3 * i)), .int (nI i), .ref (a + 1)]) C gE_init hK hw (va_up_self _ _ _) cE_init inE (tb_T1 (i := 121) rfl rfl) hK.2.2.2.2.2.1 rfl (by decide +kernel) (by decide) hl.1 (Nat.le_of_ble_eq_true rfl) (by decide +kernel) ⟨show 13 + 3 * i + 1 + 2 ≤ 269 by omega, show 547 + 39 * i + 10 + 29 ≤ 3899 by omega⟩ (fun H locs hw => ?_)
    replace hw := hw.to (f' := fX q a i) (fun k hk => by
      unfold fX
      by_cases h : k < 14 + 3 * i
      · rw [if_pos h, if_pos h, va_up_ne _ _ (by omega)]
      · rw [if_neg h, if_neg h])
    have h2 : fX q a i 1 = .inl (q.2.2.1, 80, .inr (.inr (.inr (.inr (fun x => if x < i then some (a + 14 + 3 * x) else none))))) := by
      unfold fX; rw [if_pos (by omega)]; rfl
    have h3 : fX q a i (14 + 3 * i) = .inr (1, [.ref (a + (14 + 3 * i) + 1), .int 0, .ref (a + (14 + 3 * i) + 1), .int 0, .null, .null, .null, .int 0, .int 0, .int 0]) := by
      unfold fX; rw [if_neg (by omega), Nat.sub_self]; rfl
    refine g_aast (k := 1) (k2 := 14 + 3 * i) (t0 := 2) (ci := 1) C hK.1 hw rfl (by omega) h2 rfl (by omega) h3 (vp_in_nI hi8 (by decide)) (by decide +kernel) (fun H locs hw => ?_)
    rw [nI_clamp (by omega)] at hw
    refine lv_iinc (n := 1) (v := nI (i + 1)) (k := 0) C.1 C.2.1 (by decide +kernel) hl rfl (nI_1 i) (by decide) rfl (fun ls' hl' => ?_)
    refine lv_goto C.1 C.2.1 (off := -22) (tgt := 54) (by decide +kernel) (by decide) ?_
    rw [show 13 + 3 * i + 1 + 2 = 13 + 3 * (i + 1) by omega, show 547 + 39 * i + 10 + 29 = 547 + 39 * (i + 1) by omega]
    exact ih (i + 1) H locs ls' (by omega) (hw.to (fun k hk => fX_nx q a i hi8 k (by omega))) hl'
end RI
def rIn (a : Nat) (i : Nat) : List Value := [(if 0 < i then .ref (a + 1) else .null), .int 0, (if 1 < i then .ref (a + 2) else .null), (if 2 < i then .ref (a + 3) else .null), (if 3 < i then .ref (a + 5) else .null), .int 0, (if 4 < i then .ref (a + 6) else .null)]
theorem gR_init {l : Launch} {D : va_G} {q : gQ} {a : Nat} : gS l yR_init prog_1_method_1_code 2 3 D q a rBl 270 (fR q a 80 8) 269 3899 := by
  refine g_meth (by decide) rfl (by decide) ?_
  intro p e s m args below meth c ls C hr hk hnm hK hw hl
  have l0 : ls[0]? = some (.val (.ref a)) := lv_at hl 0 rfl
  refine lv_aload_n C.1 C.2.1 (k := 0) (by decide +kernel) rfl l0 ?_
  refine g_obj (idx := 3) C hl.1 (tb_T1 (i := 20) rfl rfl) (by decide +kernel) (by decide) (by decide) ?_
  refine lv_aload_n C.1 C.2.1 (k := 0) (by decide +kernel) rfl l0 ?_
  refine lv_bipush C.1 C.2.1 (n := 80) (v := 80) (by decide +kernel) (by decide +kernel) ?_
  refine g_anew (index := 9) (t0 := 2) (N := 80) C hK.1 hw rfl hK.2.2.1 (tb_T1 (i := 23) rfl rfl) (by decide +kernel) (by decide +kernel) (by decide) (by decide) (by decide) (by decide +kernel) (fun H hw => ?_)
  refine g_putF (k := 0) (ci := 3) (index := 11) (fi := 0) (fs := rIn a 0) (ty := .array (.object "FunctionRows$Expression")) C hK.1 hw hnm rfl fiR ftR ftR_ok fnR (by omega) rfl (by decide) lkR_11 rfl rfl (by decide +kernel) rfl rfl (Nat.le_of_ble_eq_true rfl) (by decide +kernel) (fun H locs hw => ?_)
  refine lv_aload_n C.1 C.2.1 (k := 0) (by decide +kernel) rfl l0 ?_
  refine lv_bipush C.1 C.2.1 (n := 8) (v := 8) (by decide +kernel) (by decide +kernel) ?_
  refine g_anew (index := 15) (t0 := 3) (N := 8) C hK.1 hw rfl hK.2.1 (tb_T1 (i := 25) rfl rfl) (by decide +kernel) (by decide +kernel) (by decide) (by decide) (by decide) (by decide +kernel) (fun H hw => ?_)
  refine g_putF (k := 0) (ci := 3) (index := 17) (fi := 2) (fs := rIn a 1) (ty := .array (.object "FunctionRows$Value")) C hK.1 hw hnm rfl fiR ftR ftR_ok fnR (by omega) rfl (by decide) lkR_17 rfl rfl (by decide +kernel) rfl rfl (Nat.le_of_ble_eq_true rfl) (by decide +kernel) (fun H locs hw => ?_)
  refine lv_aload_n C.1 C.2.1 (k := 0) (by decide +kernel) rfl l0 ?_
  refine g_new (index := 15) (ci := 0) (fs := [.int 0, .long 0, .int 0, .int 0, .null]) C hK.1 hw rfl fiV ftV ftV_ok (tb_T1 (i := 25) rfl rfl) (tb_T1 (i := 27) rfl rfl) inV (by decide +kernel) (by decide) (by decide) (by decide +kernel) (fun H hw _ => ?_)
  refine lv_dup C.1 C.2.1 (by decide +kernel) rfl ?_
  refine g_callN (k := 3) (rest := [.ref (a + 3), .ref a]) C gV_init hK hw rfl cV_init inV (tb_T1 (i := 29) rfl rfl) hK.2.2.2.1 rfl (by decide +kernel) (by decide) hl.1 (Nat.le_of_ble_eq_true rfl) (by decide +kernel) (by decide) (fun H locs hw => ?_)
  refine g_putF (k := 0) (ci := 3) (index := 22) (fi := 3) (fs := rIn a 2) (ty := .object "FunctionRows$Value") C hK.1 hw hnm rfl fiR ftR ftR_ok fnR (by omega) rfl (by decide) lkR_22 rfl rfl (by decide +kernel) rfl rfl (Nat.le_of_ble_eq_true rfl) (by decide +kernel) (fun H locs hw => ?_)
  refine lv_aload_n C.1 C.2.1 (k := 0) (by decide +kernel) rfl l0 ?_
  refine lv_bipush C.1 C.2.1 (n := 48) (v := 48) (by decide +kernel) (by decide +kernel) ?_
  refine g_newa (t0 := 0) (atype := .byte) (N := 48) (a0 := (48, .inl (fun _ => 0))) C hK.1 hw rfl (tb_T1 (i := 68) rfl rfl) (fun _ => rfl) (by decide +kernel) (by decide +kernel) (by decide) (by decide) (by decide) (by decide +kernel) (fun H hw => ?_)
  refine g_putF (k := 0) (ci := 3) (index := 26) (fi := 4) (fs := rIn a 3) (ty := .array .byte) C hK.1 hw hnm rfl fiR ftR ftR_ok fnR (by omega) rfl (by decide) lkR_26 rfl rfl (by decide +kernel) rfl rfl (Nat.le_of_ble_eq_true rfl) (by decide +kernel) (fun H locs hw => ?_)
  refine lv_aload_n C.1 C.2.1 (k := 0) (by decide +kernel) rfl l0 ?_
  refine g_new (index := 30) (ci := 2) (fs := [.null, .int 0, .null, .null, .null, .null, .int 0, .null, .null, .int 0, .int 0, .int 0, .int 0, .int 0]) C hK.1 hw rfl fiS ftS ftS_ok (tb_T1 (i := 69) rfl rfl) (tb_T1 (i := 70) rfl rfl) inS (by decide +kernel) (by decide) (by decide) (by decide +kernel) (fun H hw _ => ?_)
  refine lv_dup C.1 C.2.1 (by decide +kernel) rfl ?_
  refine g_callN (k := 6) (rest := [.ref (a + 6), .ref a]) C gS_init hK hw rfl cS_init inS (tb_T1 (i := 72) rfl rfl) hK.2.2.2.2.1 rfl (by decide +kernel) (by decide) hl.1 (Nat.le_of_ble_eq_true rfl) (by decide +kernel) (by decide) (fun H locs hw => ?_)
  refine g_putF (k := 0) (ci := 3) (index := 33) (fi := 6) (fs := rIn a 4) (ty := .object "FunctionRows$Search") C hK.1 hw hnm rfl fiR ftR ftR_ok fnR (by omega) rfl (by decide) lkR_33 rfl rfl (by decide +kernel) rfl rfl (Nat.le_of_ble_eq_true rfl) (by decide +kernel) (fun H locs hw => ?_)
  refine lv_iconst C.1 C.2.1 (n := 0) (v := 0) (by decide +kernel) (by decide +kernel) ?_
  refine lv_istore_n (k := 1) C.1 C.2.1 (by decide +kernel) rfl hl (by decide) rfl (fun ls' hl' => ?_)
  refine ri_1 C hr hk hK 80 0 H locs ls' rfl (hw.to (fun k hk => ?_)) hl'
  match k, hk with
  | 0, _ => rfl
  | 1, _ => rfl
  | 2, _ => rfl
  | 3, _ => rfl
  | 4, _ => rfl
  | 5, _ => rfl
  | 6, _ => rfl
  | 7, _ => rfl
  | 8, _ => rfl
  | 9, _ => rfl
  | 10, _ => rfl
  | 11, _ => rfl
  | 12, _ => rfl
  | 13, _ => rfl
  | n + 14, h => exact absurd h (by omega)
