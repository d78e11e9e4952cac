section QMM
variable {G : Type} {Λ : Nat → Nat → Nat} {V : Nat → Nat → Prop} {hold : State → G → Heap → Prop} {A : Nat → Prop} {l : Launch} {R : Room} {cc : ByteArray} {nL : Nat} {own : String} {Ts : List Cond} {ret : Option FieldType}
abbrev o_ic (v : Int32) : qm_op G := o_stk (f_c (.inl v))
abbrev o_lc (v : Int64) : qm_op G := o_stk (f_c (.inr (.inl v)))
theorem os_iconst {pc : Nat} {n : Int} {v : Int32} (hd : decode cc pc = .ok (.iconst n, 1)) (hv : Int32.ofInt n = v) : qm_K Λ V hold A l R cc nL own Ts ret pc (pc + 1) (o_ic v) := os_c trivial fun S p e s m args below meth c H locs Q ls C _ k => lv_iconst C.1 C.2.1 hd hv k
theorem os_bipush {pc : Nat} {n : Int} {v : Int32} (hd : decode cc pc = .ok (.bipush n, 2)) (hv : (Int8.ofInt n).toInt32 = v) : qm_K Λ V hold A l R cc nL own Ts ret pc (pc + 2) (o_ic v) := os_c trivial fun S p e s m args below meth c H locs Q ls C _ k => lv_bipush C.1 C.2.1 hd hv k
theorem os_sipush {pc : Nat} {n : Int} {v : Int32} (hd : decode cc pc = .ok (.sipush n, 3)) (hv : (Int16.ofInt n).toInt32 = v) : qm_K Λ V hold A l R cc nL own Ts ret pc (pc + 3) (o_ic v) := os_c trivial fun S p e s m args below meth c H locs Q ls C _ k => lv_sipush C.1 C.2.1 hd hv k
theorem os_lconst {pc : Nat} {n : Fin 2} {v : Int64} (hd : decode cc pc = .ok (.lconst n, 1)) (hv : Int64.ofNat (n : Nat) = v) : qm_K Λ V hold A l R cc nL own Ts ret pc (pc + 1) (o_lc v) := os_c trivial fun S p e s m args below meth c H locs Q ls C _ k => lv_lconst C.1 C.2.1 hd hv k
theorem os_ldc2 {pc idx : Nat} {v : Int64} (hd : decode cc pc = .ok (.ldc2_w idx, 3)) (hw : Cond.constantLong own idx v ∈ Ts) : qm_K Λ V hold A l R cc nL own Ts ret pc (pc + 3) (o_lc v) := os_c trivial fun S p e s m args below meth c H locs Q ls C _ k => lv_ldc2 C.1 C.2.1 C.2.2.2.1 (C.2.2.2.2 _ hw) hd k
abbrev o_iadd : qm_op G := o_stk (f_bi (fun x y => x + y))
theorem os_iadd {pc : Nat} (hd : decode cc pc = .ok (.iadd, 1)) : qm_K Λ V hold A l R cc nL own Ts ret pc (pc + 1) o_iadd := os_bi fun x y S p e s m args below meth c H locs Q ls C _ k => lv_iadd C.1 C.2.1 hd k
abbrev o_isub : qm_op G := o_stk (f_bi (fun x y => x - y))
theorem os_isub {pc : Nat} (hd : decode cc pc = .ok (.isub, 1)) : qm_K Λ V hold A l R cc nL own Ts ret pc (pc + 1) o_isub := os_bi fun x y S p e s m args below meth c H locs Q ls C _ k => lv_isub C.1 C.2.1 hd k
abbrev o_imul : qm_op G := o_stk (f_bi (fun x y => x * y))
theorem os_imul {pc : Nat} (hd : decode cc pc = .ok (.imul, 1)) : qm_K Λ V hold A l R cc nL own Ts ret pc (pc + 1) o_imul := os_bi fun x y S p e s m args below meth c H locs Q ls C _ k => lv_imul C.1 C.2.1 hd k
abbrev o_iand : qm_op G := o_stk (f_bi (fun x y => x &&& y))
theorem os_iand {pc : Nat} (hd : decode cc pc = .ok (.iand, 1)) : qm_K Λ V hold A l R cc nL own Ts ret pc (pc + 1) o_iand := os_bi fun x y S p e s m args below meth c H locs Q ls C _ k => lv_iand C.1 C.2.1 hd k
abbrev o_ior : qm_op G := o_stk (f_bi (fun x y => x ||| y))
theorem os_ior {pc : Nat} (hd : decode cc pc = .ok (.ior, 1)) : qm_K Λ V hold A l R cc nL own Ts ret pc (pc + 1) o_ior := os_bi fun x y S p e s m args below meth c H locs Q ls C _ k => lv_ior C.1 C.2.1 hd k
abbrev o_ixor : qm_op G := o_stk (f_bi (fun x y => x ^^^ y))
theorem os_ixor {pc : Nat} (hd : decode cc pc = .ok (.ixor, 1)) : qm_K Λ V hold A l R cc nL own Ts ret pc (pc + 1) o_ixor := os_bi fun x y S p e s m args below meth c H locs Q ls C _ k => lv_ixor C.1 C.2.1 hd k
abbrev o_ishl : qm_op G := o_stk (f_bi (fun x y => x <<< (y &&& 31)))
theorem os_ishl {pc : Nat} (hd : decode cc pc = .ok (.ishl, 1)) : qm_K Λ V hold A l R cc nL own Ts ret pc (pc + 1) o_ishl := os_bi fun x y S p e s m args below meth c H locs Q ls C _ k => lv_ishl C.1 C.2.1 hd k
abbrev o_ishr : qm_op G := o_stk (f_bi (fun x y => x >>> (y &&& 31)))
theorem os_ishr {pc : Nat} (hd : decode cc pc = .ok (.ishr, 1)) : qm_K Λ V hold A l R cc nL own Ts ret pc (pc + 1) o_ishr := os_bi fun x y S p e s m args below meth c H locs Q ls C _ k => lv_ishr C.1 C.2.1 hd k
abbrev o_ladd : qm_op G := o_stk (f_bl (fun x y => x + y))
theorem os_ladd {pc : Nat} (hd : decode cc pc = .ok (.ladd, 1)) : qm_K Λ V hold A l R cc nL own Ts ret pc (pc + 1) o_ladd := os_bl fun x y S p e s m args below meth c H locs Q ls C _ k => lv_ladd C.1 C.2.1 hd k
abbrev o_lsub : qm_op G := o_stk (f_bl (fun x y => x - y))
theorem os_lsub {pc : Nat} (hd : decode cc pc = .ok (.lsub, 1)) : qm_K Λ V hold A l R cc nL own Ts ret pc (pc + 1) o_lsub := os_bl fun x y S p e s m args below meth c H locs Q ls C _ k => lv_lsub C.1 C.2.1 hd k
abbrev o_lmul : qm_op G := o_stk (f_bl (fun x y => x * y))
theorem os_lmul {pc : Nat} (hd : decode cc pc = .ok (.lmul, 1)) : qm_K Λ V hold A l R cc nL own Ts ret pc (pc + 1) o_lmul := os_bl fun x y S p e s m args below meth c H locs Q ls C _ k => lv_lmul C.1 C.2.1 hd k
abbrev o_land : qm_op G := o_stk (f_bl (fun x y => x &&& y))
theorem os_land {pc : Nat} (hd : decode cc pc = .ok (.land, 1)) : qm_K Λ V hold A l R cc nL own Ts ret pc (pc + 1) o_land := os_bl fun x y S p e s m args below meth c H locs Q ls C _ k => lv_land C.1 C.2.1 hd k
abbrev o_lor : qm_op G := o_stk (f_bl (fun x y => x ||| y))
theorem os_lor {pc : Nat} (hd : decode cc pc = .ok (.lor, 1)) : qm_K Λ V hold A l R cc nL own Ts ret pc (pc + 1) o_lor := os_bl fun x y S p e s m args below meth c H locs Q ls C _ k => lv_lor C.1 C.2.1 hd k
abbrev o_ldiv : qm_op G := o_stk (f_dl (fun x y => x / y))
theorem os_ldiv {pc : Nat} (hd : decode cc pc = .ok (.ldiv, 1)) : qm_K Λ V hold A l R cc nL own Ts ret pc (pc + 1) o_ldiv := os_dl fun x y S hy p e s m args below meth c H locs Q ls C _ k => lv_ldiv C.1 C.2.1 hd hy k
abbrev o_lrem : qm_op G := o_stk (f_dl (fun x y => x - x / y * y))
theorem os_lrem {pc : Nat} (hd : decode cc pc = .ok (.lrem, 1)) : qm_K Λ V hold A l R cc nL own Ts ret pc (pc + 1) o_lrem := os_dl fun x y S hy p e s m args below meth c H locs Q ls C _ k => lv_lrem C.1 C.2.1 hd hy k
abbrev o_lshl : qm_op G := o_stk (f_sl (fun x y => x <<< (y.toInt64 &&& 63)))
theorem os_lshl {pc : Nat} (hd : decode cc pc = .ok (.lshl, 1)) : qm_K Λ V hold A l R cc nL own Ts ret pc (pc + 1) o_lshl := os_sl fun x y S p e s m args below meth c H locs Q ls C _ k => lv_lshl C.1 C.2.1 hd rfl k
abbrev o_lushr : qm_op G := o_stk (f_sl (fun x y => (x.toUInt64 >>> (y.toInt64.toUInt64 &&& Int64.toUInt64 63)).toInt64))
theorem os_lushr {pc : Nat} (hd : decode cc pc = .ok (.lushr, 1)) : qm_K Λ V hold A l R cc nL own Ts ret pc (pc + 1) o_lushr := os_sl fun x y S p e s m args below meth c H locs Q ls C _ k => lv_lushr C.1 C.2.1 hd rfl k
abbrev o_lneg : qm_op G := o_stk (f_ul (fun x => -x))
theorem os_lneg {pc : Nat} (hd : decode cc pc = .ok (.lneg, 1)) : qm_K Λ V hold A l R cc nL own Ts ret pc (pc + 1) o_lneg := os_ul fun x S p e s m args below meth c H locs Q ls C _ k => lv_lneg C.1 C.2.1 hd k
abbrev o_i2l : qm_op G := o_stk (f_il (fun x => x.toInt64))
theorem os_i2l {pc : Nat} (hd : decode cc pc = .ok (.i2l, 1)) : qm_K Λ V hold A l R cc nL own Ts ret pc (pc + 1) o_i2l := os_cil fun x S p e s m args below meth c H locs Q ls C _ k => lv_i2l C.1 C.2.1 hd rfl k
abbrev o_l2i : qm_op G := o_stk (f_li (fun x => x.toInt32))
theorem os_l2i {pc : Nat} (hd : decode cc pc = .ok (.l2i, 1)) : qm_K Λ V hold A l R cc nL own Ts ret pc (pc + 1) o_l2i := os_cli fun x S p e s m args below meth c H locs Q ls C _ k => lv_l2i C.1 C.2.1 hd rfl k
abbrev o_i2b : qm_op G := o_stk (f_ui (fun x => x.toInt8.toInt32))
theorem os_i2b {pc : Nat} (hd : decode cc pc = .ok (.i2b, 1)) : qm_K Λ V hold A l R cc nL own Ts ret pc (pc + 1) o_i2b := os_ui fun x S p e s m args below meth c H locs Q ls C _ k => lv_i2b C.1 C.2.1 hd rfl k
abbrev o_ifeq (tg : Nat) : qm_op G := o_br (t_i (fun x => x = 0) (fun x => ¬ x = 0)) tg
abbrev o_iceq (tg : Nat) : qm_op G := o_br (t_ii (fun x y => x = y) (fun x y => ¬ x = y)) tg
theorem os_ifeq {tg pc : Nat} {off : Int} (hd : decode cc pc = .ok (.ifCond .eq off, 3)) (ht : (pc : Int) + off = (tg : Int)) : qm_K Λ V hold A l R cc nL own Ts ret pc (pc + 3) (o_ifeq tg) := os_i (fun x S h p e s m args below meth c H locs Q ls C _ k => lv_if_eq C.1 C.2.1 hd ht (fun _ => k) (fun h2 => absurd h h2)) (fun x S h p e s m args below meth c H locs Q ls C _ k => lv_if_eq C.1 C.2.1 hd ht (fun h2 => absurd h2 h) (fun _ => k))
theorem os_iceq {tg pc : Nat} {off : Int} (hd : decode cc pc = .ok (.if_icmp .eq off, 3)) (ht : (pc : Int) + off = (tg : Int)) : qm_K Λ V hold A l R cc nL own Ts ret pc (pc + 3) (o_iceq tg) := os_ii (fun x y S h p e s m args below meth c H locs Q ls C _ k => lv_icmp_eq C.1 C.2.1 hd ht (fun _ => k) (fun h2 => absurd h h2)) (fun x y S h p e s m args below meth c H locs Q ls C _ k => lv_icmp_eq C.1 C.2.1 hd ht (fun h2 => absurd h2 h) (fun _ => k))
abbrev o_ifne (tg : Nat) : qm_op G := o_br (t_i (fun x => ¬ x = 0) (fun x => x = 0)) tg
abbrev o_icne (tg : Nat) : qm_op G := o_br (t_ii (fun x y => ¬ x = y) (fun x y => x = y)) tg
theorem os_ifne {tg pc : Nat} {off : Int} (hd : decode cc pc = .ok (.ifCond .ne off, 3)) (ht : (pc : Int) + off = (tg : Int)) : qm_K Λ V hold A l R cc nL own Ts ret pc (pc + 3) (o_ifne tg) := os_i (fun x S h p e s m args below meth c H locs Q ls C _ k => lv_if_ne C.1 C.2.1 hd ht (fun _ => k) (fun h2 => absurd h2 h)) (fun x S h p e s m args below meth c H locs Q ls C _ k => lv_if_ne C.1 C.2.1 hd ht (fun h2 => absurd h h2) (fun _ => k))
theorem os_icne {tg pc : Nat} {off : Int} (hd : decode cc pc = .ok (.if_icmp .ne off, 3)) (ht : (pc : Int) + off = (tg : Int)) : qm_K Λ V hold A l R cc nL own Ts ret pc (pc + 3) (o_icne tg) := os_ii (fun x y S h p e s m args below meth c H locs Q ls C _ k => lv_icmp_ne C.1 C.2.1 hd ht (fun _ => k) (fun h2 => absurd h2 h)) (fun x y S h p e s m args below meth c H locs Q ls C _ k => lv_icmp_ne C.1 C.2.1 hd ht (fun h2 => absurd h h2) (fun _ => k))
abbrev o_iflt (tg : Nat) : qm_op G := o_br (t_i (fun x => x < 0) (fun x => ¬ x < 0)) tg
abbrev o_iclt (tg : Nat) : qm_op G := o_br (t_ii (fun x y => x < y) (fun x y => ¬ x < y)) tg
theorem os_iflt {tg pc : Nat} {off : Int} (hd : decode cc pc = .ok (.ifCond .lt off, 3)) (ht : (pc : Int) + off = (tg : Int)) : qm_K Λ V hold A l R cc nL own Ts ret pc (pc + 3) (o_iflt tg) := os_i (fun x S h p e s m args below meth c H locs Q ls C _ k => lv_if_lt C.1 C.2.1 hd ht (fun _ => k) (fun h2 => absurd h h2)) (fun x S h p e s m args below meth c H locs Q ls C _ k => lv_if_lt C.1 C.2.1 hd ht (fun h2 => absurd h2 h) (fun _ => k))
theorem os_iclt {tg pc : Nat} {off : Int} (hd : decode cc pc = .ok (.if_icmp .lt off, 3)) (ht : (pc : Int) + off = (tg : Int)) : qm_K Λ V hold A l R cc nL own Ts ret pc (pc + 3) (o_iclt tg) := os_ii (fun x y S h p e s m args below meth c H locs Q ls C _ k => lv_icmp_lt C.1 C.2.1 hd ht (fun _ => k) (fun h2 => absurd h h2)) (fun x y S h p e s m args below meth c H locs Q ls C _ k => lv_icmp_lt C.1 C.2.1 hd ht (fun h2 => absurd h2 h) (fun _ => k))
abbrev o_ifge (tg : Nat) : qm_op G := o_br (t_i (fun x => 0 ≤ x) (fun x => ¬ 0 ≤ x)) tg
abbrev o_icge (tg : Nat) : qm_op G := o_br (t_ii (fun x y => y ≤ x) (fun x y => ¬ y ≤ x)) tg
theorem os_ifge {tg pc : Nat} {off : Int} (hd : decode cc pc = .ok (.ifCond .ge off, 3)) (ht : (pc : Int) + off = (tg : Int)) : qm_K Λ V hold A l R cc nL own Ts ret pc (pc + 3) (o_ifge tg) := os_i (fun x S h p e s m args below meth c H locs Q ls C _ k => lv_if_ge C.1 C.2.1 hd ht (fun _ => k) (fun h2 => absurd h h2)) (fun x S h p e s m args below meth c H locs Q ls C _ k => lv_if_ge C.1 C.2.1 hd ht (fun h2 => absurd h2 h) (fun _ => k))
theorem os_icge {tg pc : Nat} {off : Int} (hd : decode cc pc = .ok (.if_icmp .ge off, 3)) (ht : (pc : Int) + off = (tg : Int)) : qm_K Λ V hold A l R cc nL own Ts ret pc (pc + 3) (o_icge tg) := os_ii (fun x y S h p e s m args below meth c H locs Q ls C _ k => lv_icmp_ge C.1 C.2.1 hd ht (fun _ => k) (fun h2 => absurd h h2)) (fun x y S h p e s m args below meth c H locs Q ls C _ k => lv_icmp_ge C.1 C.2.1 hd ht (fun h2 => absurd h2 h) (fun _ => k))
abbrev o_ifgt (tg : Nat) : qm_op G := o_br (t_i (fun x => 0 < x) (fun x => ¬ 0 < x)) tg
abbrev o_icgt (tg : Nat) : qm_op G := o_br (t_ii (fun x y => y < x) (fun x y => ¬ y < x)) tg
theorem os_ifgt {tg pc : Nat} {off : Int} (hd : decode cc pc = .ok (.ifCond .gt off, 3)) (ht : (pc : Int) + off = (tg : Int)) : qm_K Λ V hold A l R cc nL own Ts ret pc (pc + 3) (o_ifgt tg) := os_i (fun x S h p e s m args below meth c H locs Q ls C _ k => lv_if_gt C.1 C.2.1 hd ht (fun _ => k) (fun h2 => absurd h h2)) (fun x S h p e s m args below meth c H locs Q ls C _ k => lv_if_gt C.1 C.2.1 hd ht (fun h2 => absurd h2 h) (fun _ => k))
theorem os_icgt {tg pc : Nat} {off : Int} (hd : decode cc pc = .ok (.if_icmp .gt off, 3)) (ht : (pc : Int) + off = (tg : Int)) : qm_K Λ V hold A l R cc nL own Ts ret pc (pc + 3) (o_icgt tg) := os_ii (fun x y S h p e s m args below meth c H locs Q ls C _ k => lv_icmp_gt C.1 C.2.1 hd ht (fun _ => k) (fun h2 => absurd h h2)) (fun x y S h p e s m args below meth c H locs Q ls C _ k => lv_icmp_gt C.1 C.2.1 hd ht (fun h2 => absurd h2 h) (fun _ => k))
abbrev o_ifle (tg : Nat) : qm_op G := o_br (t_i (fun x => x ≤ 0) (fun x => ¬ x ≤ 0)) tg
abbrev o_icle (tg : Nat) : qm_op G := o_br (t_ii (fun x y => x ≤ y) (fun x y => ¬ x ≤ y)) tg
theorem os_ifle {tg pc : Nat} {off : Int} (hd : decode cc pc = .ok (.ifCond .le off, 3)) (ht : (pc : Int) + off = (tg : Int)) : qm_K Λ V hold A l R cc nL own Ts ret pc (pc + 3) (o_ifle tg) := os_i (fun x S h p e s m args below meth c H locs Q ls C _ k => lv_if_le C.1 C.2.1 hd ht (fun _ => k) (fun h2 => absurd h h2)) (fun x S h p e s m args below meth c H locs Q ls C _ k => lv_if_le C.1 C.2.1 hd ht (fun h2 => absurd h2 h) (fun _ => k))
theorem os_icle {tg pc : Nat} {off : Int} (hd : decode cc pc = .ok (.if_icmp .le off, 3)) (ht : (pc : Int) + off = (tg : Int)) : qm_K Λ V hold A l R cc nL own Ts ret pc (pc + 3) (o_icle tg) := os_ii (fun x y S h p e s m args below meth c H locs Q ls C _ k => lv_icmp_le C.1 C.2.1 hd ht (fun _ => k) (fun h2 => absurd h h2)) (fun x y S h p e s m args below meth c H locs Q ls C _ k => lv_icmp_le C.1 C.2.1 hd ht (fun h2 => absurd h2 h) (fun _ => k))
def t_ll (f g : Int64 → Int64 → Prop) : List qm_v → Option (Prop × Prop × List qm_v)
  | .inr (.inl y) :: .inr (.inl x) :: S => some (f x y, g x y, S)
  | _ => none
theorem os_ll2 {f g : Int64 → Int64 → Prop} {tg pc nx : Nat} (h1 : ∀ (x y : Int64) (S : List qm_v), f x y → qm_row Λ l R cc nL own Ts pc tg (qL y :: qL x :: S) S) (h2 : ∀ (x y : Int64) (S : List qm_v), g x y → qm_row Λ l R cc nL own Ts pc nx (qL y :: qL x :: S) S) : qm_K Λ V hold A l R cc nL own Ts ret pc nx (o_br (t_ll f g) tg) := by
  refine os_br fun S ct cf S' hf => ?_
  rcases S with _ | ⟨y | y | y, _ | ⟨x | x | x, S⟩⟩ <;> cases hf
  exact ⟨fun k => (qm_fa2 (qm_fa2 k).2).2, h1 x y _, h2 x y _⟩
abbrev o_lceq (tg : Nat) : qm_op G := o_br (t_ll (fun x y => x = y) (fun x y => ¬ x = y)) tg
theorem os_lceq {tg pc : Nat} {off : Int} (hd : decode cc pc = .ok (.lcmp, 1)) (hd2 : decode cc (pc + 1) = .ok (.ifCond .eq off, 3)) (ht : ((pc + 1 : Nat) : Int) + off = (tg : Int)) : qm_K Λ V hold A l R cc nL own Ts ret pc (pc + 4) (o_lceq tg) := os_ll2 (fun x y S h p e s m args below meth c H locs Q ls C _ k => W.lcmp C.1 C.2.1 hd (lv_if_eq C.1 C.2.1 hd2 ht (fun _ => k) (fun h2 => absurd ((lg_cmp_eq x y).mpr h) h2))) (fun x y S h p e s m args below meth c H locs Q ls C _ k => W.lcmp C.1 C.2.1 hd (lv_if_eq C.1 C.2.1 hd2 ht (fun h2 => absurd ((lg_cmp_eq x y).mp h2) h) (fun _ => k)))
abbrev o_lcne (tg : Nat) : qm_op G := o_br (t_ll (fun x y => ¬ x = y) (fun x y => x = y)) tg
theorem os_lcne {tg pc : Nat} {off : Int} (hd : decode cc pc = .ok (.lcmp, 1)) (hd2 : decode cc (pc + 1) = .ok (.ifCond .ne off, 3)) (ht : ((pc + 1 : Nat) : Int) + off = (tg : Int)) : qm_K Λ V hold A l R cc nL own Ts ret pc (pc + 4) (o_lcne tg) := os_ll2 (fun x y S h p e s m args below meth c H locs Q ls C _ k => W.lcmp C.1 C.2.1 hd (lv_if_ne C.1 C.2.1 hd2 ht (fun _ => k) (fun h2 => absurd ((lg_cmp_eq x y).mp h2) h))) (fun x y S h p e s m args below meth c H locs Q ls C _ k => W.lcmp C.1 C.2.1 hd (lv_if_ne C.1 C.2.1 hd2 ht (fun h2 => absurd ((lg_cmp_eq x y).mpr h) h2) (fun _ => k)))
abbrev o_lclt (tg : Nat) : qm_op G := o_br (t_ll (fun x y => x < y) (fun x y => ¬ x < y)) tg
theorem os_lclt {tg pc : Nat} {off : Int} (hd : decode cc pc = .ok (.lcmp, 1)) (hd2 : decode cc (pc + 1) = .ok (.ifCond .lt off, 3)) (ht : ((pc + 1 : Nat) : Int) + off = (tg : Int)) : qm_K Λ V hold A l R cc nL own Ts ret pc (pc + 4) (o_lclt tg) := os_ll2 (fun x y S h p e s m args below meth c H locs Q ls C _ k => W.lcmp C.1 C.2.1 hd (lv_if_lt C.1 C.2.1 hd2 ht (fun _ => k) (fun h2 => absurd ((lg_cmp_lt x y).mpr h) h2))) (fun x y S h p e s m args below meth c H locs Q ls C _ k => W.lcmp C.1 C.2.1 hd (lv_if_lt C.1 C.2.1 hd2 ht (fun h2 => absurd ((lg_cmp_lt x y).mp h2) h) (fun _ => k)))
abbrev o_lcge (tg : Nat) : qm_op G := o_br (t_ll (fun x y => y ≤ x) (fun x y => ¬ y ≤ x)) tg
theorem os_lcge {tg pc : Nat} {off : Int} (hd : decode cc pc = .ok (.lcmp, 1)) (hd2 : decode cc (pc + 1) = .ok (.ifCond .ge off, 3)) (ht : ((pc + 1 : Nat) : Int) + off = (tg : Int)) : qm_K Λ V hold A l R cc nL own Ts ret pc (pc + 4) (o_lcge tg) := os_ll2 (fun x y S h p e s m args below meth c H locs Q ls C _ k => W.lcmp C.1 C.2.1 hd (lv_if_ge C.1 C.2.1 hd2 ht (fun _ => k) (fun h2 => absurd ((lg_cmp_ge x y).mpr h) h2))) (fun x y S h p e s m args below meth c H locs Q ls C _ k => W.lcmp C.1 C.2.1 hd (lv_if_ge C.1 C.2.1 hd2 ht (fun h2 => absurd ((lg_cmp_ge x y).mp h2) h) (fun _ => k)))
abbrev o_lcgt (tg : Nat) : qm_op G := o_br (t_ll (fun x y => y < x) (fun x y => ¬ y < x)) tg
theorem os_lcgt {tg pc : Nat} {off : Int} (hd : decode cc pc = .ok (.lcmp, 1)) (hd2 : decode cc (pc + 1) = .ok (.ifCond .gt off, 3)) (ht : ((pc + 1 : Nat) : Int) + off = (tg : Int)) : qm_K Λ V hold A l R cc nL own Ts ret pc (pc + 4) (o_lcgt tg) := os_ll2 (fun x y S h p e s m args below meth c H locs Q ls C _ k => W.lcmp C.1 C.2.1 hd (lv_if_gt C.1 C.2.1 hd2 ht (fun _ => k) (fun h2 => absurd ((lg_cmp_gt x y).mpr h) h2))) (fun x y S h p e s m args below meth c H locs Q ls C _ k => W.lcmp C.1 C.2.1 hd (lv_if_gt C.1 C.2.1 hd2 ht (fun h2 => absurd ((lg_cmp_gt x y).mp h2) h) (fun _ => k)))
abbrev o_lcle (tg : Nat) : qm_op G := o_br (t_ll (fun x y => x ≤ y) (fun x y => ¬ x ≤ y)) tg
theorem os_lcle {tg pc : Nat} {off : Int} (hd : decode cc pc = .ok (.lcmp, 1)) (hd2 : decode cc (pc + 1) = .ok (.ifCond .le off, 3)) (ht : ((pc + 1 : Nat) : Int) + off = (tg : Int)) : qm_K Λ V hold A l R cc nL own Ts ret pc (pc + 4) (o_lcle tg) := os_ll2 (fun x y S h p e s m args below meth c H locs Q ls C _ k => W.lcmp C.1 C.2.1 hd (lv_if_le C.1 C.2.1 hd2 ht (fun _ => k) (fun h2 => absurd ((lg_cmp_le x y).mpr h) h2))) (fun x y S h p e s m args below meth c H locs Q ls C _ k => W.lcmp C.1 C.2.1 hd (lv_if_le C.1 C.2.1 hd2 ht (fun h2 => absurd ((lg_cmp_le x y).mp h2) h) (fun _ => k)))
def f_biw (f : Int32 → Int32 → Int32) : List qm_v → Option (List Prop × List qm_v)
  | .inl y :: .inl x :: S => match Nat.ble (qm_wt S) 8 with
    | true => some ([], .inl (f x y) :: S)
    | false => none
  | _ => none
def f_blw (f : Int64 → Int64 → Int64) : List qm_v → Option (List Prop × List qm_v)
  | .inr (.inl y) :: .inr (.inl x) :: S => match Nat.ble (qm_wt S) 8 with
    | true => some ([], .inr (.inl (f x y)) :: S)
    | false => none
  | _ => none
def f_ulw (f : Int64 → Int64) : List qm_v → Option (List Prop × List qm_v)
  | .inr (.inl x) :: S => match Nat.ble (qm_wt S) 8 with
    | true => some ([], .inr (.inl (f x)) :: S)
    | false => none
  | _ => none
theorem os_biw {f : Int32 → Int32 → Int32} {pc nx : Nat} (h : ∀ (x y : Int32) (S : List qm_v), qm_wt S ≤ 8 → qm_row Λ l R cc nL own Ts pc nx (qI y :: qI x :: S) (qI (f x y) :: S)) : qm_K Λ V hold A l R cc nL own Ts ret pc nx (o_stk (f_biw f)) := by
  refine os_stk fun S cs S' hf hc => ?_
  rcases S with _ | ⟨y | y, _ | ⟨x | x, S⟩⟩ <;> try cases hf
  unfold f_biw at hf
  dsimp only at hf
  cases hb : Nat.ble (qm_wt S) 8 <;> rw [hb] at hf <;> cases hf
  exact ⟨fun k => qm_fa trivial (qm_fa2 (qm_fa2 k).2).2, h x y S (Nat.le_of_ble_eq_true hb)⟩
theorem os_blw {f : Int64 → Int64 → Int64} {pc nx : Nat} (h : ∀ (x y : Int64) (S : List qm_v), qm_wt S ≤ 8 → qm_row Λ l R cc nL own Ts pc nx (qL y :: qL x :: S) (qL (f x y) :: S)) : qm_K Λ V hold A l R cc nL own Ts ret pc nx (o_stk (f_blw f)) := by
  refine os_stk fun S cs S' hf hc => ?_
  rcases S with _ | ⟨y | y | y, _ | ⟨x | x | x, S⟩⟩ <;> try cases hf
  unfold f_blw at hf
  dsimp only at hf
  cases hb : Nat.ble (qm_wt S) 8 <;> rw [hb] at hf <;> cases hf
  exact ⟨fun k => qm_fa trivial (qm_fa2 (qm_fa2 k).2).2, h x y S (Nat.le_of_ble_eq_true hb)⟩
theorem os_ulw {f : Int64 → Int64} {pc nx : Nat} (h : ∀ (x : Int64) (S : List qm_v), qm_wt S ≤ 8 → qm_row Λ l R cc nL own Ts pc nx (qL x :: S) (qL (f x) :: S)) : qm_K Λ V hold A l R cc nL own Ts ret pc nx (o_stk (f_ulw f)) := by
  refine os_stk fun S cs S' hf hc => ?_
  rcases S with _ | ⟨x | x | x, S⟩ <;> try cases hf
  unfold f_ulw at hf
  dsimp only at hf
  cases hb : Nat.ble (qm_wt S) 8 <;> rw [hb] at hf <;> cases hf
  exact ⟨fun k => qm_fa trivial (qm_fa2 k).2, h x S (Nat.le_of_ble_eq_true hb)⟩
abbrev o_imax : qm_op G := o_stk (f_biw (fun x y => if x < y then y else x))
theorem os_imax {pc idx : Nat} (hd : decode cc pc = .ok (.invokestatic idx, 3)) (w1 : Cond.methodLink own idx Lib.Math.max.name ∈ Ts) (w2 : Cond.static Lib.Math.max.name ∈ Ts) (w3 : Cond.initialized "java/lang/Math" ∈ Ts) (w4 : Cond.code Lib.Math.max.name Lib.Math.max.code 2 (some .int) ∈ Ts) (hf : 1 ≤ R.frames) (hl : 21 ≤ R.locals) : qm_K Λ V hold A l R cc nL own Ts ret pc (pc + 3) o_imax := os_biw fun x y S hS p e s m args below meth c H locs Q ls C hz k => va_mmax C.1 C.2.1 (C.2.2.1.trans hz.symm) C.2.2.2.1 (C.2.2.2.2 _ w1) (C.2.2.2.2 _ w2) (C.2.2.2.2 _ w3) (C.2.2.2.2 _ w4) hf (by rw [qm_wt_eq]; omega) (Nat.zero_le _) (Nat.zero_le _) hd k
abbrev o_imin : qm_op G := o_stk (f_biw (fun x y => if y < x then y else x))
theorem os_imin {pc idx : Nat} (hd : decode cc pc = .ok (.invokestatic idx, 3)) (w1 : Cond.methodLink own idx Lib.Math.min.name ∈ Ts) (w2 : Cond.static Lib.Math.min.name ∈ Ts) (w3 : Cond.initialized "java/lang/Math" ∈ Ts) (w4 : Cond.code Lib.Math.min.name Lib.Math.min.code 2 (some .int) ∈ Ts) (hf : 1 ≤ R.frames) (hl : 21 ≤ R.locals) : qm_K Λ V hold A l R cc nL own Ts ret pc (pc + 3) o_imin := os_biw fun x y S hS p e s m args below meth c H locs Q ls C hz k => va_mmin C.1 C.2.1 (C.2.2.1.trans hz.symm) C.2.2.2.1 (C.2.2.2.2 _ w1) (C.2.2.2.2 _ w2) (C.2.2.2.2 _ w3) (C.2.2.2.2 _ w4) hf (by rw [qm_wt_eq]; omega) (Nat.zero_le _) (Nat.zero_le _) hd k
abbrev o_lmax : qm_op G := o_stk (f_blw (fun x y => if y < x then x else y))
theorem os_lmax {pc idx : Nat} (hd : decode cc pc = .ok (.invokestatic idx, 3)) (w1 : Cond.methodLink own idx Lib.MathLoose.max_long.x ∈ Ts) (w2 : Cond.static Lib.MathLoose.max_long.x ∈ Ts) (w3 : Cond.initialized "java/lang/Math" ∈ Ts) (w4 : Cond.code Lib.MathLoose.max_long.x Lib.MathLoose.max_long.code 4 (some .long) ∈ Ts) (hf : 1 ≤ R.frames) (hl : 23 ≤ R.locals) : qm_K Λ V hold A l R cc nL own Ts ret pc (pc + 3) o_lmax := os_blw fun x y S hS p e s m args below meth c H locs Q ls C hz k => va_mmax_long C.1 C.2.1 (C.2.2.1.trans hz.symm) C.2.2.2.1 (C.2.2.2.2 _ w1) (C.2.2.2.2 _ w2) (C.2.2.2.2 _ w3) (C.2.2.2.2 _ w4) hf (by rw [qm_wt_eq]; omega) (Nat.zero_le _) (Nat.zero_le _) hd k
abbrev o_lmin : qm_op G := o_stk (f_blw (fun x y => if y < x then y else x))
theorem os_lmin {pc idx : Nat} (hd : decode cc pc = .ok (.invokestatic idx, 3)) (w1 : Cond.methodLink own idx Lib.MathLoose.min_long.x ∈ Ts) (w2 : Cond.static Lib.MathLoose.min_long.x ∈ Ts) (w3 : Cond.initialized "java/lang/Math" ∈ Ts) (w4 : Cond.code Lib.MathLoose.min_long.x Lib.MathLoose.min_long.code 4 (some .long) ∈ Ts) (hf : 1 ≤ R.frames) (hl : 23 ≤ R.locals) : qm_K Λ V hold A l R cc nL own Ts ret pc (pc + 3) o_lmin := os_blw fun x y S hS p e s m args below meth c H locs Q ls C hz k => va_mmin_long C.1 C.2.1 (C.2.2.1.trans hz.symm) C.2.2.2.1 (C.2.2.2.2 _ w1) (C.2.2.2.2 _ w2) (C.2.2.2.2 _ w3) (C.2.2.2.2 _ w4) hf (by rw [qm_wt_eq]; omega) (Nat.zero_le _) (Nat.zero_le _) hd k
abbrev o_labs : qm_op G := o_stk (f_ulw (fun x => if 0 < x then x else -x))
theorem os_labs {pc idx : Nat} (hd : decode cc pc = .ok (.invokestatic idx, 3)) (w1 : Cond.methodLink own idx Lib.MathLoose.abs_long.x ∈ Ts) (w2 : Cond.static Lib.MathLoose.abs_long.x ∈ Ts) (w3 : Cond.initialized "java/lang/Math" ∈ Ts) (w4 : Cond.code Lib.MathLoose.abs_long.x Lib.MathLoose.abs_long.code 2 (some .long) ∈ Ts) (hf : 1 ≤ R.frames) (hl : 21 ≤ R.locals) : qm_K Λ V hold A l R cc nL own Ts ret pc (pc + 3) o_labs := os_ulw fun x S hS p e s m args below meth c H locs Q ls C hz k => va_mabs_long C.1 C.2.1 (C.2.2.1.trans hz.symm) C.2.2.2.1 (C.2.2.2.2 _ w1) (C.2.2.2.2 _ w2) (C.2.2.2.2 _ w3) (C.2.2.2.2 _ w4) hf (by rw [qm_wt_eq]; omega) (Nat.zero_le _) (Nat.zero_le _) hd k
end QMM
