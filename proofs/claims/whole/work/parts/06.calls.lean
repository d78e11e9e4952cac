section QMC
variable {G : Type} {D : va_G} {cl : List vw_C} {tys : List (ClassId × FieldType)} {Λ : Nat → Nat → Nat} {V : Nat → Nat → Prop} {ce : G → Nat → Nat → va_E} {okg : G → Prop} {ex : State → Heap → Prop} {A : Nat → Prop} {l : Launch} {R : Room} {cc : ByteArray} {nL : Nat} {own : String} {Ts : List Cond} {ret : Option FieldType}
def o_ret0 : qm_op G := fun o t => match t.2.1 with
  | [] => ([], some none, t, o)
  | _ => ([False], none, t, o)
def o_reti : qm_op G := fun o t => match t.2.1 with
  | [.inl x] => ([], some none, (t.1, [.inl x], t.2.2), o)
  | _ => ([False], none, t, o)
def o_retz : qm_op G := fun o t => match t.2.1 with
  | [.inl x] => ([x = 0 ∨ x = 1], some none, (t.1, [.inl x], t.2.2), o)
  | _ => ([False], none, t, o)
def o_retl : qm_op G := fun o t => match t.2.1 with
  | [.inr (.inl x)] => ([], some none, (t.1, [.inr (.inl x)], t.2.2), o)
  | _ => ([False], none, t, o)
def o_reta : qm_op G := fun o t => match t.2.1 with
  | [.inr (.inr x)] => ([], some none, (t.1, [.inr (.inr x)], t.2.2), o)
  | _ => ([False], none, t, o)
theorem qm_hold.out (hsys : qm_sys Λ V ex A) {s t : State} {g : G} {H : Heap} (h : qm_hold D cl tys Λ V ce okg ex s g H) (hv : s.WarmedH t.vm) (ht : t.heap = H) : qm_hold D cl tys Λ V ce okg ex t g t.heap := by
  rw [ht]; exact h.moved hsys hv
theorem os_ret0 (hsys : qm_sys Λ V ex A) {pc nx : Nat} (hd : decode cc pc = .ok (.return_, 1)) (hr : ret = none) : qm_K Λ V (qm_hold D cl tys Λ V ce okg ex) A l R cc nL own Ts ret pc nx o_ret0 := by
  intro Fq p e s m args below meth c Q C0 o t hc1 hn H locs ls hA
  obtain ⟨L, S, g⟩ := t
  obtain ⟨a1, a2, a3, a4, a5⟩ := hA
  rcases S with _ | ⟨v, S⟩
  · obtain ⟨c1, c2, c3, c4⟩ := C0
    subst c4
    exact W.vret (hlocks := c3) c1.1 c1.2.1 (c2.trans hr) (fun t ht hW => ⟨none, g, rfl, hn, (fun v hv => by cases hv), a1.out hsys hW ht, a5.F ht⟩) a5.2.2 hd
  · exact hc1.elim
theorem os_reti (hsys : qm_sys Λ V ex A) {pc nx : Nat} (hd : decode cc pc = .ok (.ireturn, 1)) (hr : ret = some .int) : qm_K Λ V (qm_hold D cl tys Λ V ce okg ex) A l R cc nL own Ts ret pc nx o_reti := by
  intro Fq p e s m args below meth c Q C0 o t hc1 hn H locs ls hA
  obtain ⟨L, S, g⟩ := t
  obtain ⟨a1, a2, a3, a4, a5⟩ := hA
  rcases S with _ | ⟨x | x, _ | ⟨v, S⟩⟩
  case cons.inl.nil =>
    obtain ⟨c1, c2, c3, c4⟩ := C0
    subst c4
    exact W.iret (hlocks := c3) c1.1 c1.2.1 (c2.trans hr) (fun t ht hW => ⟨some (.inl x), g, rfl, hn, (fun v hv => by cases hv; trivial), a1.out hsys hW ht, a5.F ht⟩) a5.2.2 hd
  all_goals exact hc1.elim
theorem os_retz (hsys : qm_sys Λ V ex A) {pc nx : Nat} (hd : decode cc pc = .ok (.ireturn, 1)) (hr : ret = some .boolean) : qm_K Λ V (qm_hold D cl tys Λ V ce okg ex) A l R cc nL own Ts ret pc nx o_retz := by
  intro Fq p e s m args below meth c Q C0 o t hc1 hn H locs ls hA
  obtain ⟨L, S, g⟩ := t
  obtain ⟨a1, a2, a3, a4, a5⟩ := hA
  rcases S with _ | ⟨x | x, _ | ⟨v, S⟩⟩
  case cons.inl.nil =>
    obtain ⟨c1, c2, c3, c4⟩ := C0
    subst c4
    have hx : narrow .boolean (.int x) = .int x := by
      rcases (show x = 0 ∨ x = 1 from hc1) with rfl | rfl <;> decide +kernel
    exact W.zret (hlocks := c3) c1.1 c1.2.1 (c2.trans hr) hx (fun t ht hW => ⟨some (.inl x), g, rfl, hn, (fun v hv => by cases hv; trivial), a1.out hsys hW ht, a5.F ht⟩) a5.2.2 hd
  all_goals exact hc1.elim
theorem os_retl (hsys : qm_sys Λ V ex A) {pc nx : Nat} (hd : decode cc pc = .ok (.lreturn, 1)) (hr : ret = some .long) : qm_K Λ V (qm_hold D cl tys Λ V ce okg ex) A l R cc nL own Ts ret pc nx o_retl := by
  intro Fq p e s m args below meth c Q C0 o t hc1 hn H locs ls hA
  obtain ⟨L, S, g⟩ := t
  obtain ⟨a1, a2, a3, a4, a5⟩ := hA
  rcases S with _ | ⟨x | x | x, _ | ⟨v, S⟩⟩
  case cons.inr.inl.nil =>
    obtain ⟨c1, c2, c3, c4⟩ := C0
    subst c4
    exact W.lret (hlocks := c3) c1.1 c1.2.1 (c2.trans hr) (fun t ht hW => ⟨some (.inr (.inl x)), g, rfl, hn, (fun v hv => by cases hv; trivial), a1.out hsys hW ht, a5.F ht⟩) a5.2.2 hd
  all_goals exact hc1.elim
theorem os_reta (hsys : qm_sys Λ V ex A) {pc nx : Nat} {rt : FieldType} (hd : decode cc pc = .ok (.areturn, 1)) (hr : ret = some rt) (hrt : (∃ n, rt = .object n) ∨ ∃ t, rt = .array t) : qm_K Λ V (qm_hold D cl tys Λ V ce okg ex) A l R cc nL own Ts ret pc nx o_reta := by
  intro Fq p e s m args below meth c Q C0 o t hc1 hn H locs ls hA
  obtain ⟨L, S, g⟩ := t
  obtain ⟨a1, a2, a3, a4, a5⟩ := hA
  rcases S with _ | ⟨x | x | x, _ | ⟨v, S⟩⟩
  case cons.inr.inr.nil =>
    obtain ⟨c1, c2, c3, c4⟩ := C0
    subst c4
    exact W.aret (v := qm_cv Λ (.inr (.inr x))) (hlocks := c3) c1.1 c1.2.1 (c2.trans hr) hrt (by rcases x with _ | x; exact Or.inl rfl; exact Or.inr ⟨_, rfl⟩) (fun t ht hW => ⟨some (.inr (.inr x)), g, rfl, hn, (fun v hv => by cases hv; exact (qm_fa2 a3).1), a1.out hsys hW ht, a5.F ht⟩) a5.2.2 hd
  all_goals exact hc1.elim
/-- a method's contract: from g with these arguments it answers r and leaves g' -/
def qm_Sd (Λ : Nat → Nat → Nat) (V : Nat → Nat → Prop) (hold : State → G → Heap → Prop) (A : Nat → Prop) (l : Launch) (mt : MethodName × List Cond × Room) (as : List qm_v) (g : G) (r : Option qm_v) (g' : G) : Prop :=
  Met l mt.1 mt.2.1 mt.2.2 (fun v U => v = (as.map (qm_cv Λ)).toArray ∧ hold U g U.heap ∧ ∀ v ∈ as, qm_ok V v) (qm_Qc Λ V hold A (fun r1 g1 => r1 = r ∧ g1 = g')) 0 0 A
def qm_ent : Nat → List qm_v → List (Option qm_v)
  | 0, _ => []
  | n + 1, [] => none :: qm_ent n []
  | 1, v :: _ => [some v]
  | n + 2, .inr (.inl x) :: r => some (.inr (.inl x)) :: none :: qm_ent n r
  | n + 2, .inl x :: r => some (.inl x) :: qm_ent (n + 1) r
  | n + 2, .inr (.inr x) :: r => some (.inr (.inr x)) :: qm_ent (n + 1) r
theorem qm_ent_len : ∀ (n : Nat) (as : List qm_v), (qm_ent n as).length = n
  | 0, _ => by unfold qm_ent; rfl
  | n + 1, [] => by unfold qm_ent; simp [qm_ent_len n []]
  | 1, v :: r => by unfold qm_ent; rfl
  | n + 2, .inr (.inl x) :: r => by unfold qm_ent; simp [qm_ent_len n r]
  | n + 2, .inl x :: r => by unfold qm_ent; simp [qm_ent_len (n + 1) r]
  | n + 2, .inr (.inr x) :: r => by unfold qm_ent; simp [qm_ent_len (n + 1) r]
theorem qm_ent_nil (Λ : Nat → Nat → Nat) : ∀ (n i : Nat), qm_ll Λ i (qm_ent n []) = []
  | 0, _ => by unfold qm_ent; rfl
  | n + 1, i => by unfold qm_ent; unfold qm_ll; exact qm_ent_nil Λ n (i + 1)
theorem qm_ent_in (Λ : Nat → Nat → Nat) : ∀ (n i : Nat) (as : List qm_v), ∀ q ∈ qm_ll Λ i (qm_ent n as), q ∈ lv_args i (as.map (qm_cv Λ))
  | 0, i, as => by unfold qm_ent; intro q hq; cases hq
  | n + 1, i, [] => by rw [qm_ent_nil]; intro q hq; cases hq
  | 1, i, v :: r => by
    unfold qm_ent
    intro q hq
    simp only [qm_ll, List.mem_singleton] at hq
    subst hq
    exact List.mem_cons_self
  | n + 2, i, .inr (.inl x) :: r => by
    unfold qm_ent
    intro q hq
    simp only [qm_ll, List.mem_cons] at hq
    rcases hq with rfl | hq
    · exact List.mem_cons_self
    · exact List.mem_cons_of_mem _ (qm_ent_in Λ n (i + 2) r q hq)
  | n + 2, i, .inl x :: r => by
    unfold qm_ent
    intro q hq
    simp only [qm_ll, List.mem_cons] at hq
    rcases hq with rfl | hq
    · exact List.mem_cons_self
    · exact List.mem_cons_of_mem _ (qm_ent_in Λ (n + 1) (i + 1) r q hq)
  | n + 2, i, .inr (.inr x) :: r => by
    unfold qm_ent
    intro q hq
    simp only [qm_ll, List.mem_cons] at hq
    rcases hq with rfl | hq
    · exact List.mem_cons_self
    · refine List.mem_cons_of_mem _ ?_
      have h := qm_ent_in Λ (n + 1) (i + 1) r q hq
      rcases x with _ | x <;> exact h
theorem qm_ent_ok {V : Nat → Nat → Prop} : ∀ (n : Nat) (as : List qm_v), (∀ v ∈ as, qm_ok V v) → ∀ k v, qm_nth (qm_ent n as) k = some v → qm_ok V v
  | 0, as, _, k, v, h => by unfold qm_ent at h; cases h
  | n + 1, [], _, 0, v, h => by unfold qm_ent at h; cases h
  | n + 1, [], ha, k + 1, v, h => by unfold qm_ent at h; exact qm_ent_ok n [] ha k v h
  | 1, u :: r, ha, 0, v, h => by unfold qm_ent at h; cases h; exact ha _ List.mem_cons_self
  | 1, u :: r, ha, k + 1, v, h => by unfold qm_ent at h; cases h
  | n + 2, .inr (.inl x) :: r, ha, 0, v, h => by unfold qm_ent at h; cases h; trivial
  | n + 2, .inr (.inl x) :: r, ha, 1, v, h => by unfold qm_ent at h; cases h
  | n + 2, .inr (.inl x) :: r, ha, k + 2, v, h => by unfold qm_ent at h; exact qm_ent_ok n r (qm_fa2 ha).2 k v h
  | n + 2, .inl x :: r, ha, 0, v, h => by unfold qm_ent at h; cases h; trivial
  | n + 2, .inl x :: r, ha, k + 1, v, h => by unfold qm_ent at h; exact qm_ent_ok (n + 1) r (qm_fa2 ha).2 k v h
  | n + 2, .inr (.inr x) :: r, ha, 0, v, h => by unfold qm_ent at h; cases h; exact ha _ List.mem_cons_self
  | n + 2, .inr (.inr x) :: r, ha, k + 1, v, h => by unfold qm_ent at h; exact qm_ent_ok (n + 1) r (qm_fa2 ha).2 k v h
/-- a method by its code: the walk of the pure machine from its entry -/
theorem qm_meth (hsys : qm_sys Λ V ex A) {y : MethodName} {ws' : List Cond} {as : List qm_v} {g g' : G} {r : Option qm_v} (hy : plainName y.cls = true) (hyo : y.cls = own) (hws : Ts = Cond.code y cc nL ret :: ws') (hfit : (lg_sl (as.map (qm_cv Λ))).length ≤ nL)
    (body : ∀ (p : Program) (e : Env) (s : State) (m : MethodId) (args : Array Value) (below : List Frame) (meth : Method) (c : Code) (Q : State → Prop), qm_C Λ V (qm_hold D cl tys Λ V ce okg ex) A (fun r1 g1 => r1 = r ∧ g1 = g') cc nL own Ts ret p s m args below meth c Q → (∀ v ∈ as, qm_ok V v) → okg g →
      qm_W Λ V (qm_hold D cl tys Λ V ce okg ex) A nL p l e R s m args below meth c Q 0 (qm_ent nL as, [], g)) : qm_Sd Λ V (qm_hold D cl tys Λ V ce okg ex) A l (y, Ts, R) as g r g' := by
  refine Met.ofW (cc := cc) (maxL := nL) (ret := ret) hy hws ?_
  intro p e s m args below meth c s₁ B hml hv
  obtain ⟨rfl, hH, hok⟩ := hv
  have hts := atoms_spec (ws := Ts) B.pre
  have hown : s.vm.findClass own = some m.cls := hyo ▸ findClass_of_methodNamed B.named
  have hl := lv_entry (as.map (qm_cv Λ)) (n := nL) hfit
  rw [lg_entry_eq]
  generalize (lg_sl (as.map (qm_cv Λ)) ++ List.replicate (nL - (lg_sl (as.map (qm_cv Λ))).length) Slot.unset).toArray = ls at hl ⊢
  exact body p e s m _ below meth c _ ⟨⟨B.exec, B.bytes, hml, hown, hts⟩, B.returns, B.notSynchronized, rfl⟩ hok hH.2.2.1 s.heap [] ls ⟨hH, qm_ent_ok nL as hok, (fun v hv => by cases hv), ⟨⟨hl.1, hl.2.1, fun q hq => hl.2.2 q (qm_ent_in Λ nL 0 as q hq)⟩, qm_ent_len nL as⟩, va_S.rf⟩
-- calls
def qm_pop : Nat → List qm_v → List qm_v → Option (List qm_v × List qm_v)
  | 0, S, acc => some (acc, S)
  | _ + 1, [], _ => none
  | n + 1, v :: S, acc => qm_pop n S (v :: acc)
theorem qm_pop_of : ∀ {n : Nat} {S0 acc as S : List qm_v}, qm_pop n S0 acc = some (as, S) → as.length = n + acc.length ∧ as.reverse ++ S = acc.reverse ++ S0
  | 0, S0, acc, as, S, h => by cases h; simp
  | n + 1, [], acc, as, S, h => by cases h
  | n + 1, v :: S0, acc, as, S, h => by
    obtain ⟨h1, h2⟩ := qm_pop_of (n := n) (S0 := S0) (acc := v :: acc) h
    refine ⟨by rw [h1]; simp; omega, by rw [h2]; simp⟩
def qm_wt : List qm_v → Nat
  | [] => 0
  | .inr (.inl _) :: S => qm_wt S + 2
  | .inl _ :: S => qm_wt S + 1
  | .inr (.inr _) :: S => qm_wt S + 1
theorem qm_wt_eq (Λ : Nat → Nat → Nat) : ∀ S : List qm_v, ((S.map (qm_cv Λ)).map fun v => v.category).sum = qm_wt S
  | [] => rfl
  | .inr (.inl _) :: S => by
    have h := qm_wt_eq Λ S
    show 2 + ((S.map (qm_cv Λ)).map fun v => v.category).sum = qm_wt S + 2
    omega
  | .inl _ :: S => by
    have h := qm_wt_eq Λ S
    show 1 + ((S.map (qm_cv Λ)).map fun v => v.category).sum = qm_wt S + 1
    omega
  | .inr (.inr none) :: S => by
    have h := qm_wt_eq Λ S
    show 1 + ((S.map (qm_cv Λ)).map fun v => v.category).sum = qm_wt S + 1
    omega
  | .inr (.inr (some _)) :: S => by
    have h := qm_wt_eq Λ S
    show 1 + ((S.map (qm_cv Λ)).map fun v => v.category).sum = qm_wt S + 1
    omega
def o_call (n : Nat) (P : List qm_v → G → Option qm_v → G → Prop) : qm_op G := fun o t => match qm_pop n t.2.1 [] with
  | some (as, S) => match o.2.2, Nat.ble (qm_wt S) 8 with
    | (r, g') :: rs, true => ([P as t.2.2 r g'], none, (t.1, (match r with | some v => v :: S | none => S), g'), (o.1, o.2.1, rs))
    | _, _ => ([False], none, t, o)
  | none => ([False], none, t, o)
def o_callv (kd n : Nat) (P : List qm_v → G → Option qm_v → G → Prop) : qm_op G := fun o t => match qm_pop n t.2.1 [] with
  | some (.inr (.inr (some (k, i))) :: as, S) => match Nat.beq k kd, o.2.2, Nat.ble (qm_wt S) 8 with
    | true, (r, g') :: rs, true => ([P (.inr (.inr (some (k, i))) :: as) t.2.2 r g'], none, (t.1, (match r with | some v => v :: S | none => S), g'), (o.1, o.2.1, rs))
    | _, _, _ => ([False], none, t, o)
  | _ => ([False], none, t, o)
theorem qm_go (hsys : qm_sys Λ V ex A) {p : Program} {e : Env} {s : State} {m : MethodId} {args : Array Value} {below : List Frame} {meth : Method} {c : Code} {H : Heap} {locs : List Loc} {Q : State → Prop} {pc : Nat} {ls : Array Slot} {st0 rest : List Value} {a : Array Value} {Fq : Option qm_v → G → Prop}
    (hr : va_Run p l e R s m args below meth c H locs 0 0 0 0 (F0 m pc ls st0) rest (qm_Qc Λ V (qm_hold D cl tys Λ V ce okg ex) A Fq a) A) (hS : va_S A s.heap H locs) (hx : ex s H)
    (kk : ∀ (r : Option qm_v) (g : G) (H1 : Heap) (locs1 : List Loc), Fq r g → (∀ v, r = some v → qm_ok V v) → qm_hold D cl tys Λ V ce okg ex s g H1 → va_S A s.heap H1 locs1 → W p l e R s m args below meth c H1 locs1 0 0 Q (F0 m (pc + 3) ls ((r.map (qm_cv Λ)).toList ++ rest))) : W p l e R s m args below meth c H locs 0 0 Q (F0 m pc ls st0) := by
  intro T hT X
  obtain ⟨v, st₀, t, T', L, h0, X', hL, e1, e2, ⟨r, g, hv, hF, hok, hh, hz, hk⟩, st⟩ := hr T hT X
  cases hv
  rw [h0] at hz hk
  have hal : s.vm.Alike t.vm := by rw [← e2]; exact X'.warmed.alike
  obtain ⟨t2, a1, b1⟩ := kk r g T'.heap (locs ++ L) hF hok (by rw [e1]; exact ⟨va_K.moved hal.symm hh.1, hh.2.1, hh.2.2.1, hsys.2.2.1 s H t.heap hx (fun q h1 h2 => hk q h1 h2)⟩)
    ⟨Nat.le_trans hS.1 (by rw [e1]; exact hz), fun q h1 h2 => by rw [e1, hk q (Nat.lt_of_lt_of_le h1 hS.1) h2]; exact hS.2.1 q h1 h2, fun q hq => by
      rcases List.mem_append.mp hq with h | h
      · exact hS.2.2 q h
      · exact hL q h⟩ T' rfl X'
  exact ⟨t2, st t2 a1, b1⟩
theorem qm_pre (hsys : qm_sys Λ V ex A) {s : State} {g : G} {H : Heap} {as : List qm_v} (h : qm_hold D cl tys Λ V ce okg ex s g H) (ha : ∀ v ∈ as, qm_ok V v) : PreS s H (fun v U => v = (as.map (qm_cv Λ)).toArray ∧ qm_hold D cl tys Λ V ce okg ex U g U.heap ∧ ∀ v ∈ as, qm_ok V v) (as.map (qm_cv Λ)) :=
  ⟨fun a U f mk q => ⟨q.1, q.2.1.moved hsys (s := U) (t := U.calling f mk a) (State.WarmedH.refl U), q.2.2⟩, fun U hU hW => ⟨rfl, h.out hsys hW hU, ha⟩⟩
theorem os_call (hsys : qm_sys Λ V ex A) {pc idx n maxL : Nat} {y : MethodName} {bytes : ByteArray} {rc : Option FieldType} {ws : List Cond} {rm : Room} (hd : decode cc pc = .ok (.invokestatic idx, 3)) (cw : ∀ (s : State) (args : Array Value), (∀ w ∈ Ts, w.before args s = true) → CallB R s args own idx y bytes maxL rc ws rm 0 0 n ∧ (Cond.static y).before args s = true) : qm_K Λ V (qm_hold D cl tys Λ V ce okg ex) A l R cc nL own Ts ret pc (pc + 3) (o_call n (qm_Sd Λ V (qm_hold D cl tys Λ V ce okg ex) A l (y, ws, rm))) := by
  intro Fq p e s m args below meth c Q C0 o t hc1 hn H locs ls hA
  obtain ⟨L, S, g⟩ := t
  obtain ⟨o1, o2, o3⟩ := o
  obtain ⟨a1, a2, a3, a4, a5⟩ := hA
  unfold o_call at hc1 hn
  dsimp only at hc1 hn
  rcases hp : qm_pop n S [] with _ | ⟨as, S'⟩ <;> rw [hp] at hc1 hn
  · exact hc1.elim
  · rcases o3 with _ | ⟨⟨r, g'⟩, rs⟩
    · exact hc1.elim
    · dsimp only at hc1 hn
      cases hb : Nat.ble (qm_wt S') 8 <;> rw [hb] at hc1 hn
      · exact hc1.elim
      · obtain ⟨p1, p2⟩ := qm_pop_of hp
        have p2 : as.reverse ++ S' = S := p2
        have hM : qm_Sd Λ V (qm_hold D cl tys Λ V ce okg ex) A l (y, ws, rm) as g r g' := hc1
        have hS' : ∀ v ∈ S', qm_ok V v := fun v hv => a3 v (p2 ▸ List.mem_append_right _ hv)
        have has : ∀ v ∈ as, qm_ok V v := fun v hv => a3 v (p2 ▸ List.mem_append_left _ (List.mem_reverse.mpr hv))
        refine qm_go hsys (va_runS (As := as.map (qm_cv Λ)) (rest := S'.map (qm_cv Λ)) C0.1 hM (cw s args C0.1.2.2.2.2) (qm_pre hsys a1 has) rfl (by rw [List.length_map]; exact p1) a4.1.1 (by show S.map (qm_cv Λ) = _; rw [← p2, List.map_append, List.map_reverse]) (lv_room (by rw [qm_wt_eq]; exact Nat.le_of_ble_eq_true hb)) hd ⟨Nat.zero_le _, Nat.zero_le _⟩) a5 a1.2.2.2 ?_
        rintro r1 g1 H1 locs1 ⟨rfl, rfl⟩ hok hh hS1
        have hn := hn H1 locs1 ls
        rcases r1 with _ | v
        · exact hn ⟨hh, a2, hS', a4, hS1⟩
        · exact hn ⟨hh, a2, qm_fa (hok v rfl) hS', a4, hS1⟩
theorem os_callv (hsys : qm_sys Λ V ex A) {kd ci pc idx n maxL N : Nat} {C : String} {T : u_T} {y : MethodName} {bytes : ByteArray} {rc : Option FieldType} {ws : List Cond} {rm : Room} (hd : decode cc pc = .ok (.invokevirtual idx, 3)) (hc : cl[ci]? = some (C, T, N)) (hce : ∀ (g : G) (i : Nat), V kd i → okg g → ∃ fs, ce g kd i = .inr (ci, fs)) (cw : ∀ (s : State) (args : Array Value), (∀ w ∈ Ts, w.before args s = true) → CallW R s args own C idx y bytes maxL rc ws rm 0 0 n) : qm_K Λ V (qm_hold D cl tys Λ V ce okg ex) A l R cc nL own Ts ret pc (pc + 3) (o_callv kd (n + 1) (qm_Sd Λ V (qm_hold D cl tys Λ V ce okg ex) A l (y, ws, rm))) := by
  intro Fq p e s m args below meth c Q C0 o t hc1 hn H locs ls hA
  obtain ⟨L, S, g⟩ := t
  obtain ⟨o1, o2, o3⟩ := o
  obtain ⟨a1, a2, a3, a4, a5⟩ := hA
  unfold o_callv at hc1 hn
  dsimp only at hc1 hn
  rcases hp : qm_pop (n + 1) S [] with _ | ⟨_ | ⟨x | x | _ | ⟨k, i⟩, as⟩, S'⟩ <;> rw [hp] at hc1 hn
  · exact hc1.elim
  · exact hc1.elim
  · exact hc1.elim
  · exact hc1.elim
  · exact hc1.elim
  · dsimp only at hc1 hn
    cases hbk : Nat.beq k kd <;> rw [hbk] at hc1 hn
    · exact hc1.elim
    · have hk := Nat.eq_of_beq_eq_true hbk
      subst hk
      rcases o3 with _ | ⟨⟨r, g'⟩, rs⟩
      · exact hc1.elim
      · cases hb : Nat.ble (qm_wt S') 8 <;> rw [hb] at hc1 hn
        · exact hc1.elim
        · obtain ⟨p1, p2⟩ := qm_pop_of hp
          have p2 : (qR k i :: as).reverse ++ S' = S := p2
          have p1 : as.length = n := by simpa using p1
          have hM : qm_Sd Λ V (qm_hold D cl tys Λ V ce okg ex) A l (y, ws, rm) (qR k i :: as) g r g' := hc1
          have hS' : ∀ v ∈ S', qm_ok V v := fun v hv => a3 v (p2 ▸ List.mem_append_right _ hv)
          have has : ∀ v ∈ qR k i :: as, qm_ok V v := fun v hv => a3 v (p2 ▸ List.mem_append_left _ (List.mem_reverse.mpr hv))
          have hV : V k i := has _ List.mem_cons_self
          obtain ⟨fs, hfs⟩ := hce g i hV a1.2.2.1
          have hat := a1.2.1 k i hV
          rw [hfs] at hat
          have hpre := qm_pre hsys (as := qR k i :: as) a1 has
          refine qm_go hsys (va_runV (b := Λ k i) (As := as.map (qm_cv Λ)) (rest := S'.map (qm_cv Λ)) C0.1 hM (cw s args C0.1.2.2.2.2) ⟨hpre.1, va_recv a1.1 (qm_one hat) hc (q0 := 0) rfl, hpre.2⟩ rfl (by rw [List.length_map]; exact p1) a4.1.1 (by show S.map (qm_cv Λ) = _; rw [← p2, List.reverse_cons, List.append_assoc, List.map_append, List.map_reverse]; rfl) (lv_room (by rw [qm_wt_eq]; exact Nat.le_of_ble_eq_true hb)) hd ⟨Nat.zero_le _, Nat.zero_le _⟩) a5 a1.2.2.2 ?_
          rintro r1 g1 H1 locs1 ⟨rfl, rfl⟩ hok hh hS1
          have hn := hn H1 locs1 ls
          rcases r1 with _ | v
          · exact hn ⟨hh, a2, hS', a4, hS1⟩
          · exact hn ⟨hh, a2, qm_fa (hok v rfl) hS', a4, hS1⟩
end QMC
