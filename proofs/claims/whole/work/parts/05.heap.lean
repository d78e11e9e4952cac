/-- the heap holds a system's state g: every place that there is holds its cell; 'ex' is what is held beside (statics, texts) -/
def qm_hold {G : Type} (D : va_G) (cl : List vw_C) (tys : List (ClassId × FieldType)) (Λ : Nat → Nat → Nat) (V : Nat → Nat → Prop) (ce : G → Nat → Nat → va_E) (okg : G → Prop) (ex : State → Heap → Prop) : State → G → Heap → Prop := fun s g H =>
  va_K D cl tys s ∧ (∀ k i, V k i → va_at D cl (Λ k i, ce g k i) H) ∧ okg g ∧ ex s H
section QMH
variable {G : Type} {D : va_G} {cl : List vw_C} {tys : List (ClassId × FieldType)} {Λ : Nat → Nat → Nat} {V : Nat → Nat → Prop} {ce : G → Nat → Nat → va_E} {okg : G → Prop} {ex : State → Heap → Prop} {A : Nat → Prop} {l : Launch} {R : Room} {cc : ByteArray} {nL : Nat} {own : String} {Ts : List Cond} {ret : Option FieldType}
/-- places are apart, and lie in A; what is beside stays when A alone changes, and when tables move -/
def qm_sys (Λ : Nat → Nat → Nat) (V : Nat → Nat → Prop) (ex : State → Heap → Prop) (A : Nat → Prop) : Prop :=
  (∀ k i k' i', V k i → V k' i' → Λ k i = Λ k' i' → k = k' ∧ i = i') ∧ (∀ k i, V k i → A (Λ k i)) ∧ (∀ (s : State) (H H1 : Heap), ex s H → (∀ q : Nat, q < H.size → ¬ A q → H1[q]? = H[q]?) → ex s H1) ∧ ∀ (s t : State) (H : Heap), s.WarmedH t.vm → ex s H → ex t H
theorem qm_hold.moved (hsys : qm_sys Λ V ex A) {s t : State} {g : G} {H : Heap} (hv : s.WarmedH t.vm) (h : qm_hold D cl tys Λ V ce okg ex s g H) : qm_hold D cl tys Λ V ce okg ex t g H := ⟨va_K.moved hv.alike h.1, h.2.1, h.2.2.1, hsys.2.2.2 s t H hv h.2.2.2⟩
theorem qm_one {D : va_G} {cl : List vw_C} {a : Nat} {e : va_E} {H : Heap} (h : va_at D cl (a, e) H) : va_P D cl [(a, e)] H := by
  intro k q hk
  have hz : k < 1 := (List.getElem?_eq_some_iff.mp hk).1
  rw [show k = 0 by omega] at hk
  cases hk
  exact h
/-- a cell is written: the heap holds the new state -/
theorem qm_hold.set (hsys : qm_sys Λ V ex A) {s : State} {g g' : G} {H H1 : Heap} {kd i : Nat} (h : qm_hold D cl tys Λ V ce okg ex s g H) (hV : V kd i) (hg : okg g') (hat : va_at D cl (Λ kd i, ce g' kd i) H1) (hz : H1.size = H.size) (oq : ∀ q : Nat, q ≠ Λ kd i → H1[q]? = H[q]?) (ho : ∀ k j, V k j → (k ≠ kd ∨ j ≠ i) → ce g' k j = ce g k j) : qm_hold D cl tys Λ V ce okg ex s g' H1 := by
  refine ⟨h.1, fun k j hkj => ?_, hg, hsys.2.2.1 s H H1 h.2.2.2 (fun q _ hq => oq q (fun e => hq (e ▸ hsys.2.1 kd i hV)))⟩
  by_cases he : k = kd ∧ j = i
  · obtain ⟨rfl, rfl⟩ := he
    exact hat
  · have hne : k ≠ kd ∨ j ≠ i := by
      by_cases hk : k = kd
      · exact Or.inr fun hj => he ⟨hk, hj⟩
      · exact Or.inl hk
    rw [ho k j hkj hne]
    exact (h.2.1 k j hkj).kept (oq _ (fun e => he (hsys.1 k j kd i hkj hV e)))
def o_get (kd : Nat) (fd : G → Nat → qm_v) : qm_op G := fun o t => match t.2.1 with
  | .inr (.inr (some (k, i))) :: S => match Nat.beq k kd with
    | true => ([], none, (t.1, fd t.2.2 i :: S, t.2.2), o)
    | false => ([False], none, t, o)
  | _ => ([False], none, t, o)
theorem os_get {kd f ci N pc idx : Nat} {C : String} {T : u_T} {fd : G → Nat → qm_v} (hd : decode cc pc = .ok (.getfield idx, 3)) (hc : cl[ci]? = some (C, T, N)) (hin : ∀ w ∈ u_ws C T N, w ∈ Ts) (hf : f < N) (hlk : Cond.fieldLink own idx (T f).1 (T f).2.1 (T f).2.2.1 ∈ Ts)
    (hce : ∀ (g : G) (i : Nat), V kd i → okg g → ∃ fs, ce g kd i = .inr (ci, fs) ∧ fs[f]? = some (qm_cv Λ (fd g i)) ∧ qm_ok V (fd g i)) : qm_K Λ V (qm_hold D cl tys Λ V ce okg ex) A l R cc nL own Ts ret pc (pc + 3) (o_get kd fd) := by
  intro Fq p e s m args below meth c Q C0 o t hc1 hn H locs ls hA
  obtain ⟨L, S, g⟩ := t
  obtain ⟨a1, a2, a3, a4, a5⟩ := hA
  rcases S with _ | ⟨x | x | _ | ⟨k, i⟩, S⟩
  · exact hc1.elim
  · exact hc1.elim
  · exact hc1.elim
  · exact hc1.elim
  · unfold o_get at hc1 hn
    dsimp only at hc1 hn
    cases hb : Nat.beq k kd <;> rw [hb] at hc1 hn
    · exact hc1.elim
    · have hk := Nat.eq_of_beq_eq_true hb
      subst hk
      obtain ⟨b1, b2⟩ := qm_fa2 a3
      obtain ⟨fs, e1, e2, e3⟩ := hce g i b1 a1.2.2.1
      have hat := a1.2.1 k i b1
      rw [e1] at hat
      exact va_get C0.1.1 C0.1.2.1 C0.1.2.2.2.2 hin C0.1.2.2.2.1 a1.1 (qm_one hat) 0 rfl hc f hf (C0.1.2.2.2.2 _ hlk) (fun _ h9 => h9) e2 hd (hn H locs ls ⟨a1, a2, qm_fa e3 b2, a4, a5⟩)
/-- a field that may hold null: the oracle says what it holds -/
def o_getq (kd : Nat) (fd : G → Nat → Option (Nat × Nat)) : qm_op G := fun o t => match t.2.1 with
  | .inr (.inr (some (k, i))) :: S => match Nat.beq k kd with
    | true => match o.2.1 with
      | r :: rs => ([fd t.2.2 i = r], none, (t.1, .inr (.inr r) :: S, t.2.2), (o.1, rs, o.2.2))
      | [] => ([False], none, t, o)
    | false => ([False], none, t, o)
  | _ => ([False], none, t, o)
theorem os_getq {kd f ci N pc idx : Nat} {C : String} {T : u_T} {fd : G → Nat → Option (Nat × Nat)} (hd : decode cc pc = .ok (.getfield idx, 3)) (hc : cl[ci]? = some (C, T, N)) (hin : ∀ w ∈ u_ws C T N, w ∈ Ts) (hf : f < N) (hlk : Cond.fieldLink own idx (T f).1 (T f).2.1 (T f).2.2.1 ∈ Ts)
    (hce : ∀ (g : G) (i : Nat), V kd i → okg g → ∃ fs, ce g kd i = .inr (ci, fs) ∧ fs[f]? = some (qm_cv Λ (.inr (.inr (fd g i)))) ∧ qm_ok V (.inr (.inr (fd g i)))) : qm_K Λ V (qm_hold D cl tys Λ V ce okg ex) A l R cc nL own Ts ret pc (pc + 3) (o_getq kd fd) := by
  intro Fq p e s m args below meth c Q C0 o t hc1 hn H locs ls hA
  obtain ⟨L, S, g⟩ := t
  obtain ⟨o1, o2, o3⟩ := o
  obtain ⟨a1, a2, a3, a4, a5⟩ := hA
  rcases S with _ | ⟨x | x | _ | ⟨k, i⟩, S⟩
  · exact hc1.elim
  · exact hc1.elim
  · exact hc1.elim
  · exact hc1.elim
  · unfold o_getq at hc1 hn
    dsimp only at hc1 hn
    cases hb : Nat.beq k kd <;> rw [hb] at hc1 hn
    · exact hc1.elim
    · have hk := Nat.eq_of_beq_eq_true hb
      subst hk
      obtain ⟨b1, b2⟩ := qm_fa2 a3
      rcases o2 with _ | ⟨r, rs⟩
      · exact hc1.elim
      · have hr : fd g i = r := hc1
        obtain ⟨fs, e1, e2, e3⟩ := hce g i b1 a1.2.2.1
        rw [hr] at e2 e3
        have hat := a1.2.1 k i b1
        rw [e1] at hat
        exact va_get C0.1.1 C0.1.2.1 C0.1.2.2.2.2 hin C0.1.2.2.2.1 a1.1 (qm_one hat) 0 rfl hc f hf (C0.1.2.2.2.2 _ hlk) (fun _ h9 => h9) e2 hd (hn H locs ls ⟨a1, a2, qm_fa e3 b2, a4, a5⟩)
def o_put (kd : Nat) (sf : G → Nat → qm_v → Option (List Prop × G)) : qm_op G := fun o t => match t.2.1 with
  | v :: .inr (.inr (some (k, i))) :: S => match Nat.beq k kd with
    | true => match sf t.2.2 i v with
      | some (cs, g) => (cs, none, (t.1, S, g), o)
      | none => ([False], none, t, o)
    | false => ([False], none, t, o)
  | _ => ([False], none, t, o)
theorem os_put (hsys : qm_sys Λ V ex A) {kd f ci N pc idx : Nat} {C : String} {T : u_T} {ty0 : Nat → FieldType} {ty : FieldType} {sf : G → Nat → qm_v → Option (List Prop × G)} (hd : decode cc pc = .ok (.putfield idx, 3)) (hc : cl[ci]? = some (C, T, N)) (hin : ∀ w ∈ u_ws C T N, w ∈ Ts) (hty : ∀ k, k < N → parseFieldDescriptor (T k).2.2.1 = some (ty0 k)) (hnm : ∀ a, a < N → ∀ b, b < N → a ≠ b → (T a).2.1 ≠ (T b).2.1) (hf : f < N) (hlk : Cond.fieldLink own idx (T f).1 (T f).2.1 (T f).2.2.1 ∈ Ts) (hfin : (T f).2.2.2 = false) (hdt : parseFieldDescriptor (T f).2.2.1 = some ty)
    (hsf : ∀ (g : G) (i : Nat) (v : qm_v) (cs : List Prop) (g' : G), V kd i → okg g → qm_ok V v → sf g i v = some (cs, g') → qm_all cs → okg g' ∧ (∃ fs, ce g kd i = .inr (ci, fs) ∧ f < fs.length ∧ ce g' kd i = .inr (ci, fs.set f (qm_cv Λ v))) ∧ (∀ k j, V k j → (k ≠ kd ∨ j ≠ i) → ce g' k j = ce g k j) ∧ narrow ty (qm_cv Λ v) = qm_cv Λ v ∧ fits ty (qm_cv Λ v) = true) : qm_K Λ V (qm_hold D cl tys Λ V ce okg ex) A l R cc nL own Ts ret pc (pc + 3) (o_put kd sf) := by
  intro Fq p e s m args below meth c Q C0 o t hc1 hn H locs ls hA
  obtain ⟨L, S, g⟩ := t
  obtain ⟨a1, a2, a3, a4, a5⟩ := hA
  rcases S with _ | ⟨v, _ | ⟨x | x | _ | ⟨k, i⟩, S⟩⟩
  · exact hc1.elim
  · exact hc1.elim
  · exact hc1.elim
  · exact hc1.elim
  · exact hc1.elim
  · unfold o_put at hc1 hn
    dsimp only at hc1 hn
    cases hb : Nat.beq k kd <;> rw [hb] at hc1 hn
    · exact hc1.elim
    · dsimp only at hc1 hn
      have hk := Nat.eq_of_beq_eq_true hb
      subst hk
      obtain ⟨b1, b2⟩ := qm_fa2 a3
      obtain ⟨b2, b3⟩ := qm_fa2 b2
      rcases hs : sf g i v with _ | ⟨cs, g'⟩ <;> rw [hs] at hc1 hn
      · exact hc1.elim
      · obtain ⟨e1, ⟨fs, e2, e3, e4⟩, e5, e6, e7⟩ := hsf g i v cs g' b2 a1.2.2.1 b1 hs hc1
        have hat := a1.2.1 k i b2
        rw [e2] at hat
        have hts := C0.1.2.2.2.2
        have hap := va_apart (own := own) hts hin ty0 hty hnm a1.1 hc
        obtain ⟨r, h1, cell, q1, q2, q3, q4⟩ := hat
        have hr : r = (C, T, N) := Option.some.inj (h1.symm.trans hc)
        subst hr
        obtain ⟨hS, hfc, kC, hkC, hkind⟩ := a1.1.1 ci _ hc
        obtain ⟨cf, kf, fi, fl, hi, hsl⟩ := hS f hf
        have hlay := hts _ (hin _ (u_in_lay hf))
        unfold u_lay at hlay
        rw [if_neg (by rw [hfin]; decide)] at hlay
        have hst := (u_facts hfc hkC (u_lays hts hin hf) hi).1
        have h6 := u_store hfc hkC hkind hlay hi hdt e6 e7
        refine W.putK C0.1.1 C0.1.2.1 (f := fl) ⟨C0.1.2.2.2.1, hts _ hlk, ⟨_, _, _, hi⟩, hst⟩ (by rw [q2]; exact h6) q1 q3 (by rw [hsl]; exact k2_hasslot (q4 f hf)) rfl rfl hd fun H' z1 z2 z3 => ?_
        rw [hsl] at z1 ⊢
        refine hn H' _ ls ⟨a1.set hsys b2 e1 ?_ z2 z3 e5, a2, b3, a4, a5.put z2 z3 (hsys.2.1 k i b2)⟩
        rw [e4]
        exact ⟨_, hc, t_OB.to (V := updV (vp_V fs) f (qm_cv Λ v)) ⟨_, z1, q2, q3, t_set q4 hap hf _⟩ (fun j _ => vp_updV_set e3 _ j)⟩
-- arrays of numbers
def o_ald (kd : Nat) (ln : G → Nat → Nat) (rd : G → Nat → Nat → Int32) : qm_op G := fun o t => match t.2.1 with
  | .inl x :: .inr (.inr (some (k, i))) :: S => match Nat.beq k kd with
    | true => ([vp_in x (ln t.2.2 i)], none, (t.1, .inl (rd t.2.2 i x.toNatClampNeg) :: S, t.2.2), o)
    | false => ([False], none, t, o)
  | _ => ([False], none, t, o)
theorem os_ald' {kd pc : Nat} {ln : G → Nat → Nat} {rd : G → Nat → Nat → Int32}
    (hrow : ∀ (p : Program) (e : Env) (s : State) (m : MethodId) (args : Array Value) (below : List Frame) (meth : Method) (c : Code) (H : Heap) (locs : List Loc) (Q : State → Prop) (ls : Array Slot) (g : G) (i : Nat) (x : Int32) (rest : List Value), CallFix p m c cc nL s args Ts own → V kd i → va_K D cl tys s → okg g → va_at D cl (Λ kd i, ce g kd i) H → vp_in x (ln g i) → W p l e R s m args below meth c H locs 0 0 Q (F0 m (pc + 1) ls (.int (rd g i x.toNatClampNeg) :: rest)) → W p l e R s m args below meth c H locs 0 0 Q (F0 m pc ls (.int x :: .ref (Λ kd i) :: rest))) : qm_K Λ V (qm_hold D cl tys Λ V ce okg ex) A l R cc nL own Ts ret pc (pc + 1) (o_ald kd ln rd) := by
  intro Fq p e s m args below meth c Q C0 o t hc1 hn H locs ls hA
  obtain ⟨L, S, g⟩ := t
  obtain ⟨a1, a2, a3, a4, a5⟩ := hA
  rcases S with _ | ⟨x | x, _ | ⟨z | z | _ | ⟨k, i⟩, S⟩⟩
  case cons.inl.cons.inr.inr.some =>
    unfold o_ald at hc1 hn
    dsimp only at hc1 hn
    cases hb : Nat.beq k kd <;> rw [hb] at hc1 hn
    · exact hc1.elim
    · have hk := Nat.eq_of_beq_eq_true hb
      subst hk
      obtain ⟨-, b2⟩ := qm_fa2 a3
      obtain ⟨b2, b3⟩ := qm_fa2 b2
      exact hrow p e s m args below meth c H locs Q ls g i x _ C0.1 b2 a1.1 a1.2.2.1 (a1.2.1 k i b2) hc1 (hn H locs ls ⟨a1, a2, qm_fa trivial b3, a4, a5⟩)
  all_goals exact hc1.elim
theorem os_iald {kd pc t0 : Nat} {cA : ClassId} {ln : G → Nat → Nat} {rd : G → Nat → Nat → Int32} (hd : decode cc pc = .ok (.iaload, 1)) (ht : tys[t0]? = some (cA, .int)) (hce : ∀ (g : G) (i : Nat), V kd i → ce g kd i = .inl (cA, ln g i, .inl (rd g i))) : qm_K Λ V (qm_hold D cl tys Λ V ce okg ex) A l R cc nL own Ts ret pc (pc + 1) (o_ald kd ln rd) :=
  os_ald' fun p e s m args below meth c H locs Q ls g i x rest C hV hK _ hat hin k => by
    rw [hce g i hV] at hat
    exact va_iald C.1 C.2.1 hK (qm_one hat) 0 t0 rfl ht hin hd k
theorem os_bald {kd pc t0 : Nat} {cA : ClassId} {ln : G → Nat → Nat} {rd : G → Nat → Nat → Int32} (hd : decode cc pc = .ok (.baload, 1)) (ht : tys[t0]? = some (cA, .byte)) (hce : ∀ (g : G) (i : Nat), V kd i → ce g kd i = .inl (cA, ln g i, .inl (rd g i))) : qm_K Λ V (qm_hold D cl tys Λ V ce okg ex) A l R cc nL own Ts ret pc (pc + 1) (o_ald kd ln rd) :=
  os_ald' fun p e s m args below meth c H locs Q ls g i x rest C hV hK _ hat hin k => by
    rw [hce g i hV] at hat
    exact va_bald C.1 C.2.1 hK (qm_one hat) 0 t0 rfl ht hin hd k
def o_ast (kd : Nat) (ln : G → Nat → Nat) (wr : G → Nat → Nat → Int32 → G) : qm_op G := fun o t => match t.2.1 with
  | .inl v :: .inl x :: .inr (.inr (some (k, i))) :: S => match Nat.beq k kd with
    | true => ([vp_in x (ln t.2.2 i)], none, (t.1, S, wr t.2.2 i x.toNatClampNeg v), o)
    | false => ([False], none, t, o)
  | _ => ([False], none, t, o)
theorem os_ast' (hsys : qm_sys Λ V ex A) {kd pc : Nat} {ln : G → Nat → Nat} {wr : G → Nat → Nat → Int32 → G} (hok : ∀ (g : G) (i j : Nat) (v : Int32), V kd i → okg g → okg (wr g i j v) ∧ ∀ k j2, V k j2 → (k ≠ kd ∨ j2 ≠ i) → ce (wr g i j v) k j2 = ce g k j2)
    (hrow : ∀ (p : Program) (e : Env) (s : State) (m : MethodId) (args : Array Value) (below : List Frame) (meth : Method) (c : Code) (H : Heap) (locs : List Loc) (Q : State → Prop) (ls : Array Slot) (g : G) (i : Nat) (x v : Int32) (rest : List Value), CallFix p m c cc nL s args Ts own → V kd i → va_K D cl tys s → va_at D cl (Λ kd i, ce g kd i) H → vp_in x (ln g i) → (∀ H1 : Heap, va_at D cl (Λ kd i, ce (wr g i x.toNatClampNeg v) kd i) H1 → H1.size = H.size → (∀ q : Nat, q ≠ Λ kd i → H1[q]? = H[q]?) → W p l e R s m args below meth c H1 (locs ++ [⟨Λ kd i, x.toNatClampNeg⟩]) 0 0 Q (F0 m (pc + 1) ls rest)) → W p l e R s m args below meth c H locs 0 0 Q (F0 m pc ls (.int v :: .int x :: .ref (Λ kd i) :: rest))) : qm_K Λ V (qm_hold D cl tys Λ V ce okg ex) A l R cc nL own Ts ret pc (pc + 1) (o_ast kd ln wr) := by
  intro Fq p e s m args below meth c Q C0 o t hc1 hn H locs ls hA
  obtain ⟨L, S, g⟩ := t
  obtain ⟨a1, a2, a3, a4, a5⟩ := hA
  rcases S with _ | ⟨v | v, _ | ⟨x | x, _ | ⟨z | z | _ | ⟨k, i⟩, S⟩⟩⟩
  case cons.inl.cons.inl.cons.inr.inr.some =>
    unfold o_ast at hc1 hn
    dsimp only at hc1 hn
    cases hb : Nat.beq k kd <;> rw [hb] at hc1 hn
    · exact hc1.elim
    · have hk := Nat.eq_of_beq_eq_true hb
      subst hk
      obtain ⟨-, b2⟩ := qm_fa2 a3
      obtain ⟨-, b2⟩ := qm_fa2 b2
      obtain ⟨b2, b3⟩ := qm_fa2 b2
      obtain ⟨c1, c2⟩ := hok g i x.toNatClampNeg v b2 a1.2.2.1
      exact hrow p e s m args below meth c H locs Q ls g i x v _ C0.1 b2 a1.1 (a1.2.1 k i b2) hc1 fun H1 z1 z2 z3 => hn H1 _ ls ⟨a1.set hsys b2 c1 z1 z2 z3 c2, a2, b3, a4, a5.put z2 z3 (hsys.2.1 k i b2)⟩
  all_goals exact hc1.elim
theorem os_iast (hsys : qm_sys Λ V ex A) {kd pc t0 : Nat} {cA : ClassId} {ln : G → Nat → Nat} {rd : G → Nat → Nat → Int32} {wr : G → Nat → Nat → Int32 → G} (hd : decode cc pc = .ok (.iastore, 1)) (ht : tys[t0]? = some (cA, .int)) (hce : ∀ (g : G) (i : Nat), V kd i → ce g kd i = .inl (cA, ln g i, .inl (rd g i))) (hwr : ∀ (g : G) (i j : Nat) (v : Int32), V kd i → ln (wr g i j v) i = ln g i ∧ rd (wr g i j v) i = upd (rd g i) j v)
    (hok : ∀ (g : G) (i j : Nat) (v : Int32), V kd i → okg g → okg (wr g i j v) ∧ ∀ k j2, V k j2 → (k ≠ kd ∨ j2 ≠ i) → ce (wr g i j v) k j2 = ce g k j2) : qm_K Λ V (qm_hold D cl tys Λ V ce okg ex) A l R cc nL own Ts ret pc (pc + 1) (o_ast kd ln wr) :=
  os_ast' hsys hok fun p e s m args below meth c H locs Q ls g i x v rest C hV hK hat hin kk => by
    rw [hce g i hV] at hat
    refine W.iast C.1 C.2.1 hat ((hK.2 t0 _ ht).1 (ln g i) (fun j => .int (rd g i j))) (fun q => by cases q) (by show ¬ (x < 0 ∨ (arrV _ _ _).slots.size ≤ _); rw [arrV_size]; exact hin) rfl rfl hd fun H1 e z oq => kk H1 ?_ z oq
    rw [hce _ i hV, (hwr g i _ v hV).1, (hwr g i _ v hV).2]
    show H1[_]? = some (vp_cell _ _)
    rw [e]
    rw [vp_cell_i, vp_cell_i, arrV_store]
    congr 2
    funext q
    by_cases hq : q = x.toNatClampNeg
    · subst hq
      simp [updV, upd]
    · simp [updV, upd, hq]
theorem os_bast (hsys : qm_sys Λ V ex A) {kd pc t0 : Nat} {cA : ClassId} {ln : G → Nat → Nat} {rd : G → Nat → Nat → Int32} {wr : G → Nat → Nat → Int32 → G} (hd : decode cc pc = .ok (.bastore, 1)) (ht : tys[t0]? = some (cA, .byte)) (hce : ∀ (g : G) (i : Nat), V kd i → ce g kd i = .inl (cA, ln g i, .inl (rd g i))) (hwr : ∀ (g : G) (i j : Nat) (v : Int32), V kd i → ln (wr g i j v) i = ln g i ∧ rd (wr g i j v) i = upd (rd g i) j v.toInt8.toInt32)
    (hok : ∀ (g : G) (i j : Nat) (v : Int32), V kd i → okg g → okg (wr g i j v) ∧ ∀ k j2, V k j2 → (k ≠ kd ∨ j2 ≠ i) → ce (wr g i j v) k j2 = ce g k j2) : qm_K Λ V (qm_hold D cl tys Λ V ce okg ex) A l R cc nL own Ts ret pc (pc + 1) (o_ast kd ln wr) :=
  os_ast' hsys hok fun p e s m args below meth c H locs Q ls g i x v rest C hV hK hat hin kk => by
    rw [hce g i hV] at hat
    refine W.bast C.1 C.2.1 hat ((hK.2 t0 _ ht).1 (ln g i) (fun j => .int (rd g i j))) (fun q => by cases q) (by show ¬ (x < 0 ∨ (arrV _ _ _).slots.size ≤ _); rw [arrV_size]; exact hin) rfl rfl hd fun H1 e z oq => kk H1 ?_ z oq
    rw [hce _ i hV, (hwr g i _ v hV).1, (hwr g i _ v hV).2]
    show H1[_]? = some (vp_cell _ _)
    rw [e]
    rw [vp_cell_i, vp_cell_i, arrV_store]
    congr 2
    funext q
    by_cases hq : q = x.toNatClampNeg
    · subst hq
      simp [updV, upd, vp_nar]
      try rfl
    · simp [updV, upd, hq]
/-- arrays of references -/
def o_aald (kd : Nat) (ln : G → Nat → Nat) (rd : G → Nat → Nat → qm_v) : qm_op G := fun o t => match t.2.1 with
  | .inl x :: .inr (.inr (some (k, i))) :: S => match Nat.beq k kd with
    | true => ([vp_in x (ln t.2.2 i)], none, (t.1, rd t.2.2 i x.toNatClampNeg :: S, t.2.2), o)
    | false => ([False], none, t, o)
  | _ => ([False], none, t, o)
theorem os_aald {kd pc t0 : Nat} {cA : ClassId} {C : String} {ln : G → Nat → Nat} {rd : G → Nat → Nat → qm_v} (hd : decode cc pc = .ok (.aaload, 1)) (ht : tys[t0]? = some (cA, .object C)) (hce : ∀ (g : G) (i : Nat), V kd i → okg g → ∃ f : Nat → Option Nat, ce g kd i = .inl (cA, ln g i, .inr (.inr (.inr (.inr f)))) ∧ ∀ j, j < ln g i → va_rf (f j) = qm_cv Λ (rd g i j) ∧ qm_ok V (rd g i j)) : qm_K Λ V (qm_hold D cl tys Λ V ce okg ex) A l R cc nL own Ts ret pc (pc + 1) (o_aald kd ln rd) := by
  intro Fq p e s m args below meth c Q C0 o t hc1 hn H locs ls hA
  obtain ⟨L, S, g⟩ := t
  obtain ⟨a1, a2, a3, a4, a5⟩ := hA
  rcases S with _ | ⟨x | x, _ | ⟨z | z | _ | ⟨k, i⟩, S⟩⟩
  case cons.inl.cons.inr.inr.some =>
    unfold o_aald at hc1 hn
    dsimp only at hc1 hn
    cases hb : Nat.beq k kd <;> rw [hb] at hc1 hn
    · exact hc1.elim
    · have hk := Nat.eq_of_beq_eq_true hb
      subst hk
      obtain ⟨-, b2⟩ := qm_fa2 a3
      obtain ⟨b2, b3⟩ := qm_fa2 b2
      obtain ⟨f, e1, e2⟩ := hce g i b2 a1.2.2.1
      have hat := a1.2.1 k i b2
      rw [e1] at hat
      have hin : vp_in x (ln g i) := hc1
      obtain ⟨e3, e4⟩ := e2 _ (Nat.not_le.mp fun q => hin (Or.inr q))
      refine va_aldq C0.1.1 C0.1.2.1 a1.1 (qm_one hat) 0 t0 rfl ht hin hd ?_
      rw [e3]
      exact hn H locs ls ⟨a1, a2, qm_fa e4 b3, a4, a5⟩
  all_goals exact hc1.elim
def o_alen (kd : Nat) (ln : G → Nat → Nat) : qm_op G := fun o t => match t.2.1 with
  | .inr (.inr (some (k, i))) :: S => match Nat.beq k kd with
    | true => ([], none, (t.1, .inl (Int32.ofNat (ln t.2.2 i)) :: S, t.2.2), o)
    | false => ([False], none, t, o)
  | _ => ([False], none, t, o)
theorem os_alen {kd pc t0 : Nat} {cA : ClassId} {ty : FieldType} {ln : G → Nat → Nat} (hd : decode cc pc = .ok (.arraylength, 1)) (ht : tys[t0]? = some (cA, ty)) (hce : ∀ (g : G) (i : Nat), V kd i → ∃ x : vp_A, ce g kd i = .inl (cA, x) ∧ x.1 = ln g i) : qm_K Λ V (qm_hold D cl tys Λ V ce okg ex) A l R cc nL own Ts ret pc (pc + 1) (o_alen kd ln) := by
  intro Fq p e s m args below meth c Q C0 o t hc1 hn H locs ls hA
  obtain ⟨L, S, g⟩ := t
  obtain ⟨a1, a2, a3, a4, a5⟩ := hA
  rcases S with _ | ⟨z | z | _ | ⟨k, i⟩, S⟩
  case cons.inr.inr.some =>
    unfold o_alen at hc1 hn
    dsimp only at hc1 hn
    cases hb : Nat.beq k kd <;> rw [hb] at hc1 hn
    · exact hc1.elim
    · have hk := Nat.eq_of_beq_eq_true hb
      subst hk
      obtain ⟨b2, b3⟩ := qm_fa2 a3
      obtain ⟨x, e1, e2⟩ := hce g i b2
      have hat := a1.2.1 k i b2
      rw [e1] at hat
      exact va_alen C0.1.1 C0.1.2.1 a1.1 (qm_one hat) 0 t0 rfl ht (by rw [e2]) hd (hn H locs ls ⟨a1, a2, qm_fa trivial b3, a4, a5⟩)
  all_goals exact hc1.elim
-- arrays of longs
def o_lald (kd : Nat) (ln : G → Nat → Nat) (rd : G → Nat → Nat → Int64) : qm_op G := fun o t => match t.2.1 with
  | .inl x :: .inr (.inr (some (k, i))) :: S => match Nat.beq k kd with
    | true => ([vp_in x (ln t.2.2 i)], none, (t.1, .inr (.inl (rd t.2.2 i x.toNatClampNeg)) :: S, t.2.2), o)
    | false => ([False], none, t, o)
  | _ => ([False], none, t, o)
theorem os_lald {kd pc t0 : Nat} {cA : ClassId} {ln : G → Nat → Nat} {rd : G → Nat → Nat → Int64} (hd : decode cc pc = .ok (.laload, 1)) (ht : tys[t0]? = some (cA, .long)) (hce : ∀ (g : G) (i : Nat), V kd i → ce g kd i = .inl (cA, ln g i, .inr (.inl (rd g i)))) : qm_K Λ V (qm_hold D cl tys Λ V ce okg ex) A l R cc nL own Ts ret pc (pc + 1) (o_lald kd ln rd) := by
  intro Fq p e s m args below meth c Q C0 o t hc1 hn H locs ls hA
  obtain ⟨L, S, g⟩ := t
  obtain ⟨a1, a2, a3, a4, a5⟩ := hA
  rcases S with _ | ⟨x | x, _ | ⟨z | z | _ | ⟨k, i⟩, S⟩⟩
  case cons.inl.cons.inr.inr.some =>
    unfold o_lald at hc1 hn
    dsimp only at hc1 hn
    cases hb : Nat.beq k kd <;> rw [hb] at hc1 hn
    · exact hc1.elim
    · have hk := Nat.eq_of_beq_eq_true hb
      subst hk
      obtain ⟨-, b2⟩ := qm_fa2 a3
      obtain ⟨b2, b3⟩ := qm_fa2 b2
      have hat := a1.2.1 k i b2
      rw [hce g i b2] at hat
      exact va_lald C0.1.1 C0.1.2.1 a1.1 (qm_one hat) 0 t0 rfl ht hc1 hd (hn H locs ls ⟨a1, a2, qm_fa trivial b3, a4, a5⟩)
  all_goals exact hc1.elim
def o_last (kd : Nat) (ln : G → Nat → Nat) (wr : G → Nat → Nat → Int64 → G) : qm_op G := fun o t => match t.2.1 with
  | .inr (.inl v) :: .inl x :: .inr (.inr (some (k, i))) :: S => match Nat.beq k kd with
    | true => ([vp_in x (ln t.2.2 i)], none, (t.1, S, wr t.2.2 i x.toNatClampNeg v), o)
    | false => ([False], none, t, o)
  | _ => ([False], none, t, o)
theorem os_last (hsys : qm_sys Λ V ex A) {kd pc t0 : Nat} {cA : ClassId} {ln : G → Nat → Nat} {rd : G → Nat → Nat → Int64} {wr : G → Nat → Nat → Int64 → G} (hd : decode cc pc = .ok (.lastore, 1)) (ht : tys[t0]? = some (cA, .long)) (hce : ∀ (g : G) (i : Nat), V kd i → ce g kd i = .inl (cA, ln g i, .inr (.inl (rd g i)))) (hwr : ∀ (g : G) (i j : Nat) (v : Int64), V kd i → ln (wr g i j v) i = ln g i ∧ rd (wr g i j v) i = vp_updL (rd g i) j v)
    (hok : ∀ (g : G) (i j : Nat) (v : Int64), V kd i → okg g → okg (wr g i j v) ∧ ∀ k j2, V k j2 → (k ≠ kd ∨ j2 ≠ i) → ce (wr g i j v) k j2 = ce g k j2) : qm_K Λ V (qm_hold D cl tys Λ V ce okg ex) A l R cc nL own Ts ret pc (pc + 1) (o_last kd ln wr) := by
  intro Fq p e s m args below meth c Q C0 o t hc1 hn H locs ls hA
  obtain ⟨L, S, g⟩ := t
  obtain ⟨a1, a2, a3, a4, a5⟩ := hA
  rcases S with _ | ⟨v | v | v, _ | ⟨x | x, _ | ⟨z | z | _ | ⟨k, i⟩, S⟩⟩⟩
  case cons.inr.inl.cons.inl.cons.inr.inr.some =>
    unfold o_last at hc1 hn
    dsimp only at hc1 hn
    cases hb : Nat.beq k kd <;> rw [hb] at hc1 hn
    · exact hc1.elim
    · have hk := Nat.eq_of_beq_eq_true hb
      subst hk
      obtain ⟨-, b2⟩ := qm_fa2 a3
      obtain ⟨-, b2⟩ := qm_fa2 b2
      obtain ⟨b2, b3⟩ := qm_fa2 b2
      obtain ⟨c1, c2⟩ := hok g i x.toNatClampNeg v b2 a1.2.2.1
      have hat := a1.2.1 k i b2
      rw [hce g i b2] at hat
      have hin : vp_in x (ln g i) := hc1
      refine W.last C0.1.1 C0.1.2.1 hat ((a1.1.2 t0 _ ht).1 (ln g i) (fun j => .long (rd g i j))) (fun q => by cases q) (by show ¬ (x < 0 ∨ (arrV _ _ _).slots.size ≤ _); rw [arrV_size]; exact hin) rfl rfl hd fun H1 z1 z2 z3 => hn H1 _ ls ⟨a1.set hsys b2 c1 ?_ z2 z3 c2, a2, b3, a4, a5.put z2 z3 (hsys.2.1 k i b2)⟩
      rw [hce _ i b2, (hwr g i _ v b2).1, (hwr g i _ v b2).2]
      show H1[_]? = some (vp_cell _ _)
      rw [z1]
      rw [vp_cell_l, vp_cell_l, arrV_store]
      congr 2
      funext q
      by_cases hq : q = x.toNatClampNeg
      · subst hq
        simp [updV, vp_updL]
      · simp [updV, vp_updL, hq]
  all_goals exact hc1.elim
end QMH
