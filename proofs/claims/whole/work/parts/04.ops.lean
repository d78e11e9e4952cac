section QMO
variable {G : Type} {Λ : Nat → Nat → Nat} {V : Nat → Nat → Prop} {hold : State → G → Heap → Prop} {A : Nat → Prop} {l : Launch} {R : Room} {cc : ByteArray} {nL : Nat} {own : String} {Ts : List Cond} {ret : Option FieldType}
/-- an instruction that works on the stack alone -/
def o_stk (F : List qm_v → Option (List Prop × List qm_v)) : qm_op G := fun o t => match F t.2.1 with
  | some (cs, S) => (cs, none, (t.1, S, t.2.2), o)
  | none => ([False], none, t, o)
def qm_row (Λ : Nat → Nat → Nat) (l : Launch) (R : Room) (cc : ByteArray) (nL : Nat) (own : String) (Ts : List Cond) (pc nx : Nat) (S S' : List qm_v) : Prop :=
  ∀ (p : Program) (e : Env) (s : State) (m : MethodId) (args : Array Value) (below : List Frame) (meth : Method) (c : Code) (H : Heap) (locs : List Loc) (Q : State → Prop) (ls : Array Slot), CallFix p m c cc nL s args Ts own → ls.size = nL →
    W p l e R s m args below meth c H locs 0 0 Q (F0 m nx ls (S'.map (qm_cv Λ))) → W p l e R s m args below meth c H locs 0 0 Q (F0 m pc ls (S.map (qm_cv Λ)))
theorem os_stk {F : List qm_v → Option (List Prop × List qm_v)} {pc nx : Nat} (hF : ∀ (S : List qm_v) (cs : List Prop) (S' : List qm_v), F S = some (cs, S') → qm_all cs → ((∀ v ∈ S, qm_ok V v) → ∀ v ∈ S', qm_ok V v) ∧ qm_row Λ l R cc nL own Ts pc nx S S') : qm_K Λ V hold A l R cc nL own Ts ret pc nx (o_stk F) := by
  intro Fq p e s m args below meth c Q C o t hc hn H locs ls hA
  unfold o_stk at hc hn
  rcases hf : F t.2.1 with _ | ⟨cs, S⟩
  · rw [hf] at hc; exact hc.elim
  · rw [hf] at hc hn
    obtain ⟨h1, h2⟩ := hF _ _ _ hf hc
    obtain ⟨a1, a2, a3, a4, a5⟩ := hA
    exact h2 p e s m args below meth c H locs Q ls C.1 a4.1.1 (hn H locs ls ⟨a1, a2, h1 a3, a4, a5⟩)
theorem qm_fa2 {v : qm_v} {S : List qm_v} (h : ∀ u ∈ v :: S, qm_ok V u) : qm_ok V v ∧ ∀ u ∈ S, qm_ok V u := ⟨h v List.mem_cons_self, fun u hu => h u (List.mem_cons_of_mem _ hu)⟩
theorem qm_fa {v : qm_v} {S : List qm_v} (h : qm_ok V v) (hS : ∀ u ∈ S, qm_ok V u) : ∀ u ∈ v :: S, qm_ok V u := fun u hu => by
  rcases List.mem_cons.mp hu with rfl | hu
  · exact h
  · exact hS u hu
/-- two ints to an int -/
def f_bi (f : Int32 → Int32 → Int32) : List qm_v → Option (List Prop × List qm_v)
  | .inl y :: .inl x :: S => some ([], .inl (f x y) :: S)
  | _ => none
def f_di (f : Int32 → Int32 → Int32) : List qm_v → Option (List Prop × List qm_v)
  | .inl y :: .inl x :: S => some ([¬ y = 0], .inl (f x y) :: S)
  | _ => none
def f_bl (f : Int64 → Int64 → Int64) : List qm_v → Option (List Prop × List qm_v)
  | .inr (.inl y) :: .inr (.inl x) :: S => some ([], .inr (.inl (f x y)) :: S)
  | _ => none
def f_dl (f : Int64 → Int64 → Int64) : List qm_v → Option (List Prop × List qm_v)
  | .inr (.inl y) :: .inr (.inl x) :: S => some ([¬ y = 0], .inr (.inl (f x y)) :: S)
  | _ => none
def f_sl (f : Int64 → Int32 → Int64) : List qm_v → Option (List Prop × List qm_v)
  | .inl y :: .inr (.inl x) :: S => some ([], .inr (.inl (f x y)) :: S)
  | _ => none
def f_cmp : List qm_v → Option (List Prop × List qm_v)
  | .inr (.inl y) :: .inr (.inl x) :: S => some ([], .inl (lg_cmp x y) :: S)
  | _ => none
def f_ui (f : Int32 → Int32) : List qm_v → Option (List Prop × List qm_v)
  | .inl x :: S => some ([], .inl (f x) :: S)
  | _ => none
def f_ul (f : Int64 → Int64) : List qm_v → Option (List Prop × List qm_v)
  | .inr (.inl x) :: S => some ([], .inr (.inl (f x)) :: S)
  | _ => none
def f_il (f : Int32 → Int64) : List qm_v → Option (List Prop × List qm_v)
  | .inl x :: S => some ([], .inr (.inl (f x)) :: S)
  | _ => none
def f_li (f : Int64 → Int32) : List qm_v → Option (List Prop × List qm_v)
  | .inr (.inl x) :: S => some ([], .inl (f x) :: S)
  | _ => none
def f_c (v : qm_v) : List qm_v → Option (List Prop × List qm_v) := fun S => some ([], v :: S)
def qm_c1 : qm_v → Bool
  | .inr (.inl _) => false
  | _ => true
def f_dup : List qm_v → Option (List Prop × List qm_v)
  | v :: S => match qm_c1 v with
    | true => some ([], v :: v :: S)
    | false => none
  | _ => none
def f_pop : List qm_v → Option (List Prop × List qm_v)
  | v :: S => match qm_c1 v with
    | true => some ([], S)
    | false => none
  | _ => none
def f_dupx1 : List qm_v → Option (List Prop × List qm_v)
  | v :: w :: S => match qm_c1 v, qm_c1 w with
    | true, true => some ([], v :: w :: v :: S)
    | _, _ => none
  | _ => none
def f_dup2 : List qm_v → Option (List Prop × List qm_v)
  | v :: w :: S => match qm_c1 v, qm_c1 w with
    | true, true => some ([], v :: w :: v :: w :: S)
    | _, _ => none
  | _ => none
theorem qm_c1_cat {v : qm_v} (h : qm_c1 v = true) : (qm_cv Λ v).category = 1 := by
  rcases v with x | ⟨x | ⟨_ | x⟩⟩
  · rfl
  · cases h
  · rfl
  · rfl
theorem os_bi {f : Int32 → Int32 → Int32} {pc nx : Nat} (h : ∀ (x y : Int32) (S : List qm_v), qm_row Λ l R cc nL own Ts pc nx (qI y :: qI x :: S) (qI (f x y) :: S)) : qm_K Λ V hold A l R cc nL own Ts ret pc nx (o_stk (f_bi f)) := by
  refine os_stk fun S cs S' hf hc => ?_
  rcases S with _ | ⟨y | y, _ | ⟨x | x, S⟩⟩ <;> cases hf
  exact ⟨fun k => qm_fa trivial (qm_fa2 (qm_fa2 k).2).2, h x y S⟩
theorem os_di {f : Int32 → Int32 → Int32} {pc nx : Nat} (h : ∀ (x y : Int32) (S : List qm_v), ¬ y = 0 → qm_row Λ l R cc nL own Ts pc nx (qI y :: qI x :: S) (qI (f x y) :: S)) : qm_K Λ V hold A l R cc nL own Ts ret pc nx (o_stk (f_di f)) := by
  refine os_stk fun S cs S' hf hc => ?_
  rcases S with _ | ⟨y | y, _ | ⟨x | x, S⟩⟩ <;> cases hf
  exact ⟨fun k => qm_fa trivial (qm_fa2 (qm_fa2 k).2).2, h x y S hc⟩
theorem os_bl {f : Int64 → Int64 → Int64} {pc nx : Nat} (h : ∀ (x y : Int64) (S : List qm_v), qm_row Λ l R cc nL own Ts pc nx (qL y :: qL x :: S) (qL (f x y) :: S)) : qm_K Λ V hold A l R cc nL own Ts ret pc nx (o_stk (f_bl f)) := by
  refine os_stk fun S cs S' hf hc => ?_
  rcases S with _ | ⟨y | y | y, _ | ⟨x | x | x, S⟩⟩ <;> cases hf
  exact ⟨fun k => qm_fa trivial (qm_fa2 (qm_fa2 k).2).2, h x y S⟩
theorem os_dl {f : Int64 → Int64 → Int64} {pc nx : Nat} (h : ∀ (x y : Int64) (S : List qm_v), ¬ y = 0 → qm_row Λ l R cc nL own Ts pc nx (qL y :: qL x :: S) (qL (f x y) :: S)) : qm_K Λ V hold A l R cc nL own Ts ret pc nx (o_stk (f_dl f)) := by
  refine os_stk fun S cs S' hf hc => ?_
  rcases S with _ | ⟨y | y | y, _ | ⟨x | x | x, S⟩⟩ <;> cases hf
  exact ⟨fun k => qm_fa trivial (qm_fa2 (qm_fa2 k).2).2, h x y S hc⟩
theorem os_sl {f : Int64 → Int32 → Int64} {pc nx : Nat} (h : ∀ (x : Int64) (y : Int32) (S : List qm_v), qm_row Λ l R cc nL own Ts pc nx (qI y :: qL x :: S) (qL (f x y) :: S)) : qm_K Λ V hold A l R cc nL own Ts ret pc nx (o_stk (f_sl f)) := by
  refine os_stk fun S cs S' hf hc => ?_
  rcases S with _ | ⟨y | y | y, _ | ⟨x | x | x, S⟩⟩ <;> cases hf
  exact ⟨fun k => qm_fa trivial (qm_fa2 (qm_fa2 k).2).2, h x y S⟩
theorem os_cmp {pc : Nat} (hd : decode cc pc = .ok (.lcmp, 1)) : qm_K Λ V hold A l R cc nL own Ts ret pc (pc + 1) (o_stk f_cmp) := by
  refine os_stk fun S cs S' hf hc => ?_
  rcases S with _ | ⟨y | y | y, _ | ⟨x | x | x, S⟩⟩ <;> cases hf
  exact ⟨fun k => qm_fa trivial (qm_fa2 (qm_fa2 k).2).2, fun p e s m args below meth c H locs Q ls C _ k => W.lcmp C.1 C.2.1 hd k⟩
theorem os_ui {f : Int32 → Int32} {pc nx : Nat} (h : ∀ (x : Int32) (S : List qm_v), qm_row Λ l R cc nL own Ts pc nx (qI x :: S) (qI (f x) :: S)) : qm_K Λ V hold A l R cc nL own Ts ret pc nx (o_stk (f_ui f)) := by
  refine os_stk fun S cs S' hf hc => ?_
  rcases S with _ | ⟨x | x, S⟩ <;> cases hf
  exact ⟨fun k => qm_fa trivial (qm_fa2 k).2, h x S⟩
theorem os_ul {f : Int64 → Int64} {pc nx : Nat} (h : ∀ (x : Int64) (S : List qm_v), qm_row Λ l R cc nL own Ts pc nx (qL x :: S) (qL (f x) :: S)) : qm_K Λ V hold A l R cc nL own Ts ret pc nx (o_stk (f_ul f)) := by
  refine os_stk fun S cs S' hf hc => ?_
  rcases S with _ | ⟨x | x | x, S⟩ <;> cases hf
  exact ⟨fun k => qm_fa trivial (qm_fa2 k).2, h x S⟩
theorem os_cil {f : Int32 → Int64} {pc nx : Nat} (h : ∀ (x : Int32) (S : List qm_v), qm_row Λ l R cc nL own Ts pc nx (qI x :: S) (qL (f x) :: S)) : qm_K Λ V hold A l R cc nL own Ts ret pc nx (o_stk (f_il f)) := by
  refine os_stk fun S cs S' hf hc => ?_
  rcases S with _ | ⟨x | x, S⟩ <;> cases hf
  exact ⟨fun k => qm_fa trivial (qm_fa2 k).2, h x S⟩
theorem os_cli {f : Int64 → Int32} {pc nx : Nat} (h : ∀ (x : Int64) (S : List qm_v), qm_row Λ l R cc nL own Ts pc nx (qL x :: S) (qI (f x) :: S)) : qm_K Λ V hold A l R cc nL own Ts ret pc nx (o_stk (f_li f)) := by
  refine os_stk fun S cs S' hf hc => ?_
  rcases S with _ | ⟨x | x | x, S⟩ <;> cases hf
  exact ⟨fun k => qm_fa trivial (qm_fa2 k).2, h x S⟩
theorem os_c {v : qm_v} {pc nx : Nat} (hv : qm_ok V v) (h : ∀ S : List qm_v, qm_row Λ l R cc nL own Ts pc nx S (v :: S)) : qm_K Λ V hold A l R cc nL own Ts ret pc nx (o_stk (f_c v)) := by
  refine os_stk fun S cs S' hf hc => ?_
  cases hf
  exact ⟨fun k => qm_fa hv k, h S⟩
theorem os_dup {pc : Nat} (hd : decode cc pc = .ok (.dup, 1)) : qm_K Λ V hold A l R cc nL own Ts ret pc (pc + 1) (o_stk f_dup) := by
  refine os_stk fun S cs S' hf hc => ?_
  rcases S with _ | ⟨v, S⟩
  · cases hf
  · unfold f_dup at hf
    dsimp only at hf
    cases hv : qm_c1 v <;> rw [hv] at hf <;> cases hf
    exact ⟨fun k => qm_fa (qm_fa2 k).1 k, fun p e s m args below meth c H locs Q ls C _ k => lv_dup C.1 C.2.1 hd (qm_c1_cat hv) k⟩
theorem os_pop {pc : Nat} (hd : decode cc pc = .ok (.pop, 1)) : qm_K Λ V hold A l R cc nL own Ts ret pc (pc + 1) (o_stk f_pop) := by
  refine os_stk fun S cs S' hf hc => ?_
  rcases S with _ | ⟨v, S⟩
  · cases hf
  · unfold f_pop at hf
    dsimp only at hf
    cases hv : qm_c1 v <;> rw [hv] at hf <;> cases hf
    exact ⟨fun k => (qm_fa2 k).2, fun p e s m args below meth c H locs Q ls C _ k => lv_pop C.1 C.2.1 hd (qm_c1_cat hv) k⟩
theorem os_dupx1 {pc : Nat} (hd : decode cc pc = .ok (.dup_x1, 1)) : qm_K Λ V hold A l R cc nL own Ts ret pc (pc + 1) (o_stk f_dupx1) := by
  refine os_stk fun S cs S' hf hc => ?_
  rcases S with _ | ⟨v, _ | ⟨w, S⟩⟩
  · cases hf
  · cases hf
  · unfold f_dupx1 at hf
    dsimp only at hf
    cases hv : qm_c1 v <;> cases hw : qm_c1 w <;> rw [hv, hw] at hf <;> cases hf
    exact ⟨fun k => qm_fa (qm_fa2 k).1 (qm_fa (qm_fa2 (qm_fa2 k).2).1 (qm_fa (qm_fa2 k).1 (qm_fa2 (qm_fa2 k).2).2)), fun p e s m args below meth c H locs Q ls C _ k => lv_dup_x1 C.1 C.2.1 hd (qm_c1_cat hv) (qm_c1_cat hw) k⟩
theorem os_dup2 {pc : Nat} (hd : decode cc pc = .ok (.dup2, 1)) : qm_K Λ V hold A l R cc nL own Ts ret pc (pc + 1) (o_stk f_dup2) := by
  refine os_stk fun S cs S' hf hc => ?_
  rcases S with _ | ⟨v, _ | ⟨w, S⟩⟩
  · cases hf
  · cases hf
  · unfold f_dup2 at hf
    dsimp only at hf
    cases hv : qm_c1 v <;> cases hw : qm_c1 w <;> rw [hv, hw] at hf <;> cases hf
    exact ⟨fun k => qm_fa (qm_fa2 k).1 (qm_fa (qm_fa2 (qm_fa2 k).2).1 k), fun p e s m args below meth c H locs Q ls C _ k => lv_dup2_11 C.1 C.2.1 hd (qm_c1_cat hv) (qm_c1_cat hw) k⟩
-- loads and stores
def o_il (k : Nat) : qm_op G := fun o t => match qm_nth t.1 k with
  | some (.inl x) => ([], none, (t.1, .inl x :: t.2.1, t.2.2), o)
  | _ => ([False], none, t, o)
def o_ll (k : Nat) : qm_op G := fun o t => match qm_nth t.1 k with
  | some (.inr (.inl x)) => ([], none, (t.1, .inr (.inl x) :: t.2.1, t.2.2), o)
  | _ => ([False], none, t, o)
def o_al (k : Nat) : qm_op G := fun o t => match qm_nth t.1 k with
  | some (.inr (.inr x)) => ([], none, (t.1, .inr (.inr x) :: t.2.1, t.2.2), o)
  | _ => ([False], none, t, o)
theorem os_il' {pc nx k : Nat} (h : ∀ (p : Program) (e : Env) (s : State) (m : MethodId) (args : Array Value) (below : List Frame) (meth : Method) (c : Code) (H : Heap) (locs : List Loc) (Q : State → Prop) (ls : Array Slot) (x : Int32) (rest : List Value), CallFix p m c cc nL s args Ts own → ls[k]? = some (.val (.int x)) → W p l e R s m args below meth c H locs 0 0 Q (F0 m nx ls (.int x :: rest)) → W p l e R s m args below meth c H locs 0 0 Q (F0 m pc ls rest)) : qm_K Λ V hold A l R cc nL own Ts ret pc nx (o_il k) := by
  intro Fq p e s m args below meth c Q C o t hc hn H locs ls hA
  unfold o_il at hc hn
  obtain ⟨a1, a2, a3, a4, a5⟩ := hA
  rcases hf : qm_nth t.1 k with _ | x | x <;> rw [hf] at hc hn
  · exact hc.elim
  · exact h p e s m args below meth c H locs Q ls x _ C.1 (a4.at hf) (hn H locs ls ⟨a1, a2, qm_fa trivial a3, a4, a5⟩)
  · exact hc.elim
theorem os_ll' {pc nx k : Nat} (h : ∀ (p : Program) (e : Env) (s : State) (m : MethodId) (args : Array Value) (below : List Frame) (meth : Method) (c : Code) (H : Heap) (locs : List Loc) (Q : State → Prop) (ls : Array Slot) (x : Int64) (rest : List Value), CallFix p m c cc nL s args Ts own → ls[k]? = some (.val (.long x)) → W p l e R s m args below meth c H locs 0 0 Q (F0 m nx ls (.long x :: rest)) → W p l e R s m args below meth c H locs 0 0 Q (F0 m pc ls rest)) : qm_K Λ V hold A l R cc nL own Ts ret pc nx (o_ll k) := by
  intro Fq p e s m args below meth c Q C o t hc hn H locs ls hA
  unfold o_ll at hc hn
  obtain ⟨a1, a2, a3, a4, a5⟩ := hA
  rcases hf : qm_nth t.1 k with _ | x | x | x <;> rw [hf] at hc hn
  · exact hc.elim
  · exact hc.elim
  · exact h p e s m args below meth c H locs Q ls x _ C.1 (a4.at hf) (hn H locs ls ⟨a1, a2, qm_fa trivial a3, a4, a5⟩)
  · exact hc.elim
theorem os_al' {pc nx k : Nat} (h : ∀ (p : Program) (e : Env) (s : State) (m : MethodId) (args : Array Value) (below : List Frame) (meth : Method) (c : Code) (H : Heap) (locs : List Loc) (Q : State → Prop) (ls : Array Slot) (x : Option (Nat × Nat)) (rest : List Value), CallFix p m c cc nL s args Ts own → ls[k]? = some (.val (qm_cv Λ (.inr (.inr x)))) → W p l e R s m args below meth c H locs 0 0 Q (F0 m nx ls (qm_cv Λ (.inr (.inr x)) :: rest)) → W p l e R s m args below meth c H locs 0 0 Q (F0 m pc ls rest)) : qm_K Λ V hold A l R cc nL own Ts ret pc nx (o_al k) := by
  intro Fq p e s m args below meth c Q C o t hc hn H locs ls hA
  unfold o_al at hc hn
  obtain ⟨a1, a2, a3, a4, a5⟩ := hA
  rcases hf : qm_nth t.1 k with _ | x | x | x <;> rw [hf] at hc hn
  · exact hc.elim
  · exact hc.elim
  · exact hc.elim
  · exact h p e s m args below meth c H locs Q ls x _ C.1 (a4.at hf) (hn H locs ls ⟨a1, a2, qm_fa (a2 k _ hf) a3, a4, a5⟩)
theorem os_il_n {pc k : Nat} {j : Fin 4} (hd : decode cc pc = .ok (.iload_n j, 1)) (hj : (j : Nat) = k) : qm_K Λ V hold A l R cc nL own Ts ret pc (pc + 1) (o_il k) := os_il' fun p e s m args below meth c H locs Q ls x rest C hl k => lv_iload_n C.1 C.2.1 hd hj hl k
theorem os_il {pc k : Nat} (hd : decode cc pc = .ok (.iload k, 2)) : qm_K Λ V hold A l R cc nL own Ts ret pc (pc + 2) (o_il k) := os_il' fun p e s m args below meth c H locs Q ls x rest C hl k => lv_iload C.1 C.2.1 hd hl k
theorem os_ll_n {pc k : Nat} {j : Fin 4} (hd : decode cc pc = .ok (.lload_n j, 1)) (hj : (j : Nat) = k) : qm_K Λ V hold A l R cc nL own Ts ret pc (pc + 1) (o_ll k) := os_ll' fun p e s m args below meth c H locs Q ls x rest C hl k => lv_lload_n C.1 C.2.1 hd hj hl k
theorem os_ll {pc k : Nat} (hd : decode cc pc = .ok (.lload k, 2)) : qm_K Λ V hold A l R cc nL own Ts ret pc (pc + 2) (o_ll k) := os_ll' fun p e s m args below meth c H locs Q ls x rest C hl k => lv_lload C.1 C.2.1 hd hl k
theorem os_al_n {pc k : Nat} {j : Fin 4} (hd : decode cc pc = .ok (.aload_n j, 1)) (hj : (j : Nat) = k) : qm_K Λ V hold A l R cc nL own Ts ret pc (pc + 1) (o_al k) := os_al' fun p e s m args below meth c H locs Q ls x rest C hl k => by
  rcases x with _ | x
  · exact lv_aload_nN C.1 C.2.1 hd hj hl k
  · exact lv_aload_n C.1 C.2.1 hd hj hl k
theorem os_al {pc k : Nat} (hd : decode cc pc = .ok (.aload k, 2)) : qm_K Λ V hold A l R cc nL own Ts ret pc (pc + 2) (o_al k) := os_al' fun p e s m args below meth c H locs Q ls x rest C hl k => by
  rcases x with _ | x
  · exact lv_aloadN C.1 C.2.1 hd hl k
  · exact lv_aload C.1 C.2.1 hd hl k
def o_is (k : Nat) : qm_op G := fun o t => match t.2.1 with
  | .inl x :: S => ([], none, (qm_st1 t.1 k (.inl x), S, t.2.2), o)
  | _ => ([False], none, t, o)
def o_ls (k : Nat) : qm_op G := fun o t => match t.2.1 with
  | .inr (.inl x) :: S => ([], none, (qm_st2 t.1 k (.inr (.inl x)), S, t.2.2), o)
  | _ => ([False], none, t, o)
def o_as (k : Nat) : qm_op G := fun o t => match t.2.1 with
  | .inr (.inr x) :: S => ([], none, (qm_st1 t.1 k (.inr (.inr x)), S, t.2.2), o)
  | _ => ([False], none, t, o)
theorem qm_st1_ok {L : List (Option qm_v)} {k : Nat} {v : qm_v} (h : ∀ k v, qm_nth L k = some v → qm_ok V v) (hv : qm_ok V v) : ∀ i u, qm_nth (qm_st1 L k v) i = some u → qm_ok V u := fun i u hu => by
  rcases qm_st1_nth hu with ⟨-, rfl⟩ | ⟨-, h2, -⟩
  · exact hv
  · exact h i u h2
theorem qm_st2_ok {L : List (Option qm_v)} {k : Nat} {v : qm_v} (h : ∀ k v, qm_nth L k = some v → qm_ok V v) (hv : qm_ok V v) : ∀ i u, qm_nth (qm_st2 L k v) i = some u → qm_ok V u := fun i u hu => by
  rcases qm_st2_nth hu with ⟨-, rfl⟩ | ⟨-, -, h2, -⟩
  · exact hv
  · exact h i u h2
theorem os_is_n {pc k : Nat} {j : Fin 4} (hd : decode cc pc = .ok (.istore_n j, 1)) (hj : (j : Nat) = k) (hk : k < nL) : qm_K Λ V hold A l R cc nL own Ts ret pc (pc + 1) (o_is k) := by
  intro Fq p e s m args below meth c Q C o t hc hn H locs ls hA
  obtain ⟨L, S, g⟩ := t
  rcases S with _ | ⟨x | x, S⟩
  · exact hc.elim
  · obtain ⟨a1, a2, a3, a4, a5⟩ := hA
    exact lv_istore_n C.1.1 C.1.2.1 hd hj a4.1 hk rfl fun ls' hl' => hn H locs ls' ⟨a1, qm_st1_ok a2 trivial, (qm_fa2 a3).2, a4.st1 (v := .inl x) hl', a5⟩
  · exact hc.elim
theorem os_is {pc k : Nat} (hd : decode cc pc = .ok (.istore k, 2)) (hk : k < nL) : qm_K Λ V hold A l R cc nL own Ts ret pc (pc + 2) (o_is k) := by
  intro Fq p e s m args below meth c Q C o t hc hn H locs ls hA
  obtain ⟨L, S, g⟩ := t
  rcases S with _ | ⟨x | x, S⟩
  · exact hc.elim
  · obtain ⟨a1, a2, a3, a4, a5⟩ := hA
    exact lv_istore C.1.1 C.1.2.1 hd a4.1 hk rfl fun ls' hl' => hn H locs ls' ⟨a1, qm_st1_ok a2 trivial, (qm_fa2 a3).2, a4.st1 (v := .inl x) hl', a5⟩
  · exact hc.elim
theorem os_ls_n {pc k : Nat} {j : Fin 4} (hd : decode cc pc = .ok (.lstore_n j, 1)) (hj : (j : Nat) = k) (hk : k + 1 < nL) : qm_K Λ V hold A l R cc nL own Ts ret pc (pc + 1) (o_ls k) := by
  intro Fq p e s m args below meth c Q C o t hc hn H locs ls hA
  obtain ⟨L, S, g⟩ := t
  rcases S with _ | ⟨x | x | x, S⟩
  · exact hc.elim
  · exact hc.elim
  · obtain ⟨a1, a2, a3, a4, a5⟩ := hA
    exact lv_lstore_n C.1.1 C.1.2.1 hd hj a4.1 hk rfl fun ls' hl' => hn H locs ls' ⟨a1, qm_st2_ok a2 trivial, (qm_fa2 a3).2, a4.st2 (v := .inr (.inl x)) hk hl', a5⟩
  · exact hc.elim
theorem os_ls {pc k : Nat} (hd : decode cc pc = .ok (.lstore k, 2)) (hk : k + 1 < nL) : qm_K Λ V hold A l R cc nL own Ts ret pc (pc + 2) (o_ls k) := by
  intro Fq p e s m args below meth c Q C o t hc hn H locs ls hA
  obtain ⟨L, S, g⟩ := t
  rcases S with _ | ⟨x | x | x, S⟩
  · exact hc.elim
  · exact hc.elim
  · obtain ⟨a1, a2, a3, a4, a5⟩ := hA
    exact lv_lstore C.1.1 C.1.2.1 hd a4.1 hk rfl fun ls' hl' => hn H locs ls' ⟨a1, qm_st2_ok a2 trivial, (qm_fa2 a3).2, a4.st2 (v := .inr (.inl x)) hk hl', a5⟩
  · exact hc.elim
theorem os_as_n {pc k : Nat} {j : Fin 4} (hd : decode cc pc = .ok (.astore_n j, 1)) (hj : (j : Nat) = k) (hk : k < nL) : qm_K Λ V hold A l R cc nL own Ts ret pc (pc + 1) (o_as k) := by
  intro Fq p e s m args below meth c Q C o t hc hn H locs ls hA
  obtain ⟨L, S, g⟩ := t
  rcases S with _ | ⟨x | x | x, S⟩
  · exact hc.elim
  · exact hc.elim
  · exact hc.elim
  · obtain ⟨a1, a2, a3, a4, a5⟩ := hA
    rcases x with _ | x
    · exact lv_astore_nN C.1.1 C.1.2.1 hd hj a4.1 hk rfl fun ls' hl' => hn H locs ls' ⟨a1, qm_st1_ok a2 trivial, (qm_fa2 a3).2, a4.st1 (v := .inr (.inr none)) hl', a5⟩
    · exact lv_astore_n C.1.1 C.1.2.1 hd hj a4.1 hk rfl fun ls' hl' => hn H locs ls' ⟨a1, qm_st1_ok a2 (qm_fa2 a3).1, (qm_fa2 a3).2, a4.st1 (v := .inr (.inr (some x))) hl', a5⟩
theorem os_as {pc k : Nat} (hd : decode cc pc = .ok (.astore k, 2)) (hk : k < nL) : qm_K Λ V hold A l R cc nL own Ts ret pc (pc + 2) (o_as k) := by
  intro Fq p e s m args below meth c Q C o t hc hn H locs ls hA
  obtain ⟨L, S, g⟩ := t
  rcases S with _ | ⟨x | x | x, S⟩
  · exact hc.elim
  · exact hc.elim
  · exact hc.elim
  · obtain ⟨a1, a2, a3, a4, a5⟩ := hA
    rcases x with _ | x
    · exact lv_astoreN C.1.1 C.1.2.1 hd a4.1 hk rfl fun ls' hl' => hn H locs ls' ⟨a1, qm_st1_ok a2 trivial, (qm_fa2 a3).2, a4.st1 (v := .inr (.inr none)) hl', a5⟩
    · exact lv_astore C.1.1 C.1.2.1 hd a4.1 hk rfl fun ls' hl' => hn H locs ls' ⟨a1, qm_st1_ok a2 (qm_fa2 a3).1, (qm_fa2 a3).2, a4.st1 (v := .inr (.inr (some x))) hl', a5⟩
def o_inc (k : Nat) (d : Int32) : qm_op G := fun o t => match qm_nth t.1 k with
  | some (.inl x) => ([], none, (qm_st1 t.1 k (.inl (x + d)), t.2.1, t.2.2), o)
  | _ => ([False], none, t, o)
theorem os_inc {pc k : Nat} {n : Int} {d : Int32} (hd : decode cc pc = .ok (.iinc k n, 3)) (hv : Int32.ofInt n = d) (hk : k < nL) : qm_K Λ V hold A l R cc nL own Ts ret pc (pc + 3) (o_inc k d) := by
  intro Fq p e s m args below meth c Q C o t hc hn H locs ls hA
  unfold o_inc at hc hn
  obtain ⟨a1, a2, a3, a4, a5⟩ := hA
  rcases hf : qm_nth t.1 k with _ | x | x <;> rw [hf] at hc hn
  · exact hc.elim
  · have hm := qm_ll_mem (Λ := Λ) (i := 0) hf
    rw [Nat.zero_add] at hm
    obtain ⟨k0, hk0⟩ := List.getElem?_of_mem hm
    exact lv_iinc (v := x + d) C.1.1 C.1.2.1 hd a4.1 hk0 (by rw [hv]) hk rfl fun ls' hl' => hn H locs ls' ⟨a1, qm_st1_ok a2 trivial, a3, a4.st1 (v := .inl (x + d)) hl', a5⟩
  · exact hc.elim
-- branches
def o_br (T : List qm_v → Option (Prop × Prop × List qm_v)) (tg : Nat) : qm_op G := fun o t => match o.1 with
  | 0 :: ds => match T t.2.1 with
    | some (_, cf, S) => ([cf], none, (t.1, S, t.2.2), (ds, o.2))
    | none => ([False], none, t, o)
  | (_ + 1) :: ds => match T t.2.1 with
    | some (ct, _, S) => ([ct], some (some tg), (t.1, S, t.2.2), (ds, o.2))
    | none => ([False], none, t, o)
  | [] => ([False], none, t, o)
theorem os_br {T : List qm_v → Option (Prop × Prop × List qm_v)} {tg pc nx : Nat} (hT : ∀ (S : List qm_v) (ct cf : Prop) (S' : List qm_v), T S = some (ct, cf, S') → ((∀ v ∈ S, qm_ok V v) → ∀ v ∈ S', qm_ok V v) ∧ (ct → qm_row Λ l R cc nL own Ts pc tg S S') ∧ (cf → qm_row Λ l R cc nL own Ts pc nx S S')) : qm_K Λ V hold A l R cc nL own Ts ret pc nx (o_br T tg) := by
  intro Fq p e s m args below meth c Q C o t hc hn H locs ls hA
  obtain ⟨d, o2⟩ := o
  obtain ⟨L, S, g⟩ := t
  obtain ⟨a1, a2, a3, a4, a5⟩ := hA
  rcases d with _ | ⟨_ | d, ds⟩
  · exact hc.elim
  · unfold o_br at hc hn
    dsimp only at hc hn
    rcases hf : T S with _ | ⟨ct, cf, S'⟩ <;> rw [hf] at hc hn
    · exact hc.elim
    · obtain ⟨h1, -, h3⟩ := hT _ _ _ _ hf
      exact h3 hc p e s m args below meth c H locs Q ls C.1 a4.1.1 (hn H locs ls ⟨a1, a2, h1 a3, a4, a5⟩)
  · unfold o_br at hc hn
    dsimp only at hc hn
    rcases hf : T S with _ | ⟨ct, cf, S'⟩ <;> rw [hf] at hc hn
    · exact hc.elim
    · obtain ⟨h1, h2, -⟩ := hT _ _ _ _ hf
      exact h2 hc p e s m args below meth c H locs Q ls C.1 a4.1.1 (hn H locs ls ⟨a1, a2, h1 a3, a4, a5⟩)
/-- two ints compared; an int with 0 -/
def t_ii (f g : Int32 → Int32 → Prop) : List qm_v → Option (Prop × Prop × List qm_v)
  | .inl y :: .inl x :: S => some (f x y, g x y, S)
  | _ => none
def t_i (f g : Int32 → Prop) : List qm_v → Option (Prop × Prop × List qm_v)
  | .inl x :: S => some (f x, g x, S)
  | _ => none
def t_nul : List qm_v → Option (Prop × Prop × List qm_v)
  | .inr (.inr none) :: S => some (True, False, S)
  | .inr (.inr (some _)) :: S => some (False, True, S)
  | _ => none
def t_nnul : List qm_v → Option (Prop × Prop × List qm_v)
  | .inr (.inr none) :: S => some (False, True, S)
  | .inr (.inr (some _)) :: S => some (True, False, S)
  | _ => none
theorem os_ii {f g : Int32 → Int32 → Prop} {tg pc nx : Nat} (h1 : ∀ (x y : Int32) (S : List qm_v), f x y → qm_row Λ l R cc nL own Ts pc tg (qI y :: qI x :: S) S) (h2 : ∀ (x y : Int32) (S : List qm_v), g x y → qm_row Λ l R cc nL own Ts pc nx (qI y :: qI x :: S) S) : qm_K Λ V hold A l R cc nL own Ts ret pc nx (o_br (t_ii f g) tg) := by
  refine os_br fun S ct cf S' hf => ?_
  rcases S with _ | ⟨y | y, _ | ⟨x | x, S⟩⟩ <;> cases hf
  exact ⟨fun k => (qm_fa2 (qm_fa2 k).2).2, h1 x y _, h2 x y _⟩
theorem os_i {f g : Int32 → Prop} {tg pc nx : Nat} (h1 : ∀ (x : Int32) (S : List qm_v), f x → qm_row Λ l R cc nL own Ts pc tg (qI x :: S) S) (h2 : ∀ (x : Int32) (S : List qm_v), g x → qm_row Λ l R cc nL own Ts pc nx (qI x :: S) S) : qm_K Λ V hold A l R cc nL own Ts ret pc nx (o_br (t_i f g) tg) := by
  refine os_br fun S ct cf S' hf => ?_
  rcases S with _ | ⟨x | x, S⟩ <;> cases hf
  exact ⟨fun k => (qm_fa2 k).2, h1 x _, h2 x _⟩
theorem os_null {tg pc : Nat} {off : Int} (hd : decode cc pc = .ok (.ifnull off, 3)) (ht : (pc : Int) + off = (tg : Int)) : qm_K Λ V hold A l R cc nL own Ts ret pc (pc + 3) (o_br t_nul tg) := by
  refine os_br fun S ct cf S' hf => ?_
  rcases S with _ | ⟨x | x | _ | x, S⟩ <;> cases hf
  · exact ⟨fun k => (qm_fa2 k).2, fun _ p e s m args below meth c H locs Q ls C _ k => lv_ifnullN C.1 C.2.1 hd ht k, fun h => h.elim⟩
  · exact ⟨fun k => (qm_fa2 k).2, fun h => h.elim, fun _ p e s m args below meth c H locs Q ls C _ k => lv_ifnull C.1 C.2.1 hd k⟩
theorem os_nonnull {tg pc : Nat} {off : Int} (hd : decode cc pc = .ok (.ifnonnull off, 3)) (ht : (pc : Int) + off = (tg : Int)) : qm_K Λ V hold A l R cc nL own Ts ret pc (pc + 3) (o_br t_nnul tg) := by
  refine os_br fun S ct cf S' hf => ?_
  rcases S with _ | ⟨x | x | _ | x, S⟩ <;> cases hf
  · exact ⟨fun k => (qm_fa2 k).2, fun h => h.elim, fun _ p e s m args below meth c H locs Q ls C _ k => lv_ifnonnullN C.1 C.2.1 hd k⟩
  · exact ⟨fun k => (qm_fa2 k).2, fun _ p e s m args below meth c H locs Q ls C _ k => lv_ifnonnull C.1 C.2.1 hd ht k, fun h => h.elim⟩
def o_go (tg : Nat) : qm_op G := fun o t => ([], some (some tg), t, o)
theorem os_go {tg pc nx : Nat} {off : Int} (hd : decode cc pc = .ok (.goto off, 3)) (ht : (pc : Int) + off = (tg : Int)) : qm_K Λ V hold A l R cc nL own Ts ret pc nx (o_go tg) := by
  intro Fq p e s m args below meth c Q C o t hc hn H locs ls hA
  exact lv_goto C.1.1 C.1.2.1 hd ht (hn H locs ls hA)
/-- a switch: the oracle says which case, 0 the default -/
def o_sw (cs : List (Int32 × Nat)) (df : Nat) : qm_op G := fun o t => match t.2.1 with
  | .inl x :: S => match o.1 with
    | 0 :: ds => ([∀ q ∈ cs, ¬ x = q.1], some (some df), (t.1, S, t.2.2), (ds, o.2))
    | (n + 1) :: ds => match cs[n]? with
      | some q => ([x = q.1], some (some q.2), (t.1, S, t.2.2), (ds, o.2))
      | none => ([False], none, t, o)
    | [] => ([False], none, t, o)
  | _ => ([False], none, t, o)
theorem os_sw {cs : List (Int32 × Nat)} {df pc nx : Nat} (h1 : ∀ (x : Int32) (S : List qm_v), (∀ q ∈ cs, ¬ x = q.1) → qm_row Λ l R cc nL own Ts pc df (qI x :: S) S) (h2 : ∀ q ∈ cs, ∀ S : List qm_v, qm_row Λ l R cc nL own Ts pc q.2 (qI q.1 :: S) S) : qm_K Λ V hold A l R cc nL own Ts ret pc nx (o_sw cs df) := by
  intro Fq p e s m args below meth c Q C o t hc hn H locs ls hA
  obtain ⟨d, o2⟩ := o
  obtain ⟨L, S, g⟩ := t
  obtain ⟨a1, a2, a3, a4, a5⟩ := hA
  rcases S with _ | ⟨x | x, S⟩
  · exact hc.elim
  · rcases d with _ | ⟨_ | d, ds⟩
    · exact hc.elim
    · exact h1 x S hc p e s m args below meth c H locs Q ls C.1 a4.1.1 (hn H locs ls ⟨a1, a2, (qm_fa2 a3).2, a4, a5⟩)
    · unfold o_sw at hc hn
      dsimp only at hc hn
      rcases hf : cs[d]? with _ | q <;> rw [hf] at hc hn
      · exact hc.elim
      · have hq : x = q.1 := hc
        subst hq
        exact h2 q (List.mem_of_getElem? hf) S p e s m args below meth c H locs Q ls C.1 a4.1.1 (hn H locs ls ⟨a1, a2, (qm_fa2 a3).2, a4, a5⟩)
  · exact hc.elim
/-- a tableswitch by its table: lo, the offsets; cs names the places that aren't the default's -/
theorem os_table {cs : List (Int32 × Nat)} {df pc nx len : Nat} {dflt lo hi : Int} {offs : Array Int} (hd : decode cc pc = .ok (.tableswitch dflt lo hi offs, len)) (hdf : (pc : Int) + dflt = (df : Int)) (hlo : -2147483648 ≤ lo ∧ hi ≤ 2147483647 ∧ (offs.size : Int) = hi - lo + 1)
    (hcs : (cs.all fun q => decide (lo ≤ q.1.toInt) && decide (q.1.toInt ≤ hi) && match offs[(q.1.toInt - lo).toNat]? with | some off => decide ((pc : Int) + off = (q.2 : Int)) | none => false) = true)
    (hall : ((List.range offs.size).all fun n => (cs.any fun q => decide (q.1.toInt = lo + n)) || (match offs[n]? with | some off => decide (off = dflt) | none => false)) = true) : qm_K Λ V hold A l R cc nL own Ts ret pc nx (o_sw cs df) := by
  refine os_sw (fun x S hx p e s m args below meth c H locs Q ls C _ k => ?_) (fun q hq S p e s m args below meth c H locs Q ls C _ k => ?_)
  · by_cases h1 : x.toInt < lo
    · exact lv_tableOut C.1 C.2.1 hd (Or.inl h1) hdf k
    · by_cases h2 : hi < x.toInt
      · exact lv_tableOut C.1 C.2.1 hd (Or.inr h2) hdf k
      · have hn : (x.toInt - lo).toNat < offs.size := by omega
        have h3 := List.all_eq_true.mp hall _ (List.mem_range.mpr hn)
        rw [Bool.or_eq_true] at h3
        rcases h3 with h3 | h3
        · obtain ⟨q, hq, hqe⟩ := List.any_eq_true.mp h3
          have hqe := of_decide_eq_true hqe
          exact absurd (Int32.toInt_inj.mp (show x.toInt = q.1.toInt by rw [hqe]; omega)) (hx q hq)
        · rcases ho : offs[(x.toInt - lo).toNat]? with _ | off <;> rw [ho] at h3
          · cases h3
          · have := of_decide_eq_true h3
            subst this
            exact lv_tableIn C.1 C.2.1 hd h1 h2 ho hdf k
  · have h3 := List.all_eq_true.mp hcs q hq
    rw [Bool.and_eq_true, Bool.and_eq_true] at h3
    obtain ⟨⟨h4, h5⟩, h6⟩ := h3
    have h4 := of_decide_eq_true h4
    have h5 := of_decide_eq_true h5
    rcases ho : offs[(q.1.toInt - lo).toNat]? with _ | off <;> rw [ho] at h6
    · cases h6
    · exact lv_tableIn C.1 C.2.1 hd (by omega) (by omega) ho (of_decide_eq_true h6) k
theorem qm_lk_out : ∀ {ps : List (Int × Int)} {d x : Int}, (∀ q ∈ ps, ¬ q.1 = x) → Op.lookupswitch.offset ps d x = d
  | [], d, x, _ => rfl
  | (a, o) :: r, d, x, h => by
    rw [Op.lookupswitch.offset_cons, if_neg (h (a, o) List.mem_cons_self)]
    exact qm_lk_out fun q hq => h q (List.mem_cons_of_mem _ hq)
/-- a lookupswitch by its pairs -/
theorem os_look {cs : List (Int32 × Nat)} {df pc nx len : Nat} {dflt : Int} {ps : Array (Int × Int)} (hd : decode cc pc = .ok (.lookupswitch dflt ps, len)) (hp : (ps.toList.zip (ps.toList.drop 1)).all (fun (a, next) => a.1 < next.1) = true) (hdf : (pc : Int) + dflt = (df : Int))
    (hcs : (cs.all fun q => decide ((pc : Int) + Op.lookupswitch.offset ps.toList dflt q.1.toInt = (q.2 : Int))) = true)
    (hall : (ps.toList.all fun z => cs.any fun q => decide (q.1.toInt = z.1)) = true) : qm_K Λ V hold A l R cc nL own Ts ret pc nx (o_sw cs df) := by
  refine os_sw (fun x S hx p e s m args below meth c H locs Q ls C _ k => ?_) (fun q hq S p e s m args below meth c H locs Q ls C _ k => ?_)
  · refine lv_lookup C.1 C.2.1 hd hp (qm_lk_out fun z hz he => ?_) hdf k
    obtain ⟨q, hq, hqe⟩ := List.any_eq_true.mp (List.all_eq_true.mp hall z hz)
    have hqe := of_decide_eq_true hqe
    exact hx q hq (Int32.toInt_inj.mp (by rw [hqe, he]))
  · exact lv_lookup C.1 C.2.1 hd hp rfl (of_decide_eq_true (List.all_eq_true.mp hcs q hq)) k
end QMO
