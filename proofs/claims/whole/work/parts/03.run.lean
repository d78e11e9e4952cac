/-- where a jump goes -/
def qm_sk {G : Type} : List (Nat × qm_op G) → Nat → List (Nat × qm_op G)
  | [], _ => []
  | (pc, f) :: k, t => match Nat.beq pc t with
    | true => (pc, f) :: k
    | false => qm_sk k t
def qm_hd {G : Type} : List (Nat × qm_op G) → Nat
  | [] => 99999
  | (pc, _) :: _ => pc
def qm_px {G : Type} (code : List (Nat × qm_op G)) (stop : Nat) : Nat → List (Nat × qm_op G) → qm_O G → qm_S G → List Prop × List (Nat × qm_op G) × qm_S G
  | 0, _, _, s => ([False], [], s)
  | _ + 1, [], _, s => ([False], [], s)
  | n + 1, (_, f) :: k, o, s => match f o s with
    | (c, some none, s', _) => (c, [], s')
    | (c, none, s', o') => match k with
      | [] => ([False], [], s')
      | x :: k => match Nat.beq x.1 stop with
        | true => (c, x :: k, s')
        | false => match qm_px code stop n (x :: k) o' s' with
          | (c2, r) => (c ++ c2, r)
    | (c, some (some t), s', o') => match qm_sk code t with
      | [] => ([False], [], s')
      | x :: k => match Nat.beq t stop with
        | true => (c, x :: k, s')
        | false => match qm_px code stop n (x :: k) o' s' with
          | (c2, r) => (c ++ c2, r)
section QMR
variable {G : Type}
/-- the state of the pure machine is the JVM's -/
def qm_at (Λ : Nat → Nat → Nat) (V : Nat → Nat → Prop) (hold : State → G → Heap → Prop) (A : Nat → Prop) (nL : Nat) (s : State) (t : qm_S G) (H : Heap) (locs : List Loc) (ls : Array Slot) : Prop :=
  hold s t.2.2 H ∧ (∀ k v, qm_nth t.1 k = some v → qm_ok V v) ∧ (∀ v ∈ t.2.1, qm_ok V v) ∧ qm_lo Λ nL ls t.1 ∧ va_S A s.heap H locs
def qm_W (Λ : Nat → Nat → Nat) (V : Nat → Nat → Prop) (hold : State → G → Heap → Prop) (A : Nat → Prop) (nL : Nat) (p : Program) (l : Launch) (e : Env) (R : Room) (s : State) (m : MethodId) (args : Array Value) (below : List Frame) (meth : Method) (c : Code) (Q : State → Prop) (pc : Nat) (t : qm_S G) : Prop :=
  ∀ (H : Heap) (locs : List Loc) (ls : Array Slot), qm_at Λ V hold A nL s t H locs ls → W p l e R s m args below meth c H locs 0 0 Q (F0 m pc ls (t.2.1.map (qm_cv Λ)))
def qm_Qc (Λ : Nat → Nat → Nat) (V : Nat → Nat → Prop) (hold : State → G → Heap → Prop) (A : Nat → Prop) (Fq : Option qm_v → G → Prop) : Array Value → State → Outcome → State → Prop := fun _ st oc t =>
  ∃ (r : Option qm_v) (g : G), oc = .returned (r.map (qm_cv Λ)) ∧ Fq r g ∧ (∀ v, r = some v → qm_ok V v) ∧ hold t g t.heap ∧ va_F A st t
/-- what a walk of a method's body stands on -/
def qm_C (Λ : Nat → Nat → Nat) (V : Nat → Nat → Prop) (hold : State → G → Heap → Prop) (A : Nat → Prop) (Fq : Option qm_v → G → Prop) (cc : ByteArray) (nL : Nat) (own : String) (Ts : List Cond) (ret : Option FieldType) (p : Program) (s : State) (m : MethodId) (args : Array Value) (below : List Frame) (meth : Method) (c : Code) (Q : State → Prop) : Prop :=
  CallFix p m c cc nL s args Ts own ∧ meth.sig.returnType = ret ∧ meth.locks = false ∧ Q = MQ below (qm_Qc Λ V hold A Fq) args s 0 0 A
/-- an instruction is right at pc, with nx behind it -/
def qm_K (Λ : Nat → Nat → Nat) (V : Nat → Nat → Prop) (hold : State → G → Heap → Prop) (A : Nat → Prop) (l : Launch) (R : Room) (cc : ByteArray) (nL : Nat) (own : String) (Ts : List Cond) (ret : Option FieldType) (pc nx : Nat) (f : qm_op G) : Prop :=
  ∀ (Fq : Option qm_v → G → Prop) (p : Program) (e : Env) (s : State) (m : MethodId) (args : Array Value) (below : List Frame) (meth : Method) (c : Code) (Q : State → Prop), qm_C Λ V hold A Fq cc nL own Ts ret p s m args below meth c Q →
    ∀ (o : qm_O G) (t : qm_S G), qm_all (f o t).1 →
    (match (f o t).2.1 with
      | none => qm_W Λ V hold A nL p l e R s m args below meth c Q nx (f o t).2.2.1
      | some none => Fq (f o t).2.2.1.2.1.head? (f o t).2.2.1.2.2
      | some (some tg) => qm_W Λ V hold A nL p l e R s m args below meth c Q tg (f o t).2.2.1) →
    qm_W Λ V hold A nL p l e R s m args below meth c Q pc t
def qm_cok (K : Nat → Nat → qm_op G → Prop) : List (Nat × qm_op G) → Prop
  | [] => True
  | [x] => K x.1 0 x.2
  | x :: y :: r => K x.1 y.1 x.2 ∧ qm_cok K (y :: r)
theorem qm_cok_sk {K : Nat → Nat → qm_op G → Prop} : ∀ {code : List (Nat × qm_op G)} {t : Nat}, qm_cok K code → qm_cok K (qm_sk code t)
  | [], _, h => h
  | (pc, f) :: k, t, h => by
    unfold qm_sk
    cases hb : Nat.beq pc t with
    | true => exact h
    | false =>
      cases k with
      | nil => exact trivial
      | cons y r => exact qm_cok_sk (code := y :: r) h.2
theorem qm_sk_hd : ∀ {code : List (Nat × qm_op G)} {t : Nat} {x : Nat × qm_op G} {k : List (Nat × qm_op G)}, qm_sk code t = x :: k → x.1 = t
  | [], _, _, _, h => by cases h
  | (pc, f) :: k, t, x, k2, h => by
    unfold qm_sk at h
    cases hb : Nat.beq pc t with
    | true => rw [hb] at h; cases h; exact Nat.eq_of_beq_eq_true hb
    | false => rw [hb] at h; exact qm_sk_hd h
variable {Λ : Nat → Nat → Nat} {V : Nat → Nat → Prop} {hold : State → G → Heap → Prop} {A : Nat → Prop} {Fq : Option qm_v → G → Prop} {l : Launch} {R : Room} {cc : ByteArray} {nL : Nat} {own : String} {Ts : List Cond} {ret : Option FieldType}
variable {p : Program} {e : Env} {s : State} {m : MethodId} {args : Array Value} {below : List Frame} {meth : Method} {c : Code} {Q : State → Prop}
/-- where the pure machine stands -/
def qm_Z (Λ : Nat → Nat → Nat) (V : Nat → Nat → Prop) (hold : State → G → Heap → Prop) (A : Nat → Prop) (Fq : Option qm_v → G → Prop) (nL : Nat) (p : Program) (l : Launch) (e : Env) (R : Room) (s : State) (m : MethodId) (args : Array Value) (below : List Frame) (meth : Method) (c : Code) (Q : State → Prop) : List (Nat × qm_op G) → qm_S G → Prop
  | [], t => Fq t.2.1.head? t.2.2
  | x :: _, t => qm_W Λ V hold A nL p l e R s m args below meth c Q x.1 t
theorem qm_run {code : List (Nat × qm_op G)} (hc : qm_cok (qm_K Λ V hold A l R cc nL own Ts ret) code) (C : qm_C Λ V hold A Fq cc nL own Ts ret p s m args below meth c Q) (stop : Nat) :
    ∀ (n : Nat) (k : List (Nat × qm_op G)) (o : qm_O G) (t : qm_S G), qm_cok (qm_K Λ V hold A l R cc nL own Ts ret) k → k ≠ [] → qm_all (qm_px code stop n k o t).1 → qm_Z Λ V hold A Fq nL p l e R s m args below meth c Q (qm_px code stop n k o t).2.1 (qm_px code stop n k o t).2.2 → qm_Z Λ V hold A Fq nL p l e R s m args below meth c Q k t := by
  intro n
  induction n with
  | zero => intro k o t _ _ h _; exact h.elim
  | succ n ih =>
    intro k o t hk hne h hz
    cases k with
    | nil => exact absurd rfl hne
    | cons x k =>
      obtain ⟨pc, f⟩ := x
      have hK : qm_K Λ V hold A l R cc nL own Ts ret pc (match k with | [] => 0 | y :: _ => y.1) f := by
        cases k with
        | nil => exact hk
        | cons y r => exact hk.1
      have hk2 : qm_cok (qm_K Λ V hold A l R cc nL own Ts ret) k := by
        cases k with
        | nil => exact trivial
        | cons y r => exact hk.2
      show qm_W Λ V hold A nL p l e R s m args below meth c Q pc t
      have hK := hK Fq p e s m args below meth c Q C o t
      unfold qm_px at h hz
      rcases hf : f o t with ⟨cs, j, t', o'⟩
      rw [hf] at h hz hK
      rcases j with _ | _ | tg
      · cases k with
        | nil => exact h.elim
        | cons y r =>
          dsimp only at h hz hK
          cases hb : Nat.beq y.1 stop with
          | true =>
            rw [hb] at h hz
            exact hK h hz
          | false =>
            rw [hb] at h hz
            dsimp only at h hz
            obtain ⟨h1, h2⟩ := qm_all_app h
            exact hK h1 (ih (y :: r) o' t' hk2 (by simp) h2 hz)
      · exact hK h hz
      · dsimp only at h hz hK
        rcases hs : qm_sk code tg with _ | ⟨y, r⟩
        · rw [hs] at h; exact h.elim
        · rw [hs] at h hz
          dsimp only at h hz
          have hy := qm_sk_hd hs
          cases hb : Nat.beq tg stop with
          | true =>
            rw [hb] at h hz
            refine hK h ?_
            rw [← hy]
            exact hz
          | false =>
            rw [hb] at h hz
            dsimp only at h hz
            obtain ⟨h1, h2⟩ := qm_all_app h
            refine hK h1 ?_
            rw [← hy]
            exact ih (y :: r) o' t' (hs ▸ qm_cok_sk hc) (by simp) h2 hz
/-- what is to be shown of a run: its conditions, and the place where it ends -/
def qm_cj : List Prop → Prop → Prop
  | [], z => z
  | c :: r, z => c ∧ qm_cj r z
theorem qm_cj_of : ∀ {cs : List Prop} {z : Prop}, qm_cj cs z → qm_all cs ∧ z
  | [], _, h => ⟨trivial, h⟩
  | [_], _, h => h
  | _ :: d :: r, _, h => by
    obtain ⟨h1, h2⟩ := qm_cj_of (cs := d :: r) h.2
    exact ⟨⟨h.1, h1⟩, h2⟩
theorem qm_step {code : List (Nat × qm_op G)} (hc : qm_cok (qm_K Λ V hold A l R cc nL own Ts ret) code) (C : qm_C Λ V hold A Fq cc nL own Ts ret p s m args below meth c Q) (pc stop n : Nat) (o : qm_O G) {t : qm_S G} (h : qm_cj (qm_px code stop n (qm_sk code pc) o t).1 (qm_Z Λ V hold A Fq nL p l e R s m args below meth c Q (qm_px code stop n (qm_sk code pc) o t).2.1 (qm_px code stop n (qm_sk code pc) o t).2.2)) : qm_W Λ V hold A nL p l e R s m args below meth c Q pc t := by
  obtain ⟨h1, h2⟩ := qm_cj_of h
  rcases hs : qm_sk code pc with _ | ⟨x, k⟩
  · rw [hs] at h1
    cases n <;> exact h1.elim
  · have hy := qm_sk_hd hs
    have h3 := qm_run hc C stop n (qm_sk code pc) o t (qm_cok_sk hc) (by rw [hs]; simp) h1 h2
    rw [hs] at h3
    rw [← hy]
    exact h3
end QMR
