/-! words: every method stands on all words of the tables, behind its own code -/
def gw_tbl : List Cond := lw_tbl.filter goodWord
def wsT (y : MethodName) (b : ByteArray) (n : Nat) (r : Option FieldType) : List Cond := Cond.code y b n r :: gw_tbl
def rmL (d : Nat) : Room := { frames := d, cells := 0, slots := 0, locals := 40 * d }
theorem tb_good {w : Cond} (h : w ∈ gw_tbl) : goodWord w = true := (List.mem_filter.mp h).2
theorem tb_in {y : MethodName} {b : ByteArray} {n : Nat} {r : Option FieldType} {w : Cond} (h : w ∈ gw_tbl) : w ∈ wsT y b n r := List.mem_cons_of_mem _ h
theorem tb_goodIn {y : MethodName} {b : ByteArray} {n : Nat} {r : Option FieldType} {y2 : MethodName} {b2 : ByteArray} {n2 : Nat} {r2 : Option FieldType} (h : Cond.code y2 b2 n2 r2 ∈ gw_tbl) : GoodIn (wsT y b n r) (wsT y2 b2 n2 r2) := fun w hw => by
  have hm : w ∈ gw_tbl := by
    rcases List.mem_cons.mp hw with rfl | hw
    · exact h
    · exact hw
  exact ⟨tb_in hm, good_of_word (tb_good hm)⟩
theorem tb_T {i : Nat} {w : Cond} (h : tables_1[i]? = some w) (hg : goodWord w = true) : w ∈ gw_tbl := List.mem_filter.mpr ⟨List.mem_append_right _ (List.mem_of_getElem? h), hg⟩
theorem tb_S {i : Nat} {w : Cond} (h : (k2_sels lw_privs)[i]? = some w) (hg : goodWord w = true) : w ∈ gw_tbl := List.mem_filter.mpr ⟨List.mem_append_left _ (List.mem_of_getElem? h), hg⟩
theorem tb_T1 {i : Nat} {w : Cond} (h : tables_1_1[i]? = some w) (hg : goodWord w = true) : w ∈ gw_tbl := List.mem_filter.mpr ⟨List.mem_append_right _ (List.mem_append_left _ (List.mem_of_getElem? h)), hg⟩
theorem tb_T2 {i : Nat} {w : Cond} (h : tables_1_2[i]? = some w) (hg : goodWord w = true) : w ∈ gw_tbl := List.mem_filter.mpr ⟨List.mem_append_right _ (List.mem_append_right _ (List.mem_append_left _ (List.mem_of_getElem? h))), hg⟩
theorem tb_T3 {i : Nat} {w : Cond} (h : tables_1_3[i]? = some w) (hg : goodWord w = true) : w ∈ gw_tbl := List.mem_filter.mpr ⟨List.mem_append_right _ (List.mem_append_right _ (List.mem_append_right _ (List.mem_append_left _ (List.mem_of_getElem? h)))), hg⟩
theorem tb_T4 {i : Nat} {w : Cond} (h : tables_1_4[i]? = some w) (hg : goodWord w = true) : w ∈ gw_tbl := List.mem_filter.mpr ⟨List.mem_append_right _ (List.mem_append_right _ (List.mem_append_right _ (List.mem_append_right _ (List.mem_of_getElem? h)))), hg⟩
section WCALL
variable {x y : MethodName} {bx by2 : ByteArray} {nx ny : Nat} {rx ry : Option FieldType} {own C : String} {idx n dx dy : Nat}
theorem cwT_s (hcode : Cond.code y by2 ny ry ∈ gw_tbl) (hini : Cond.initialized y.cls ∈ gw_tbl) (hl : Cond.methodLink own idx y ∈ gw_tbl) (hst : Cond.static y ∈ gw_tbl) (hd : y.cls ≠ "java/lang/invoke/MethodHandle" ∧ y.cls ≠ "java/lang/invoke/VarHandle" ∧ (parseMethodDescriptor y.desc).map (fun d => d.parameters.length) = some n) (hR : dy + 1 ≤ dx ∧ ny ≤ 21) (s : State) (args : Array Value) (ht : ∀ w ∈ wsT x bx nx rx, w.before args s = true) : CallB (rmL dx) s args own idx y by2 ny ry (wsT y by2 ny ry) (rmL dy) 0 0 n ∧ (Cond.static y).before args s = true :=
  ⟨callB_of n ht (tb_goodIn hcode) rfl rfl rfl (ht _ (tb_in hini)) (ht _ (tb_in hl)) hd ⟨hR.1, by show 8 + (ny + 11) + 40 * dy ≤ 40 * dx; omega⟩, ht _ (tb_in hst)⟩
theorem cwT_v (hcode : Cond.code y by2 ny ry ∈ gw_tbl) (hini : Cond.initialized y.cls ∈ gw_tbl) (hl : Cond.methodLink own idx y ∈ gw_tbl) (him : Cond.instanceMethod y ∈ gw_tbl) (hsel : Cond.selects C y y ∈ gw_tbl) (hd : y.cls ≠ "java/lang/invoke/MethodHandle" ∧ y.cls ≠ "java/lang/invoke/VarHandle" ∧ (parseMethodDescriptor y.desc).map (fun d => d.parameters.length) = some n) (hR : dy + 1 ≤ dx ∧ ny ≤ 21) (s : State) (args : Array Value) (ht : ∀ w ∈ wsT x bx nx rx, w.before args s = true) : CallW (rmL dx) s args own C idx y by2 ny ry (wsT y by2 ny ry) (rmL dy) 0 0 n :=
  ⟨callB_of n ht (tb_goodIn hcode) rfl rfl rfl (ht _ (tb_in hini)) (ht _ (tb_in hl)) hd ⟨hR.1, by show 8 + (ny + 11) + 40 * dy ≤ 40 * dx; omega⟩, ht _ (tb_in him), ht _ (tb_in hsel)⟩
end WCALL
section WNEST
variable {G : Type} {D : va_G} {cl : List vw_C} {tys : List (ClassId × FieldType)} {Λ : Nat → Nat → Nat} {V : Nat → Nat → Prop} {ce : G → Nat → Nat → va_E} {okg : G → Prop} {ex : State → Heap → Prop} {A : Nat → Prop} {l : Launch} {R : Room} {cc : ByteArray} {nL : Nat} {own : String} {Ts : List Cond} {ret : Option FieldType}
theorem os_calln (hsys : qm_sys Λ V ex A) {pc idx n maxL : Nat} {host : String} {y : MethodName} {bytes : ByteArray} {rc : Option FieldType} {ws : List Cond} {rm : Room} (hd : decode cc pc = .ok (.invokestatic idx, 3)) (cw : ∀ (s : State) (args : Array Value), (∀ w ∈ Ts, w.before args s = true) → va_Nw (.methodLinkNest own idx y host) s → va_CN R s args own idx y host bytes maxL rc ws rm 0 0 n ∧ (Cond.static y).before args s = true ∧ True) (hX : ∀ (s : State) (H : Heap), ex s H → va_Nw (.methodLinkNest own idx y host) s) : qm_K Λ V (qm_hold D cl tys Λ V ce okg ex) A l R cc nL own Ts ret pc (pc + 3) (o_call n (qm_Sd Λ V (qm_hold D cl tys Λ V ce okg ex) A l (y, ws, rm))) := by
  intro Fq p e s m args below meth c Q C0 o t hc1 hn H locs ls hA
  obtain ⟨L, S, g⟩ := t
  obtain ⟨o1, o2, o3⟩ := o
  obtain ⟨a1, a2, a3, a4, a5⟩ := hA
  unfold o_call at hc1 hn
  dsimp only at hc1 hn
  rcases hp : qm_pop n S [] with _ | ⟨as, S'⟩ <;> rw [hp] at hc1 hn
  · exact hc1.elim
  · rcases o3 with _ | ⟨⟨r, g'⟩, rs⟩
    · exact hc1.elim
    · dsimp only at hc1 hn
      cases hb : Nat.ble (qm_wt S') 8 <;> rw [hb] at hc1 hn
      · exact hc1.elim
      · obtain ⟨p1, p2⟩ := qm_pop_of hp
        have p2 : as.reverse ++ S' = S := p2
        have hM : qm_Sd Λ V (qm_hold D cl tys Λ V ce okg ex) A l (y, ws, rm) as g r g' := hc1
        have hS' : ∀ v ∈ S', qm_ok V v := fun v hv => a3 v (p2 ▸ List.mem_append_right _ hv)
        have has : ∀ v ∈ as, qm_ok V v := fun v hv => a3 v (p2 ▸ List.mem_append_left _ (List.mem_reverse.mpr hv))
        refine qm_go hsys (va_runSN (As := as.map (qm_cv Λ)) (rest := S'.map (qm_cv Λ)) C0.1 hM (cw s args C0.1.2.2.2.2 (hX s H a1.2.2.2)) (qm_pre hsys a1 has) rfl (by rw [List.length_map]; exact p1) a4.1.1 (by show S.map (qm_cv Λ) = _; rw [← p2, List.map_append, List.map_reverse]) (lv_room (by rw [qm_wt_eq]; exact Nat.le_of_ble_eq_true hb)) hd ⟨Nat.zero_le _, Nat.zero_le _⟩) a5 a1.2.2.2 ?_
        rintro r1 g1 H1 locs1 ⟨rfl, rfl⟩ hok hh hS1
        have hn := hn H1 locs1 ls
        rcases r1 with _ | v
        · exact hn ⟨hh, a2, hS', a4, hS1⟩
        · exact hn ⟨hh, a2, qm_fa (hok v rfl) hS', a4, hS1⟩
end WNEST
theorem cnT_s {x y : MethodName} {bx by2 : ByteArray} {nx ny : Nat} {rx ry : Option FieldType} {own host : String} {idx n dx dy : Nat} (hcode : Cond.code y by2 ny ry ∈ gw_tbl) (hini : Cond.initialized y.cls ∈ gw_tbl) (hst : Cond.static y ∈ gw_tbl) (hd : y.cls ≠ "java/lang/invoke/MethodHandle" ∧ y.cls ≠ "java/lang/invoke/VarHandle" ∧ (parseMethodDescriptor y.desc).map (fun d => d.parameters.length) = some n) (hR : dy + 1 ≤ dx ∧ ny ≤ 21) (s : State) (args : Array Value) (ht : ∀ w ∈ wsT x bx nx rx, w.before args s = true) (hl : va_Nw (.methodLinkNest own idx y host) s) : va_CN (rmL dx) s args own idx y host by2 ny ry (wsT y by2 ny ry) (rmL dy) 0 0 n ∧ (Cond.static y).before args s = true ∧ True :=
  ⟨va_cnB n ht (tb_goodIn hcode) rfl rfl rfl hl (ht _ (tb_in hini)) hd ⟨hR.1, by show 8 + (ny + 11) + 40 * dy ≤ 40 * dx; omega⟩, ht _ (tb_in hst), trivial⟩
