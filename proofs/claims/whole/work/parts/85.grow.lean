/-! CONSTRUCTORS: cells that grow from a base a on: n of them, as f says -/
def gw (D : va_G) (a n : Nat) (f : Nat → va_E) (H : Heap) : Prop := H.size = a + n ∧ ∀ k, k < n → va_at D tcl (a + k, f k) H
def gst (D : va_G) (a n : Nat) (f : Nat → va_E) (H0 H : Heap) (locs : List Loc) : Prop := gw D a n f H ∧ (∀ q : Nat, q < a → H[q]? = H0[q]?) ∧ ∀ q ∈ locs, a ≤ q.base
theorem gw.to {D : va_G} {a n : Nat} {f f' : Nat → va_E} {H : Heap} (h : gw D a n f H) (he : ∀ k, k < n → f k = f' k) : gw D a n f' H := ⟨h.1, fun k hk => he k hk ▸ h.2 k hk⟩
theorem gst.to {D : va_G} {a n : Nat} {f f' : Nat → va_E} {H0 H : Heap} {locs : List Loc} (h : gst D a n f H0 H locs) (he : ∀ k, k < n → f k = f' k) : gst D a n f' H0 H locs := ⟨h.1.to he, h.2⟩
theorem gst.push {D : va_G} {a n : Nat} {f : Nat → va_E} {H0 H H1 : Heap} {locs : List Loc} {x : va_E} (h : gst D a n f H0 H locs) (hz : H1.size = H.size + 1) (ho : ∀ q : Nat, q < H.size → H1[q]? = H[q]?) (hat : va_at D tcl (a + n, x) H1) : gst D a (n + 1) (va_up f n x) H0 H1 locs := by
  obtain ⟨⟨h1, h2⟩, h3, h4⟩ := h
  refine ⟨⟨by omega, fun k hk => ?_⟩, fun q hq => (ho q (by omega)).trans (h3 q hq), h4⟩
  by_cases e : k = n
  · subst e
    rw [va_up_self]
    exact hat
  · rw [va_up_ne _ _ e]
    exact (h2 k (by omega)).kept (ho _ (by show a + k < _; omega))
theorem gst.put {D : va_G} {a n k : Nat} {f : Nat → va_E} {H0 H H1 : Heap} {locs : List Loc} {x : va_E} {sl : Nat} (h : gst D a n f H0 H locs) (hk : k < n) (hz : H1.size = H.size) (ho : ∀ q : Nat, q ≠ a + k → H1[q]? = H[q]?) (hat : va_at D tcl (a + k, x) H1) : gst D a n (va_up f k x) H0 H1 (locs ++ [⟨a + k, sl⟩]) := by
  obtain ⟨⟨h1, h2⟩, h3, h4⟩ := h
  refine ⟨⟨by omega, fun j hj => ?_⟩, fun q hq => (ho q (by omega)).trans (h3 q hq), fun q hq => ?_⟩
  · by_cases e : j = k
    · subst e
      rw [va_up_self]
      exact hat
    · rw [va_up_ne _ _ e]
      exact (h2 j hj).kept (ho _ (by show a + j ≠ _; omega))
  · rcases List.mem_append.mp hq with h | h
    · exact h4 q h
    · rw [List.mem_singleton.mp h]
      exact Nat.le_add_right a k
theorem gst.join {D : va_G} {a n k n' : Nat} {f f' : Nat → va_E} {H0 H H1 : Heap} {locs L : List Loc} (h : gst D a n f H0 H locs) (hk : k ≤ n) (h1 : gw D (a + k) n' f' H1) (ho : ∀ q : Nat, q < a + k → H1[q]? = H[q]?) (hL : ∀ q ∈ L, a + k ≤ q.base) : gst D a (k + n') (fun j => if j < k then f j else f' (j - k)) H0 H1 (locs ++ L) := by
  obtain ⟨⟨h1', h2⟩, h3, h4⟩ := h
  refine ⟨⟨by rw [h1.1]; omega, fun j hj => ?_⟩, fun q hq => (ho q (by omega)).trans (h3 q hq), fun q hq => ?_⟩
  · by_cases e : j < k
    · simp only [if_pos e]
      exact (h2 j (by omega)).kept (ho _ (by show a + j < _; omega))
    · simp only [if_neg e]
      have := h1.2 (j - k) (by omega)
      rw [show a + k + (j - k) = a + j by omega] at this
      exact this
  · rcases List.mem_append.mp hq with h | h
    · exact h4 q h
    · have := hL q h
      omega
section GROW
variable {p : Program} {l : Launch} {e : Env} {R : Room} {s : State} {m : MethodId} {args : Array Value} {below : List Frame} {meth : Method} {c : Code} {H H0 : Heap} {locs : List Loc} {cells slots : Nat} {Q : State → Prop}
variable {cc : ByteArray} {pc nL : Nat} {ls : Array Slot} {rest : List Value} {D : va_G} {a n : Nat} {f : Nat → va_E} {tys : List (ClassId × FieldType)} {own : String} {y : MethodName} {by2 : ByteArray} {ny : Nat} {ry : Option FieldType}
theorem g_new (C0 : CallFix p m c cc nL s args (wsT y by2 ny ry) own) (hK : va_K D tcl tys s) (hw : gst D a n f H0 H locs) {Cn : String} {T : u_T} {N ci index : Nat} (hc : tcl[ci]? = some (Cn, T, N)) (hin : ∀ w ∈ u_ws Cn T N, w ∈ gw_tbl) (ty : Nat → FieldType) (hty : ∀ k, k < N → parseFieldDescriptor (T k).2.2.1 = some (ty k)) (hcl : Cond.classLink own index Cn ∈ gw_tbl) (hinst : Cond.instantiable Cn N ∈ gw_tbl) (hini : Cond.initialized Cn ∈ gw_tbl) {fs : List Value} (hfs : ∀ j, j < N → defaultValue (ty j) = vp_V fs j) (hcells : cells + 1 ≤ R.cells) (hslots : slots + N ≤ R.slots) (hdg : decode cc pc = .ok (.new index, 3))
    (kk : ∀ H1 : Heap, gst D a (n + 1) (va_up f n (.inr (ci, fs))) H0 H1 locs → (∀ q : Nat, q < a + n → H1[q]? = H[q]?) → W p l e R s m args below meth c H1 locs (cells + 1) (slots + N) Q (F0 m (pc + 3) ls (.ref (a + n) :: rest))) : W p l e R s m args below meth c H locs cells slots Q (F0 m pc ls rest) := by
  have hts := C0.2.2.2.2
  have hKn := hK.1 ci _ hc
  refine W.newcK C0.1 C0.2.1 C0.2.2.2.1 (hts _ (tb_in hcl)) (hts _ (tb_in hinst)) (hts _ (tb_in hini)) rfl hdg hcells hslots hKn.2.1 hw.1.1 fun H1 kC hkC e1 z1 o1 => ?_
  exact kk H1 (hw.push (by rw [z1, hw.1.1]) (fun q hq => o1 q (by rw [← hw.1.1]; exact hq)) ⟨_, hc, (u_born ty hts (fun w h => tb_in (hin w h)) hKn hkC e1 hty).to hfs⟩) o1
theorem g_newa (C0 : CallFix p m c cc nL s args (wsT y by2 ny ry) own) (hK : va_K D tcl tys s) (hw : gst D a n f H0 H locs) {atype : ArrayType} {cA0 : ClassId} {t0 N : Nat} {x : Int32} {a0 : vp_A} (ht : tys[t0]? = some (cA0, newarray.typeOf atype)) (harr : Cond.arrayClass (newarray.typeOf atype) ∈ gw_tbl) (ha : ∀ cA : ClassId, vp_cell cA a0 = arrV cA N (fun _ => defaultValue (newarray.typeOf atype))) (hn : ¬ x < 0) (hN : x.toNatClampNeg = N) (hbytes : N * componentBytes (newarray.typeOf atype) ≤ 536870912) (hcells : cells + 1 ≤ R.cells) (hslots : slots + N ≤ R.slots) (hdg : decode cc pc = .ok (.newarray atype, 2))
    (kk : ∀ H1 : Heap, gst D a (n + 1) (va_up f n (.inl (cA0, a0))) H0 H1 locs → W p l e R s m args below meth c H1 locs (cells + 1) (slots + N) Q (F0 m (pc + 2) ls (.ref (a + n) :: rest))) : W p l e R s m args below meth c H locs cells slots Q (F0 m pc ls (.int x :: rest)) := by
  have hts := C0.2.2.2.2
  refine va_newaK C0.1 C0.2.1 (hts _ (tb_in harr)) rfl hdg rfl hn hN hbytes hcells hslots hw.1.1 fun H1 cA e1 z1 o1 hAr hNm => ?_
  have hq : cA = cA0 := by
    have h := (hK.2 t0 _ ht).2
    cases atype <;> exact Option.some.inj (hNm.symm.trans h)
  subst hq
  refine kk H1 (hw.push (by rw [z1, hw.1.1]) (fun q hq => o1 q (by rw [← hw.1.1]; exact hq)) ?_)
  show H1[a + n]? = some (vp_cell _ _)
  rw [ha]
  exact e1
theorem g_anew (C0 : CallFix p m c cc nL s args (wsT y by2 ny ry) own) (hK : va_K D tcl tys s) (hw : gst D a n f H0 H locs) {Cn : String} {index : Nat} {cA0 : ClassId} {t0 N : Nat} {x : Int32} (ht : tys[t0]? = some (cA0, .object Cn)) (hover : va_AO Cn s) (hcl : Cond.classLink own index Cn ∈ gw_tbl) (hn : ¬ x < 0) (hN : x.toNatClampNeg = N) (hbytes : N * 4 ≤ 536870912) (hcells : cells + 1 ≤ R.cells) (hslots : slots + N ≤ R.slots) (hdg : decode cc pc = .ok (.anewarray index, 3))
    (kk : ∀ H1 : Heap, gst D a (n + 1) (va_up f n (.inl (cA0, N, .inr (.inr (.inr (.inr (fun _ => none))))))) H0 H1 locs → W p l e R s m args below meth c H1 locs (cells + 1) (slots + N) Q (F0 m (pc + 3) ls (.ref (a + n) :: rest))) : W p l e R s m args below meth c H locs cells slots Q (F0 m pc ls (.int x :: rest)) := by
  have hts := C0.2.2.2.2
  subst hN
  refine W.anew C0.1 C0.2.1 C0.2.2.2.1 (hts _ (tb_in hcl)) (va_AO.use hover) rfl hdg rfl hn hbytes hcells hslots fun cA kA comp f1 f2 f3 f4 => ?_
  have hq : cA = cA0 := by
    obtain ⟨kA', comp', h1, h2, h3, h4⟩ := (hK.2 t0 _ ht).2
    exact Option.some.inj (f1.symm.trans h4)
  subst hq
  have hz := hw.1.1
  rw [show H.size = a + n from hz]
  refine kk _ (hw.push (by rw [Array.size_push]) (fun q hq => by rw [Array.getElem?_push, if_neg (Nat.ne_of_lt hq)]) ?_)
  show (H.push _)[a + n]? = some (vp_cell _ _)
  rw [vp_cell_q, ← hz, Array.getElem?_push_size, ← arrV_new]
  rfl
theorem g_putF (C0 : CallFix p m c cc nL s args (wsT y by2 ny ry) own) (hK : va_K D tcl tys s) (hw : gst D a n f H0 H locs) (hin2 : meth.name = "<init>") {Cn : String} {T : u_T} {N ci index k fi : Nat} {fs : List Value} {v : Value} {ty : FieldType} (hc : tcl[ci]? = some (Cn, T, N)) (hin : ∀ w ∈ u_ws Cn T N, w ∈ gw_tbl) (ty0 : Nat → FieldType) (hty : ∀ k, k < N → parseFieldDescriptor (T k).2.2.1 = some (ty0 k)) (hnm : ∀ a, a < N → ∀ b, b < N → a ≠ b → (T a).2.1 ≠ (T b).2.1) (hk : k < n) (hfk : f k = .inr (ci, fs)) (hf : fi < N) (hlk : Cond.fieldLink own index (T fi).1 (T fi).2.1 (T fi).2.2.1 ∈ gw_tbl) (hfin : (T fi).2.2.2 = true) (hdecl : (T fi).1 = own) (hd : parseFieldDescriptor (T fi).2.2.1 = some ty) (hn : narrow ty v = v) (hfit : fits ty v = true) (hl : fi < fs.length) (hdg : decode cc pc = .ok (.putfield index, 3))
    (kk : ∀ (H1 : Heap) (locs1 : List Loc), gst D a n (va_up f k (.inr (ci, fs.set fi v))) H0 H1 locs1 → W p l e R s m args below meth c H1 locs1 cells slots Q (F0 m (pc + 3) ls rest)) : W p l e R s m args below meth c H locs cells slots Q (F0 m pc ls (v :: .ref (a + k) :: rest)) := by
  have hts := C0.2.2.2.2
  have hin' : ∀ w ∈ u_ws Cn T N, w ∈ wsT y by2 ny ry := fun w h => tb_in (hin w h)
  have hap := va_apart (own := own) hts hin' ty0 hty hnm hK hc
  have hat := hw.1.2 k hk
  rw [hfk] at hat
  obtain ⟨r, h1, cell, q1, q2, q3, q4⟩ := hat
  have hr : r = (Cn, T, N) := Option.some.inj (h1.symm.trans hc)
  subst hr
  obtain ⟨hS, hfc, kC, hkC, hkind⟩ := hK.1 ci _ hc
  obtain ⟨cf, kf, fx, fl, hi, hsl⟩ := hS fi hf
  have hlay := hts _ (hin' _ (u_in_lay hf))
  unfold u_lay at hlay
  rw [if_pos hfin] at hlay
  have hst := (u_facts hfc hkC (u_lays hts hin' hf) hi).1
  have hcf : m.cls = cf := by
    obtain ⟨_, _, c', _, _, _, -, -, hf', -, -, -, hown2, -⟩ := Cond.laysFinal_spec hlay
    have e1 : c' = cf := by have := hi.symm.trans hf'; simp at this; exact this.1.symm
    rw [hdecl] at hown2
    rw [← e1]; exact Option.some.inj (C0.2.2.2.1.symm.trans hown2)
  have h6 := u_fits hfc hkC hkind (Or.inr hlay) hi hd hn hfit
  refine W.putFinK C0.1 C0.2.1 C0.2.2.2.1 (hts _ (tb_in hlk)) hi hst hcf hin2 (by rw [q2]; exact h6) q1 q3 (by rw [hsl]; exact k2_hasslot (q4 fi hf)) rfl rfl hdg fun H' e1 e2 e3 => ?_
  rw [hsl] at e1 ⊢
  exact kk H' _ (hw.put hk e2 e3 ⟨_, hc, t_OB.to (V := updV (vp_V fs) fi v) ⟨_, e1, q2, q3, t_set q4 hap hf v⟩ (fun j _ => vp_updV_set hl v j)⟩)
theorem g_put (C0 : CallFix p m c cc nL s args (wsT y by2 ny ry) own) (hK : va_K D tcl tys s) (hw : gst D a n f H0 H locs) {Cn : String} {T : u_T} {N ci index k fi : Nat} {fs : List Value} {v : Value} {ty : FieldType} (hc : tcl[ci]? = some (Cn, T, N)) (hin : ∀ w ∈ u_ws Cn T N, w ∈ gw_tbl) (ty0 : Nat → FieldType) (hty : ∀ k, k < N → parseFieldDescriptor (T k).2.2.1 = some (ty0 k)) (hnm : ∀ a, a < N → ∀ b, b < N → a ≠ b → (T a).2.1 ≠ (T b).2.1) (hk : k < n) (hfk : f k = .inr (ci, fs)) (hf : fi < N) (hlk : Cond.fieldLink own index (T fi).1 (T fi).2.1 (T fi).2.2.1 ∈ gw_tbl) (hfin : (T fi).2.2.2 = false) (hd : parseFieldDescriptor (T fi).2.2.1 = some ty) (hn : narrow ty v = v) (hfit : fits ty v = true) (hl : fi < fs.length) (hdg : decode cc pc = .ok (.putfield index, 3))
    (kk : ∀ (H1 : Heap) (locs1 : List Loc), gst D a n (va_up f k (.inr (ci, fs.set fi v))) H0 H1 locs1 → W p l e R s m args below meth c H1 locs1 cells slots Q (F0 m (pc + 3) ls rest)) : W p l e R s m args below meth c H locs cells slots Q (F0 m pc ls (v :: .ref (a + k) :: rest)) := by
  have hts := C0.2.2.2.2
  have hin' : ∀ w ∈ u_ws Cn T N, w ∈ wsT y by2 ny ry := fun w h => tb_in (hin w h)
  have hap := va_apart (own := own) hts hin' ty0 hty hnm hK hc
  have hat := hw.1.2 k hk
  rw [hfk] at hat
  obtain ⟨r, h1, cell, q1, q2, q3, q4⟩ := hat
  have hr : r = (Cn, T, N) := Option.some.inj (h1.symm.trans hc)
  subst hr
  obtain ⟨hS, hfc, kC, hkC, hkind⟩ := hK.1 ci _ hc
  obtain ⟨cf, kf, fx, fl, hi, hsl⟩ := hS fi hf
  have hlay := hts _ (hin' _ (u_in_lay hf))
  unfold u_lay at hlay
  rw [if_neg (by rw [hfin]; decide)] at hlay
  have hst := (u_facts hfc hkC (u_lays hts hin' hf) hi).1
  have h6 := u_store hfc hkC hkind hlay hi hd hn hfit
  refine W.putK C0.1 C0.2.1 (f := fl) ⟨C0.2.2.2.1, hts _ (tb_in hlk), ⟨_, _, _, hi⟩, hst⟩ (by rw [q2]; exact h6) q1 q3 (by rw [hsl]; exact k2_hasslot (q4 fi hf)) rfl rfl hdg fun H' e1 e2 e3 => ?_
  rw [hsl] at e1 ⊢
  exact kk H' _ (hw.put hk e2 e3 ⟨_, hc, t_OB.to (V := updV (vp_V fs) fi v) ⟨_, e1, q2, q3, t_set q4 hap hf v⟩ (fun j _ => vp_updV_set hl v j)⟩)
theorem g_get (C0 : CallFix p m c cc nL s args (wsT y by2 ny ry) own) (hK : va_K D tcl tys s) (hw : gst D a n f H0 H locs) {Cn : String} {T : u_T} {N ci index k fi : Nat} {fs : List Value} {v : Value} (hc : tcl[ci]? = some (Cn, T, N)) (hin : ∀ w ∈ u_ws Cn T N, w ∈ gw_tbl) (hk : k < n) (hfk : f k = .inr (ci, fs)) (hf : fi < N) (hlk : Cond.fieldLink own index (T fi).1 (T fi).2.1 (T fi).2.2.1 ∈ gw_tbl) (hv : fs[fi]? = some v) (hdg : decode cc pc = .ok (.getfield index, 3))
    (kk : W p l e R s m args below meth c H locs cells slots Q (F0 m (pc + 3) ls (v :: rest))) : W p l e R s m args below meth c H locs cells slots Q (F0 m pc ls (.ref (a + k) :: rest)) := by
  have hts := C0.2.2.2.2
  have hat := hw.1.2 k hk
  rw [hfk] at hat
  exact va_get C0.1 C0.2.1 hts (fun w h => tb_in (hin w h)) C0.2.2.2.1 hK (qm_one hat) 0 rfl hc fi hf (hts _ (tb_in hlk)) (fun _ h9 => h9) hv hdg kk
theorem g_aast (C0 : CallFix p m c cc nL s args (wsT y by2 ny ry) own) (hK : va_K D tcl tys s) (hw : gst D a n f H0 H locs) {Cn : String} {T : u_T} {N ci k k2 t0 len : Nat} {cA : ClassId} {g : Nat → Option Nat} {fs : List Value} {x : Int32} (hc : tcl[ci]? = some (Cn, T, N)) (hk : k < n) (hfk : f k = .inl (cA, len, .inr (.inr (.inr (.inr g))))) (ht : tys[t0]? = some (cA, .object Cn)) (hk2 : k2 < n) (hf2 : f k2 = .inr (ci, fs)) (hin : vp_in x len) (hdg : decode cc pc = .ok (.aastore, 1))
    (kk : ∀ (H1 : Heap) (locs1 : List Loc), gst D a n (va_up f k (.inl (cA, len, .inr (.inr (.inr (.inr (va_up g x.toNatClampNeg (some (a + k2))))))))) H0 H1 locs1 → W p l e R s m args below meth c H1 locs1 cells slots Q (F0 m (pc + 1) ls rest)) : W p l e R s m args below meth c H locs cells slots Q (F0 m pc ls (.ref (a + k2) :: .int x :: .ref (a + k) :: rest)) := by
  have hat := hw.1.2 k hk
  rw [hfk] at hat
  have hat2 := hw.1.2 k2 hk2
  rw [hf2] at hat2
  obtain ⟨r, h1, cell, g1, g2, g3, g4⟩ := hat2
  have hr : r = (Cn, T, N) := Option.some.inj (h1.symm.trans hc)
  subst hr
  obtain ⟨kA, comp, r1, r2, r3, r4⟩ := (hK.2 t0 _ ht).2
  have hKn := hK.1 ci _ hc
  have hcomp : comp = D.1 ci := Option.some.inj (r3.symm.trans hKn.2.1)
  subst hcomp
  obtain ⟨kC, hkC, -⟩ := hKn.2.2
  have hlt : x.toNatClampNeg < len := Nat.not_le.mp fun q => hin (Or.inr q)
  refine W.aast C0.1 C0.2.1 hat (fun q h => by cases h) (fun h => by cases h) r1 r2 rfl hkC ⟨fun q => hin (Or.inl q), by show _ < (arrV _ _ _).slots.size; rw [arrV_size]; exact hlt⟩ g1 (fun q h => by rw [g3] at h; cases h) (by rw [g2]; exact hkC) (by rw [g2]; exact va_assign hKn.2) rfl rfl hdg fun H1 e z oq => ?_
  refine kk H1 _ (hw.put hk z oq ?_)
  show H1[a + k]? = some (vp_cell _ _)
  rw [e]
  rw [vp_cell_q, vp_cell_q, arrV_store]
  congr 2
  funext q
  by_cases hq : q = x.toNatClampNeg
  · subst hq
    simp [updV, va_up, va_rf]
  · simp [updV, va_up, hq]
end GROW
