/-! arithmetic and texts of the reference -/
theorem lAbs_neg {v : Int64} (h : v < 0) : lAbs v = -v := by
  unfold lAbs
  rw [if_neg (fun q => Int64.lt_irrefl (Int64.lt_trans q h))]
theorem lAbs_pos {v : Int64} (h : 0 ≤ v) : lAbs v = v := by
  unfold lAbs
  by_cases hz : 0 < v
  · rw [if_pos hz]
  · rw [if_neg hz]
    have : v = 0 := Int64.le_antisymm (Int64.not_lt.mp hz) h
    rw [this]
    rfl
set_option maxHeartbeats 1000000 in
theorem xM_arith (E : mEnv) (m : mG) (x op : Int32) (X Y : Int64) (A B : AV) (hx : vp_in x 90) (h0 : mk m (J x) = 0) (hA : A.1 = 2) (hB : B.1 = 2) (eX : A.2.1 = X) (eY : B.2.1 = Y) (hop : op = 5 ∨ op = 6 ∨ op = 7 ∨ op = 8 ∨ op = 9) : mDo E mM_arithmetic [qR 0 0, qI x, qI op, qL X, qL Y] m (J x) (aWhs op A B) := by
  have hw : ∀ v, mSd E mM_setWhole [qR 0 0, qI x, qL v] m none (swM m (J x) v) := fun v => xM_setWhole E m x v hx
  unfold aWhs
  rw [if_neg (by simp [hA, hB]), eX, eY]
  rcases hop with h | h | h | h | h
  · subst h
    rw [if_pos rfl]
    refine ⟨swM m (J x) (X + Y), ?_, mFr_sw _ _ _, mIs_wh _ h0⟩
    refine qm_meth (mOk E) (by decide) rfl rfl (Nat.le_of_ble_eq_true rfl) ?_
    intro p e st mm args below meth c Q C _ _
    exact qm_step (sM_arithmetic E) C 0 9999 100 ([1], [], [(none, swM m (J x) (X + Y))]) ⟨rfl, hw _, rfl, rfl⟩
  · subst h
    rw [if_neg (by decide), if_pos rfl]
    refine ⟨swM m (J x) (X - Y), ?_, mFr_sw _ _ _, mIs_wh _ h0⟩
    refine qm_meth (mOk E) (by decide) rfl rfl (Nat.le_of_ble_eq_true rfl) ?_
    intro p e st mm args below meth c Q C _ _
    exact qm_step (sM_arithmetic E) C 0 9999 100 ([2], [], [(none, swM m (J x) (X - Y))]) ⟨rfl, hw _, rfl, rfl⟩
  · subst h
    rw [if_neg (by decide), if_neg (by decide), if_pos rfl]
    have body : ∀ (p : Program) (e : Env) (st : State) (mm : MethodId) (args : Array Value) (below : List Frame) (meth : Method) (c : Code) (Q : State → Prop) (h' : mG), h' = (if lAbs X = 0 ∨ lAbs Y ≤ 1000000000000000 / lAbs X then swM m (J x) (X * Y) else m) → qm_C (mLa E.2.2.2) mV (mHold E) (mA E.2.2.2) (fun r1 g1 => r1 = none ∧ g1 = h') prog_10_method_30_code 11 yM_arithmetic.cls (wsT yM_arithmetic prog_10_method_30_code 11 none) none p st mm args below meth c Q → qm_W (mLa E.2.2.2) mV (mHold E) (mA E.2.2.2) 11 p E.1 e (rmL 3) st mm args below meth c Q 87 ([some (qR 0 0), some (qI x), some (qI 7), some (qL X), none, some (qL Y), none, some (qL (lAbs X)), none, some (qL (lAbs Y)), none], [], m) := by
      intro p e st mm args below meth c Q h' hh C
      by_cases q1 : lAbs X = 0
      · rw [if_pos (Or.inl q1)] at hh
        exact qm_step (sM_arithmetic E) C 87 9999 100 ([1], [], [(none, swM m (J x) (X * Y))]) ⟨q1, hw _, rfl, hh.symm⟩
      · by_cases q2 : lAbs Y ≤ 1000000000000000 / lAbs X
        · rw [if_pos (Or.inr q2)] at hh
          have q2' : ¬ 1000000000000000 / lAbs X < lAbs Y := Int64.not_lt.mpr q2
          exact qm_step (sM_arithmetic E) C 87 9999 100 ([0, 0], [], [(none, swM m (J x) (X * Y))]) ⟨q1, q1, q2', hw _, rfl, hh.symm⟩
        · rw [if_neg (not_or.mpr ⟨q1, q2⟩)] at hh
          have q2' : 1000000000000000 / lAbs X < lAbs Y := Int64.not_le.mp q2
          exact qm_step (sM_arithmetic E) C 87 9999 100 ([0, 1], [], []) ⟨q1, q1, q2', rfl, hh.symm⟩
    refine ⟨if lAbs X = 0 ∨ lAbs Y ≤ 1000000000000000 / lAbs X then swM m (J x) (X * Y) else m, ?_, ?_, ?_⟩
    · refine qm_meth (mOk E) (by decide) rfl rfl (Nat.le_of_ble_eq_true rfl) ?_
      intro p e st mm args below meth c Q C _ _
      have bd := body p e st mm args below meth c Q _ rfl C
      by_cases q1 : X < 0
      · have q1' : ¬ 0 ≤ X := Int64.not_le.mpr q1
        by_cases q2 : Y < 0
        · have q2' : ¬ 0 ≤ Y := Int64.not_le.mpr q2
          rw [lAbs_neg q1, lAbs_neg q2] at bd
          exact qm_step (sM_arithmetic E) C 0 87 100 ([3, 0, 0], [], []) ⟨rfl, q1', q2', bd⟩
        · have q2' : 0 ≤ Y := Int64.not_lt.mp q2
          rw [lAbs_neg q1, lAbs_pos q2'] at bd
          exact qm_step (sM_arithmetic E) C 0 87 100 ([3, 0, 1], [], []) ⟨rfl, q1', q2', bd⟩
      · have q1' : 0 ≤ X := Int64.not_lt.mp q1
        by_cases q2 : Y < 0
        · have q2' : ¬ 0 ≤ Y := Int64.not_le.mpr q2
          rw [lAbs_pos q1', lAbs_neg q2] at bd
          exact qm_step (sM_arithmetic E) C 0 87 100 ([3, 1, 0], [], []) ⟨rfl, q1', q2', bd⟩
        · have q2' : 0 ≤ Y := Int64.not_lt.mp q2
          rw [lAbs_pos q1', lAbs_pos q2'] at bd
          exact qm_step (sM_arithmetic E) C 0 87 100 ([3, 1, 1], [], []) ⟨rfl, q1', q2', bd⟩
    · split
      · exact mFr_sw _ _ _
      · exact mFr_rfl _ _
    · split
      · exact mIs_wh _ h0
      · exact mIs_0 h0
  · subst h
    rw [if_neg (by decide), if_neg (by decide), if_neg (by decide)]
    by_cases q : Y = 0
    · rw [if_pos q]
      refine ⟨m, ?_, mFr_rfl _ _, mIs_0 h0⟩
      refine qm_meth (mOk E) (by decide) rfl rfl (Nat.le_of_ble_eq_true rfl) ?_
      intro p e st mm args below meth c Q C _ _
      exact qm_step (sM_arithmetic E) C 0 9999 100 ([4, 1], [], []) ⟨rfl, q, rfl, rfl⟩
    · rw [if_neg q, if_pos rfl]
      refine ⟨swM m (J x) (X / Y), ?_, mFr_sw _ _ _, mIs_wh _ h0⟩
      refine qm_meth (mOk E) (by decide) rfl rfl (Nat.le_of_ble_eq_true rfl) ?_
      intro p e st mm args below meth c Q C _ _
      exact qm_step (sM_arithmetic E) C 0 9999 100 ([4, 0], [], [(none, swM m (J x) (X / Y))]) ⟨rfl, q, q, hw _, rfl, rfl⟩
  · subst h
    rw [if_neg (by decide), if_neg (by decide), if_neg (by decide)]
    by_cases q : Y = 0
    · rw [if_pos q]
      refine ⟨m, ?_, mFr_rfl _ _, mIs_0 h0⟩
      refine qm_meth (mOk E) (by decide) rfl rfl (Nat.le_of_ble_eq_true rfl) ?_
      intro p e st mm args below meth c Q C _ _
      exact qm_step (sM_arithmetic E) C 0 9999 100 ([0, 1], [], []) ⟨by decide, q, rfl, rfl⟩
    · rw [if_neg q, if_neg (by decide)]
      refine ⟨swM m (J x) (X - X / Y * Y), ?_, mFr_sw _ _ _, mIs_wh _ h0⟩
      refine qm_meth (mOk E) (by decide) rfl rfl (Nat.le_of_ble_eq_true rfl) ?_
      intro p e st mm args below meth c Q C _ _
      exact qm_step (sM_arithmetic E) C 0 9999 100 ([0, 0], [], [(none, swM m (J x) (X - X / Y * Y))]) ⟨by decide, q, q, hw _, rfl, rfl⟩
/-- bytes turned in place -/
def rz (z : mG) (e : Nat) (f : Int32 → Int32) : Nat → mG
  | 0 => z
  | k + 1 => mbW (rz z e f k) 1 (24 * e + k) (f (mb (rz z e f k) (24 * e + k)))
theorem rz_fr (z : mG) (e : Nat) (f : Int32 → Int32) : ∀ k, k ≤ 24 → mFr e z (rz z e f k)
  | 0, _ => mFr_rfl _ _
  | k + 1, h => mFr_tr (rz_fr z e f k (by omega)) (mFr_b _ _ _ (by omega) _)
theorem rz_i (z : mG) (e : Nat) (f : Int32 → Int32) : ∀ k, (rz z e f k).2.1 = z.2.1 ∧ (rz z e f k).2.2.2 = z.2.2.2
  | 0 => ⟨rfl, rfl⟩
  | k + 1 => rz_i z e f k
theorem rz_b (z : mG) (e : Nat) (f : Int32 → Int32) : ∀ k q, mb (rz z e f k) (24 * e + q) = if q < k then b8 (f (mb z (24 * e + q))) else mb z (24 * e + q)
  | 0, q => by rw [if_neg (by omega)]; rfl
  | k + 1, q => by
    show (mbW _ 1 (24 * e + k) _).2.2.1 1 _ = _
    rw [rB]
    by_cases hq : q = k
    · subst hq
      rw [if_pos ⟨rfl, rfl⟩, if_pos (by omega), rz_b z e f q q, if_neg (by omega)]
    · rw [if_neg (by omega)]
      have := rz_b z e f k q
      rw [show (rz z e f k).2.2.1 1 (24 * e + q) = mb (rz z e f k) (24 * e + q) from rfl, this]
      by_cases h2 : q < k
      · rw [if_pos h2, if_pos (by omega)]
      · rw [if_neg h2, if_neg (by omega)]
def upF (lo hi : Int64) (x : Int32) : Int32 := if ¬ x.toInt64 < lo ∧ ¬ hi < x.toInt64 then x ^^^ 32 else x
theorem up1 : ∀ n, n < 127 → 32 ≤ n → (upF 97 122 (nI n) = rsF 97 (-32) (nI n) ∧ upF 65 90 (nI n) = rsF 65 32 (nI n)) := by decide +kernel
/-- what texts needs of a value -/
theorem mIs_rz {m : mG} {a e : Nat} {t : Int32} (f : Int32 → Int32) (h : a ≠ e) (h3 : mk m a = 3) (g : mGd m a) : mIs (rz (prM m a e 0 (mN m a) t) e f (mN m a)) e (aTx t ((mVA m a).2.2.2.map f)) := by
  obtain ⟨o1, o2, o3, o4, o5, o6⟩ := mVA_tx h3 g
  have hp := mIs_pr (t := t) (s := 0) (r := mN m a) h h3 g (by omega)
  obtain ⟨i1, i2⟩ := rz_i (prM m a e 0 (mN m a) t) e f (mN m a)
  have kk : mk (prM m a e 0 (mN m a) t) e = 3 := by
    show (miW _ 5 e t).2.1 4 e = _
    rw [rI, if_neg (fun q => absurd q.1 (by decide))]
    exact setS_k _ _ _ _
  have tt : mtg (prM m a e 0 (mN m a) t) e = t := by
    show (miW _ 5 e t).2.1 5 e = _
    rw [rI, if_pos ⟨rfl, rfl⟩]
  have nn : mn (prM m a e 0 (mN m a) t) e = lN (mN m a) := setS_n _ _ _ _
  have k2 : mk (rz (prM m a e 0 (mN m a) t) e f (mN m a)) e = 3 := (congrFun (congrFun i1 4) e).trans kk
  have t2 : mtg (rz (prM m a e 0 (mN m a) t) e f (mN m a)) e = t := (congrFun (congrFun i1 5) e).trans tt
  have n2 : mn (rz (prM m a e 0 (mN m a) t) e f (mN m a)) e = lN (mN m a) := (congrFun (congrFun i2 1) e).trans nn
  refine ⟨?_, fun _ => ⟨mN m a, o1, n2⟩, fun _ q => absurd k2 q⟩
  rw [(mVA_3 k2 o1 n2).2, t2]
  have hl : ((mVA m a).2.2.2.map f).length = mN m a := by rw [List.length_map]; exact o2
  unfold aTx
  rw [hl, if_pos o1]
  congr 3
  rw [← aPart_all, o2]
  unfold aPart
  rw [List.map_map, List.map_map]
  apply List.map_congr_left
  intro k hk
  rw [List.mem_range'_1] at hk
  rw [rz_b, if_pos (by omega)]
  show b8 (f (mb (spB m a e 0 (mN m a)) (24 * e + k))) = b8 (f (bA (mVA m a) k))
  rw [spB_b m h (mN m a) (by omega) k (by omega), Nat.zero_add, (o4 k (by omega)).1, okB_8 (o4 k (by omega)).2]
