abbrev q_hh (c : Code) : List (Nat × Nat × Nat × Nat) := c.exceptionTable.toList.map (fun h => (h.startPc, h.endPc, h.handlerPc, h.catchType))
/-- as V, of a method with clauses hh -/
def VH (l : Launch) (Γ : qG) (T : qT) (hh : List (Nat × Nat × Nat × Nat)) (d r pc : Nat) (ls st : List Value) (S : qS) (Q : qO → qS → Prop) : Prop :=
  ∀ (A : Nat → Prop) (p : Program) (e : Env) (R : Room) (s : State) (m : MethodId) (args : Array Value) (below : List Frame) (meth : Method) (c : Code) (H : Heap) (locs : List Loc) (cells slots : Nat) (Lr : Array Slot),
    q_ok T = true → q_C Γ A T d p R s m args meth c → q_W Γ A s S H locs → q_lh Γ.2.2.1 ls T.2.2.1 Lr → cells + r ≤ R.cells → slots + 8 * r ≤ R.slots → q_hh c = hh →
    W p l e R s m args below meth c H locs cells slots (q_E Γ A Q below args s R) (F0 m pc Lr (st.map (q_v Γ.2.2.1)))
theorem VH.of {l : Launch} {Γ : qG} {T : qT} {hh : List (Nat × Nat × Nat × Nat)} {d r pc : Nat} {ls st : List Value} {S : qS} {Q : qO → qS → Prop} (h : V l Γ T d r pc ls st S Q) : VH l Γ T hh d r pc ls st S Q :=
  fun A p e R s m args below meth c H locs cells slots Lr hok hC hW hL hc1 hc2 _ => h A p e R s m args below meth c H locs cells slots Lr hok hC hW hL hc1 hc2
section Hand
variable {l : Launch} {Γ : qG} {T T2 : qT} {d r d2 r2 pc μ n o index : Nat} {ls As rest : List Value} {S : qS} {Q Q2 : qO → qS → Prop}
/-- behind a clause: astore, iconst, ireturn -/
theorem q_handler {A : Nat → Prop} {p : Program} {e : Env} {R : Room} {s : State} {m : MethodId} {args : Array Value} {below : List Frame} {meth : Method} {c : Code} {H : Heap} {locs : List Loc} {cells slots : Nat} {Lr : Array Slot} {adr hpc ln : Nat} {z : Int} {a1 b1 a2 b2 : Nat}
    (hok : q_ok T = true) (hC : q_C Γ A T d p R s m args meth c) (hW : q_W Γ A s S H locs) (hL : q_lh Γ.2.2.1 ls T.2.2.1 Lr) (hc1 : cells ≤ R.cells) (hc2 : slots ≤ R.slots)
    (h0 : (∃ (k : Fin 4) (a0 b0 : Nat), q_ft T.2.2.2.2 hpc = some (.astore_n k, 1, a0, b0) ∧ k.val < T.2.2.1 ∧ ln = 1) ∨ ∃ (k a0 b0 : Nat), q_ft T.2.2.2.2 hpc = some (.astore k, 2, a0, b0) ∧ k < T.2.2.1 ∧ ln = 2) (h1 : q_ft T.2.2.2.2 (hpc + ln) = some (.iconst z, 1, a1, b1)) (h2 : q_ft T.2.2.2.2 (hpc + ln + 1) = some (.ireturn, 1, a2, b2)) (hrt : T.2.2.2.1 = some .int) (hq : Q (.inl (some (.int (iI z)))) S) :
    W p l e R s m args below meth c H locs cells slots (q_E Γ A Q below args s R) (F0 m hpc Lr [.ref adr]) := by
  have d1 := (q_ok_at hok h1).1
  have d2 := (q_ok_at hok h2).1
  dsimp only at d1 d2
  obtain ⟨hx, hb, hml, hr, hlk, hown, hts, hK, hA, hfr, hlo, hnm⟩ := hC
  rcases h0 with ⟨k, a0, b0, h0, hk, rfl⟩ | ⟨k, a0, b0, h0, hk, rfl⟩
  · have d0 := (q_ok_at hok h0).1
    dsimp only at d0
    refine lv_astore_n hx hb d0 rfl hL.has hk rfl (fun L2 _ => ?_)
    refine lv_iconst hx hb d1 rfl ?_
    exact q_end hc1 hc2 (W.iret hx hb (hr.trans hrt) (fun t ht _ => q_back hW ht hq) hW.2.2.2.2 d2 hlk)
  · have d0 := (q_ok_at hok h0).1
    dsimp only at d0
    refine lv_astore hx hb d0 hL.has hk rfl (fun L2 _ => ?_)
    refine lv_iconst hx hb d1 rfl ?_
    exact q_end hc1 hc2 (W.iret hx hb (hr.trans hrt) (fun t ht _ => q_back hW ht hq) hW.2.2.2.2 d2 hlk)
theorem q_handA {A : Nat → Prop} {p : Program} {e : Env} {R : Room} {s : State} {m : MethodId} {args : Array Value} {below : List Frame} {meth : Method} {c : Code} {locs : List Loc} {cells slots : Nat} {Lr : Array Slot} {adr : Nat} {cell : Cell} {T' : State} {st : List Value} {ec lo hi hpc i ln : Nat} {tl : List (Nat × Nat × Nat × Nat)} {z : Int} {a1 b1 a2 b2 : Nat}
    (hok : q_ok T = true) (hC : q_C Γ A T d p R s m args meth c) (hW : q_W Γ A s S T'.heap locs) (hL : q_lh Γ.2.2.1 ls T.2.2.1 Lr) (hc1 : cells ≤ R.cells) (hc2 : slots ≤ R.slots) (X : Stand p l e R s m args below meth c T' locs cells slots)
    (hcell : T'.heap[adr]? = some cell) (hobj : ∀ k, cell.vm ≠ .statics k) (hfc : s.vm.findClass (q_exn ec) = some cell.cls) (hw : Cond.classLink T.1.cls i (q_exn ec) ∈ WG) (hh : q_hh c = (lo, hi, hpc, i) :: tl) (hlo1 : lo ≤ pc) (hhi : pc < hi) (hi0 : i ≠ 0)
    (h0 : (∃ (k : Fin 4) (a0 b0 : Nat), q_ft T.2.2.2.2 hpc = some (.astore_n k, 1, a0, b0) ∧ k.val < T.2.2.1 ∧ ln = 1) ∨ ∃ (k a0 b0 : Nat), q_ft T.2.2.2.2 hpc = some (.astore k, 2, a0, b0) ∧ k < T.2.2.1 ∧ ln = 2) (h1 : q_ft T.2.2.2.2 (hpc + ln) = some (.iconst z, 1, a1, b1)) (h2 : q_ft T.2.2.2.2 (hpc + ln + 1) = some (.ireturn, 1, a2, b2)) (hrt : T.2.2.2.1 = some .int) (hq : Q (.inl (some (.int (iI z)))) S) :
    ∃ t, Steps p.tables e below ((T'.setTop (F0 m pc Lr st)).pushFrame (.throwing adr)) t ∧ q_E Γ A Q below args s R t := by
  obtain ⟨x, xs, hx0, hx1, -⟩ := List.map_eq_cons_iff.mp hh
  simp only [Prod.mk.injEq] at hx1
  obtain ⟨e1, e2, e3, e4⟩ := hx1
  have hcov : covers x (F0 m pc Lr st).pc = true := by
    show (decide (x.startPc ≤ pc) && decide (pc < x.endPc)) = true
    rw [e1, e2, decide_eq_true hlo1, decide_eq_true hhi]
    rfl
  obtain ⟨vm', X2, hst⟩ := q_catchA X hC.2.2.2.2.2.1 (hC.2.2.2.2.2.2.1 _ hw) hcell hobj hfc (q_asg_self _ _) (g := F0 m pc Lr st) rfl hx0 hcov (by rw [e4]; exact hi0) e4
  rw [e3] at hst
  obtain ⟨t, a1, b1⟩ := q_handler (adr := adr) (l := l) (e := e) (below := below) hok hC hW hL hc1 hc2 h0 h1 h2 hrt hq (T'.setVm vm') rfl X2
  exact ⟨t, hst t a1, b1⟩
theorem q_handB {A : Nat → Prop} {p : Program} {e : Env} {R : Room} {s : State} {m : MethodId} {args : Array Value} {below : List Frame} {meth : Method} {c : Code} {locs : List Loc} {cells slots : Nat} {Lr : Array Slot} {adr : Nat} {cell : Cell} {T' : State} {st : List Value} {ec ec1 lo hi hpc1 hpc i1 i lo2 hi2 ln : Nat} {tl : List (Nat × Nat × Nat × Nat)} {z : Int} {a1 b1 a2 b2 : Nat}
    (hok : q_ok T = true) (hC : q_C Γ A T d p R s m args meth c) (hW : q_W Γ A s S T'.heap locs) (hL : q_lh Γ.2.2.1 ls T.2.2.1 Lr) (hc1 : cells ≤ R.cells) (hc2 : slots ≤ R.slots) (X : Stand p l e R s m args below meth c T' locs cells slots)
    (hcell : T'.heap[adr]? = some cell) (hobj : ∀ k, cell.vm ≠ .statics k) (hfc : s.vm.findClass (q_exn ec) = some cell.cls) (hno : ∀ c1, s.vm.findClass (q_exn ec1) = some c1 → s.vm.assignable cell.cls c1 = false) (hw1 : Cond.classLink T.1.cls i1 (q_exn ec1) ∈ WG) (hw : Cond.classLink T.1.cls i (q_exn ec) ∈ WG) (hh : q_hh c = (lo, hi, hpc1, i1) :: (lo2, hi2, hpc, i) :: tl) (hlo1 : lo ≤ pc) (hhi : pc < hi) (hlo2 : lo2 ≤ pc) (hhi2 : pc < hi2) (hi1 : i1 ≠ 0) (hi0 : i ≠ 0)
    (h0 : (∃ (k : Fin 4) (a0 b0 : Nat), q_ft T.2.2.2.2 hpc = some (.astore_n k, 1, a0, b0) ∧ k.val < T.2.2.1 ∧ ln = 1) ∨ ∃ (k a0 b0 : Nat), q_ft T.2.2.2.2 hpc = some (.astore k, 2, a0, b0) ∧ k < T.2.2.1 ∧ ln = 2) (h1 : q_ft T.2.2.2.2 (hpc + ln) = some (.iconst z, 1, a1, b1)) (h2 : q_ft T.2.2.2.2 (hpc + ln + 1) = some (.ireturn, 1, a2, b2)) (hrt : T.2.2.2.1 = some .int) (hq : Q (.inl (some (.int (iI z)))) S) :
    ∃ t, Steps p.tables e below ((T'.setTop (F0 m pc Lr st)).pushFrame (.throwing adr)) t ∧ q_E Γ A Q below args s R t := by
  obtain ⟨x, xs, hx0, hx1, hxs⟩ := List.map_eq_cons_iff.mp hh
  obtain ⟨y, ys, hy0, hy1, -⟩ := List.map_eq_cons_iff.mp hxs
  subst hy0
  simp only [Prod.mk.injEq] at hx1 hy1
  obtain ⟨e1, e2, e3, e4⟩ := hx1
  obtain ⟨f1, f2, f3, f4⟩ := hy1
  have hcov : covers x (F0 m pc Lr st).pc = true := by
    show (decide (x.startPc ≤ pc) && decide (pc < x.endPc)) = true
    rw [e1, e2, decide_eq_true hlo1, decide_eq_true hhi]
    rfl
  have hcov2 : covers y (F0 m pc Lr st).pc = true := by
    show (decide (y.startPc ≤ pc) && decide (pc < y.endPc)) = true
    rw [f1, f2, decide_eq_true hlo2, decide_eq_true hhi2]
    rfl
  obtain ⟨vm', X2, hst⟩ := q_catchB X hC.2.2.2.2.2.1 (hC.2.2.2.2.2.2.1 _ hw1) (hC.2.2.2.2.2.2.1 _ hw) hcell hobj hfc hno (q_asg_self _ _) (g := F0 m pc Lr st) rfl hx0 hcov hcov2 (by rw [e4]; exact hi1) (by rw [f4]; exact hi0) e4 f4
  rw [f3] at hst
  obtain ⟨t, a1, b1⟩ := q_handler (adr := adr) (l := l) (e := e) (below := below) hok hC hW hL hc1 hc2 h0 h1 h2 hrt hq (T'.setVm vm') rfl X2
  exact ⟨t, hst t a1, b1⟩
end Hand
