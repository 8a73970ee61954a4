section BackX
variable {p : Program} {l : Launch} {e : Env} {R : Room} {s : State} {m : MethodId} {args : Array Value} {below : List Frame} {meth : Method} {c : Code} {U : State} {locs : List Loc} {cells slots : Nat}
/-- a call whose callee throws: the exception's note lies over the caller's frame -/
theorem q_backX {Γ : qG} {sz r : Nat} {Q : qO → qS → Prop} {y : MethodName} {Sp : Spec} {P : Array Value → State → Prop} {K : Program → Env → List Frame → State → Array Value → Prop} (hM : MetFree l y Sp P K (q_X Γ sz r Q))
    (X : Stand p l e R s m args below meth c U locs cells slots) {g : JFrame} (hg : g.method = m) (hsize : g.locals.size = c.maxLocals) {ig : Instr} {len : Nat} (hdg : decode c.code g.pc = .ok (ig, len)) {mk : MethodId} {a : Array Value} {bytes : ByteArray} {maxL : Nat} {ret : Option FieldType}
    (hn : U.methodNamed? y = some mk) (hcode : (Cond.code y bytes maxL ret).before a U = true) (hinit : (Cond.initialized y.cls).before a U = true) (hpre : Sp.pre.before a U = true)
    (hframes : Sp.room.frames + 1 ≤ R.frames) (hlocals : 2 * g.monitorRoom + (g.stack.map fun v => v.category).sum + (maxL + 11) + Sp.room.locals ≤ R.locals) (hcells : cells + Sp.room.cells ≤ R.cells) (hslots : slots + Sp.room.slots ≤ R.slots)
    (hP : P a (U.calling g mk a)) (hK : K p e (U.setTop g).frames (U.calling g mk a) a) :
    ∃ (ec : Nat) (S : qS) (adr : Addr) (cell : Cell) (T' : State) (L : List Loc), Q (.inr ec) S ∧ Stand p l e R s m args below meth c T' (locs ++ L) (cells + r) (slots + 8 * r) ∧ (∀ q ∈ L, q_A Γ sz q.base) ∧ T'.heap[adr]? = some cell ∧ (∀ k, cell.vm ≠ .statics k) ∧ T'.vm.findClass (q_exn ec) = some cell.cls ∧
      va_P Γ.1 vwCl (q_ws Γ S) T'.heap ∧ va_D (q_A Γ sz) (q_ws Γ S) ∧ U.heap.size ≤ T'.heap.size ∧ (∀ q : Nat, q < U.heap.size → ¬ q_A Γ sz q → T'.heap[q]? = U.heap[q]?) ∧
      Steps p.tables e below (doInvoke e (U.setTop g) [] mk a).1 ((T'.setTop g).pushFrame (.throwing adr)) := by
  obtain ⟨methY, cY, hmY, hcY, -, hlY, -, -, -, -⟩ := Cond.code_spec hn hcode
  obtain ⟨kY, hkY, -⟩ := className_of_methodNamed hn
  have hinitY : kY.init = .initialized := Cond.initialized_spec (findClass_of_methodNamed hn) hkY hinit
  have h : At U g.method c below := by rw [hg]; exact X.here
  have happ : Sp.appliesLoose y e.platform (U.calling g mk a) = true :=
    Spec.appliesLoose_calling (g := g) h hdg hn hkY hinitY (X.room_calling (g := g) (R' := Sp.room) hsize hmY hcY hframes (by rw [hlY]; omega) hcells hslots) hpre
  obtain ⟨mid, hmid⟩ := h.above
  have hfr : (U.setTop g).frames = (.java g :: mid) ++ below := by rw [State.frames_setTop' g h.top, hmid]; rfl
  obtain ⟨o, t, hsteps, -, hend, ec, S, adr, cell, q0, rfl, hW2, ⟨L, ⟨e2, r2, r3, r4, r5, r6⟩, hL⟩, z1, z2, z3, z4, z5, z6, z7⟩ := Steps.callFree hM p X.admits X.cas X.clock (acts := []) hfr happ hP hK
  rw [State.frames_setTop' g h.top] at hend
  have hf2 : t.frames = .throwing adr :: .java g :: U.frames.tail := hend
  obtain ⟨g0, hg0⟩ := Option.isSome_iff_exists.mp h.top
  obtain ⟨fs, hfs⟩ := State.topJava?_eq_some.mp hg0
  have hWU : U.WarmedH t.vm := hW2
  have e3 : t = ({ (U.calling g mk a).setFrames t.frames with heap := t.heap, slotsUsed := t.slotsUsed } : State).setVm t.vm := by
    have h9 : t = ({ t with vm := (U.calling g mk a).vm } : State).setVm t.vm := rfl
    have e4 : ({ t with vm := (U.calling g mk a).vm } : State) = { (U.calling g mk a).setFrames t.frames with heap := t.heap, slotsUsed := t.slotsUsed } := e2
    rw [e4] at h9
    exact h9
  have hst : t = ((({ U with heap := t.heap, slotsUsed := t.slotsUsed } : State).setVm t.vm).setTop g).pushFrame (.throwing adr) := by
    have hfs' : (({ U with heap := t.heap, slotsUsed := t.slotsUsed } : State).setVm t.vm).frames = .java g0 :: fs := hfs
    refine e3.trans ?_
    rw [hf2, State.calling_eq h.top, State.setFrames_setFrames, State.pushFrame, State.frames_setTop _ hfs', State.setTop_of_frames _ hfs', State.setFrames_setFrames, hfs]
    rfl
  have hsame : U.sameButNew ({ U with heap := t.heap, slotsUsed := t.slotsUsed } : State) L r (8 * r) := by
    refine ⟨?_, r2, r3, r4, r5, r6⟩
    obtain ⟨th, hth, -⟩ := State.frames_cons hfs
    show ({ U with heap := t.heap, slotsUsed := t.slotsUsed } : State) = { U.setFrames U.frames with heap := t.heap, slotsUsed := t.slotsUsed }
    rw [State.setFrames_self hth]
  subst hg
  refine ⟨ec, S, adr, cell, (({ U with heap := t.heap, slotsUsed := t.slotsUsed } : State).setVm t.vm), L, q0,
    ⟨X.admits, X.cas, X.clock, X.frames, X.room, X.hears, X.method, X.code, (X.here.setHeapUsed t.heap t.slotsUsed).setVm hWU.alike, X.tail, State.WarmedH.trans X.warmed hWU, X.limits, X.bytes, X.same.trans (hsame.setVm s.vm)⟩, hL, z1, z2, z3, z4, z5, z6, z7, ?_⟩
  rw [← hst]
  exact hsteps
end BackX
