section CatchRow
variable {p : Program} {l : Launch} {e : Env} {R : Room} {s : State} {m : MethodId} {args : Array Value} {below : List Frame} {meth : Method} {c : Code} {T : State} {locs : List Loc} {cells slots : Nat}
/-- the first clause takes the exception -/
theorem q_catchA (X : Stand p l e R s m args below meth c T locs cells slots) {own name : String} {index : Nat} (hown : s.vm.findClass own = some m.cls) (hlink : (Cond.classLink own index name).before args s = true)
    {a : Addr} {cell : Cell} {cT : ClassId} (hcell : T.heap[a]? = some cell) (hobj : ∀ k, cell.vm ≠ .statics k) (hcT : s.vm.findClass name = some cT) (hasg : s.vm.assignable cell.cls cT = true) {g : JFrame} (hg : g.method = m)
    {x : ExceptionTableEntry} {tl : List ExceptionTableEntry} (htab : c.exceptionTable.toList = x :: tl) (hcov : covers x g.pc = true) (h0 : x.catchType ≠ 0) (hidx : x.catchType = index) :
    ∃ vm', Stand p l e R s m args below meth c (T.setVm vm') locs cells slots ∧ ∀ target, Steps p.tables e below ((T.setVm vm').setTop { g with pc := x.handlerPc, stack := [.ref a] }) target → Steps p.tables e below ((T.setTop g).pushFrame (.throwing a)) target := by
  have hpl : e.platform.magicAccessors = ({} : Platform).magicAccessors := by rw [X.admits.platform]
  obtain ⟨c', hc', hcl⟩ := Cond.classLink_spec hown hlink e.platform hpl
  cases hcT.symm.trans hc'
  obtain ⟨dk, _, _, kt, hd, _, _, _, _, hkt, _, hop⟩ := hcl.here
  obtain ⟨ks, hks⟩ := Vm.classAt_of_assignable hasg ⟨kt, hkt⟩
  have hcl₀ := X.warmed.classLinks hcl
  have hW' : s.WarmedH (T.vm.noted m.cls index (.cls cT)) := X.warmed.noted hd hop (State.rightAt_cls hcl)
  obtain ⟨ks', hks', -⟩ := hW'.alike.2.2 _ _ hks
  obtain ⟨kt', hkt', -⟩ := hW'.alike.2.2 _ _ hkt
  refine ⟨_, X.noted hW', fun target hrest => ?_⟩
  subst hg
  subst hidx
  refine q_caught X.here (pc := x.handlerPc) (vm' := T.vm.noted g.method.cls x.catchType (.cls cT)) (fun Q E d acts => ?_) hrest
  have hm1 : ((T.setTop g).pushFrame (.throwing a)).vm.method? g.method = some meth := X.method'
  rw [W.findHandler_eq hm1 X.code, htab, q_goCold (s := ((T.setTop g).pushFrame (.throwing a))) (vm' := T.vm.noted g.method.cls x.catchType (.cls cT)) hcov h0 (resolveClass_links e.toSetting hcl₀) hcl₀.ready (Nat.le_of_eq (Vm.size_note _ _ _ _)),
    W.findHandler_go_class (s := ((T.setTop g).pushFrame (.throwing a)).setVm (T.vm.noted g.method.cls x.catchType (.cls cT))) (c := cT) (cell := cell) hcov h0 hcl₀.ready hcell hobj ⟨ks', hks'⟩ ⟨kt', hkt'⟩, if_pos]
  have h1 : (T.vm.noted g.method.cls x.catchType (Resolved.cls cT)).assignable cell.cls cT = true := by rw [hW'.alike.assignable]; exact hasg
  exact h1
/-- the first clause does not fit, the second takes it -/
theorem q_catchB (X : Stand p l e R s m args below meth c T locs cells slots) {own name1 name2 : String} {i1 i2 : Nat} (hown : s.vm.findClass own = some m.cls) (hlink1 : (Cond.classLink own i1 name1).before args s = true) (hlink2 : (Cond.classLink own i2 name2).before args s = true)
    {a : Addr} {cell : Cell} {c2 : ClassId} (hcell : T.heap[a]? = some cell) (hobj : ∀ k, cell.vm ≠ .statics k) (hc2 : s.vm.findClass name2 = some c2) (hno0 : ∀ c1, s.vm.findClass name1 = some c1 → s.vm.assignable cell.cls c1 = false) (hasg : s.vm.assignable cell.cls c2 = true) {g : JFrame} (hg : g.method = m)
    {x y : ExceptionTableEntry} {tl : List ExceptionTableEntry} (htab : c.exceptionTable.toList = x :: y :: tl) (hcov : covers x g.pc = true) (hcov2 : covers y g.pc = true) (h0 : x.catchType ≠ 0) (h02 : y.catchType ≠ 0) (hidx : x.catchType = i1) (hidx2 : y.catchType = i2) :
    ∃ vm', Stand p l e R s m args below meth c (T.setVm vm') locs cells slots ∧ ∀ target, Steps p.tables e below ((T.setVm vm').setTop { g with pc := y.handlerPc, stack := [.ref a] }) target → Steps p.tables e below ((T.setTop g).pushFrame (.throwing a)) target := by
  have hpl : e.platform.magicAccessors = ({} : Platform).magicAccessors := by rw [X.admits.platform]
  obtain ⟨c1, hc', hcl⟩ := Cond.classLink_spec hown hlink1 e.platform hpl
  have hno := hno0 c1 hc'
  obtain ⟨d', hd', hdl⟩ := Cond.classLink_spec hown hlink2 e.platform hpl
  cases hc2.symm.trans hd'
  obtain ⟨dk, _, _, kt, hd, _, _, _, _, hkt, _, hop⟩ := hcl.here
  obtain ⟨ek, _, _, jt, he, _, _, _, _, hjt, _, hop2⟩ := hdl.here
  obtain ⟨ks, hks⟩ := Vm.classAt_of_assignable hasg ⟨jt, hjt⟩
  have hcl₀ := X.warmed.classLinks hcl
  have hW1 : s.WarmedH (T.vm.noted m.cls i1 (.cls c1)) := X.warmed.noted hd hop (State.rightAt_cls hcl)
  have X1 := X.noted hW1
  have hdl₀ := X1.warmed.classLinks hdl
  have hW2 : s.WarmedH ((T.vm.noted m.cls i1 (.cls c1)).noted m.cls i2 (.cls c2)) := X1.warmed.noted he hop2 (State.rightAt_cls hdl)
  obtain ⟨ks1, hks1, -⟩ := hW1.alike.2.2 _ _ hks
  obtain ⟨kt1, hkt1, -⟩ := hW1.alike.2.2 _ _ hkt
  obtain ⟨ks2, hks2, -⟩ := hW2.alike.2.2 _ _ hks
  obtain ⟨kt2, hkt2, -⟩ := hW2.alike.2.2 _ _ hjt
  refine ⟨(T.vm.noted m.cls i1 (.cls c1)).noted m.cls i2 (.cls c2), X1.noted hW2, fun target hrest => ?_⟩
  subst hg
  subst hidx
  subst hidx2
  refine q_caught X.here (pc := y.handlerPc) (vm' := (T.vm.noted g.method.cls x.catchType (.cls c1)).noted g.method.cls y.catchType (.cls c2)) (fun Q E d acts => ?_) hrest
  have hm1 : ((T.setTop g).pushFrame (.throwing a)).vm.method? g.method = some meth := X.method'
  have h1 : (T.vm.noted g.method.cls x.catchType (Resolved.cls c1)).assignable cell.cls c1 = false := by rw [hW1.alike.assignable]; exact hno
  have h2 : ((T.vm.noted g.method.cls x.catchType (Resolved.cls c1)).noted g.method.cls y.catchType (Resolved.cls c2)).assignable cell.cls c2 = true := by rw [hW2.alike.assignable]; exact hasg
  rw [W.findHandler_eq hm1 X.code, htab, q_goCold (s := ((T.setTop g).pushFrame (.throwing a))) (vm' := T.vm.noted g.method.cls x.catchType (.cls c1)) hcov h0 (resolveClass_links e.toSetting hcl₀) hcl₀.ready (Nat.le_of_eq (Vm.size_note _ _ _ _)),
    W.findHandler_go_class (s := ((T.setTop g).pushFrame (.throwing a)).setVm (T.vm.noted g.method.cls x.catchType (.cls c1))) (c := c1) (cell := cell) hcov h0 hcl₀.ready hcell hobj ⟨ks1, hks1⟩ ⟨kt1, hkt1⟩, if_neg (by intro z; exact absurd (z.symm.trans h1) (by decide)),
    q_goCold (s := ((T.setTop g).pushFrame (.throwing a)).setVm (T.vm.noted g.method.cls x.catchType (.cls c1))) (vm' := (T.vm.noted g.method.cls x.catchType (.cls c1)).noted g.method.cls y.catchType (.cls c2)) hcov2 h02 (resolveClass_links e.toSetting hdl₀) hdl₀.ready (Nat.le_of_eq (Vm.size_note _ _ _ _)),
    W.findHandler_go_class (s := (((T.setTop g).pushFrame (.throwing a)).setVm (T.vm.noted g.method.cls x.catchType (.cls c1))).setVm ((T.vm.noted g.method.cls x.catchType (.cls c1)).noted g.method.cls y.catchType (.cls c2))) (c := c2) (cell := cell) hcov2 h02 hdl₀.ready hcell hobj ⟨ks2, hks2⟩ ⟨kt2, hkt2⟩, if_pos]
  · exact Iff.rfl
  · exact h2
end CatchRow
theorem q_asg_self (vm : Vm) (c : ClassId) : vm.assignable c c = true := by
  show vm.assignableAux (255 + 1) c c = true
  rw [Vm.assignableAux, Bool.or_eq_true, beq_iff_eq]
  exact Or.inl rfl
