section Catch
variable {E : CtlPost} {e : Env} {d : Bool} {acts : List Action} {s : State} {f : JFrame} {a : Addr} {Q : Handler → Pre}
/-- a catch type that may be cold: as from the tables that its resolution leaves -/
theorem q_goCold {x : ExceptionTableEntry} {t : List ExceptionTableEntry} {c : ClassId} {vm' : Vm} (hx : covers x f.pc = true) (h0 : x.catchType ≠ 0) (hg : (Jvm.resolveClass f.method.cls x.catchType).Gives e.toSetting s.vm (.ok c) vm') (hr : vm'.classReady f.method.cls x.catchType c)
    (hsz : vm'.classes.size ≤ s.vm.classes.size) : Sem.wp (findHandler.go f a (x :: t)) Q E e d acts s ↔ Sem.wp (findHandler.go f a (x :: t)) Q E e d acts (s.setVm vm') := by
  obtain ⟨ha, ht⟩ := hg.op (op := VmOp.resolveClass f.method.cls x.catchType) rfl
  obtain ⟨k, hkd, hres⟩ := hr
  simp only [covers] at hx
  have hkd2 : (s.setVm vm').vm.classes[f.method.cls]? = some k := hkd
  simp [findHandler.go, hx, h0, ha, ht, hsz, resolveClass_memo e hkd hres, resolveClass_memo e hkd2 hres, VmOp.dirties, VmOp.acts]
  exact Iff.rfl
end Catch
