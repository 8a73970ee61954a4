theorem q_isRef {args : Array Value} {C n d : String} {A : Nat → Prop} {U : State} (h : va_Zq C n d A U U.heap) : (Cond.isRef (.static C n d)).before args U = true := by
  have key : ∀ v, va_Z C n d v A U U.heap → (Term.static C n d).eval args U none [] U = some v := by
    intro v hz
    obtain ⟨cf, kf, fi, f, a, cell, h1, h2, h3, h4, h5, h6, h7, -⟩ := hz
    simp [Term.eval, State.fieldNamed?, h1, h2, h4, h5, h6, h7]
  rcases h with h | ⟨t, h⟩
  · simp [Cond.before, Cond.holds, Cond.value, key _ h]
  · simp [Cond.before, Cond.holds, Cond.value, key _ h]
/-- what the words on an exception of kind ec rest on: good words, but those that the world's constants carry -/
def q_exw (w : Cond) : Bool := q_in w || XC.any (fun x => decide (w = Cond.castable x x)) || XD.any (fun x => decide (w = Cond.declares x)) || XL.any (fun x => decide (w = Cond.laysStatic x.1 x.2.1 x.2.2) || decide (w = Cond.isRef (.static x.1 x.2.1 x.2.2)))
theorem q_exw_at {Γ : qG} {A : Nat → Prop} {args : Array Value} {U : State} (hK : q_K Γ A U) (hts : ∀ w ∈ WG, w.before args U = true) {w : Cond} (h : q_exw w = true) : w.before args U = true := by
  simp only [q_exw, Bool.or_eq_true] at h
  obtain ⟨-, -, -, -, ⟨-, -, -, -, z1, z2, -⟩, x1, x2, x3, -⟩ := hK
  rcases h with ((h | h) | h) | h
  · exact hts _ (q_in_spec h)
  · obtain ⟨x, hx, h2⟩ := List.any_eq_true.mp h
    rw [of_decide_eq_true h2]
    exact va_Nw.use rfl (x1 x hx)
  · obtain ⟨x, hx, h2⟩ := List.any_eq_true.mp h
    rw [of_decide_eq_true h2]
    exact va_Nw.use rfl (x2 x hx)
  · obtain ⟨x, hx, h2⟩ := List.any_eq_true.mp h
    rw [Bool.or_eq_true, decide_eq_true_eq, decide_eq_true_eq] at h2
    rcases h2 with rfl | rfl
    · exact x3 x hx
    · simp only [XL, List.mem_cons, List.not_mem_nil, or_false] at hx
      rcases hx with rfl | rfl
      · exact q_isRef z1
      · exact q_isRef z2
section Thr
variable {l : Launch} {Γ : qG} {T : qT} {d r pc : Nat} {ls : List Value} {S : qS} {Q : qO → qS → Prop}
set_option maxHeartbeats 4000000 in
theorem V.thr {ec i1 i2 : Nat} {names : List String} {a0 b0 a1 b1 a2 b2 a3 b3 : Nat} (h0 : q_ft T.2.2.2.2 pc = some (.new i1, 3, a0, b0)) (h1 : q_ft T.2.2.2.2 (pc + 3) = some (.dup, 1, a1, b1)) (h2 : q_ft T.2.2.2.2 (pc + 4) = some (.invokespecial i2, 3, a2, b2)) (h3 : q_ft T.2.2.2.2 (pc + 7) = some (.athrow, 1, a3, b3))
    (hcode : Cond.code T.1 T.2.1 T.2.2.1 T.2.2.2.1 ∈ WG) (hnl : T.1.cls ≠ "TapedLinesLaw") (htr : l.stackTraces = false) (hfit : Bundle.fit (q_exn ec) = true) (hnames : ∀ n ∈ names, Bundle.fit n = true) (hnl2 : names.length ≤ 4)
    (hat : (Bundle.ownAtoms0 T.1.cls i2 (q_exn ec) names).all q_exw = true) (hcl : q_in (Cond.classLink T.1.cls i1 (q_exn ec)) = true) (hins : q_in (Cond.instantiable (q_exn ec) 6) = true) (hini : q_in (Cond.initialized (q_exn ec)) = true)
    (hd : 8 ≤ d) (hr1 : 1 ≤ r) (hq : Q (.inr ec) S) : V l Γ T d r pc ls [] S Q := by
  intro A p e R s m args below meth c H locs cells slots Lr hok hC hW hL hc1 hc2
  have hd0 := (q_ok_at hok h0).1
  have hd1 := (q_ok_at hok h1).1
  have hd2 := (q_ok_at hok h2).1
  have hd3 := (q_ok_at hok h3).1
  dsimp only at hd0 hd1 hd2 hd3
  obtain ⟨hx, hb, hml, hr, hlk, hown, hts, hK, hA, hfr, hlo, hnm⟩ := hC
  have hnamed := hnm.resolve_left hnl
  intro Tt hT X
  subst hT
  have hout : ∀ x ∈ c.exceptionTable.toList, covers x (pc + 7) = false := by
    obtain ⟨meth2, c2, m1, m2, -, -, -, -, m3, -⟩ := Cond.code_spec hnamed (hts _ hcode)
    cases Option.some.inj (m1.symm.trans X.method)
    cases Option.some.inj (m2.symm.trans X.code)
    intro x hx
    have m4 : c.exceptionTable = #[] := by simpa using m3
    rw [m4] at hx
    simp at hx
  have X0 := q_rebase X (R' := { frames := R.frames, cells := R.cells - cells, slots := R.slots - slots, locals := R.locals }) (Nat.le_refl _) (Nat.le_refl _) (by show cells + (R.cells - cells) ≤ R.cells; omega) (by show slots + (R.slots - slots) ≤ R.slots; omega)
  have hWs : s.WarmedH (Tt.setFrames (.invoking m args :: below)).vm := X.warmed
  have hK0 := hK.call hW hA (U := Tt.setFrames (.invoking m args :: below)) rfl hWs
  have hts0 : ∀ w ∈ WG, w.before args (Tt.setFrames (.invoking m args :: below)) = true := fun w hw => word_at hWs (q_wgood w hw) (hts w hw)
  have hown0 : (Tt.setFrames (.invoking m args :: below)).vm.findClass T.1.cls = some m.cls := by rw [hWs.alike.findClass]; exact hown
  have htr0 : e.platform.stackTraces = false := by rw [X.admits.platform]; exact htr
  have key : W p l e { frames := R.frames, cells := R.cells - cells, slots := R.slots - slots, locals := R.locals } (Tt.setFrames (.invoking m args :: below)) m args below meth c Tt.heap [] 0 0
      (fun t => t.status = .running ∧ Ended t below (.threw Tt.heap.size) ∧ (Tt.setFrames (.invoking m args :: below)).WarmedH t.vm ∧ (Tt.setFrames (.invoking m args :: below)).sameButNew ({ t with vm := (Tt.setFrames (.invoking m args :: below)).vm } : State) [] 1 6 ∧ ∃ ce, t.heap[Tt.heap.size]? = some ce ∧ Bundle.OwnCell args (Tt.setFrames (.invoking m args :: below)) (q_exn ec) Tt.heap.size .null ce) (F0 m pc Lr []) := by
    refine W.newc hx hb hown0 (hts0 _ (q_in_spec hcl)) (hts0 _ (q_in_spec hins)) (hts0 _ (q_in_spec hini)) rfl hd0 (by show 0 + 1 ≤ R.cells - cells; omega) (by show 0 + 6 ≤ R.slots - slots; omega) (fun cC kC f1 f2 f3 f4 => ?_)
    refine lv_dup hx hb hd1 rfl ?_
    intro T2 hT2 X2
    obtain ⟨U, st, g1, g2, g3, g4, ce, g5, g6⟩ := X2.ctorThrow0 hx htr0 hown0 hfit hnames (ic := i2) (fun w hw => q_exw_at hK0 hts0 (List.all_eq_true.mp hat w hw)) (fun x hx => by cases hx) f1 f2 (a := Tt.heap.size) (by rw [hT2]; simp) (Nat.le_refl _)
      (g := F0 m (pc + 3 + 1) Lr [.ref Tt.heap.size, .ref Tt.heap.size]) rfl (by rw [hml]; exact hL.1) rfl rfl (rest := []) rfl (by rw [hb]; exact hd2) (by rw [hb]; exact hd3) hout (by show names.length + 3 < R.frames; omega) (by simp [JFrame.monitorRoom, Value.category]; show _ ≤ R.locals; omega) hlk
    exact ⟨U, st, g1, g2, g3, g4.mono (by omega) (by omega), ce, g5, g6⟩
  obtain ⟨U, st, k1, k2, k3, k4, ce, k5, k6⟩ := key Tt rfl X0
  have hsT : Tt.sameButNew ({ U with vm := Tt.vm } : State) [] 1 6 := by
    obtain ⟨e1, e2, e3, e4, e5, e6⟩ := k4
    refine ⟨?_, e2, e3, e4, e5, e6⟩
    rw [State.setFrames_setFrames] at e1
    exact e1
  have hold : ∀ (a : Nat), a < Tt.heap.size → U.heap[a]? = Tt.heap[a]? := fun a ha => by
    rw [Array.getElem?_eq_getElem ha]
    exact hsT.old_cell (Array.getElem?_eq_getElem ha)
  refine ⟨U, st, Or.inr ⟨ec, S, hq, Tt.heap.size, ce, k1, k2, X.warmed.trans k3, ⟨locs ++ [], ?_, ?_⟩, k5, ?_, ?_, ?_, hW.2.1, ?_, ?_⟩⟩
  · exact (X.same.trans (hsT.setVm s.vm)).mono (by omega) (by omega)
  · rw [List.append_nil]; exact hW.2.2.2.2
  · intro k hk
    rw [k6.vm] at hk
    cases hk
  · rw [k3.alike.findClass]
    exact k6.cls
  · exact hW.1.kept (fun k q hk => hold q.1 (hW.1 k q hk).lt)
  · exact Nat.le_trans hW.2.2.1 hsT.2.1
  · intro q q1 q2
    rw [hold q (Nat.lt_of_lt_of_le q1 hW.2.2.1)]
    exact hW.2.2.2.1 q q1 q2
end Thr
