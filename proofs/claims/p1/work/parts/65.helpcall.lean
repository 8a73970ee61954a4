theorem q_metW {l : Launch} {Γ : qG} {T : qT} {hh : List (Nat × Nat × Nat × Nat)} {d r sz : Nat} {S : qS} {Q : qO → qS → Prop} {vs : List Value} (hok : q_ok T = true) (hpl : plainName T.1.cls = true) (hc : ∀ v ∈ vs, v.category = 1) (hn : vs.length ≤ T.2.2.1)
    (hno : ∀ ec S, ¬ Q (.inr ec) S) (hv : VH l Γ T hh d r 0 (vs ++ List.replicate (T.2.2.1 - vs.length) .null) [] S Q) : Met l T.1 (Cond.codeWith T.1 T.2.1 T.2.2.1 T.2.2.2.1 hh :: WG) (q_rm d r) (q_Pc Γ S vs sz) (q_Q Γ (q_A Γ sz) Q) r (8 * r) (q_A Γ sz) := by
  refine va_MetW (cc := T.2.1) (maxL := T.2.2.1) (ret := T.2.2.2.1) (hh := hh) hpl rfl ?_
  intro p e s m args below meth c s₁ B hml hp
  obtain ⟨rfl, hsz, hP, hD, hK⟩ := hp
  have hts := atoms_spec (ws := Cond.codeWith T.1 T.2.1 T.2.2.1 T.2.2.2.1 hh :: WG) B.pre
  have X₀ := Stand.of_body B
  have htab : q_hh c = hh := by
    obtain ⟨m9, meth9, c9, n1, n2, n3, n4, n5, n6, -⟩ := Cond.codeWith_spec (hts _ List.mem_cons_self)
    cases n1.symm.trans B.named
    cases n2.symm.trans B.method
    cases n3.symm.trans X₀.code
    exact n6
  rw [lg_entry_eq]
  have hw := hv (q_A Γ sz) p e (q_rm d r) s m ((vs.map (q_v Γ.2.2.1)).toArray) below meth c s.heap [] 0 0 _ hok ⟨B.exec, B.bytes, hml, B.returns, B.notSynchronized, findClass_of_methodNamed B.named, fun w h => hts w (List.mem_cons_of_mem _ h), hK, fun q h => Or.inr (by rw [← hsz]; exact h), Nat.le_refl _, Nat.le_refl _, Or.inr B.named⟩ ⟨hP, hD, va_S.rf⟩ (q_entry Γ.2.2.1 hc hn) (by show 0 + r ≤ r; omega) (by show 0 + 8 * r ≤ 8 * r; omega) htab
  intro Tt hT X
  obtain ⟨t, a1, b1⟩ := hw Tt hT X
  rcases b1 with b1 | ⟨ec, S2, b1, -⟩
  · exact ⟨t, a1, b1⟩
  · exact absurd b1 (hno ec S2)
theorem q_paidW {y : MethodName} {bytes : ByteArray} {maxL : Nat} {ret : Option FieldType} {hh : List (Nat × Nat × Nat × Nat)} {args : Array Value} {s : State} (hc : Cond.codeWith y bytes maxL ret hh ∈ WG) (hts : ∀ w ∈ WG, w.before args s = true) : ∀ w ∈ (Cond.codeWith y bytes maxL ret hh :: WG : List Cond), ∀ (a' : Array Value) (U : State), s.WarmedH U.vm → w.before a' U = true :=
  pay_in hts (fun w hw => by
    rcases List.mem_cons.mp hw with rfl | h
    · exact ⟨hc, q_wgood _ hc⟩
    · exact ⟨h, q_wgood w h⟩)
section HelpCall
variable {l : Launch} {Γ : qG} {T T2 : qT} {hh : List (Nat × Nat × Nat × Nat)} {d r d2 r2 pc n index a b : Nat} {ls As rest : List Value} {S : qS} {Q Q2 : qO → qS → Prop}
set_option maxHeartbeats 4000000 in
theorem V.callSH (hf : q_ft T.2.2.2.2 pc = some (.invokestatic index, 3, a, b)) (hok2 : q_ok T2 = true) (hpl : plainName T2.1.cls = true) (hcw : Cond.codeWith T2.1 T2.2.1 T2.2.2.1 T2.2.2.2.1 hh ∈ WG) (hw : Cond.methodLink T.1.cls index T2.1 ∈ WG ∧ Cond.static T2.1 ∈ WG ∧ Cond.initialized T2.1.cls ∈ WG)
    (hmh : T2.1.cls ≠ "java/lang/invoke/MethodHandle" ∧ T2.1.cls ≠ "java/lang/invoke/VarHandle") (hsg : (parseMethodDescriptor T2.1.desc).map (fun d => d.parameters.length) = some n) (hn : As.length = n) (hmax : As.length ≤ T2.2.2.1) (hm21 : T2.2.2.1 ≤ 21) (hcat : ∀ v ∈ As, v.category = 1) (hrcat : ∀ v ∈ rest, v.category = 1) (hrl : rest.length ≤ 8) (hd2 : d2 + 1 ≤ d) (hr2 : r2 ≤ r) (hno : ∀ ec S, ¬ Q2 (.inr ec) S)
    (hv : VH l Γ T2 hh d2 r2 0 (As ++ List.replicate (T2.2.2.1 - As.length) .null) [] S Q2) (hk : ∀ (v : Option Value) (S' : qS), Q2 (.inl v) S' → V l Γ T d (r - r2) (pc + 3) ls (v.toList ++ rest) S' Q) : V l Γ T d r pc ls (As.reverse ++ rest) S Q := by
  intro A p e R s m args below meth c H locs cells slots Lr hok hC hW hL hc1 hc2
  obtain ⟨hd, hrow⟩ := q_ok_at hok hf
  dsimp only at hd
  have hC' := hC
  obtain ⟨hx, hb, hml, hr, hlk, hown, hts, hK, hA, hfr, hlo, hnm⟩ := hC
  have hM := q_metW (sz := H.size) hok2 hpl hcat hmax hno hv
  have hPc : ∀ U : State, U.heap = H → s.WarmedH U.vm → q_Pc Γ S As H.size (As.map (q_v Γ.2.2.1)).toArray U := fun U hU hWU => ⟨rfl, by rw [hU], by rw [hU]; exact hW.1, q_D_self hW.2.1, hK.call hW hA hU hWU⟩
  have hbl : FrameBlind (q_Pc Γ S As H.size) := fun a U g mk q => ⟨q.1, q.2.1, q.2.2.1, q.2.2.2.1, q_K.same (s := U) (U := U.calling g mk a) rfl rfl q.2.2.2.2⟩
  have hlen2 : (As.map (q_v Γ.2.2.1)).length = n := by rw [List.length_map]; exact hn
  have hpaid := q_paidW hcw hts
  have hBk : Back l R p e below s args T2.1 3 8 (PreOf R r2 (8 * r2) (q_Pc Γ S As H.size)) (PostOf (q_Q Γ (q_A Γ H.size) Q2) r2 (8 * r2) (q_A Γ H.size)) :=
    va_backW (hh := hh) (bytes := T2.2.1) (maxL := T2.2.2.1) (ret := T2.2.2.2.1) hM hbl rfl rfl (Nat.le_trans hd2 hfr) (by show 8 + (T2.2.2.1 + 11) + 40 * d2 ≤ R.locals; omega) hpaid List.mem_cons_self (fun a' U hWU => hpaid _ (List.mem_cons_of_mem _ hw.2.2) a' U hWU)
  obtain ⟨mk, methM, cM, hnamed, hmethM, -, -, -, -, -, -, hsigM⟩ := Cond.codeWith_spec (hts _ hcw)
  have hstatic := Cond.static_spec hnamed hmethM (hts _ hw.2.1)
  obtain ⟨kP, hkP, -⟩ := className_of_methodNamed hnamed
  have hinitP : kP.init = .initialized := Cond.initialized_spec (findClass_of_methodNamed hnamed) hkP (hts _ hw.2.2)
  have hln : (As.map (q_v Γ.2.2.1)).length = methM.sig.parameters.length := by
    rw [hlen2]
    rw [hsigM] at hsg
    exact (Option.some.inj hsg).symm
  have hstk : (F0 m pc Lr ((As.reverse ++ rest).map (q_v Γ.2.2.1))).stack = (As.map (q_v Γ.2.2.1)).reverse ++ rest.map (q_v Γ.2.2.1) := by
    show (As.reverse ++ rest).map (q_v Γ.2.2.1) = _
    rw [List.map_append, List.map_reverse]
  have hrun : va_Run p l e R s m args below meth c H locs cells slots r2 (8 * r2) (F0 m pc Lr ((As.reverse ++ rest).map (q_v Γ.2.2.1))) (rest.map (q_v Γ.2.2.1)) (q_Q Γ (q_A Γ H.size) Q2 (As.map (q_v Γ.2.2.1)).toArray) (q_A Γ H.size) := by
    intro Tt hT X
    obtain ⟨vm₁, X₁, hstep₁⟩ := X.invokestatic hx hown (hts _ hw.1) hnamed hmethM hstatic hkP hinitP hmh (g := F0 m pc Lr ((As.reverse ++ rest).map (q_v Γ.2.2.1))) rfl (argsL := As.map (q_v Γ.2.2.1)) (rest := rest.map (q_v Γ.2.2.1)) hln hstk (by rw [hb]; exact hd)
    obtain ⟨v, ⟨U', l2, c2, s2⟩, X', ⟨g', mk', t, L, e1, e2, hq, h1, hL2, h2, h3⟩, hsteps⟩ := hBk m meth c ⟨Tt.setVm vm₁, locs, cells, slots⟩ (F0 m pc Lr (rest.map (q_v Γ.2.2.1))) (.invokestatic index) mk (As.map (q_v Γ.2.2.1)).toArray X₁ rfl (hL.1.trans hml.symm) (by rw [hb]; exact hd) (lv_room (q_rest hrcat hrl Γ.2.2.1)) (X₁.named hnamed) ⟨by show cells + r2 ≤ R.cells; omega, by show slots + 8 * r2 ≤ R.slots; omega, hPc _ hT X₁.warmed⟩
    dsimp only [Pt.U, Pt.locs, Pt.cells, Pt.slots] at X' e1 e2 h1 h2 h3 hsteps
    subst h1; subst h2; subst h3
    exact ⟨v, (Tt.setVm vm₁).calling g' mk' (As.map (q_v Γ.2.2.1)).toArray, t, U', L, hT, X', hL2, e1, e2, hq, fun target h => hstep₁ _ fun acts => by rw [doInvoke_state]; exact hsteps.trans h⟩
  exact q_after hok hC' hW hL hc1 hc2 hr2 hrun hk
end HelpCall
