section CallX
variable {l : Launch} {Γ : qG} {T T2 : qT} {d r d2 r2 pc μ n o index : Nat} {ls As rest : List Value} {S : qS} {Q Q2 : qO → qS → Prop}
set_option maxHeartbeats 4000000 in
/-- a call whose callee throws, up to the note over the caller's frame; then the clause K of the caller -/
theorem q_callX {A : Nat → Prop} {p : Program} {e : Env} {R : Room} {s : State} {m : MethodId} {args : Array Value} {below : List Frame} {meth : Method} {c : Code} {H : Heap} {locs : List Loc} {cells slots : Nat} {Lr : Array Slot} {Qe : State → Prop}
    (hok : q_ok T = true) (hC : q_C Γ A T d p R s m args meth c) (hW : q_W Γ A s S H locs) (hL : q_lh Γ.2.2.1 ls T.2.2.1 Lr) (hc1 : cells + r ≤ R.cells) (hc2 : slots + 8 * r ≤ R.slots)
    (hf : q_ft T.2.2.2.2 pc = some (.invokevirtual index, 3, μ, 0)) (hm : mN[μ]? = some (T2.1, n)) (hg : q_good T2) {ci : Nat} {ks : List Nat} {q : vw_C} (ho : oT[o]? = some (.inr (ci, ks))) (hcl : vwCl[ci]? = some q) (hcn : q.1 = T2.1.cls) (hn : As.length = n) (hmax : (.ref o :: As).length ≤ T2.2.2.1) (hcat : ∀ v ∈ As, v.category = 1) (hrcat : ∀ v ∈ rest, v.category = 1) (hrl : rest.length ≤ 8) (hd2 : d2 + 1 ≤ d) (hr2 : r2 ≤ r)
    (hno : ∀ v S, ¬ Q2 (.inl v) S) (hv : V l Γ T2 d2 r2 0 ((.ref o :: As) ++ List.replicate (T2.2.2.1 - (.ref o :: As).length) .null) [] S Q2)
    (hk : ∀ (ec : Nat) (S' : qS) (adr : Addr) (cell : Cell) (T' : State) (L : List Loc), Q2 (.inr ec) S' → Stand p l e R s m args below meth c T' (locs ++ L) (cells + r2) (slots + 8 * r2) → q_W Γ A s S' T'.heap (locs ++ L) → T'.heap[adr]? = some cell → (∀ k, cell.vm ≠ .statics k) → s.vm.findClass (q_exn ec) = some cell.cls →
      ∃ t, Steps p.tables e below ((T'.setTop (F0 m pc Lr (rest.map (q_v Γ.2.2.1)))).pushFrame (.throwing adr)) t ∧ Qe t) :
    W p l e R s m args below meth c H locs cells slots Qe (F0 m pc Lr ((As.reverse ++ .ref o :: rest).map (q_v Γ.2.2.1))) := by
  intro Tt hT X
  obtain ⟨hd, hrow⟩ := q_ok_at hok hf
  dsimp only at hd
  have hC' := hC
  obtain ⟨hx, hb, hml, hr, hlk, hown, hts, hK, hA, hfr, hlo, hnm⟩ := hC
  simp only [q_row, q_rowG, Nat.beq_eq, Bool.and_eq_true] at hrow
  obtain ⟨w2, w4, w5, hwv⟩ := q_iv_spec hrow.2 hm (by decide)
  simp only [q_wv, Bool.and_eq_true, decide_eq_true_eq] at hwv
  obtain ⟨⟨w1, w3a⟩, w3b⟩ := hwv
  have w1 := q_in_spec w1
  have w3 := And.intro (q_in_spec w3a) (q_in_spec w3b)
  obtain ⟨g1, g2, g3, g4⟩ := hg
  have hcat2 : ∀ v ∈ (.ref o :: As : List Value), v.category = 1 := fun v hv => by rcases List.mem_cons.mp hv with rfl | h; rfl; exact hcat v h
  have hM := q_metX (sz := H.size) ⟨g1, g2, g3, g4⟩ hcat2 hmax hno hv
  have hPc : ∀ U : State, U.heap = H → s.WarmedH U.vm → q_Pc Γ S (.ref o :: As) H.size ((.ref o :: As).map (q_v Γ.2.2.1)).toArray U := fun U hU hWU => ⟨rfl, by rw [hU], by rw [hU]; exact hW.1, q_D_self hW.2.1, hK.call hW hA hU hWU⟩
  have hbl : FrameBlind (q_Pc Γ S (.ref o :: As) H.size) := fun a U g mk q => ⟨q.1, q.2.1, q.2.2.1, q.2.2.2.1, q_K.same (s := U) (U := U.calling g mk a) rfl rfl q.2.2.2.2⟩
  have hpaid := q_paid g2 hts
  have hlen2 : (As.map (q_v Γ.2.2.1)).length = n := by rw [List.length_map]; exact hn
  obtain ⟨cellB, z1, z2, z3⟩ := va_recv hK.1 hW.1 hcl (q_ws_get Γ S ho)
  rw [hcn] at z3
  obtain ⟨mk, methM, hnamed, hmethM, hstM, habM⟩ := Cond.instanceMethod_spec (hts _ w3.1)
  obtain ⟨methM', cM, hmethM', -, -, -, -, -, -, hsigM⟩ := Cond.code_spec hnamed (hts _ g2)
  cases hmethM.symm.trans hmethM'
  obtain ⟨c2, r3, m2, q1, q2, q3, q4, kP, hkP, hkPi⟩ := Cond.selects_spec (hts _ w3.2)
  cases z3.symm.trans q1
  cases (State.methodFound?_of_named hnamed w4).symm.trans q2
  cases hnamed.symm.trans q3
  have hselP : selectMethod e.platform s.vm cellB.cls mk = .method mk := by rw [Launch.admits_selectMethod X.admits]; exact q4
  have hstk : (F0 m pc Lr ((As.reverse ++ .ref o :: rest).map (q_v Γ.2.2.1))).stack = (As.map (q_v Γ.2.2.1)).reverse ++ .ref (Γ.2.2.1 o) :: rest.map (q_v Γ.2.2.1) := by
    show (As.reverse ++ .ref o :: rest).map (q_v Γ.2.2.1) = _
    rw [List.map_append, List.map_reverse]
    rfl
  have hln : (As.map (q_v Γ.2.2.1)).length = methM.sig.parameters.length := by
    rw [hlen2]
    rw [hsigM] at w5
    exact (Option.some.inj w5).symm
  obtain ⟨vm₁, X₁, hstep₁⟩ := X.invokevirtual hx hown (hts _ w1) hnamed hmethM hstM hkP hkPi w4 (a := Γ.2.2.1 o) (cell := cellB) (by rw [hT]; exact z1) (fun z h => by rw [h] at z2; cases z2) hselP hmethM habM hkP hkPi (g := F0 m pc Lr ((As.reverse ++ .ref o :: rest).map (q_v Γ.2.2.1))) rfl (argsL := As.map (q_v Γ.2.2.1)) (rest := rest.map (q_v Γ.2.2.1)) hln hstk (by rw [hb]; exact hd)
  have h8 := q_rest hrcat hrl Γ.2.2.1
  have hvs : (.ref (Γ.2.2.1 o) :: As.map (q_v Γ.2.2.1) : List Value) = (.ref o :: As).map (q_v Γ.2.2.1) := rfl
  obtain ⟨ec, S', adr, cell, T', L, hq2, X', hL', hc', hst', hfc, hP', hD', hsz', hk', hsteps⟩ := q_backX hM X₁ (g := F0 m pc Lr (rest.map (q_v Γ.2.2.1))) rfl (hL.1.trans hml.symm) (ig := .invokevirtual index) (len := 3) (by rw [hb]; exact hd) (mk := mk) (a := (.ref (Γ.2.2.1 o) :: As.map (q_v Γ.2.2.1) : List Value).toArray) (bytes := T2.2.1) (maxL := T2.2.2.1) (ret := T2.2.2.2.1)
    (X₁.named hnamed) (hpaid _ List.mem_cons_self _ _ X₁.warmed) (hpaid _ (List.mem_cons_of_mem _ w2) _ _ X₁.warmed) (atoms_intro fun w hw => hpaid w hw _ _ X₁.warmed) (Nat.le_trans hd2 hfr) (by show 2 * 0 + ((rest.map (q_v Γ.2.2.1)).map fun v => v.category).sum + (T2.2.2.1 + 11) + 40 * d2 ≤ R.locals; omega) (by show cells + r2 ≤ R.cells; omega) (by show slots + 8 * r2 ≤ R.slots; omega)
    (hbl _ _ _ _ (by rw [hvs]; exact hPc _ hT X₁.warmed)) trivial
  have hAin := q_A_in hW hA
  have hT1 : (Tt.setVm vm₁).heap = H := hT
  have hW2 : q_W Γ A s S' T'.heap (locs ++ L) := by
    refine ⟨hP', hD'.weaken (fun _ q _ h => hAin q.1 h), ?_, fun q h1 h2 => ?_, fun q hq => ?_⟩
    · exact Nat.le_trans hW.2.2.1 (by rw [← hT1]; exact hsz')
    · rw [hk' q (by rw [hT1]; exact Nat.lt_of_lt_of_le h1 hW.2.2.1) (fun z => h2 (hAin q z)), hT1]
      exact hW.2.2.2.1 q h1 h2
    · rcases List.mem_append.mp hq with h | h
      · exact hW.2.2.2.2 q h
      · exact hAin _ (hL' q h)
  obtain ⟨t, a1, b1⟩ := hk ec S' adr cell T' L hq2 X' hW2 hc' hst' (by rw [← X'.warmed.alike.findClass]; exact hfc)
  exact ⟨t, hstep₁ _ fun acts => by rw [doInvoke_state]; exact hsteps.trans a1, b1⟩
end CallX
