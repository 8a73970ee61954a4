/-- how a method ends that throws -/
def q_X (Γ : qG) (sz r : Nat) (Q : qO → qS → Prop) : Array Value → State → Outcome → State → Prop := fun _ st o t => ∃ (ec : Nat) (S : qS) (a : Addr) (cell : Cell), Q (.inr ec) S ∧ o = .threw a ∧ st.WarmedH t.vm ∧ (∃ L : List Loc, st.sameButNew ({ t with vm := st.vm } : State) L r (8 * r) ∧ ∀ q ∈ L, q_A Γ sz q.base) ∧ t.heap[a]? = some cell ∧ (∀ k, cell.vm ≠ .statics k) ∧ t.vm.findClass (q_exn ec) = some cell.cls ∧ va_P Γ.1 vwCl (q_ws Γ S) t.heap ∧ va_D (q_A Γ sz) (q_ws Γ S) ∧ va_F (q_A Γ sz) st t
theorem q_metX {l : Launch} {Γ : qG} {T : qT} {d r sz : Nat} {S : qS} {Q : qO → qS → Prop} {vs : List Value} (hg : q_good T) (hc : ∀ v ∈ vs, v.category = 1) (hn : vs.length ≤ T.2.2.1) (hno : ∀ v S, ¬ Q (.inl v) S)
    (hv : V l Γ T d r 0 (vs ++ List.replicate (T.2.2.1 - vs.length) .null) [] S Q) : MetFree l T.1 (headSpec (Cond.code T.1 T.2.1 T.2.2.1 T.2.2.2.1 :: WG) (q_rm d r)) (q_Pc Γ S vs sz) (fun _ _ _ _ _ => True) (q_X Γ sz r Q) := by
  refine MetFree.of_bodyS (code := T.2.1) (maxLocals := T.2.2.1) (ret := T.2.2.2.1) hg.2.2.1 ?_ ?_
  · intro args s m h hn
    obtain ⟨meth, c, h1, h2, h3, h4, h5, h6, -, -⟩ := Cond.code_spec hn (atoms_spec (ws := Cond.code T.1 T.2.1 T.2.2.1 T.2.2.2.1 :: WG) h _ List.mem_cons_self)
    exact ⟨meth, c, h1, h2, h3, h4, h5, h6⟩
  · intro p e s m args below meth c s₁ B hml hp _
    obtain ⟨rfl, hsz, hP, hD, hK⟩ := hp
    have hts := atoms_spec (ws := Cond.code T.1 T.2.1 T.2.2.1 T.2.2.2.1 :: WG) B.pre
    rw [lg_entry_eq]
    have hw := hv (q_A Γ sz) p e (q_rm d r) s m ((vs.map (q_v Γ.2.2.1)).toArray) below meth c s.heap [] 0 0 _ hg.1 ⟨B.exec, B.bytes, hml, B.returns, B.notSynchronized, findClass_of_methodNamed B.named, fun w h => hts w (List.mem_cons_of_mem _ h), hK, fun q h => Or.inr (by rw [← hsz]; exact h), Nat.le_refl _, Nat.le_refl _, Or.inr B.named⟩ ⟨hP, hD, va_S.rf⟩ (q_entry Γ.2.2.1 hc hn) (by show 0 + r ≤ r; omega) (by show 0 + 8 * r ≤ 8 * r; omega)
    have hh0 : s₁.heap = s.heap := by rw [B.state]; rfl
    obtain ⟨t, a1, b1⟩ := hw s₁ hh0 (Stand.of_body B)
    rcases b1 with ⟨o, b1, b2, ⟨⟨v, S2, q1, -⟩, -⟩, -⟩ | ⟨ec, S2, q1, a, cell, z1, z2, z3, z4, z5⟩
    · exact absurd q1 (hno _ _)
    · exact ⟨t, .threw a, a1, z1, z2, ec, S2, a, cell, q1, rfl, z3, z4, z5⟩
