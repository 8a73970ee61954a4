def q_h (P : Int32 → qM → (Nat → Int64) → Prop) : qO → qS → Prop := fun o S => ∃ (x : Int32) (M : qM) (L : Nat → Int64), o = .inl (some (.int x)) ∧ S = (M, L) ∧ P x M L
def q_e (L : Nat → Int64) (E : Nat → qM → Prop) : qO → qS → Prop := fun o S => ∃ (ec : Nat) (M : qM), o = .inr ec ∧ S = (M, L) ∧ E ec M
section Posts
variable {l : Launch} {Γ : qG} {T : qT} {d r pc : Nat} {ls st : List Value} {S : qS} {L : Nat → Int64} {Q : qO → qS → Prop}
theorem V.tin {P : Int32 → qM → Prop} (h : V l Γ T d r pc ls st S (q_ti L P (fun _ _ => False))) : V l Γ T d r pc ls st S (q_i L P) := h.mono (fun o S h => by
  rcases h with h | ⟨_, _, _, _, h⟩
  · exact h
  · exact h.elim)
theorem V.tout {E : Nat → qM → Prop} (h : V l Γ T d r pc ls st S (q_ti L (fun _ _ => False) E)) : V l Γ T d r pc ls st S (q_e L E) := h.mono (fun o S h => by
  rcases h with ⟨_, _, _, _, h⟩ | h
  · exact h.elim
  · exact h)
theorem V.tnin {P : qM → Prop} (h : V l Γ T d r pc ls st S (q_tn L P (fun _ _ => False))) : V l Γ T d r pc ls st S (q_n L P) := h.mono (fun o S h => by
  rcases h with h | ⟨_, _, _, _, h⟩
  · exact h
  · exact h.elim)
theorem V.tnout {E : Nat → qM → Prop} (h : V l Γ T d r pc ls st S (q_tn L (fun _ => False) E)) : V l Γ T d r pc ls st S (q_e L E) := h.mono (fun o S h => by
  rcases h with ⟨_, _, _, h⟩ | h
  · exact h.elim
  · exact h)
theorem V.more {r2 : Nat} (h : V l Γ T d r pc ls st S Q) (hr : r ≤ r2) : V l Γ T d r2 pc ls st S Q := by
  intro A p e R s m args below meth c H locs cells slots Lr hok hC hW hL hc1 hc2
  exact h A p e R s m args below meth c H locs cells slots Lr hok hC hW hL (by omega) (by omega)
theorem V.callSHi {T2 : qT} {hh : List (Nat × Nat × Nat × Nat)} {d2 n index a b : Nat} {As rest : List Value} {M : qM} {Pk : Int32 → qM → (Nat → Int64) → Prop} (hf : q_ft T.2.2.2.2 pc = some (.invokestatic index, 3, a, b)) (hok2 : q_ok T2 = true) (hpl : plainName T2.1.cls = true) (hcw : Cond.codeWith T2.1 T2.2.1 T2.2.2.1 T2.2.2.2.1 hh ∈ WG) (hw : Cond.methodLink T.1.cls index T2.1 ∈ WG ∧ Cond.static T2.1 ∈ WG ∧ Cond.initialized T2.1.cls ∈ WG)
    (hmh : T2.1.cls ≠ "java/lang/invoke/MethodHandle" ∧ T2.1.cls ≠ "java/lang/invoke/VarHandle") (hsg : (parseMethodDescriptor T2.1.desc).map (fun d => d.parameters.length) = some n) (hn : As.length = n) (hmax : As.length ≤ T2.2.2.1) (hm21 : T2.2.2.1 ≤ 21) (hcat : ∀ v ∈ As, v.category = 1) (hrcat : ∀ v ∈ rest, v.category = 1) (hrl : rest.length ≤ 8) (hd2 : d2 + 1 ≤ d)
    (hv : VH l Γ T2 hh d2 1 0 (As ++ List.replicate (T2.2.2.1 - As.length) .null) [] (M, L) (q_h Pk)) (hk : ∀ (x : Int32) (M' : qM) (L' : Nat → Int64), Pk x M' L' → V l Γ T d r (pc + 3) ls (.int x :: rest) (M', L') Q) : V l Γ T d (r + 1) pc ls (As.reverse ++ rest) (M, L) Q := by
  refine V.callSH hf hok2 hpl hcw hw hmh hsg hn hmax hm21 hcat hrcat hrl hd2 (Nat.le_add_left 1 r) (fun ec S h => by obtain ⟨_, _, _, h, -⟩ := h; cases h) hv (fun v S' h => ?_)
  obtain ⟨x, M', L', h1, rfl, h2⟩ := h
  cases h1
  exact hk x M' L' h2
theorem VH.mono {hh : List (Nat × Nat × Nat × Nat)} {Q2 : qO → qS → Prop} (h : VH l Γ T hh d r pc ls st S Q2) (hq : ∀ o S, Q2 o S → Q o S) : VH l Γ T hh d r pc ls st S Q := by
  intro A p e R s m args below meth c H locs cells slots Lr hok hC hW hL hc1 hc2 hhh Tt hT X
  obtain ⟨t, a1, b1⟩ := h A p e R s m args below meth c H locs cells slots Lr hok hC hW hL hc1 hc2 hhh Tt hT X
  refine ⟨t, a1, ?_⟩
  rcases b1 with ⟨o, x1, x2, ⟨⟨v, S2, q1, q2⟩, q3⟩, x4⟩ | ⟨ec, S2, q1, q2⟩
  · exact Or.inl ⟨o, x1, x2, ⟨⟨v, S2, hq _ _ q1, q2⟩, q3⟩, x4⟩
  · exact Or.inr ⟨ec, S2, hq _ _ q1, q2⟩
end Posts
