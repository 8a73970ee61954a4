section New
variable {l : Launch} {Γ : qG} {d : Nat} {L : Nat → Int64} {M : qM} {R R2 : qM → Prop}
theorem pairI.mono {Tc Tm : qT} {ac am : List Value} (h : pairI l Γ d L Tc Tm ac am M R) (k : ∀ M, R M → R2 M) : pairI l Γ d L Tc Tm ac am M R2 := by
  obtain ⟨P1, h1, h2⟩ := h
  refine ⟨P1, h1, fun x1 M1 q => ?_⟩
  obtain ⟨P2, h3, h4⟩ := h2 x1 M1 q
  exact ⟨P2, h3, fun x2 M2 q2 => ⟨(h4 x2 M2 q2).1, k _ (h4 x2 M2 q2).2⟩⟩
theorem pairN.mono {Tc Tm : qT} {ac am : List Value} (h : pairN l Γ d L Tc Tm ac am M R) (k : ∀ M, R M → R2 M) : pairN l Γ d L Tc Tm ac am M R2 := by
  obtain ⟨P1, h1, h2⟩ := h
  refine ⟨P1, h1, fun M1 q => ?_⟩
  obtain ⟨P2, h3, h4⟩ := h2 M1 q
  exact ⟨P2, h3, fun M2 q2 => k _ (h4 M2 q2)⟩
theorem pairH.mono {Th Tm : qT} {hh : List (Nat × Nat × Nat × Nat)} {ac am : List Value} (h : pairH l Γ d L Th hh Tm ac am M R) (k : ∀ M, R M → R2 M) : pairH l Γ d L Th hh Tm ac am M R2 := by
  obtain ⟨P1, h1, h2⟩ := h
  refine ⟨P1, h1, fun x1 M1 L1 q => ?_⟩
  obtain ⟨P2, h3, h4⟩ := h2 x1 M1 L1 q
  exact ⟨P2, h3, fun x2 M2 q2 => ⟨(h4 x2 M2 q2).1, (h4 x2 M2 q2).2.1, k _ (h4 x2 M2 q2).2.2⟩⟩
theorem pairW.mono {Th Tm : qT} {hh : List (Nat × Nat × Nat × Nat)} {ac am : List Value} (h : pairW l Γ d L Th hh Tm ac am M R) (k : ∀ M, R M → R2 M) : pairW l Γ d L Th hh Tm ac am M R2 := by
  obtain ⟨P1, h1, h2⟩ := h
  refine ⟨P1, h1, fun x1 M1 L1 q => ?_⟩
  obtain ⟨P2, h3, h4⟩ := h2 x1 M1 L1 q
  exact ⟨P2, h3, fun M2 q2 => ⟨(h4 M2 q2).1, k _ (h4 M2 q2).2⟩⟩
theorem cPr00 : cPr M00 [] := ⟨rfl, by decide, rw_nil _⟩
theorem mPr00 : mPr M00 [] := ⟨rfl, by decide, rw_nil _⟩
theorem rel00 (okS : List Int → Prop) : Rel okS M00 := by
  have hz : isSh 0 := by unfold isSh; decide
  refine ⟨⟨[], ⟨rfl, Nat.zero_le _, rw_nil _⟩, ⟨rfl, Nat.zero_le _, rw_nil _⟩, by simp⟩, ⟨[], ⟨rfl, Nat.zero_le _, rw_nil _⟩, ⟨rfl, rw_nil _⟩, by simp⟩, ⟨[], ⟨rfl, Nat.zero_le _, rw_nil _⟩, ⟨rfl, rw_nil _⟩, by simp⟩, ⟨0, by omega, rfl, rfl, fun j hj => by omega⟩, ⟨fun k _ => ⟨rfl, hz⟩, fun k _ => ⟨rfl, hz⟩⟩, [], cPr00, mPr00, ⟨fun i j hi => by simp at hi, by simp⟩, 0, rfl, rfl, by omega, fun q => by omega, fun q => by omega⟩
/-- the first call on new objects -/
theorem all00 (htr : l.stackTraces = false) : allP l Γ 99 M00 (fun _ => True) := by
  have h := rel00 (fun _ => True)
  exact ⟨(fun L a => (pair_type h L a).mono (fun _ _ => trivial)), (fun L => (pair_wipe h L).mono (fun _ _ => trivial)), (fun L => ⟨_, c_enter0 rfl, fun x1 M1 q1 => ⟨_, cm_enter0 (by rw [q1.2 27 (by decide)]; rfl), fun x2 M2 q2 => ⟨q1.1.trans q2.symm, trivial⟩⟩⟩), (fun L => (pair_lines h L).mono (fun _ _ => trivial)), (fun L a => pair_list_out htr cPr00 mPr00 a (by simp) trivial), (fun L a => (pair_programByte htr h L a).mono (fun _ _ => trivial)), (fun L => (pair_start h L).mono (fun _ _ => trivial)), (fun L a => pair_run_out (z := 0) htr rfl rfl (by omega) a (by omega) (fun _ => trivial)), (fun L => (pair_state h L).mono (fun _ _ => trivial)), (fun L => (pair_place h L).mono (fun _ _ => trivial)), (fun L a => (pair_variable htr h L a).mono (fun _ _ => trivial)), (fun L a => (pair_cell htr h L a).mono (fun _ _ => trivial)), (fun L => (pair_output h L).mono (fun _ _ => trivial)), (fun L => (pair_save h L).mono (fun _ _ => trivial)), (fun L => ⟨_, c_load0 rfl, fun x1 M1 q1 => ⟨_, cm_load0 (by rw [q1.2 27 (by decide)]; rfl), fun x2 M2 q2 => ⟨q1.1.trans q2.symm, trivial⟩⟩⟩), (fun L a b => (pair_wobble htr h L a b).mono (fun _ _ => trivial)), (fun L => (pair_waves h L).mono (fun _ _ => trivial)), (fun L a => (pair_wave htr h L a).mono (fun _ _ => trivial)), (fun L a b => (pair_setWave htr h L a b).mono (fun _ _ => trivial)), (fun L => (pair_length h L).mono (fun _ _ => trivial)), (fun L a => (pair_charAt h L a).mono (fun _ _ => trivial))⟩
end New
