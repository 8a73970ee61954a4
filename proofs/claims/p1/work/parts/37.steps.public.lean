def q_ti (L : Nat → Int64) (P : Int32 → qM → Prop) (E : Nat → qM → Prop) : qO → qS → Prop := fun o S => (∃ (x : Int32) (M : qM), o = .inl (some (.int x)) ∧ S = (M, L) ∧ P x M) ∨ ∃ (ec : Nat) (M : qM), o = .inr ec ∧ S = (M, L) ∧ E ec M
def q_tn (L : Nat → Int64) (P : qM → Prop) (E : Nat → qM → Prop) : qO → qS → Prop := fun o S => (∃ M : qM, o = .inl none ∧ S = (M, L) ∧ P M) ∨ ∃ (ec : Nat) (M : qM), o = .inr ec ∧ S = (M, L) ∧ E ec M
section Thrs
variable {l : Launch} {Γ : qG} {T : qT} {d r pc : Nat} {ls : List Value} {S : qS} {Q : qO → qS → Prop}
theorem V.thr0 {a0 b0 a1 b1 a2 b2 a3 b3 : Nat} (h0 : q_ft T.2.2.2.2 pc = some (.new 92, 3, a0, b0)) (h1 : q_ft T.2.2.2.2 (pc + 3) = some (.dup, 1, a1, b1)) (h2 : q_ft T.2.2.2.2 (pc + 4) = some (.invokespecial 94, 3, a2, b2)) (h3 : q_ft T.2.2.2.2 (pc + 7) = some (.athrow, 1, a3, b3))
    (hg : q_good T) (hc : T.1.cls = "TapedLines") (htr : l.stackTraces = false) (hd : 8 ≤ d) (hr1 : 1 ≤ r) (hq : Q (.inr 0) S) : V l Γ T d r pc ls [] S Q := by
  have h := q_exc
  simp only [Bool.and_eq_true] at h
  have hi := List.all_eq_true.mp q_exi 0 (List.mem_range.mpr (by decide))
  simp only [Bool.and_eq_true] at hi
  exact V.thr (ec := 0) (names := q_nms) h0 h1 h2 h3 hg.2.1 (by rw [hc]; decide) htr hi.2 q_nms_fit (by decide) (by rw [hc]; exact q_ex0) (by rw [hc]; exact h.1.1) hi.1.1 hi.1.2 hd hr1 hq
theorem V.thr1 {a0 b0 a1 b1 a2 b2 a3 b3 : Nat} (h0 : q_ft T.2.2.2.2 pc = some (.new 106, 3, a0, b0)) (h1 : q_ft T.2.2.2.2 (pc + 3) = some (.dup, 1, a1, b1)) (h2 : q_ft T.2.2.2.2 (pc + 4) = some (.invokespecial 108, 3, a2, b2)) (h3 : q_ft T.2.2.2.2 (pc + 7) = some (.athrow, 1, a3, b3))
    (hg : q_good T) (hc : T.1.cls = "TapedLines") (htr : l.stackTraces = false) (hd : 8 ≤ d) (hr1 : 1 ≤ r) (hq : Q (.inr 1) S) : V l Γ T d r pc ls [] S Q := by
  have h := q_exc
  simp only [Bool.and_eq_true] at h
  have hi := List.all_eq_true.mp q_exi 1 (List.mem_range.mpr (by decide))
  simp only [Bool.and_eq_true] at hi
  exact V.thr (ec := 1) (names := q_nms) h0 h1 h2 h3 hg.2.1 (by rw [hc]; decide) htr hi.2 q_nms_fit (by decide) (by rw [hc]; exact q_ex1) (by rw [hc]; exact h.1.2) hi.1.1 hi.1.2 hd hr1 hq
theorem V.thr2 {a0 b0 a1 b1 a2 b2 a3 b3 : Nat} (h0 : q_ft T.2.2.2.2 pc = some (.new 109, 3, a0, b0)) (h1 : q_ft T.2.2.2.2 (pc + 3) = some (.dup, 1, a1, b1)) (h2 : q_ft T.2.2.2.2 (pc + 4) = some (.invokespecial 111, 3, a2, b2)) (h3 : q_ft T.2.2.2.2 (pc + 7) = some (.athrow, 1, a3, b3))
    (hg : q_good T) (hc : T.1.cls = "TapedLines") (htr : l.stackTraces = false) (hd : 8 ≤ d) (hr1 : 1 ≤ r) (hq : Q (.inr 2) S) : V l Γ T d r pc ls [] S Q := by
  have h := q_exc
  simp only [Bool.and_eq_true] at h
  have hi := List.all_eq_true.mp q_exi 2 (List.mem_range.mpr (by decide))
  simp only [Bool.and_eq_true] at hi
  exact V.thr (ec := 2) (names := q_nms) h0 h1 h2 h3 hg.2.1 (by rw [hc]; decide) htr hi.2 q_nms_fit (by decide) (by rw [hc]; exact q_ex2) (by rw [hc]; exact h.2) hi.1.1 hi.1.2 hd hr1 hq
end Thrs
set_option maxRecDepth 100000 in
set_option maxHeartbeats 4000000 in
theorem s_TapedLines_list_0 {l : Launch} {Γ : qG} {d r : Nat} {M : qM} {L : Nat → Int64} {P : Int32 → qM → Prop} (a : Int32) {E : Nat → qM → Prop} (htr : l.stackTraces = false) (hd8 : 8 ≤ d) (hr1 : 1 ≤ r) (h : ∃ P1 : Int32 → qM → Prop, V l Γ T_Program_lineAt d 0 0 [.ref 10, .int a, .null, .null] [] (M, L) (q_i L P1) ∧ ∀ (x1 : Int32) (M1 : qM), P1 x1 M1 → (¬ x1 = (iI (-1)) → vp_in x1 200 ∧ ∃ P2 : qM → Prop, V l Γ T_Sheet_appendNumber d 0 0 [.ref 3, .int (M1 11 (x1).toNatClampNeg), .null, .null, .null] [] ((q_up M1 3 1 (iI 0)), L) (q_n L P2) ∧ ∀ (M2 : qM), P2 M2 → ∃ P3 : Int32 → qM → Prop, V l Γ T_Sheet_append d 0 0 [.ref 3, .int (iI 32)] [] (M2, L) (q_i L P3) ∧ ∀ (x3 : Int32) (M3 : qM), P3 x3 M3 → vp_in (x1 + (iI 1)) 200 ∧ ∃ P4 : qM → Prop, V l Γ T_Sheet_spell d 0 0 [.ref 3, .ref 11, .int (x1 + (iI 2)), .int (M3 11 ((x1 + (iI 1))).toNatClampNeg), .null, .null] [] (M3, L) (q_n L P4) ∧ ∀ (M4 : qM), P4 M4 → P (M4 3 1) M4) ∧ (¬ (¬ x1 = (iI (-1))) → E 0 M1)) : V l Γ T_TapedLines_list (d + 1) r 0 [.ref 0, .int a, .null] [] (M, L) (q_ti L P E) := by
  refine V.run 3 (pc' := 5) (ls' := [.ref 0, .int a, .null]) (st' := [.int a, .ref 10]) (S' := (M, L)) rfl ?_
  obtain ⟨P1, hv1, h⟩ := h
  refine V.callVi (T2 := T_Program_lineAt) (As := [.int a]) (rest := []) rfl rfl g_Program_lineAt rfl rfl rfl rfl (Nat.le_of_ble_eq_true rfl) (by simp [Value.category]) (by simp [Value.category]) (Nat.le_of_ble_eq_true rfl) (Nat.le_refl _) hv1 (fun x1 M1 hq => ?_)
  have h := h x1 M1 hq
  refine V.run 3 (pc' := 11) (ls' := [.ref 0, .int a, .int x1]) (st' := [.int (iI (-1)), .int x1]) (S' := (M1, L)) rfl ?_
  refine V.icmp (cd := .ne) rfl (fun hc => ?_) (fun hc => ?_)
  · have h := h.1 hc
    refine V.run 10 (pc' := 42) (ls' := [.ref 0, .int a, .int x1]) (st' := [.int x1, .ref 11, .ref 3]) (S' := ((q_up M1 3 1 (iI 0)), L)) rfl ?_
    refine V.iald rfl rfl h.1 ?_
    have h := h.2
    obtain ⟨P2, hv2, h⟩ := h
    refine V.callVv (T2 := T_Sheet_appendNumber) (As := [.int (M1 11 (x1).toNatClampNeg)]) (rest := []) rfl rfl g_Sheet_appendNumber rfl rfl rfl rfl (Nat.le_of_ble_eq_true rfl) (by simp [Value.category]) (by simp [Value.category]) (Nat.le_of_ble_eq_true rfl) (Nat.le_refl _) hv2 (fun M2 hq => ?_)
    have h := h M2 hq
    refine V.run 3 (pc' := 52) (ls' := [.ref 0, .int a, .int x1]) (st' := [.int (iI 32), .ref 3]) (S' := (M2, L)) rfl ?_
    obtain ⟨P3, hv3, h⟩ := h
    refine V.callVi (T2 := T_Sheet_append) (As := [.int (iI 32)]) (rest := []) rfl rfl g_Sheet_append rfl rfl rfl rfl (Nat.le_of_ble_eq_true rfl) (by simp [Value.category]) (by simp [Value.category]) (Nat.le_of_ble_eq_true rfl) (Nat.le_refl _) hv3 (fun x3 M3 hq => ?_)
    have h := h x3 M3 hq
    refine V.run 15 (pc' := 80) (ls' := [.ref 0, .int a, .int x1]) (st' := [.int (x1 + (iI 1)), .ref 11, .int (x1 + (iI 2)), .ref 11, .ref 3]) (S' := (M3, L)) rfl ?_
    refine V.iald rfl rfl h.1 ?_
    have h := h.2
    obtain ⟨P4, hv4, h⟩ := h
    refine V.callVv (T2 := T_Sheet_spell) (As := [.ref 11, .int (x1 + (iI 2)), .int (M3 11 ((x1 + (iI 1))).toNatClampNeg)]) (rest := []) rfl rfl g_Sheet_spell rfl rfl rfl rfl (Nat.le_of_ble_eq_true rfl) (by simp [Value.category]) (by simp [Value.category]) (Nat.le_of_ble_eq_true rfl) (Nat.le_refl _) hv4 (fun M4 hq => ?_)
    have h := h M4 hq
    refine V.run 3 (pc' := 91) (ls' := [.ref 0, .int a, .int x1]) (st' := [.int (M4 3 1)]) (S' := (M4, L)) rfl ?_
    exact V.iret rfl rfl (Or.inl ⟨_, _, rfl, rfl, h⟩)
  · have h := h.2 hc
    exact V.thr0 rfl rfl rfl rfl g_TapedLines_list rfl htr (by omega) hr1 (Or.inr ⟨_, _, rfl, rfl, h⟩)
set_option maxRecDepth 100000 in
set_option maxHeartbeats 4000000 in
theorem s_TapedLines_programByte_0 {l : Launch} {Γ : qG} {d r : Nat} {M : qM} {L : Nat → Int64} {P : Int32 → qM → Prop} (a : Int32) {E : Nat → qM → Prop} (htr : l.stackTraces = false) (hd8 : 8 ≤ d) (hr1 : 1 ≤ r) (h : (a < 0 → E 0 M) ∧ (¬ a < 0 → (a < (M 10 1) → vp_in a 200 ∧ P (M 11 (a).toNatClampNeg) M) ∧ (¬ a < (M 10 1) → E 0 M))) : V l Γ T_TapedLines_programByte d r 0 [.ref 0, .int a] [] (M, L) (q_ti L P E) := by
  refine V.run 1 (pc' := 1) (ls' := [.ref 0, .int a]) (st' := [.int a]) (S' := (M, L)) rfl ?_
  refine V.ifc (cd := .lt) rfl (fun hc => ?_) (fun hc => ?_)
  · have h := h.1 hc
    exact V.thr0 rfl rfl rfl rfl g_TapedLines_programByte rfl htr (by omega) hr1 (Or.inr ⟨_, _, rfl, rfl, h⟩)
  · have h := h.2 hc
    refine V.run 4 (pc' := 12) (ls' := [.ref 0, .int a]) (st' := [.int (M 10 1), .int a]) (S' := (M, L)) rfl ?_
    refine V.icmp (cd := .lt) rfl (fun hc => ?_) (fun hc => ?_)
    · have h := h.1 hc
      refine V.run 4 (pc' := 31) (ls' := [.ref 0, .int a]) (st' := [.int a, .ref 11]) (S' := (M, L)) rfl ?_
      refine V.iald rfl rfl h.1 ?_
      have h := h.2
      exact V.iret rfl rfl (Or.inl ⟨_, _, rfl, rfl, h⟩)
    · have h := h.2 hc
      exact V.thr0 rfl rfl rfl rfl g_TapedLines_programByte rfl htr (by omega) hr1 (Or.inr ⟨_, _, rfl, rfl, h⟩)
set_option maxRecDepth 100000 in
set_option maxHeartbeats 4000000 in
theorem s_TapedLines_run_0 {l : Launch} {Γ : qG} {d r : Nat} {M : qM} {L : Nat → Int64} {P : Int32 → qM → Prop} (a : Int32) {E : Nat → qM → Prop} (htr : l.stackTraces = false) (hd8 : 8 ≤ d) (hr1 : 1 ≤ r) (h : (a < (iI 1) → E 1 M) ∧ (¬ a < (iI 1) → (a ≤ (iI 1000) → ((M 9 4) = (iI 1) → V l Γ T_TapedLines_run (d + 1) r 43 [.ref 0, .int a, .int (iI 0), .int (iI 0)] [] (M, L) (q_ti L P E)) ∧ (¬ (M 9 4) = (iI 1) → E 2 M)) ∧ (¬ a ≤ (iI 1000) → E 1 M))) : V l Γ T_TapedLines_run (d + 1) r 0 [.ref 0, .int a, .null, .null] [] (M, L) (q_ti L P E) := by
  refine V.run 2 (pc' := 2) (ls' := [.ref 0, .int a, .null, .null]) (st' := [.int (iI 1), .int a]) (S' := (M, L)) rfl ?_
  refine V.icmp (cd := .lt) rfl (fun hc => ?_) (fun hc => ?_)
  · have h := h.1 hc
    exact V.thr1 rfl rfl rfl rfl g_TapedLines_run rfl htr (by omega) hr1 (Or.inr ⟨_, _, rfl, rfl, h⟩)
  · have h := h.2 hc
    refine V.run 2 (pc' := 9) (ls' := [.ref 0, .int a, .null, .null]) (st' := [.int (iI 1000), .int a]) (S' := (M, L)) rfl ?_
    refine V.icmp (cd := .le) rfl (fun hc => ?_) (fun hc => ?_)
    · have h := h.1 hc
      refine V.run 4 (pc' := 28) (ls' := [.ref 0, .int a, .null, .null]) (st' := [.int (iI 1), .int (M 9 4)]) (S' := (M, L)) rfl ?_
      refine V.icmp (cd := .eq) rfl (fun hc => ?_) (fun hc => ?_)
      · have h := h.1 hc
        refine V.run 4 (pc' := 43) (ls' := [.ref 0, .int a, .int (iI 0), .int (iI 0)]) (st' := []) (S' := (M, L)) rfl ?_
        exact h
      · have h := h.2 hc
        exact V.thr2 rfl rfl rfl rfl g_TapedLines_run rfl htr (by omega) hr1 (Or.inr ⟨_, _, rfl, rfl, h⟩)
    · have h := h.2 hc
      exact V.thr1 rfl rfl rfl rfl g_TapedLines_run rfl htr (by omega) hr1 (Or.inr ⟨_, _, rfl, rfl, h⟩)
set_option maxRecDepth 100000 in
set_option maxHeartbeats 4000000 in
theorem s_TapedLines_run_43 {l : Launch} {Γ : qG} {d r : Nat} {M : qM} {L : Nat → Int64} {P : Int32 → qM → Prop} (v1 v2 v3 : Int32) {E : Nat → qM → Prop} (htr : l.stackTraces = false) (hd8 : 8 ≤ d) (hr1 : 1 ≤ r) (h : (v1 ≤ v3 → P v2 M) ∧ (¬ v1 ≤ v3 → (¬ (M 9 4) = (iI 1) → P v2 M) ∧ (¬ (¬ (M 9 4) = (iI 1)) → ∃ P1 : Int32 → qM → Prop, V l Γ T_Machine_perform d 0 0 [.ref 9] [] (M, L) (q_i L P1) ∧ ∀ (x1 : Int32) (M1 : qM), P1 x1 M1 → ∃ P2 : Int32 → qM → Prop, V l Γ T_Machine_settle d 0 0 [.ref 9, .int x1] [] (M1, L) (q_i L P2) ∧ ∀ (x2 : Int32) (M2 : qM), P2 x2 M2 → (x2 = 0 → V l Γ T_TapedLines_run (d + 1) r 43 [.ref 0, .int v1, .int v2, .int (v3 + (iI 1))] [] (M2, L) (q_ti L P E)) ∧ (¬ x2 = 0 → V l Γ T_TapedLines_run (d + 1) r 43 [.ref 0, .int v1, .int (v2 + (iI 1)), .int (v3 + (iI 1))] [] (M2, L) (q_ti L P E))))) : V l Γ T_TapedLines_run (d + 1) r 43 [.ref 0, .int v1, .int v2, .int v3] [] (M, L) (q_ti L P E) := by
  refine V.run 2 (pc' := 45) (ls' := [.ref 0, .int v1, .int v2, .int v3]) (st' := [.int v1, .int v3]) (S' := (M, L)) rfl ?_
  refine V.icmp (cd := .ge) rfl (fun hc => ?_) (fun hc => ?_)
  · have h := h.1 hc
    refine V.run 1 (pc' := 86) (ls' := [.ref 0, .int v1, .int v2, .int v3]) (st' := [.int v2]) (S' := (M, L)) rfl ?_
    exact V.iret rfl rfl (Or.inl ⟨_, _, rfl, rfl, h⟩)
  · have h := h.2 hc
    refine V.run 4 (pc' := 56) (ls' := [.ref 0, .int v1, .int v2, .int v3]) (st' := [.int (iI 1), .int (M 9 4)]) (S' := (M, L)) rfl ?_
    refine V.icmp (cd := .ne) rfl (fun hc => ?_) (fun hc => ?_)
    · have h := h.1 hc
      refine V.run 1 (pc' := 86) (ls' := [.ref 0, .int v1, .int v2, .int v3]) (st' := [.int v2]) (S' := (M, L)) rfl ?_
      exact V.iret rfl rfl (Or.inl ⟨_, _, rfl, rfl, h⟩)
    · have h := h.2 hc
      refine V.run 4 (pc' := 67) (ls' := [.ref 0, .int v1, .int v2, .int v3]) (st' := [.ref 9, .ref 9]) (S' := (M, L)) rfl ?_
      obtain ⟨P1, hv1, h⟩ := h
      refine V.callVi (T2 := T_Machine_perform) (As := []) (rest := [.ref 9]) rfl rfl g_Machine_perform rfl rfl rfl rfl (Nat.le_of_ble_eq_true rfl) (by simp [Value.category]) (by simp [Value.category]) (Nat.le_of_ble_eq_true rfl) (Nat.le_refl _) hv1 (fun x1 M1 hq => ?_)
      have h := h x1 M1 hq
      obtain ⟨P2, hv2, h⟩ := h
      refine V.callVi (T2 := T_Machine_settle) (As := [.int x1]) (rest := []) rfl rfl g_Machine_settle rfl rfl rfl rfl (Nat.le_of_ble_eq_true rfl) (by simp [Value.category]) (by simp [Value.category]) (Nat.le_of_ble_eq_true rfl) (Nat.le_refl _) hv2 (fun x2 M2 hq => ?_)
      have h := h x2 M2 hq
      refine V.ifc (cd := .eq) rfl (fun hc => ?_) (fun hc => ?_)
      · have h := h.1 hc
        refine V.run 2 (pc' := 43) (ls' := [.ref 0, .int v1, .int v2, .int (v3 + (iI 1))]) (st' := []) (S' := (M2, L)) rfl ?_
        exact h
      · have h := h.2 hc
        refine V.run 3 (pc' := 43) (ls' := [.ref 0, .int v1, .int (v2 + (iI 1)), .int (v3 + (iI 1))]) (st' := []) (S' := (M2, L)) rfl ?_
        exact h
set_option maxRecDepth 100000 in
set_option maxHeartbeats 4000000 in
theorem s_TapedLines_variable_0 {l : Launch} {Γ : qG} {d r : Nat} {M : qM} {L : Nat → Int64} {P : Int32 → qM → Prop} (a : Int32) {E : Nat → qM → Prop} (htr : l.stackTraces = false) (hd8 : 8 ≤ d) (hr1 : 1 ≤ r) (h : (a < 0 → E 0 M) ∧ (¬ a < 0 → (a < (iI 8) → vp_in a 8 ∧ P (M 13 (a).toNatClampNeg) M) ∧ (¬ a < (iI 8) → E 0 M))) : V l Γ T_TapedLines_variable d r 0 [.ref 0, .int a] [] (M, L) (q_ti L P E) := by
  refine V.run 1 (pc' := 1) (ls' := [.ref 0, .int a]) (st' := [.int a]) (S' := (M, L)) rfl ?_
  refine V.ifc (cd := .lt) rfl (fun hc => ?_) (fun hc => ?_)
  · have h := h.1 hc
    exact V.thr0 rfl rfl rfl rfl g_TapedLines_variable rfl htr (by omega) hr1 (Or.inr ⟨_, _, rfl, rfl, h⟩)
  · have h := h.2 hc
    refine V.run 2 (pc' := 7) (ls' := [.ref 0, .int a]) (st' := [.int (iI 8), .int a]) (S' := (M, L)) rfl ?_
    refine V.icmp (cd := .lt) rfl (fun hc => ?_) (fun hc => ?_)
    · have h := h.1 hc
      refine V.run 4 (pc' := 26) (ls' := [.ref 0, .int a]) (st' := [.int a, .ref 13]) (S' := (M, L)) rfl ?_
      refine V.iald rfl rfl h.1 ?_
      have h := h.2
      exact V.iret rfl rfl (Or.inl ⟨_, _, rfl, rfl, h⟩)
    · have h := h.2 hc
      exact V.thr0 rfl rfl rfl rfl g_TapedLines_variable rfl htr (by omega) hr1 (Or.inr ⟨_, _, rfl, rfl, h⟩)
set_option maxRecDepth 100000 in
set_option maxHeartbeats 4000000 in
theorem s_TapedLines_cell_0 {l : Launch} {Γ : qG} {d r : Nat} {M : qM} {L : Nat → Int64} {P : Int32 → qM → Prop} (a : Int32) {E : Nat → qM → Prop} (htr : l.stackTraces = false) (hd8 : 8 ≤ d) (hr1 : 1 ≤ r) (h : (a < 0 → E 0 M) ∧ (¬ a < 0 → (a < (iI 16) → vp_in a 16 ∧ P (M 14 (a).toNatClampNeg) M) ∧ (¬ a < (iI 16) → E 0 M))) : V l Γ T_TapedLines_cell d r 0 [.ref 0, .int a] [] (M, L) (q_ti L P E) := by
  refine V.run 1 (pc' := 1) (ls' := [.ref 0, .int a]) (st' := [.int a]) (S' := (M, L)) rfl ?_
  refine V.ifc (cd := .lt) rfl (fun hc => ?_) (fun hc => ?_)
  · have h := h.1 hc
    exact V.thr0 rfl rfl rfl rfl g_TapedLines_cell rfl htr (by omega) hr1 (Or.inr ⟨_, _, rfl, rfl, h⟩)
  · have h := h.2 hc
    refine V.run 2 (pc' := 7) (ls' := [.ref 0, .int a]) (st' := [.int (iI 16), .int a]) (S' := (M, L)) rfl ?_
    refine V.icmp (cd := .lt) rfl (fun hc => ?_) (fun hc => ?_)
    · have h := h.1 hc
      refine V.run 4 (pc' := 26) (ls' := [.ref 0, .int a]) (st' := [.int a, .ref 14]) (S' := (M, L)) rfl ?_
      refine V.iald rfl rfl h.1 ?_
      have h := h.2
      exact V.iret rfl rfl (Or.inl ⟨_, _, rfl, rfl, h⟩)
    · have h := h.2 hc
      exact V.thr0 rfl rfl rfl rfl g_TapedLines_cell rfl htr (by omega) hr1 (Or.inr ⟨_, _, rfl, rfl, h⟩)
set_option maxRecDepth 100000 in
set_option maxHeartbeats 4000000 in
theorem s_TapedLines_wobble_0 {l : Launch} {Γ : qG} {d r : Nat} {M : qM} {L : Nat → Int64} {P : qM → Prop} (a b : Int32) {E : Nat → qM → Prop} (htr : l.stackTraces = false) (hd8 : 8 ≤ d) (hr1 : 1 ≤ r) (h : (b < 0 → E 1 M) ∧ (¬ b < 0 → (b ≤ (iI 50) → ∃ P1 : qM → Prop, V l Γ T_Tape_shake d 0 0 [.ref 24, .int a, .int b, .null, .null, .null] [] (M, L) (q_n L P1) ∧ ∀ (M1 : qM), P1 M1 → P M1) ∧ (¬ b ≤ (iI 50) → E 1 M))) : V l Γ T_TapedLines_wobble (d + 1) r 0 [.ref 0, .int a, .int b] [] (M, L) (q_tn L P E) := by
  refine V.run 1 (pc' := 1) (ls' := [.ref 0, .int a, .int b]) (st' := [.int b]) (S' := (M, L)) rfl ?_
  refine V.ifc (cd := .lt) rfl (fun hc => ?_) (fun hc => ?_)
  · have h := h.1 hc
    exact V.thr1 rfl rfl rfl rfl g_TapedLines_wobble rfl htr (by omega) hr1 (Or.inr ⟨_, _, rfl, rfl, h⟩)
  · have h := h.2 hc
    refine V.run 2 (pc' := 7) (ls' := [.ref 0, .int a, .int b]) (st' := [.int (iI 50), .int b]) (S' := (M, L)) rfl ?_
    refine V.icmp (cd := .le) rfl (fun hc => ?_) (fun hc => ?_)
    · have h := h.1 hc
      refine V.run 4 (pc' := 24) (ls' := [.ref 0, .int a, .int b]) (st' := [.int b, .int a, .ref 24]) (S' := (M, L)) rfl ?_
      obtain ⟨P1, hv1, h⟩ := h
      refine V.callVv (T2 := T_Tape_shake) (As := [.int a, .int b]) (rest := []) rfl rfl g_Tape_shake rfl rfl rfl rfl (Nat.le_of_ble_eq_true rfl) (by simp [Value.category]) (by simp [Value.category]) (Nat.le_of_ble_eq_true rfl) (Nat.le_refl _) hv1 (fun M1 hq => ?_)
      have h := h M1 hq
      exact V.vret rfl rfl (Or.inl ⟨_, rfl, rfl, h⟩)
    · have h := h.2 hc
      exact V.thr1 rfl rfl rfl rfl g_TapedLines_wobble rfl htr (by omega) hr1 (Or.inr ⟨_, _, rfl, rfl, h⟩)
set_option maxRecDepth 100000 in
set_option maxHeartbeats 4000000 in
theorem s_TapedLines_wave_0 {l : Launch} {Γ : qG} {d r : Nat} {M : qM} {L : Nat → Int64} {P : Int32 → qM → Prop} (a : Int32) {E : Nat → qM → Prop} (htr : l.stackTraces = false) (hd8 : 8 ≤ d) (hr1 : 1 ≤ r) (h : (a < 0 → E 0 M) ∧ (¬ a < 0 → (a < (M 24 2) → vp_in a 7754 ∧ P (M 25 (a).toNatClampNeg) M) ∧ (¬ a < (M 24 2) → E 0 M))) : V l Γ T_TapedLines_wave d r 0 [.ref 0, .int a] [] (M, L) (q_ti L P E) := by
  refine V.run 1 (pc' := 1) (ls' := [.ref 0, .int a]) (st' := [.int a]) (S' := (M, L)) rfl ?_
  refine V.ifc (cd := .lt) rfl (fun hc => ?_) (fun hc => ?_)
  · have h := h.1 hc
    exact V.thr0 rfl rfl rfl rfl g_TapedLines_wave rfl htr (by omega) hr1 (Or.inr ⟨_, _, rfl, rfl, h⟩)
  · have h := h.2 hc
    refine V.run 4 (pc' := 12) (ls' := [.ref 0, .int a]) (st' := [.int (M 24 2), .int a]) (S' := (M, L)) rfl ?_
    refine V.icmp (cd := .lt) rfl (fun hc => ?_) (fun hc => ?_)
    · have h := h.1 hc
      refine V.run 4 (pc' := 31) (ls' := [.ref 0, .int a]) (st' := [.int a, .ref 25]) (S' := (M, L)) rfl ?_
      refine V.iald rfl rfl h.1 ?_
      have h := h.2
      exact V.iret rfl rfl (Or.inl ⟨_, _, rfl, rfl, h⟩)
    · have h := h.2 hc
      exact V.thr0 rfl rfl rfl rfl g_TapedLines_wave rfl htr (by omega) hr1 (Or.inr ⟨_, _, rfl, rfl, h⟩)
set_option maxRecDepth 100000 in
set_option maxHeartbeats 4000000 in
theorem s_TapedLines_setWave_0 {l : Launch} {Γ : qG} {d r : Nat} {M : qM} {L : Nat → Int64} {P : Int32 → qM → Prop} (a b : Int32) {E : Nat → qM → Prop} (htr : l.stackTraces = false) (hd8 : 8 ≤ d) (hr1 : 1 ≤ r) (h : (a < 0 → E 0 M) ∧ (¬ a < 0 → (a < (M 24 2) → (b < (iI 1) → E 1 M) ∧ (¬ b < (iI 1) → (b ≤ (iI 100) → vp_in a 7754 ∧ vp_in a 7754 ∧ P (M 25 (a).toNatClampNeg) (q_up M 25 (a).toNatClampNeg b)) ∧ (¬ b ≤ (iI 100) → E 1 M))) ∧ (¬ a < (M 24 2) → E 0 M))) : V l Γ T_TapedLines_setWave d r 0 [.ref 0, .int a, .int b, .null] [] (M, L) (q_ti L P E) := by
  refine V.run 1 (pc' := 1) (ls' := [.ref 0, .int a, .int b, .null]) (st' := [.int a]) (S' := (M, L)) rfl ?_
  refine V.ifc (cd := .lt) rfl (fun hc => ?_) (fun hc => ?_)
  · have h := h.1 hc
    exact V.thr0 rfl rfl rfl rfl g_TapedLines_setWave rfl htr (by omega) hr1 (Or.inr ⟨_, _, rfl, rfl, h⟩)
  · have h := h.2 hc
    refine V.run 4 (pc' := 12) (ls' := [.ref 0, .int a, .int b, .null]) (st' := [.int (M 24 2), .int a]) (S' := (M, L)) rfl ?_
    refine V.icmp (cd := .lt) rfl (fun hc => ?_) (fun hc => ?_)
    · have h := h.1 hc
      refine V.run 2 (pc' := 25) (ls' := [.ref 0, .int a, .int b, .null]) (st' := [.int (iI 1), .int b]) (S' := (M, L)) rfl ?_
      refine V.icmp (cd := .lt) rfl (fun hc => ?_) (fun hc => ?_)
      · have h := h.1 hc
        exact V.thr1 rfl rfl rfl rfl g_TapedLines_setWave rfl htr (by omega) hr1 (Or.inr ⟨_, _, rfl, rfl, h⟩)
      · have h := h.2 hc
        refine V.run 2 (pc' := 31) (ls' := [.ref 0, .int a, .int b, .null]) (st' := [.int (iI 100), .int b]) (S' := (M, L)) rfl ?_
        refine V.icmp (cd := .le) rfl (fun hc => ?_) (fun hc => ?_)
        · have h := h.1 hc
          refine V.run 4 (pc' := 50) (ls' := [.ref 0, .int a, .int b, .null]) (st' := [.int a, .ref 25]) (S' := (M, L)) rfl ?_
          refine V.iald rfl rfl h.1 ?_
          have h := h.2
          refine V.run 6 (pc' := 61) (ls' := [.ref 0, .int a, .int b, .int (M 25 (a).toNatClampNeg)]) (st' := [.int b, .int a, .ref 25]) (S' := (M, L)) rfl ?_
          refine V.iast rfl rfl h.1 ?_
          have h := h.2
          refine V.run 1 (pc' := 63) (ls' := [.ref 0, .int a, .int b, .int (M 25 (a).toNatClampNeg)]) (st' := [.int (M 25 (a).toNatClampNeg)]) (S' := ((q_up M 25 (a).toNatClampNeg b), L)) rfl ?_
          exact V.iret rfl rfl (Or.inl ⟨_, _, rfl, rfl, h⟩)
        · have h := h.2 hc
          exact V.thr1 rfl rfl rfl rfl g_TapedLines_setWave rfl htr (by omega) hr1 (Or.inr ⟨_, _, rfl, rfl, h⟩)
    · have h := h.2 hc
      exact V.thr0 rfl rfl rfl rfl g_TapedLines_setWave rfl htr (by omega) hr1 (Or.inr ⟨_, _, rfl, rfl, h⟩)
