set_option maxRecDepth 100000 in
set_option maxHeartbeats 4000000 in
theorem s_TapedLines_type_0 {l : Launch} {Γ : qG} {d r : Nat} {M : qM} {L : Nat → Int64} {P : Int32 → qM → Prop} (a : Int32) (h : ∃ P1 : Int32 → qM → Prop, V l Γ T_TapedLines_isCharacter d 0 0 [.int a] [] (M, L) (q_i L P1) ∧ ∀ (x1 : Int32) (M1 : qM), P1 x1 M1 → (x1 = 0 → P (iI 0) M1) ∧ (¬ x1 = 0 → ∃ P2 : Int32 → qM → Prop, V l Γ T_Sheet_append d 0 0 [.ref 1, .int a] [] (M1, L) (q_i L P2) ∧ ∀ (x2 : Int32) (M2 : qM), P2 x2 M2 → (x2 = 0 → P (iI 0) M2) ∧ (¬ x2 = 0 → P (iI 1) M2))) : V l Γ T_TapedLines_type (d + 1) r 0 [.ref 0, .int a] [] (M, L) (q_i L P) := by
  refine V.run 1 (pc' := 1) (ls' := [.ref 0, .int a]) (st' := [.int a]) (S' := (M, L)) rfl ?_
  obtain ⟨P1, hv1, h⟩ := h
  refine V.callSi (T2 := T_TapedLines_isCharacter) (As := [.int a]) (rest := []) rfl rfl g_TapedLines_isCharacter rfl (Nat.le_of_ble_eq_true rfl) (by simp [Value.category]) (by simp [Value.category]) (Nat.le_of_ble_eq_true rfl) (Nat.le_refl _) hv1 (fun x1 M1 hq => ?_)
  have h := h x1 M1 hq
  refine V.ifc (cd := .eq) rfl (fun hc => ?_) (fun hc => ?_)
  · have h := h.1 hc
    refine V.run 1 (pc' := 23) (ls' := [.ref 0, .int a]) (st' := [.int (iI 0)]) (S' := (M1, L)) rfl ?_
    exact V.zret rfl rfl (by decide) ⟨_, _, rfl, rfl, h⟩
  · have h := h.2 hc
    refine V.run 3 (pc' := 12) (ls' := [.ref 0, .int a]) (st' := [.int a, .ref 1]) (S' := (M1, L)) rfl ?_
    obtain ⟨P2, hv2, h⟩ := h
    refine V.callVi (T2 := T_Sheet_append) (As := [.int a]) (rest := []) rfl rfl g_Sheet_append rfl rfl rfl rfl (Nat.le_of_ble_eq_true rfl) (by simp [Value.category]) (by simp [Value.category]) (Nat.le_of_ble_eq_true rfl) (Nat.le_refl _) hv2 (fun x2 M2 hq => ?_)
    have h := h x2 M2 hq
    refine V.ifc (cd := .eq) rfl (fun hc => ?_) (fun hc => ?_)
    · have h := h.1 hc
      refine V.run 1 (pc' := 23) (ls' := [.ref 0, .int a]) (st' := [.int (iI 0)]) (S' := (M2, L)) rfl ?_
      exact V.zret rfl rfl (by decide) ⟨_, _, rfl, rfl, h⟩
    · have h := h.2 hc
      refine V.run 2 (pc' := 23) (ls' := [.ref 0, .int a]) (st' := [.int (iI 1)]) (S' := (M2, L)) rfl ?_
      exact V.zret rfl rfl (by decide) ⟨_, _, rfl, rfl, h⟩
set_option maxRecDepth 100000 in
set_option maxHeartbeats 4000000 in
theorem s_TapedLines_wipe_0 {l : Launch} {Γ : qG} {d r : Nat} {M : qM} {L : Nat → Int64} {P : Int32 → qM → Prop} (h : P (M 1 1) (q_up M 1 1 (iI 0))) : V l Γ T_TapedLines_wipe d r 0 [.ref 0, .null] [] (M, L) (q_i L P) := by
  refine V.run 9 (pc' := 17) (ls' := [.ref 0, .int (M 1 1)]) (st' := [.int (M 1 1)]) (S' := ((q_up M 1 1 (iI 0)), L)) rfl ?_
  exact V.iret rfl rfl ⟨_, _, rfl, rfl, h⟩
set_option maxRecDepth 100000 in
set_option maxHeartbeats 4000000 in
theorem s_TapedLines_enter_0 {l : Launch} {Γ : qG} {d r : Nat} {M : qM} {L : Nat → Int64} {P : Int32 → qM → Prop} (h : ∃ P1 : Int32 → qM → Prop, V l Γ T_LineReader_readLine d 0 0 [.ref 5, .ref 1] [] (M, L) (q_i L P1) ∧ ∀ (x1 : Int32) (M1 : qM), P1 x1 M1 → (¬ x1 = 0 → ∃ P2 : Int32 → qM → Prop, V l Γ T_Program_replace d 0 0 [.ref 10, .int (M1 5 2), .ref 6, .int (M1 5 1), .null, .null, .null] [] ((q_up M1 1 1 (iI 0)), L) (q_i L P2) ∧ ∀ (x2 : Int32) (M2 : qM), P2 x2 M2 → (¬ x2 = 0 → P (M2 10 1) (q_up M2 9 4 (iI 0))) ∧ (¬ (¬ x2 = 0) → P (iI (-100)) M2)) ∧ (¬ (¬ x1 = 0) → P ((iI (-1)) - (M1 5 3)) (q_up M1 1 1 (iI 0)))) : V l Γ T_TapedLines_enter (d + 1) r 0 [.ref 0, .null] [] (M, L) (q_i L P) := by
  refine V.run 4 (pc' := 8) (ls' := [.ref 0, .null]) (st' := [.ref 1, .ref 5]) (S' := (M, L)) rfl ?_
  obtain ⟨P1, hv1, h⟩ := h
  refine V.callVi (T2 := T_LineReader_readLine) (As := [.ref 1]) (rest := []) rfl rfl g_LineReader_readLine rfl rfl rfl rfl (Nat.le_of_ble_eq_true rfl) (by simp [Value.category]) (by simp [Value.category]) (Nat.le_of_ble_eq_true rfl) (Nat.le_refl _) hv1 (fun x1 M1 hq => ?_)
  have h := h x1 M1 hq
  refine V.run 6 (pc' := 21) (ls' := [.ref 0, .int x1]) (st' := [.int x1]) (S' := ((q_up M1 1 1 (iI 0)), L)) rfl ?_
  refine V.ifc (cd := .ne) rfl (fun hc => ?_) (fun hc => ?_)
  · have h := h.1 hc
    refine V.run 11 (pc' := 59) (ls' := [.ref 0, .int x1]) (st' := [.int (M1 5 1), .ref 6, .int (M1 5 2), .ref 10]) (S' := ((q_up M1 1 1 (iI 0)), L)) rfl ?_
    obtain ⟨P2, hv2, h⟩ := h
    refine V.callVi (T2 := T_Program_replace) (As := [.int (M1 5 2), .ref 6, .int (M1 5 1)]) (rest := []) rfl rfl g_Program_replace rfl rfl rfl rfl (Nat.le_of_ble_eq_true rfl) (by simp [Value.category]) (by simp [Value.category]) (Nat.le_of_ble_eq_true rfl) (Nat.le_refl _) hv2 (fun x2 M2 hq => ?_)
    have h := h x2 M2 hq
    refine V.ifc (cd := .ne) rfl (fun hc => ?_) (fun hc => ?_)
    · have h := h.1 hc
      refine V.run 7 (pc' := 83) (ls' := [.ref 0, .int x1]) (st' := [.int (M2 10 1)]) (S' := ((q_up M2 9 4 (iI 0)), L)) rfl ?_
      exact V.iret rfl rfl ⟨_, _, rfl, rfl, h⟩
    · have h := h.2 hc
      refine V.run 1 (pc' := 67) (ls' := [.ref 0, .int x1]) (st' := [.int (iI (-100))]) (S' := (M2, L)) rfl ?_
      exact V.iret rfl rfl ⟨_, _, rfl, rfl, h⟩
  · have h := h.2 hc
    refine V.run 5 (pc' := 33) (ls' := [.ref 0, .int x1]) (st' := [.int ((iI (-1)) - (M1 5 3))]) (S' := ((q_up M1 1 1 (iI 0)), L)) rfl ?_
    exact V.iret rfl rfl ⟨_, _, rfl, rfl, h⟩
set_option maxRecDepth 100000 in
set_option maxHeartbeats 4000000 in
theorem s_TapedLines_lines_0 {l : Launch} {Γ : qG} {d r : Nat} {M : qM} {L : Nat → Int64} {P : Int32 → qM → Prop} (h : ∃ P1 : Int32 → qM → Prop, V l Γ T_Program_countLines d 0 0 [.ref 10, .null, .null] [] (M, L) (q_i L P1) ∧ ∀ (x1 : Int32) (M1 : qM), P1 x1 M1 → P x1 M1) : V l Γ T_TapedLines_lines (d + 1) r 0 [.ref 0] [] (M, L) (q_i L P) := by
  refine V.run 2 (pc' := 4) (ls' := [.ref 0]) (st' := [.ref 10]) (S' := (M, L)) rfl ?_
  obtain ⟨P1, hv1, h⟩ := h
  refine V.callVi (T2 := T_Program_countLines) (As := []) (rest := []) rfl rfl g_Program_countLines rfl rfl rfl rfl (Nat.le_of_ble_eq_true rfl) (by simp [Value.category]) (by simp [Value.category]) (Nat.le_of_ble_eq_true rfl) (Nat.le_refl _) hv1 (fun x1 M1 hq => ?_)
  have h := h x1 M1 hq
  exact V.iret rfl rfl ⟨_, _, rfl, rfl, h⟩
set_option maxRecDepth 100000 in
set_option maxHeartbeats 4000000 in
theorem s_TapedLines_start_0 {l : Launch} {Γ : qG} {d r : Nat} {M : qM} {L : Nat → Int64} {P : qM → Prop} (h : ∃ P1 : qM → Prop, V l Γ T_Machine_begin d 0 0 [.ref 9, .null] [] (M, L) (q_n L P1) ∧ ∀ (M1 : qM), P1 M1 → P M1) : V l Γ T_TapedLines_start (d + 1) r 0 [.ref 0] [] (M, L) (q_n L P) := by
  refine V.run 2 (pc' := 4) (ls' := [.ref 0]) (st' := [.ref 9]) (S' := (M, L)) rfl ?_
  obtain ⟨P1, hv1, h⟩ := h
  refine V.callVv (T2 := T_Machine_begin) (As := []) (rest := []) rfl rfl g_Machine_begin rfl rfl rfl rfl (Nat.le_of_ble_eq_true rfl) (by simp [Value.category]) (by simp [Value.category]) (Nat.le_of_ble_eq_true rfl) (Nat.le_refl _) hv1 (fun M1 hq => ?_)
  have h := h M1 hq
  exact V.vret rfl rfl ⟨_, rfl, rfl, h⟩
set_option maxRecDepth 100000 in
set_option maxHeartbeats 4000000 in
theorem s_TapedLines_state_0 {l : Launch} {Γ : qG} {d r : Nat} {M : qM} {L : Nat → Int64} {P : Int32 → qM → Prop} (h : P (M 9 4) M) : V l Γ T_TapedLines_state d r 0 [.ref 0] [] (M, L) (q_i L P) := by
  refine V.run 3 (pc' := 7) (ls' := [.ref 0]) (st' := [.int (M 9 4)]) (S' := (M, L)) rfl ?_
  exact V.iret rfl rfl ⟨_, _, rfl, rfl, h⟩
set_option maxRecDepth 100000 in
set_option maxHeartbeats 4000000 in
theorem s_TapedLines_place_0 {l : Launch} {Γ : qG} {d r : Nat} {M : qM} {L : Nat → Int64} {P : Int32 → qM → Prop} (h : ((M 9 4) = (iI 1) → V l Γ T_TapedLines_place d r 28 [.ref 0, .null] [.int (iI 1)] (M, L) (q_i L P)) ∧ (¬ (M 9 4) = (iI 1) → ((M 9 4) ≤ (iI 10) → V l Γ T_TapedLines_place d r 28 [.ref 0, .null] [.int (iI 0)] (M, L) (q_i L P)) ∧ (¬ (M 9 4) ≤ (iI 10) → V l Γ T_TapedLines_place d r 28 [.ref 0, .null] [.int (iI 1)] (M, L) (q_i L P)))) : V l Γ T_TapedLines_place d r 0 [.ref 0, .null] [] (M, L) (q_i L P) := by
  refine V.run 4 (pc' := 8) (ls' := [.ref 0, .null]) (st' := [.int (iI 1), .int (M 9 4)]) (S' := (M, L)) rfl ?_
  refine V.icmp (cd := .eq) rfl (fun hc => ?_) (fun hc => ?_)
  · have h := h.1 hc
    refine V.run 2 (pc' := 28) (ls' := [.ref 0, .null]) (st' := [.int (iI 1)]) (S' := (M, L)) rfl ?_
    exact h
  · have h := h.2 hc
    refine V.run 4 (pc' := 20) (ls' := [.ref 0, .null]) (st' := [.int (iI 10), .int (M 9 4)]) (S' := (M, L)) rfl ?_
    refine V.icmp (cd := .le) rfl (fun hc => ?_) (fun hc => ?_)
    · have h := h.1 hc
      refine V.run 1 (pc' := 28) (ls' := [.ref 0, .null]) (st' := [.int (iI 0)]) (S' := (M, L)) rfl ?_
      exact h
    · have h := h.2 hc
      refine V.run 2 (pc' := 28) (ls' := [.ref 0, .null]) (st' := [.int (iI 1)]) (S' := (M, L)) rfl ?_
      exact h
set_option maxRecDepth 100000 in
set_option maxHeartbeats 4000000 in
theorem s_TapedLines_place_28 {l : Launch} {Γ : qG} {d r : Nat} {M : qM} {L : Nat → Int64} {P : Int32 → qM → Prop} (w0 : Int32) (h : (w0 = 0 → P (iI (-1)) M) ∧ (¬ w0 = 0 → vp_in (M 9 5) 200 ∧ P (M 11 ((M 9 5)).toNatClampNeg) M)) : V l Γ T_TapedLines_place d r 28 [.ref 0, .null] [.int w0] (M, L) (q_i L P) := by
  refine V.run 2 (pc' := 30) (ls' := [.ref 0, .int w0]) (st' := [.int w0]) (S' := (M, L)) rfl ?_
  refine V.ifc (cd := .eq) rfl (fun hc => ?_) (fun hc => ?_)
  · have h := h.1 hc
    refine V.run 1 (pc' := 52) (ls' := [.ref 0, .int w0]) (st' := [.int (iI (-1))]) (S' := (M, L)) rfl ?_
    exact V.iret rfl rfl ⟨_, _, rfl, rfl, h⟩
  · have h := h.2 hc
    refine V.run 6 (pc' := 47) (ls' := [.ref 0, .int w0]) (st' := [.int (M 9 5), .ref 11]) (S' := (M, L)) rfl ?_
    refine V.iald rfl rfl h.1 ?_
    have h := h.2
    refine V.run 1 (pc' := 52) (ls' := [.ref 0, .int w0]) (st' := [.int (M 11 ((M 9 5)).toNatClampNeg)]) (S' := (M, L)) rfl ?_
    exact V.iret rfl rfl ⟨_, _, rfl, rfl, h⟩
set_option maxRecDepth 100000 in
set_option maxHeartbeats 4000000 in
theorem s_TapedLines_output_0 {l : Launch} {Γ : qG} {d r : Nat} {M : qM} {L : Nat → Int64} {P : Int32 → qM → Prop} (h : ∃ P1 : qM → Prop, V l Γ T_Sheet_appendSheet d 0 0 [.ref 3, .ref 16, .null] [] ((q_up M 3 1 (iI 0)), L) (q_n L P1) ∧ ∀ (M1 : qM), P1 M1 → P (M1 3 1) M1) : V l Γ T_TapedLines_output (d + 1) r 0 [.ref 0] [] (M, L) (q_i L P) := by
  refine V.run 9 (pc' := 19) (ls' := [.ref 0]) (st' := [.ref 16, .ref 3]) (S' := ((q_up M 3 1 (iI 0)), L)) rfl ?_
  obtain ⟨P1, hv1, h⟩ := h
  refine V.callVv (T2 := T_Sheet_appendSheet) (As := [.ref 16]) (rest := []) rfl rfl g_Sheet_appendSheet rfl rfl rfl rfl (Nat.le_of_ble_eq_true rfl) (by simp [Value.category]) (by simp [Value.category]) (Nat.le_of_ble_eq_true rfl) (Nat.le_refl _) hv1 (fun M1 hq => ?_)
  have h := h M1 hq
  refine V.run 3 (pc' := 29) (ls' := [.ref 0]) (st' := [.int (M1 3 1)]) (S' := (M1, L)) rfl ?_
  exact V.iret rfl rfl ⟨_, _, rfl, rfl, h⟩
set_option maxRecDepth 100000 in
set_option maxHeartbeats 4000000 in
theorem s_TapedLines_save_0 {l : Launch} {Γ : qG} {d r : Nat} {M : qM} {L : Nat → Int64} {P : Int32 → qM → Prop} (h : ∃ P1 : qM → Prop, V l Γ T_Tape_record d 0 0 [.ref 24, .ref 11, .int (M 10 1), .null] [] (M, L) (q_n L P1) ∧ ∀ (M1 : qM), P1 M1 → P (M1 24 2) M1) : V l Γ T_TapedLines_save (d + 1) r 0 [.ref 0] [] (M, L) (q_i L P) := by
  refine V.run 8 (pc' := 18) (ls' := [.ref 0]) (st' := [.int (M 10 1), .ref 11, .ref 24]) (S' := (M, L)) rfl ?_
  obtain ⟨P1, hv1, h⟩ := h
  refine V.callVv (T2 := T_Tape_record) (As := [.ref 11, .int (M 10 1)]) (rest := []) rfl rfl g_Tape_record rfl rfl rfl rfl (Nat.le_of_ble_eq_true rfl) (by simp [Value.category]) (by simp [Value.category]) (Nat.le_of_ble_eq_true rfl) (Nat.le_refl _) hv1 (fun M1 hq => ?_)
  have h := h M1 hq
  refine V.run 3 (pc' := 28) (ls' := [.ref 0]) (st' := [.int (M1 24 2)]) (S' := (M1, L)) rfl ?_
  exact V.iret rfl rfl ⟨_, _, rfl, rfl, h⟩
set_option maxRecDepth 100000 in
set_option maxHeartbeats 4000000 in
theorem s_TapedLines_load_0 {l : Launch} {Γ : qG} {d r : Nat} {M : qM} {L : Nat → Int64} {P : Int32 → qM → Prop} (h : ∃ P1 : Int32 → qM → Prop, V l Γ T_Tape_hear d 0 0 [.ref 24, .null, .null] [] (M, L) (q_i L P1) ∧ ∀ (x1 : Int32) (M1 : qM), P1 x1 M1 → (¬ x1 = (iI (-2)) → ∃ P2 : Int32 → qM → Prop, V l Γ T_Tape_heardSum d 0 0 [.ref 24, .int x1] [] (M1, L) (q_i L P2) ∧ ∀ (x2 : Int32) (M2 : qM), P2 x2 M2 → ∃ P3 : Int32 → qM → Prop, V l Γ T_TapedLines_sumOf d 0 0 [.ref 26, .int x1, .null, .null] [] (M2, L) (q_i L P3) ∧ ∀ (x3 : Int32) (M3 : qM), P3 x3 M3 → (¬ x2 = x3 → P (iI (-3)) M3) ∧ (¬ (¬ x2 = x3) → ∃ P4 : Int32 → qM → Prop, V l Γ T_LineReader_acceptsProgram d 0 0 [.ref 5, .ref 26, .int x1, .null, .null, .null] [] (M3, L) (q_i L P4) ∧ ∀ (x4 : Int32) (M4 : qM), P4 x4 M4 → (¬ x4 = 0 → ∃ P5 : qM → Prop, V l Γ T_Program_become d 0 0 [.ref 10, .ref 26, .int x1] [] (M4, L) (q_n L P5) ∧ ∀ (M5 : qM), P5 M5 → ∃ P6 : Int32 → qM → Prop, V l Γ T_Program_countLines d 0 0 [.ref 10, .null, .null] [] ((q_up M5 9 4 (iI 0)), L) (q_i L P6) ∧ ∀ (x6 : Int32) (M6 : qM), P6 x6 M6 → P x6 M6) ∧ (¬ (¬ x4 = 0) → P (iI (-3)) M4))) ∧ (¬ (¬ x1 = (iI (-2))) → P (iI (-2)) M1)) : V l Γ T_TapedLines_load (d + 1) r 0 [.ref 0, .null] [] (M, L) (q_i L P) := by
  refine V.run 2 (pc' := 4) (ls' := [.ref 0, .null]) (st' := [.ref 24]) (S' := (M, L)) rfl ?_
  obtain ⟨P1, hv1, h⟩ := h
  refine V.callVi (T2 := T_Tape_hear) (As := []) (rest := []) rfl rfl g_Tape_hear rfl rfl rfl rfl (Nat.le_of_ble_eq_true rfl) (by simp [Value.category]) (by simp [Value.category]) (Nat.le_of_ble_eq_true rfl) (Nat.le_refl _) hv1 (fun x1 M1 hq => ?_)
  have h := h x1 M1 hq
  refine V.run 3 (pc' := 11) (ls' := [.ref 0, .int x1]) (st' := [.int (iI (-2)), .int x1]) (S' := (M1, L)) rfl ?_
  refine V.icmp (cd := .ne) rfl (fun hc => ?_) (fun hc => ?_)
  · have h := h.1 hc
    refine V.run 3 (pc' := 22) (ls' := [.ref 0, .int x1]) (st' := [.int x1, .ref 24]) (S' := (M1, L)) rfl ?_
    obtain ⟨P2, hv2, h⟩ := h
    refine V.callVi (T2 := T_Tape_heardSum) (As := [.int x1]) (rest := []) rfl rfl g_Tape_heardSum rfl rfl rfl rfl (Nat.le_of_ble_eq_true rfl) (by simp [Value.category]) (by simp [Value.category]) (Nat.le_of_ble_eq_true rfl) (Nat.le_refl _) hv2 (fun x2 M2 hq => ?_)
    have h := h x2 M2 hq
    refine V.run 4 (pc' := 33) (ls' := [.ref 0, .int x1]) (st' := [.int x1, .ref 26, .int x2]) (S' := (M2, L)) rfl ?_
    obtain ⟨P3, hv3, h⟩ := h
    refine V.callSi (T2 := T_TapedLines_sumOf) (As := [.ref 26, .int x1]) (rest := [.int x2]) rfl rfl g_TapedLines_sumOf rfl (Nat.le_of_ble_eq_true rfl) (by simp [Value.category]) (by simp [Value.category]) (Nat.le_of_ble_eq_true rfl) (Nat.le_refl _) hv3 (fun x3 M3 hq => ?_)
    have h := h x3 M3 hq
    refine V.icmp (cd := .ne) rfl (fun hc => ?_) (fun hc => ?_)
    · have h := h.1 hc
      refine V.run 1 (pc' := 59) (ls' := [.ref 0, .int x1]) (st' := [.int (iI (-3))]) (S' := (M3, L)) rfl ?_
      exact V.iret rfl rfl ⟨_, _, rfl, rfl, h⟩
    · have h := h.2 hc
      refine V.run 6 (pc' := 51) (ls' := [.ref 0, .int x1]) (st' := [.int x1, .ref 26, .ref 5]) (S' := (M3, L)) rfl ?_
      obtain ⟨P4, hv4, h⟩ := h
      refine V.callVi (T2 := T_LineReader_acceptsProgram) (As := [.ref 26, .int x1]) (rest := []) rfl rfl g_LineReader_acceptsProgram rfl rfl rfl rfl (Nat.le_of_ble_eq_true rfl) (by simp [Value.category]) (by simp [Value.category]) (Nat.le_of_ble_eq_true rfl) (Nat.le_refl _) hv4 (fun x4 M4 hq => ?_)
      have h := h x4 M4 hq
      refine V.ifc (cd := .ne) rfl (fun hc => ?_) (fun hc => ?_)
      · have h := h.1 hc
        refine V.run 6 (pc' := 72) (ls' := [.ref 0, .int x1]) (st' := [.int x1, .ref 26, .ref 10]) (S' := (M4, L)) rfl ?_
        obtain ⟨P5, hv5, h⟩ := h
        refine V.callVv (T2 := T_Program_become) (As := [.ref 26, .int x1]) (rest := []) rfl rfl g_Program_become rfl rfl rfl rfl (Nat.le_of_ble_eq_true rfl) (by simp [Value.category]) (by simp [Value.category]) (Nat.le_of_ble_eq_true rfl) (Nat.le_refl _) hv5 (fun M5 hq => ?_)
        have h := h M5 hq
        refine V.run 6 (pc' := 87) (ls' := [.ref 0, .int x1]) (st' := [.ref 10]) (S' := ((q_up M5 9 4 (iI 0)), L)) rfl ?_
        obtain ⟨P6, hv6, h⟩ := h
        refine V.callVi (T2 := T_Program_countLines) (As := []) (rest := []) rfl rfl g_Program_countLines rfl rfl rfl rfl (Nat.le_of_ble_eq_true rfl) (by simp [Value.category]) (by simp [Value.category]) (Nat.le_of_ble_eq_true rfl) (Nat.le_refl _) hv6 (fun x6 M6 hq => ?_)
        have h := h x6 M6 hq
        exact V.iret rfl rfl ⟨_, _, rfl, rfl, h⟩
      · have h := h.2 hc
        refine V.run 1 (pc' := 59) (ls' := [.ref 0, .int x1]) (st' := [.int (iI (-3))]) (S' := (M4, L)) rfl ?_
        exact V.iret rfl rfl ⟨_, _, rfl, rfl, h⟩
  · have h := h.2 hc
    refine V.run 1 (pc' := 16) (ls' := [.ref 0, .int x1]) (st' := [.int (iI (-2))]) (S' := (M1, L)) rfl ?_
    exact V.iret rfl rfl ⟨_, _, rfl, rfl, h⟩
set_option maxRecDepth 100000 in
set_option maxHeartbeats 4000000 in
theorem s_TapedLines_waves_0 {l : Launch} {Γ : qG} {d r : Nat} {M : qM} {L : Nat → Int64} {P : Int32 → qM → Prop} (h : P (M 24 2) M) : V l Γ T_TapedLines_waves d r 0 [.ref 0] [] (M, L) (q_i L P) := by
  refine V.run 3 (pc' := 7) (ls' := [.ref 0]) (st' := [.int (M 24 2)]) (S' := (M, L)) rfl ?_
  exact V.iret rfl rfl ⟨_, _, rfl, rfl, h⟩
set_option maxRecDepth 100000 in
set_option maxHeartbeats 4000000 in
theorem s_TapedLines_length_0 {l : Launch} {Γ : qG} {d r : Nat} {M : qM} {L : Nat → Int64} {P : Int32 → qM → Prop} (h : P (M 3 1) M) : V l Γ T_TapedLines_length d r 0 [.ref 0] [] (M, L) (q_i L P) := by
  refine V.run 3 (pc' := 7) (ls' := [.ref 0]) (st' := [.int (M 3 1)]) (S' := (M, L)) rfl ?_
  exact V.iret rfl rfl ⟨_, _, rfl, rfl, h⟩
set_option maxRecDepth 100000 in
set_option maxHeartbeats 4000000 in
theorem s_TapedLines_charAt_0 {l : Launch} {Γ : qG} {d r : Nat} {M : qM} {L : Nat → Int64} {P : Int32 → qM → Prop} (a : Int32) (h : (a < 0 → P (iI 32) M) ∧ (¬ a < 0 → ((M 3 1) ≤ a → P (iI 32) M) ∧ (¬ (M 3 1) ≤ a → vp_in a 256 ∧ narrow .char (.int (M 4 (a).toNatClampNeg)) = .int (M 4 (a).toNatClampNeg) ∧ P (M 4 (a).toNatClampNeg) M))) : V l Γ T_TapedLines_charAt d r 0 [.ref 0, .int a] [] (M, L) (q_i L P) := by
  refine V.run 1 (pc' := 1) (ls' := [.ref 0, .int a]) (st' := [.int a]) (S' := (M, L)) rfl ?_
  refine V.ifc (cd := .lt) rfl (fun hc => ?_) (fun hc => ?_)
  · have h := h.1 hc
    refine V.run 1 (pc' := 29) (ls' := [.ref 0, .int a]) (st' := [.int (iI 32)]) (S' := (M, L)) rfl ?_
    exact V.zret rfl rfl (by decide) ⟨_, _, rfl, rfl, h⟩
  · have h := h.2 hc
    refine V.run 4 (pc' := 12) (ls' := [.ref 0, .int a]) (st' := [.int (M 3 1), .int a]) (S' := (M, L)) rfl ?_
    refine V.icmp (cd := .ge) rfl (fun hc => ?_) (fun hc => ?_)
    · have h := h.1 hc
      refine V.run 1 (pc' := 29) (ls' := [.ref 0, .int a]) (st' := [.int (iI 32)]) (S' := (M, L)) rfl ?_
      exact V.zret rfl rfl (by decide) ⟨_, _, rfl, rfl, h⟩
    · have h := h.2 hc
      refine V.run 4 (pc' := 23) (ls' := [.ref 0, .int a]) (st' := [.int a, .ref 4]) (S' := (M, L)) rfl ?_
      refine V.cald rfl rfl h.1 ?_
      have h := h.2
      refine V.run 1 (pc' := 29) (ls' := [.ref 0, .int a]) (st' := [.int (M 4 (a).toNatClampNeg)]) (S' := (M, L)) rfl ?_
      exact V.zret rfl rfl h.1 ⟨_, _, rfl, rfl, h.2⟩
set_option maxRecDepth 100000 in
set_option maxHeartbeats 4000000 in
theorem s_TapedLines_isCharacter_0 {l : Launch} {Γ : qG} {d r : Nat} {M : qM} {L : Nat → Int64} {P : Int32 → qM → Prop} (a : Int32) (h : (a < (iI 32) → P (iI 0) M) ∧ (¬ a < (iI 32) → ((iI 126) < a → P (iI 0) M) ∧ (¬ (iI 126) < a → P (iI 1) M))) : V l Γ T_TapedLines_isCharacter d r 0 [.int a] [] (M, L) (q_i L P) := by
  refine V.run 2 (pc' := 3) (ls' := [.int a]) (st' := [.int (iI 32), .int a]) (S' := (M, L)) rfl ?_
  refine V.icmp (cd := .lt) rfl (fun hc => ?_) (fun hc => ?_)
  · have h := h.1 hc
    refine V.run 1 (pc' := 17) (ls' := [.int a]) (st' := [.int (iI 0)]) (S' := (M, L)) rfl ?_
    exact V.zret rfl rfl (by decide) ⟨_, _, rfl, rfl, h⟩
  · have h := h.2 hc
    refine V.run 2 (pc' := 9) (ls' := [.int a]) (st' := [.int (iI 126), .int a]) (S' := (M, L)) rfl ?_
    refine V.icmp (cd := .gt) rfl (fun hc => ?_) (fun hc => ?_)
    · have h := h.1 hc
      refine V.run 1 (pc' := 17) (ls' := [.int a]) (st' := [.int (iI 0)]) (S' := (M, L)) rfl ?_
      exact V.zret rfl rfl (by decide) ⟨_, _, rfl, rfl, h⟩
    · have h := h.2 hc
      refine V.run 2 (pc' := 17) (ls' := [.int a]) (st' := [.int (iI 1)]) (S' := (M, L)) rfl ?_
      exact V.zret rfl rfl (by decide) ⟨_, _, rfl, rfl, h⟩
set_option maxRecDepth 100000 in
set_option maxHeartbeats 4000000 in
theorem s_TapedLines_isDigit_0 {l : Launch} {Γ : qG} {d r : Nat} {M : qM} {L : Nat → Int64} {P : Int32 → qM → Prop} (a : Int32) (h : (a < (iI 48) → P (iI 0) M) ∧ (¬ a < (iI 48) → ((iI 57) < a → P (iI 0) M) ∧ (¬ (iI 57) < a → P (iI 1) M))) : V l Γ T_TapedLines_isDigit d r 0 [.int a] [] (M, L) (q_i L P) := by
  refine V.run 2 (pc' := 3) (ls' := [.int a]) (st' := [.int (iI 48), .int a]) (S' := (M, L)) rfl ?_
  refine V.icmp (cd := .lt) rfl (fun hc => ?_) (fun hc => ?_)
  · have h := h.1 hc
    refine V.run 1 (pc' := 17) (ls' := [.int a]) (st' := [.int (iI 0)]) (S' := (M, L)) rfl ?_
    exact V.zret rfl rfl (by decide) ⟨_, _, rfl, rfl, h⟩
  · have h := h.2 hc
    refine V.run 2 (pc' := 9) (ls' := [.int a]) (st' := [.int (iI 57), .int a]) (S' := (M, L)) rfl ?_
    refine V.icmp (cd := .gt) rfl (fun hc => ?_) (fun hc => ?_)
    · have h := h.1 hc
      refine V.run 1 (pc' := 17) (ls' := [.int a]) (st' := [.int (iI 0)]) (S' := (M, L)) rfl ?_
      exact V.zret rfl rfl (by decide) ⟨_, _, rfl, rfl, h⟩
    · have h := h.2 hc
      refine V.run 2 (pc' := 17) (ls' := [.int a]) (st' := [.int (iI 1)]) (S' := (M, L)) rfl ?_
      exact V.zret rfl rfl (by decide) ⟨_, _, rfl, rfl, h⟩
set_option maxRecDepth 100000 in
set_option maxHeartbeats 4000000 in
theorem s_TapedLines_isVariable_0 {l : Launch} {Γ : qG} {d r : Nat} {M : qM} {L : Nat → Int64} {P : Int32 → qM → Prop} (a : Int32) (h : (a < (iI 97) → P (iI 0) M) ∧ (¬ a < (iI 97) → ((iI 105) ≤ a → P (iI 0) M) ∧ (¬ (iI 105) ≤ a → P (iI 1) M))) : V l Γ T_TapedLines_isVariable d r 0 [.int a] [] (M, L) (q_i L P) := by
  refine V.run 2 (pc' := 3) (ls' := [.int a]) (st' := [.int (iI 97), .int a]) (S' := (M, L)) rfl ?_
  refine V.icmp (cd := .lt) rfl (fun hc => ?_) (fun hc => ?_)
  · have h := h.1 hc
    refine V.run 1 (pc' := 17) (ls' := [.int a]) (st' := [.int (iI 0)]) (S' := (M, L)) rfl ?_
    exact V.zret rfl rfl (by decide) ⟨_, _, rfl, rfl, h⟩
  · have h := h.2 hc
    refine V.run 2 (pc' := 9) (ls' := [.int a]) (st' := [.int (iI 105), .int a]) (S' := (M, L)) rfl ?_
    refine V.icmp (cd := .ge) rfl (fun hc => ?_) (fun hc => ?_)
    · have h := h.1 hc
      refine V.run 1 (pc' := 17) (ls' := [.int a]) (st' := [.int (iI 0)]) (S' := (M, L)) rfl ?_
      exact V.zret rfl rfl (by decide) ⟨_, _, rfl, rfl, h⟩
    · have h := h.2 hc
      refine V.run 2 (pc' := 17) (ls' := [.int a]) (st' := [.int (iI 1)]) (S' := (M, L)) rfl ?_
      exact V.zret rfl rfl (by decide) ⟨_, _, rfl, rfl, h⟩
set_option maxRecDepth 100000 in
set_option maxHeartbeats 4000000 in
theorem s_TapedLines_isOperator_0 {l : Launch} {Γ : qG} {d r : Nat} {M : qM} {L : Nat → Int64} {P : Int32 → qM → Prop} (a : Int32) (h : ∃ P1 : Int32 → qM → Prop, V l Γ T_TapedLines_tierOf d 0 0 [.int a] [] (M, L) (q_i L P1) ∧ ∀ (x1 : Int32) (M1 : qM), P1 x1 M1 → (x1 = (iI (-1)) → P (iI 0) M1) ∧ (¬ x1 = (iI (-1)) → P (iI 1) M1)) : V l Γ T_TapedLines_isOperator (d + 1) r 0 [.int a] [] (M, L) (q_i L P) := by
  refine V.run 1 (pc' := 1) (ls' := [.int a]) (st' := [.int a]) (S' := (M, L)) rfl ?_
  obtain ⟨P1, hv1, h⟩ := h
  refine V.callSi (T2 := T_TapedLines_tierOf) (As := [.int a]) (rest := []) rfl rfl g_TapedLines_tierOf rfl (Nat.le_of_ble_eq_true rfl) (by simp [Value.category]) (by simp [Value.category]) (Nat.le_of_ble_eq_true rfl) (Nat.le_refl _) hv1 (fun x1 M1 hq => ?_)
  have h := h x1 M1 hq
  refine V.run 1 (pc' := 5) (ls' := [.int a]) (st' := [.int (iI (-1)), .int x1]) (S' := (M1, L)) rfl ?_
  refine V.icmp (cd := .eq) rfl (fun hc => ?_) (fun hc => ?_)
  · have h := h.1 hc
    refine V.run 1 (pc' := 13) (ls' := [.int a]) (st' := [.int (iI 0)]) (S' := (M1, L)) rfl ?_
    exact V.zret rfl rfl (by decide) ⟨_, _, rfl, rfl, h⟩
  · have h := h.2 hc
    refine V.run 2 (pc' := 13) (ls' := [.int a]) (st' := [.int (iI 1)]) (S' := (M1, L)) rfl ?_
    exact V.zret rfl rfl (by decide) ⟨_, _, rfl, rfl, h⟩
set_option maxRecDepth 100000 in
set_option maxHeartbeats 4000000 in
theorem s_TapedLines_tierOf_0 {l : Launch} {Γ : qG} {d r : Nat} {M : qM} {L : Nat → Int64} {P : Int32 → qM → Prop} (a : Int32) (h : ((a).toInt = 37 → P (iI 2) M) ∧ (¬ (a).toInt = 37 → ((a).toInt = 42 → P (iI 2) M) ∧ (¬ (a).toInt = 42 → ((a).toInt = 43 → P (iI 1) M) ∧ (¬ (a).toInt = 43 → ((a).toInt = 45 → P (iI 1) M) ∧ (¬ (a).toInt = 45 → ((a).toInt = 47 → P (iI 2) M) ∧ (¬ (a).toInt = 47 → ((a).toInt = 60 → P (iI 0) M) ∧ (¬ (a).toInt = 60 → ((a).toInt = 61 → P (iI 0) M) ∧ (¬ (a).toInt = 61 → ((a).toInt = 62 → P (iI 0) M) ∧ (¬ (a).toInt = 62 → P (iI (-1)) M))))))))) : V l Γ T_TapedLines_tierOf d r 0 [.int a] [] (M, L) (q_i L P) := by
  refine V.run 1 (pc' := 1) (ls' := [.int a]) (st' := [.int a]) (S' := (M, L)) rfl ?_
  refine V.swt rfl 126 [(37, 124), (42, 124), (43, 122), (45, 122), (47, 124), (60, 120), (61, 120), (62, 120)] (by decide) (by decide) (by decide) ?_
  refine q_swP.c (fun hc => ?_) (fun hc => ?_)
  · have h := h.1 hc
    refine V.run 1 (pc' := 125) (ls' := [.int a]) (st' := [.int (iI 2)]) (S' := (M, L)) rfl ?_
    exact V.iret rfl rfl ⟨_, _, rfl, rfl, h⟩
  · have h := h.2 hc
    refine q_swP.c (fun hc => ?_) (fun hc => ?_)
    · have h := h.1 hc
      refine V.run 1 (pc' := 125) (ls' := [.int a]) (st' := [.int (iI 2)]) (S' := (M, L)) rfl ?_
      exact V.iret rfl rfl ⟨_, _, rfl, rfl, h⟩
    · have h := h.2 hc
      refine q_swP.c (fun hc => ?_) (fun hc => ?_)
      · have h := h.1 hc
        refine V.run 1 (pc' := 123) (ls' := [.int a]) (st' := [.int (iI 1)]) (S' := (M, L)) rfl ?_
        exact V.iret rfl rfl ⟨_, _, rfl, rfl, h⟩
      · have h := h.2 hc
        refine q_swP.c (fun hc => ?_) (fun hc => ?_)
        · have h := h.1 hc
          refine V.run 1 (pc' := 123) (ls' := [.int a]) (st' := [.int (iI 1)]) (S' := (M, L)) rfl ?_
          exact V.iret rfl rfl ⟨_, _, rfl, rfl, h⟩
        · have h := h.2 hc
          refine q_swP.c (fun hc => ?_) (fun hc => ?_)
          · have h := h.1 hc
            refine V.run 1 (pc' := 125) (ls' := [.int a]) (st' := [.int (iI 2)]) (S' := (M, L)) rfl ?_
            exact V.iret rfl rfl ⟨_, _, rfl, rfl, h⟩
          · have h := h.2 hc
            refine q_swP.c (fun hc => ?_) (fun hc => ?_)
            · have h := h.1 hc
              refine V.run 1 (pc' := 121) (ls' := [.int a]) (st' := [.int (iI 0)]) (S' := (M, L)) rfl ?_
              exact V.iret rfl rfl ⟨_, _, rfl, rfl, h⟩
            · have h := h.2 hc
              refine q_swP.c (fun hc => ?_) (fun hc => ?_)
              · have h := h.1 hc
                refine V.run 1 (pc' := 121) (ls' := [.int a]) (st' := [.int (iI 0)]) (S' := (M, L)) rfl ?_
                exact V.iret rfl rfl ⟨_, _, rfl, rfl, h⟩
              · have h := h.2 hc
                refine q_swP.c (fun hc => ?_) (fun hc => ?_)
                · have h := h.1 hc
                  refine V.run 1 (pc' := 121) (ls' := [.int a]) (st' := [.int (iI 0)]) (S' := (M, L)) rfl ?_
                  exact V.iret rfl rfl ⟨_, _, rfl, rfl, h⟩
                · have h := h.2 hc
                  refine q_swP.e ?_
                  refine V.run 1 (pc' := 127) (ls' := [.int a]) (st' := [.int (iI (-1))]) (S' := (M, L)) rfl ?_
                  exact V.iret rfl rfl ⟨_, _, rfl, rfl, h⟩
set_option maxRecDepth 100000 in
set_option maxHeartbeats 4000000 in
theorem s_TapedLines_sumOf_0 {l : Launch} {Γ : qG} {d r : Nat} {M : qM} {L : Nat → Int64} {P : Int32 → qM → Prop} (w : Nat) (ho : (w = 11) ∨ (w = 26)) (b : Int32) (h : V l Γ T_TapedLines_sumOf d r 4 [.ref w, .int b, .int (iI 0), .int (iI 0)] [] (M, L) (q_i L P)) : V l Γ T_TapedLines_sumOf d r 0 [.ref w, .int b, .null, .null] [] (M, L) (q_i L P) := by
  rcases ho with rfl | rfl
  · refine V.run 4 (pc' := 4) (ls' := [.ref 11, .int b, .int (iI 0), .int (iI 0)]) (st' := []) (S' := (M, L)) rfl ?_
    exact h
  · refine V.run 4 (pc' := 4) (ls' := [.ref 26, .int b, .int (iI 0), .int (iI 0)]) (st' := []) (S' := (M, L)) rfl ?_
    exact h
set_option maxRecDepth 100000 in
set_option maxHeartbeats 4000000 in
theorem s_TapedLines_sumOf_4 {l : Launch} {Γ : qG} {d r : Nat} {M : qM} {L : Nat → Int64} {P : Int32 → qM → Prop} (w : Nat) (ho : (w = 11) ∨ (w = 26)) (v1 v2 v3 : Int32) (h : (v1 ≤ v3 → P (v2 &&& (iI 65535)) M) ∧ (¬ v1 ≤ v3 → vp_in v3 (cp w) ∧ V l Γ T_TapedLines_sumOf d r 4 [.ref w, .int v1, .int (v2 + ((v3 + (iI 1)) * (M w (v3).toNatClampNeg))), .int (v3 + (iI 1))] [] (M, L) (q_i L P))) : V l Γ T_TapedLines_sumOf d r 4 [.ref w, .int v1, .int v2, .int v3] [] (M, L) (q_i L P) := by
  rcases ho with rfl | rfl
  · refine V.run 2 (pc' := 6) (ls' := [.ref 11, .int v1, .int v2, .int v3]) (st' := [.int v1, .int v3]) (S' := (M, L)) rfl ?_
    refine V.icmp (cd := .ge) rfl (fun hc => ?_) (fun hc => ?_)
    · have h := h.1 hc
      refine V.run 3 (pc' := 29) (ls' := [.ref 11, .int v1, .int v2, .int v3]) (st' := [.int (v2 &&& (iI 65535))]) (S' := (M, L)) rfl ?_
      exact V.iret rfl rfl ⟨_, _, rfl, rfl, h⟩
    · have h := h.2 hc
      refine V.run 6 (pc' := 15) (ls' := [.ref 11, .int v1, .int v2, .int v3]) (st' := [.int v3, .ref 11, .int (v3 + (iI 1)), .int v2]) (S' := (M, L)) rfl ?_
      refine V.iald rfl rfl h.1 ?_
      have h := h.2
      refine V.run 5 (pc' := 4) (ls' := [.ref 11, .int v1, .int (v2 + ((v3 + (iI 1)) * (M 11 (v3).toNatClampNeg))), .int (v3 + (iI 1))]) (st' := []) (S' := (M, L)) rfl ?_
      exact h
  · refine V.run 2 (pc' := 6) (ls' := [.ref 26, .int v1, .int v2, .int v3]) (st' := [.int v1, .int v3]) (S' := (M, L)) rfl ?_
    refine V.icmp (cd := .ge) rfl (fun hc => ?_) (fun hc => ?_)
    · have h := h.1 hc
      refine V.run 3 (pc' := 29) (ls' := [.ref 26, .int v1, .int v2, .int v3]) (st' := [.int (v2 &&& (iI 65535))]) (S' := (M, L)) rfl ?_
      exact V.iret rfl rfl ⟨_, _, rfl, rfl, h⟩
    · have h := h.2 hc
      refine V.run 6 (pc' := 15) (ls' := [.ref 26, .int v1, .int v2, .int v3]) (st' := [.int v3, .ref 26, .int (v3 + (iI 1)), .int v2]) (S' := (M, L)) rfl ?_
      refine V.iald rfl rfl h.1 ?_
      have h := h.2
      refine V.run 5 (pc' := 4) (ls' := [.ref 26, .int v1, .int (v2 + ((v3 + (iI 1)) * (M 26 (v3).toNatClampNeg))), .int (v3 + (iI 1))]) (st' := []) (S' := (M, L)) rfl ?_
      exact h
set_option maxRecDepth 100000 in
set_option maxHeartbeats 4000000 in
theorem s_Tape_record_0 {l : Launch} {Γ : qG} {d r : Nat} {M : qM} {L : Nat → Int64} {P : qM → Prop} (b : Int32) (h : V l Γ T_Tape_record (d + 1) r 7 [.ref 24, .ref 11, .int b, .int (iI 0)] [] ((q_up M 24 2 (iI 0)), L) (q_n L P)) : V l Γ T_Tape_record (d + 1) r 0 [.ref 24, .ref 11, .int b, .null] [] (M, L) (q_n L P) := by
  refine V.run 5 (pc' := 7) (ls' := [.ref 24, .ref 11, .int b, .int (iI 0)]) (st' := []) (S' := ((q_up M 24 2 (iI 0)), L)) rfl ?_
  exact h
set_option maxRecDepth 100000 in
set_option maxHeartbeats 4000000 in
theorem s_Tape_record_7 {l : Launch} {Γ : qG} {d r : Nat} {M : qM} {L : Nat → Int64} {P : qM → Prop} (v2 v3 : Int32) (h : ((iI 10) ≤ v3 → ∃ P1 : qM → Prop, V l Γ T_Tape_putByte d 0 0 [.ref 24, .int v2, .null] [] (M, L) (q_n L P1) ∧ ∀ (M1 : qM), P1 M1 → V l Γ T_Tape_record (d + 1) r 31 [.ref 24, .ref 11, .int v2, .int (iI 0)] [] (M1, L) (q_n L P)) ∧ (¬ (iI 10) ≤ v3 → ∃ P2 : qM → Prop, V l Γ T_Tape_putBit d 0 0 [.ref 24, .int (iI 1), .null, .null] [] (M, L) (q_n L P2) ∧ ∀ (M2 : qM), P2 M2 → V l Γ T_Tape_record (d + 1) r 7 [.ref 24, .ref 11, .int v2, .int (v3 + (iI 1))] [] (M2, L) (q_n L P))) : V l Γ T_Tape_record (d + 1) r 7 [.ref 24, .ref 11, .int v2, .int v3] [] (M, L) (q_n L P) := by
  refine V.run 2 (pc' := 10) (ls' := [.ref 24, .ref 11, .int v2, .int v3]) (st' := [.int (iI 10), .int v3]) (S' := (M, L)) rfl ?_
  refine V.icmp (cd := .ge) rfl (fun hc => ?_) (fun hc => ?_)
  · have h := h.1 hc
    refine V.run 2 (pc' := 26) (ls' := [.ref 24, .ref 11, .int v2, .int v3]) (st' := [.int v2, .ref 24]) (S' := (M, L)) rfl ?_
    obtain ⟨P1, hv1, h⟩ := h
    refine V.callVv (T2 := T_Tape_putByte) (As := [.int v2]) (rest := []) rfl rfl g_Tape_putByte rfl rfl rfl rfl (Nat.le_of_ble_eq_true rfl) (by simp [Value.category]) (by simp [Value.category]) (Nat.le_of_ble_eq_true rfl) (Nat.le_refl _) hv1 (fun M1 hq => ?_)
    have h := h M1 hq
    refine V.run 2 (pc' := 31) (ls' := [.ref 24, .ref 11, .int v2, .int (iI 0)]) (st' := []) (S' := (M1, L)) rfl ?_
    exact h
  · have h := h.2 hc
    refine V.run 2 (pc' := 15) (ls' := [.ref 24, .ref 11, .int v2, .int v3]) (st' := [.int (iI 1), .ref 24]) (S' := (M, L)) rfl ?_
    obtain ⟨P2, hv2, h⟩ := h
    refine V.callVv (T2 := T_Tape_putBit) (As := [.int (iI 1)]) (rest := []) rfl rfl g_Tape_putBit rfl rfl rfl rfl (Nat.le_of_ble_eq_true rfl) (by simp [Value.category]) (by simp [Value.category]) (Nat.le_of_ble_eq_true rfl) (Nat.le_refl _) hv2 (fun M2 hq => ?_)
    have h := h M2 hq
    refine V.run 2 (pc' := 7) (ls' := [.ref 24, .ref 11, .int v2, .int (v3 + (iI 1))]) (st' := []) (S' := (M2, L)) rfl ?_
    exact h
set_option maxRecDepth 100000 in
set_option maxHeartbeats 4000000 in
theorem s_Tape_record_31 {l : Launch} {Γ : qG} {d r : Nat} {M : qM} {L : Nat → Int64} {P : qM → Prop} (v2 v3 : Int32) (h : (v2 ≤ v3 → ∃ P1 : Int32 → qM → Prop, V l Γ T_TapedLines_sumOf d 0 0 [.ref 11, .int v2, .null, .null] [] (M, L) (q_i L P1) ∧ ∀ (x1 : Int32) (M1 : qM), P1 x1 M1 → ∃ P2 : qM → Prop, V l Γ T_Tape_putByte d 0 0 [.ref 24, .int (x1 >>> ((iI 8) &&& 31)), .null] [] (M1, L) (q_n L P2) ∧ ∀ (M2 : qM), P2 M2 → ∃ P3 : qM → Prop, V l Γ T_Tape_putByte d 0 0 [.ref 24, .int (x1 &&& (iI 255)), .null] [] (M2, L) (q_n L P3) ∧ ∀ (M3 : qM), P3 M3 → P M3) ∧ (¬ v2 ≤ v3 → vp_in v3 200 ∧ ∃ P4 : qM → Prop, V l Γ T_Tape_putByte d 0 0 [.ref 24, .int (M 11 (v3).toNatClampNeg), .null] [] (M, L) (q_n L P4) ∧ ∀ (M4 : qM), P4 M4 → V l Γ T_Tape_record (d + 1) r 31 [.ref 24, .ref 11, .int v2, .int (v3 + (iI 1))] [] (M4, L) (q_n L P))) : V l Γ T_Tape_record (d + 1) r 31 [.ref 24, .ref 11, .int v2, .int v3] [] (M, L) (q_n L P) := by
  refine V.run 2 (pc' := 33) (ls' := [.ref 24, .ref 11, .int v2, .int v3]) (st' := [.int v2, .int v3]) (S' := (M, L)) rfl ?_
  refine V.icmp (cd := .ge) rfl (fun hc => ?_) (fun hc => ?_)
  · have h := h.1 hc
    refine V.run 2 (pc' := 51) (ls' := [.ref 24, .ref 11, .int v2, .int v3]) (st' := [.int v2, .ref 11]) (S' := (M, L)) rfl ?_
    obtain ⟨P1, hv1, h⟩ := h
    refine V.callSNi (T2 := T_TapedLines_sumOf) (As := [.ref 11, .int v2]) (rest := []) rfl rfl g_TapedLines_sumOf rfl (Nat.le_of_ble_eq_true rfl) (by simp [Value.category]) (by simp [Value.category]) (Nat.le_of_ble_eq_true rfl) (Nat.le_refl _) hv1 (fun x1 M1 hq => ?_)
    have h := h x1 M1 hq
    refine V.run 5 (pc' := 60) (ls' := [.ref 24, .ref 11, .int v2, .int x1]) (st' := [.int (x1 >>> ((iI 8) &&& 31)), .ref 24]) (S' := (M1, L)) rfl ?_
    obtain ⟨P2, hv2, h⟩ := h
    refine V.callVv (T2 := T_Tape_putByte) (As := [.int (x1 >>> ((iI 8) &&& 31))]) (rest := []) rfl rfl g_Tape_putByte rfl rfl rfl rfl (Nat.le_of_ble_eq_true rfl) (by simp [Value.category]) (by simp [Value.category]) (Nat.le_of_ble_eq_true rfl) (Nat.le_refl _) hv2 (fun M2 hq => ?_)
    have h := h M2 hq
    refine V.run 4 (pc' := 69) (ls' := [.ref 24, .ref 11, .int v2, .int x1]) (st' := [.int (x1 &&& (iI 255)), .ref 24]) (S' := (M2, L)) rfl ?_
    obtain ⟨P3, hv3, h⟩ := h
    refine V.callVv (T2 := T_Tape_putByte) (As := [.int (x1 &&& (iI 255))]) (rest := []) rfl rfl g_Tape_putByte rfl rfl rfl rfl (Nat.le_of_ble_eq_true rfl) (by simp [Value.category]) (by simp [Value.category]) (Nat.le_of_ble_eq_true rfl) (Nat.le_refl _) hv3 (fun M3 hq => ?_)
    have h := h M3 hq
    exact V.vret rfl rfl ⟨_, rfl, rfl, h⟩
  · have h := h.2 hc
    refine V.run 3 (pc' := 39) (ls' := [.ref 24, .ref 11, .int v2, .int v3]) (st' := [.int v3, .ref 11, .ref 24]) (S' := (M, L)) rfl ?_
    refine V.iald rfl rfl h.1 ?_
    have h := h.2
    obtain ⟨P4, hv4, h⟩ := h
    refine V.callVv (T2 := T_Tape_putByte) (As := [.int (M 11 (v3).toNatClampNeg)]) (rest := []) rfl rfl g_Tape_putByte rfl rfl rfl rfl (Nat.le_of_ble_eq_true rfl) (by simp [Value.category]) (by simp [Value.category]) (Nat.le_of_ble_eq_true rfl) (Nat.le_refl _) hv4 (fun M4 hq => ?_)
    have h := h M4 hq
    refine V.run 2 (pc' := 31) (ls' := [.ref 24, .ref 11, .int v2, .int (v3 + (iI 1))]) (st' := []) (S' := (M4, L)) rfl ?_
    exact h
set_option maxRecDepth 100000 in
set_option maxHeartbeats 4000000 in
theorem s_Tape_hear_0 {l : Launch} {Γ : qG} {d r : Nat} {M : qM} {L : Nat → Int64} {P : Int32 → qM → Prop} (h : ∃ P1 : Int32 → qM → Prop, V l Γ T_Tape_hearByte d 0 0 [.ref 24, .null, .null, .null] [] ((q_up M 24 3 (iI 0)), L) (q_i L P1) ∧ ∀ (x1 : Int32) (M1 : qM), P1 x1 M1 → (¬ x1 = (iI (-2)) → V l Γ T_Tape_hear (d + 1) r 21 [.ref 24, .int x1, .int (iI 0)] [] (M1, L) (q_i L P)) ∧ (¬ (¬ x1 = (iI (-2))) → P (iI (-2)) M1)) : V l Γ T_Tape_hear (d + 1) r 0 [.ref 24, .null, .null] [] (M, L) (q_i L P) := by
  refine V.run 4 (pc' := 6) (ls' := [.ref 24, .null, .null]) (st' := [.ref 24]) (S' := ((q_up M 24 3 (iI 0)), L)) rfl ?_
  obtain ⟨P1, hv1, h⟩ := h
  refine V.callVi (T2 := T_Tape_hearByte) (As := []) (rest := []) rfl rfl g_Tape_hearByte rfl rfl rfl rfl (Nat.le_of_ble_eq_true rfl) (by simp [Value.category]) (by simp [Value.category]) (Nat.le_of_ble_eq_true rfl) (Nat.le_refl _) hv1 (fun x1 M1 hq => ?_)
  have h := h x1 M1 hq
  refine V.run 3 (pc' := 13) (ls' := [.ref 24, .int x1, .null]) (st' := [.int (iI (-2)), .int x1]) (S' := (M1, L)) rfl ?_
  refine V.icmp (cd := .ne) rfl (fun hc => ?_) (fun hc => ?_)
  · have h := h.1 hc
    refine V.run 2 (pc' := 21) (ls' := [.ref 24, .int x1, .int (iI 0)]) (st' := []) (S' := (M1, L)) rfl ?_
    exact h
  · have h := h.2 hc
    refine V.run 1 (pc' := 18) (ls' := [.ref 24, .int x1, .null]) (st' := [.int (iI (-2))]) (S' := (M1, L)) rfl ?_
    exact V.iret rfl rfl ⟨_, _, rfl, rfl, h⟩
set_option maxRecDepth 100000 in
set_option maxHeartbeats 4000000 in
theorem s_Tape_hear_21 {l : Launch} {Γ : qG} {d r : Nat} {M : qM} {L : Nat → Int64} {P : Int32 → qM → Prop} (v1 v2 : Int32) (h : ((v1 + (iI 2)) ≤ v2 → P v1 M) ∧ (¬ (v1 + (iI 2)) ≤ v2 → ∃ P1 : Int32 → qM → Prop, V l Γ T_Tape_hearByte d 0 0 [.ref 24, .null, .null, .null] [] (M, L) (q_i L P1) ∧ ∀ (x1 : Int32) (M1 : qM), P1 x1 M1 → vp_in v2 257 ∧ vp_in v2 257 ∧ (¬ ((q_up M1 26 (v2).toNatClampNeg x1) 26 (v2).toNatClampNeg) = (iI (-2)) → V l Γ T_Tape_hear (d + 1) r 21 [.ref 24, .int v1, .int (v2 + (iI 1))] [] ((q_up M1 26 (v2).toNatClampNeg x1), L) (q_i L P)) ∧ (¬ (¬ ((q_up M1 26 (v2).toNatClampNeg x1) 26 (v2).toNatClampNeg) = (iI (-2))) → P (iI (-2)) (q_up M1 26 (v2).toNatClampNeg x1)))) : V l Γ T_Tape_hear (d + 1) r 21 [.ref 24, .int v1, .int v2] [] (M, L) (q_i L P) := by
  refine V.run 4 (pc' := 25) (ls' := [.ref 24, .int v1, .int v2]) (st' := [.int (v1 + (iI 2)), .int v2]) (S' := (M, L)) rfl ?_
  refine V.icmp (cd := .ge) rfl (fun hc => ?_) (fun hc => ?_)
  · have h := h.1 hc
    refine V.run 1 (pc' := 59) (ls' := [.ref 24, .int v1, .int v2]) (st' := [.int v1]) (S' := (M, L)) rfl ?_
    exact V.iret rfl rfl ⟨_, _, rfl, rfl, h⟩
  · have h := h.2 hc
    refine V.run 4 (pc' := 34) (ls' := [.ref 24, .int v1, .int v2]) (st' := [.ref 24, .int v2, .ref 26]) (S' := (M, L)) rfl ?_
    obtain ⟨P1, hv1, h⟩ := h
    refine V.callVi (T2 := T_Tape_hearByte) (As := []) (rest := [.int v2, .ref 26]) rfl rfl g_Tape_hearByte rfl rfl rfl rfl (Nat.le_of_ble_eq_true rfl) (by simp [Value.category]) (by simp [Value.category]) (Nat.le_of_ble_eq_true rfl) (Nat.le_refl _) hv1 (fun x1 M1 hq => ?_)
    have h := h x1 M1 hq
    refine V.iast rfl rfl h.1 ?_
    have h := h.2
    refine V.run 3 (pc' := 43) (ls' := [.ref 24, .int v1, .int v2]) (st' := [.int v2, .ref 26]) (S' := ((q_up M1 26 (v2).toNatClampNeg x1), L)) rfl ?_
    refine V.iald rfl rfl h.1 ?_
    have h := h.2
    refine V.run 1 (pc' := 46) (ls' := [.ref 24, .int v1, .int v2]) (st' := [.int (iI (-2)), .int ((q_up M1 26 (v2).toNatClampNeg x1) 26 (v2).toNatClampNeg)]) (S' := ((q_up M1 26 (v2).toNatClampNeg x1), L)) rfl ?_
    refine V.icmp (cd := .ne) rfl (fun hc => ?_) (fun hc => ?_)
    · have h := h.1 hc
      refine V.run 2 (pc' := 21) (ls' := [.ref 24, .int v1, .int (v2 + (iI 1))]) (st' := []) (S' := ((q_up M1 26 (v2).toNatClampNeg x1), L)) rfl ?_
      exact h
    · have h := h.2 hc
      refine V.run 1 (pc' := 51) (ls' := [.ref 24, .int v1, .int v2]) (st' := [.int (iI (-2))]) (S' := ((q_up M1 26 (v2).toNatClampNeg x1), L)) rfl ?_
      exact V.iret rfl rfl ⟨_, _, rfl, rfl, h⟩
set_option maxRecDepth 100000 in
set_option maxHeartbeats 4000000 in
theorem s_Tape_heardSum_0 {l : Launch} {Γ : qG} {d r : Nat} {M : qM} {L : Nat → Int64} {P : Int32 → qM → Prop} (a : Int32) (h : vp_in a 257 ∧ vp_in (a + (iI 1)) 257 ∧ P (((M 26 (a).toNatClampNeg) <<< ((iI 8) &&& 31)) + (M 26 ((a + (iI 1))).toNatClampNeg)) M) : V l Γ T_Tape_heardSum d r 0 [.ref 24, .int a] [] (M, L) (q_i L P) := by
  refine V.run 3 (pc' := 5) (ls' := [.ref 24, .int a]) (st' := [.int a, .ref 26]) (S' := (M, L)) rfl ?_
  refine V.iald rfl rfl h.1 ?_
  have h := h.2
  refine V.run 7 (pc' := 16) (ls' := [.ref 24, .int a]) (st' := [.int (a + (iI 1)), .ref 26, .int ((M 26 (a).toNatClampNeg) <<< ((iI 8) &&& 31))]) (S' := (M, L)) rfl ?_
  refine V.iald rfl rfl h.1 ?_
  have h := h.2
  refine V.run 1 (pc' := 18) (ls' := [.ref 24, .int a]) (st' := [.int (((M 26 (a).toNatClampNeg) <<< ((iI 8) &&& 31)) + (M 26 ((a + (iI 1))).toNatClampNeg))]) (S' := (M, L)) rfl ?_
  exact V.iret rfl rfl ⟨_, _, rfl, rfl, h⟩
set_option maxRecDepth 100000 in
set_option maxHeartbeats 4000000 in
theorem s_Tape_shake_0 {l : Launch} {Γ : qG} {d r : Nat} {M : qM} {L : Nat → Int64} {P : qM → Prop} (a b : Int32) (h : V l Γ T_Tape_shake (d + 1) r 5 [.ref 24, .null, .int b, .int a, .int (iI 0), .null] [] (M, L) (q_n L P)) : V l Γ T_Tape_shake (d + 1) r 0 [.ref 24, .int a, .int b, .null, .null, .null] [] (M, L) (q_n L P) := by
  refine V.run 4 (pc' := 5) (ls' := [.ref 24, .int a, .int b, .int a, .int (iI 0), .null]) (st' := []) (S' := (M, L)) rfl ?_
  refine V.forget (ls' := [.ref 24, .null, .int b, .int a, .int (iI 0), .null]) ⟨Or.inr rfl, Or.inl rfl, Or.inr rfl, Or.inr rfl, Or.inr rfl, Or.inl rfl, trivial⟩ ?_
  exact h
set_option maxRecDepth 100000 in
set_option maxHeartbeats 4000000 in
theorem s_Tape_shake_5 {l : Launch} {Γ : qG} {d r : Nat} {M : qM} {L : Nat → Int64} {P : qM → Prop} (v2 v3 v4 : Int32) (h : ((M 24 2) ≤ v4 → P M) ∧ (¬ (M 24 2) ≤ v4 → ¬ (((iI 2) * v2) + (iI 1)) = 0 ∧ vp_in v4 7754 ∧ vp_in v4 7754 ∧ V l Γ T_Tape_shake (d + 1) r 5 [.ref 24, .null, .int v2, .int ((v3 * (iI 1103515245)) + (iI 12345)), .int (v4 + (iI 1)), .null] [] ((q_up M 25 (v4).toNatClampNeg (if (iI 1) < (if (((M 25 (v4).toNatClampNeg) * (((iI 100) - v2) + (((((v3 * (iI 1103515245)) + (iI 12345))).toUInt32 >>> (((iI 16)).toUInt32 &&& Int32.toUInt32 31)).toInt32 - ((((v3 * (iI 1103515245)) + (iI 12345))).toUInt32 >>> (((iI 16)).toUInt32 &&& Int32.toUInt32 31)).toInt32 / (((iI 2) * v2) + (iI 1)) * (((iI 2) * v2) + (iI 1))))) / (iI 100)) < (iI 100) then (((M 25 (v4).toNatClampNeg) * (((iI 100) - v2) + (((((v3 * (iI 1103515245)) + (iI 12345))).toUInt32 >>> (((iI 16)).toUInt32 &&& Int32.toUInt32 31)).toInt32 - ((((v3 * (iI 1103515245)) + (iI 12345))).toUInt32 >>> (((iI 16)).toUInt32 &&& Int32.toUInt32 31)).toInt32 / (((iI 2) * v2) + (iI 1)) * (((iI 2) * v2) + (iI 1))))) / (iI 100)) else (iI 100)) then (if (((M 25 (v4).toNatClampNeg) * (((iI 100) - v2) + (((((v3 * (iI 1103515245)) + (iI 12345))).toUInt32 >>> (((iI 16)).toUInt32 &&& Int32.toUInt32 31)).toInt32 - ((((v3 * (iI 1103515245)) + (iI 12345))).toUInt32 >>> (((iI 16)).toUInt32 &&& Int32.toUInt32 31)).toInt32 / (((iI 2) * v2) + (iI 1)) * (((iI 2) * v2) + (iI 1))))) / (iI 100)) < (iI 100) then (((M 25 (v4).toNatClampNeg) * (((iI 100) - v2) + (((((v3 * (iI 1103515245)) + (iI 12345))).toUInt32 >>> (((iI 16)).toUInt32 &&& Int32.toUInt32 31)).toInt32 - ((((v3 * (iI 1103515245)) + (iI 12345))).toUInt32 >>> (((iI 16)).toUInt32 &&& Int32.toUInt32 31)).toInt32 / (((iI 2) * v2) + (iI 1)) * (((iI 2) * v2) + (iI 1))))) / (iI 100)) else (iI 100)) else (iI 1))), L) (q_n L P))) : V l Γ T_Tape_shake (d + 1) r 5 [.ref 24, .null, .int v2, .int v3, .int v4, .null] [] (M, L) (q_n L P) := by
  refine V.run 3 (pc' := 11) (ls' := [.ref 24, .null, .int v2, .int v3, .int v4, .null]) (st' := [.int (M 24 2), .int v4]) (S' := (M, L)) rfl ?_
  refine V.icmp (cd := .ge) rfl (fun hc => ?_) (fun hc => ?_)
  · have h := h.1 hc
    exact V.vret rfl rfl ⟨_, rfl, rfl, h⟩
  · have h := h.2 hc
    refine V.run 17 (pc' := 36) (ls' := [.ref 24, .null, .int v2, .int ((v3 * (iI 1103515245)) + (iI 12345)), .int v4, .null]) (st' := [.int (((iI 2) * v2) + (iI 1)), .int ((((v3 * (iI 1103515245)) + (iI 12345))).toUInt32 >>> (((iI 16)).toUInt32 &&& Int32.toUInt32 31)).toInt32, .int ((iI 100) - v2)]) (S' := (M, L)) rfl ?_
    refine V.irem rfl h.1 ?_
    have h := h.2
    refine V.run 10 (pc' := 55) (ls' := [.ref 24, .null, .int v2, .int ((v3 * (iI 1103515245)) + (iI 12345)), .int v4, .int (((iI 100) - v2) + (((((v3 * (iI 1103515245)) + (iI 12345))).toUInt32 >>> (((iI 16)).toUInt32 &&& Int32.toUInt32 31)).toInt32 - ((((v3 * (iI 1103515245)) + (iI 12345))).toUInt32 >>> (((iI 16)).toUInt32 &&& Int32.toUInt32 31)).toInt32 / (((iI 2) * v2) + (iI 1)) * (((iI 2) * v2) + (iI 1))))]) (st' := [.int v4, .ref 25, .int (iI 100), .int (iI 1), .int v4, .ref 25]) (S' := (M, L)) rfl ?_
    refine V.iald rfl rfl h.1 ?_
    have h := h.2
    refine V.run 3 (pc' := 61) (ls' := [.ref 24, .null, .int v2, .int ((v3 * (iI 1103515245)) + (iI 12345)), .int v4, .int (((iI 100) - v2) + (((((v3 * (iI 1103515245)) + (iI 12345))).toUInt32 >>> (((iI 16)).toUInt32 &&& Int32.toUInt32 31)).toInt32 - ((((v3 * (iI 1103515245)) + (iI 12345))).toUInt32 >>> (((iI 16)).toUInt32 &&& Int32.toUInt32 31)).toInt32 / (((iI 2) * v2) + (iI 1)) * (((iI 2) * v2) + (iI 1))))]) (st' := [.int (iI 100), .int ((M 25 (v4).toNatClampNeg) * (((iI 100) - v2) + (((((v3 * (iI 1103515245)) + (iI 12345))).toUInt32 >>> (((iI 16)).toUInt32 &&& Int32.toUInt32 31)).toInt32 - ((((v3 * (iI 1103515245)) + (iI 12345))).toUInt32 >>> (((iI 16)).toUInt32 &&& Int32.toUInt32 31)).toInt32 / (((iI 2) * v2) + (iI 1)) * (((iI 2) * v2) + (iI 1))))), .int (iI 100), .int (iI 1), .int v4, .ref 25]) (S' := (M, L)) rfl ?_
    refine V.idiv rfl (by decide) ?_
    refine V.mmin rfl (q_mwi (by decide +kernel)) (by omega) (by simp [Value.category]) (Nat.le_of_ble_eq_true rfl) ?_
    refine V.mmax rfl (q_mwi (by decide +kernel)) (by omega) (by simp [Value.category]) (Nat.le_of_ble_eq_true rfl) ?_
    refine V.iast rfl rfl h.1 ?_
    have h := h.2
    refine V.run 2 (pc' := 5) (ls' := [.ref 24, .null, .int v2, .int ((v3 * (iI 1103515245)) + (iI 12345)), .int (v4 + (iI 1)), .int (((iI 100) - v2) + (((((v3 * (iI 1103515245)) + (iI 12345))).toUInt32 >>> (((iI 16)).toUInt32 &&& Int32.toUInt32 31)).toInt32 - ((((v3 * (iI 1103515245)) + (iI 12345))).toUInt32 >>> (((iI 16)).toUInt32 &&& Int32.toUInt32 31)).toInt32 / (((iI 2) * v2) + (iI 1)) * (((iI 2) * v2) + (iI 1))))]) (st' := []) (S' := ((q_up M 25 (v4).toNatClampNeg (if (iI 1) < (if (((M 25 (v4).toNatClampNeg) * (((iI 100) - v2) + (((((v3 * (iI 1103515245)) + (iI 12345))).toUInt32 >>> (((iI 16)).toUInt32 &&& Int32.toUInt32 31)).toInt32 - ((((v3 * (iI 1103515245)) + (iI 12345))).toUInt32 >>> (((iI 16)).toUInt32 &&& Int32.toUInt32 31)).toInt32 / (((iI 2) * v2) + (iI 1)) * (((iI 2) * v2) + (iI 1))))) / (iI 100)) < (iI 100) then (((M 25 (v4).toNatClampNeg) * (((iI 100) - v2) + (((((v3 * (iI 1103515245)) + (iI 12345))).toUInt32 >>> (((iI 16)).toUInt32 &&& Int32.toUInt32 31)).toInt32 - ((((v3 * (iI 1103515245)) + (iI 12345))).toUInt32 >>> (((iI 16)).toUInt32 &&& Int32.toUInt32 31)).toInt32 / (((iI 2) * v2) + (iI 1)) * (((iI 2) * v2) + (iI 1))))) / (iI 100)) else (iI 100)) then (if (((M 25 (v4).toNatClampNeg) * (((iI 100) - v2) + (((((v3 * (iI 1103515245)) + (iI 12345))).toUInt32 >>> (((iI 16)).toUInt32 &&& Int32.toUInt32 31)).toInt32 - ((((v3 * (iI 1103515245)) + (iI 12345))).toUInt32 >>> (((iI 16)).toUInt32 &&& Int32.toUInt32 31)).toInt32 / (((iI 2) * v2) + (iI 1)) * (((iI 2) * v2) + (iI 1))))) / (iI 100)) < (iI 100) then (((M 25 (v4).toNatClampNeg) * (((iI 100) - v2) + (((((v3 * (iI 1103515245)) + (iI 12345))).toUInt32 >>> (((iI 16)).toUInt32 &&& Int32.toUInt32 31)).toInt32 - ((((v3 * (iI 1103515245)) + (iI 12345))).toUInt32 >>> (((iI 16)).toUInt32 &&& Int32.toUInt32 31)).toInt32 / (((iI 2) * v2) + (iI 1)) * (((iI 2) * v2) + (iI 1))))) / (iI 100)) else (iI 100)) else (iI 1))), L)) rfl ?_
    refine V.forget (ls' := [.ref 24, .null, .int v2, .int ((v3 * (iI 1103515245)) + (iI 12345)), .int (v4 + (iI 1)), .null]) ⟨Or.inr rfl, Or.inl rfl, Or.inr rfl, Or.inr rfl, Or.inr rfl, Or.inl rfl, trivial⟩ ?_
    exact h
set_option maxRecDepth 100000 in
set_option maxHeartbeats 4000000 in
theorem s_Tape_putByte_0 {l : Launch} {Γ : qG} {d r : Nat} {M : qM} {L : Nat → Int64} {P : qM → Prop} (a : Int32) (h : ∃ P1 : qM → Prop, V l Γ T_Tape_putBit d 0 0 [.ref 24, .int (iI 0), .null, .null] [] (M, L) (q_n L P1) ∧ ∀ (M1 : qM), P1 M1 → V l Γ T_Tape_putByte (d + 1) r 7 [.ref 24, .int a, .int (iI 0)] [] (M1, L) (q_n L P)) : V l Γ T_Tape_putByte (d + 1) r 0 [.ref 24, .int a, .null] [] (M, L) (q_n L P) := by
  refine V.run 2 (pc' := 2) (ls' := [.ref 24, .int a, .null]) (st' := [.int (iI 0), .ref 24]) (S' := (M, L)) rfl ?_
  obtain ⟨P1, hv1, h⟩ := h
  refine V.callVv (T2 := T_Tape_putBit) (As := [.int (iI 0)]) (rest := []) rfl rfl g_Tape_putBit rfl rfl rfl rfl (Nat.le_of_ble_eq_true rfl) (by simp [Value.category]) (by simp [Value.category]) (Nat.le_of_ble_eq_true rfl) (Nat.le_refl _) hv1 (fun M1 hq => ?_)
  have h := h M1 hq
  refine V.run 2 (pc' := 7) (ls' := [.ref 24, .int a, .int (iI 0)]) (st' := []) (S' := (M1, L)) rfl ?_
  exact h
set_option maxRecDepth 100000 in
set_option maxHeartbeats 4000000 in
theorem s_Tape_putByte_7 {l : Launch} {Γ : qG} {d r : Nat} {M : qM} {L : Nat → Int64} {P : qM → Prop} (v1 v2 : Int32) (h : ((iI 8) ≤ v2 → ∃ P1 : qM → Prop, V l Γ T_Tape_putBit d 0 0 [.ref 24, .int (iI 1), .null, .null] [] (M, L) (q_n L P1) ∧ ∀ (M1 : qM), P1 M1 → P M1) ∧ (¬ (iI 8) ≤ v2 → ∃ P2 : qM → Prop, V l Γ T_Tape_putBit d 0 0 [.ref 24, .int ((v1 >>> (v2 &&& 31)) &&& (iI 1)), .null, .null] [] (M, L) (q_n L P2) ∧ ∀ (M2 : qM), P2 M2 → V l Γ T_Tape_putByte (d + 1) r 7 [.ref 24, .int v1, .int (v2 + (iI 1))] [] (M2, L) (q_n L P))) : V l Γ T_Tape_putByte (d + 1) r 7 [.ref 24, .int v1, .int v2] [] (M, L) (q_n L P) := by
  refine V.run 2 (pc' := 10) (ls' := [.ref 24, .int v1, .int v2]) (st' := [.int (iI 8), .int v2]) (S' := (M, L)) rfl ?_
  refine V.icmp (cd := .ge) rfl (fun hc => ?_) (fun hc => ?_)
  · have h := h.1 hc
    refine V.run 2 (pc' := 30) (ls' := [.ref 24, .int v1, .int v2]) (st' := [.int (iI 1), .ref 24]) (S' := (M, L)) rfl ?_
    obtain ⟨P1, hv1, h⟩ := h
    refine V.callVv (T2 := T_Tape_putBit) (As := [.int (iI 1)]) (rest := []) rfl rfl g_Tape_putBit rfl rfl rfl rfl (Nat.le_of_ble_eq_true rfl) (by simp [Value.category]) (by simp [Value.category]) (Nat.le_of_ble_eq_true rfl) (Nat.le_refl _) hv1 (fun M1 hq => ?_)
    have h := h M1 hq
    exact V.vret rfl rfl ⟨_, rfl, rfl, h⟩
  · have h := h.2 hc
    refine V.run 6 (pc' := 19) (ls' := [.ref 24, .int v1, .int v2]) (st' := [.int ((v1 >>> (v2 &&& 31)) &&& (iI 1)), .ref 24]) (S' := (M, L)) rfl ?_
    obtain ⟨P2, hv2, h⟩ := h
    refine V.callVv (T2 := T_Tape_putBit) (As := [.int ((v1 >>> (v2 &&& 31)) &&& (iI 1))]) (rest := []) rfl rfl g_Tape_putBit rfl rfl rfl rfl (Nat.le_of_ble_eq_true rfl) (by simp [Value.category]) (by simp [Value.category]) (Nat.le_of_ble_eq_true rfl) (Nat.le_refl _) hv2 (fun M2 hq => ?_)
    have h := h M2 hq
    refine V.run 2 (pc' := 7) (ls' := [.ref 24, .int v1, .int (v2 + (iI 1))]) (st' := []) (S' := (M2, L)) rfl ?_
    exact h
set_option maxRecDepth 100000 in
set_option maxHeartbeats 4000000 in
theorem s_Tape_putBit_0 {l : Launch} {Γ : qG} {d r : Nat} {M : qM} {L : Nat → Int64} {P : qM → Prop} (a : Int32) (h : (¬ a = 0 → V l Γ T_Tape_putBit d r 12 [.ref 24, .int a, .int (iI 4), .int (iI 0)] [] (M, L) (q_n L P)) ∧ (¬ (¬ a = 0) → V l Γ T_Tape_putBit d r 12 [.ref 24, .int a, .int (iI 2), .int (iI 0)] [] (M, L) (q_n L P))) : V l Γ T_Tape_putBit d r 0 [.ref 24, .int a, .null, .null] [] (M, L) (q_n L P) := by
  refine V.run 1 (pc' := 1) (ls' := [.ref 24, .int a, .null, .null]) (st' := [.int a]) (S' := (M, L)) rfl ?_
  refine V.ifc (cd := .ne) rfl (fun hc => ?_) (fun hc => ?_)
  · have h := h.1 hc
    refine V.run 4 (pc' := 12) (ls' := [.ref 24, .int a, .int (iI 4), .int (iI 0)]) (st' := []) (S' := (M, L)) rfl ?_
    exact h
  · have h := h.2 hc
    refine V.run 5 (pc' := 12) (ls' := [.ref 24, .int a, .int (iI 2), .int (iI 0)]) (st' := []) (S' := (M, L)) rfl ?_
    exact h
set_option maxRecDepth 100000 in
set_option maxHeartbeats 4000000 in
theorem s_Tape_putBit_12 {l : Launch} {Γ : qG} {d r : Nat} {M : qM} {L : Nat → Int64} {P : qM → Prop} (v1 v2 v3 : Int32) (h : (v2 ≤ v3 → P M) ∧ (¬ v2 ≤ v3 → ((iI 7754) ≤ (M 24 2) → P M) ∧ (¬ (iI 7754) ≤ (M 24 2) → (¬ v1 = 0 → vp_in (M 24 2) 7754 ∧ V l Γ T_Tape_putBit d r 12 [.ref 24, .int v1, .int v2, .int (v3 + (iI 1))] [] ((q_up (q_up M 25 ((M 24 2)).toNatClampNeg (iI 6)) 24 2 ((M 24 2) + (iI 1))), L) (q_n L P)) ∧ (¬ (¬ v1 = 0) → vp_in (M 24 2) 7754 ∧ V l Γ T_Tape_putBit d r 12 [.ref 24, .int v1, .int v2, .int (v3 + (iI 1))] [] ((q_up (q_up M 25 ((M 24 2)).toNatClampNeg (iI 12)) 24 2 ((M 24 2) + (iI 1))), L) (q_n L P))))) : V l Γ T_Tape_putBit d r 12 [.ref 24, .int v1, .int v2, .int v3] [] (M, L) (q_n L P) := by
  refine V.run 2 (pc' := 14) (ls' := [.ref 24, .int v1, .int v2, .int v3]) (st' := [.int v2, .int v3]) (S' := (M, L)) rfl ?_
  refine V.icmp (cd := .ge) rfl (fun hc => ?_) (fun hc => ?_)
  · have h := h.1 hc
    exact V.vret rfl rfl ⟨_, rfl, rfl, h⟩
  · have h := h.2 hc
    refine V.run 3 (pc' := 24) (ls' := [.ref 24, .int v1, .int v2, .int v3]) (st' := [.int (iI 7754), .int (M 24 2)]) (S' := (M, L)) rfl ?_
    refine V.icmp (cd := .ge) rfl (fun hc => ?_) (fun hc => ?_)
    · have h := h.1 hc
      exact V.vret rfl rfl ⟨_, rfl, rfl, h⟩
    · have h := h.2 hc
      refine V.run 5 (pc' := 36) (ls' := [.ref 24, .int v1, .int v2, .int v3]) (st' := [.int v1, .int (M 24 2), .ref 25]) (S' := (M, L)) rfl ?_
      refine V.ifc (cd := .ne) rfl (fun hc => ?_) (fun hc => ?_)
      · have h := h.1 hc
        refine V.run 1 (pc' := 46) (ls' := [.ref 24, .int v1, .int v2, .int v3]) (st' := [.int (iI 6), .int (M 24 2), .ref 25]) (S' := (M, L)) rfl ?_
        refine V.iast rfl rfl h.1 ?_
        have h := h.2
        refine V.run 8 (pc' := 12) (ls' := [.ref 24, .int v1, .int v2, .int (v3 + (iI 1))]) (st' := []) (S' := ((q_up (q_up M 25 ((M 24 2)).toNatClampNeg (iI 6)) 24 2 ((M 24 2) + (iI 1))), L)) rfl ?_
        exact h
      · have h := h.2 hc
        refine V.run 2 (pc' := 46) (ls' := [.ref 24, .int v1, .int v2, .int v3]) (st' := [.int (iI 12), .int (M 24 2), .ref 25]) (S' := (M, L)) rfl ?_
        refine V.iast rfl rfl h.1 ?_
        have h := h.2
        refine V.run 8 (pc' := 12) (ls' := [.ref 24, .int v1, .int v2, .int (v3 + (iI 1))]) (st' := []) (S' := ((q_up (q_up M 25 ((M 24 2)).toNatClampNeg (iI 12)) 24 2 ((M 24 2) + (iI 1))), L)) rfl ?_
        exact h
set_option maxRecDepth 100000 in
set_option maxHeartbeats 4000000 in
theorem s_Tape_hearByte_0 {l : Launch} {Γ : qG} {d r : Nat} {M : qM} {L : Nat → Int64} {P : Int32 → qM → Prop} (h : ∃ P1 : Int32 → qM → Prop, V l Γ T_Tape_hearBit d 0 0 [.ref 24, .null, .null, .null] [] (M, L) (q_i L P1) ∧ ∀ (x1 : Int32) (M1 : qM), P1 x1 M1 → V l Γ T_Tape_hearByte (d + 1) r 7 [.ref 24, .int x1, .int (iI 0), .null] [] (M1, L) (q_i L P)) : V l Γ T_Tape_hearByte (d + 1) r 0 [.ref 24, .null, .null, .null] [] (M, L) (q_i L P) := by
  refine V.run 1 (pc' := 1) (ls' := [.ref 24, .null, .null, .null]) (st' := [.ref 24]) (S' := (M, L)) rfl ?_
  obtain ⟨P1, hv1, h⟩ := h
  refine V.callVi (T2 := T_Tape_hearBit) (As := []) (rest := []) rfl rfl g_Tape_hearBit rfl rfl rfl rfl (Nat.le_of_ble_eq_true rfl) (by simp [Value.category]) (by simp [Value.category]) (Nat.le_of_ble_eq_true rfl) (Nat.le_refl _) hv1 (fun x1 M1 hq => ?_)
  have h := h x1 M1 hq
  refine V.run 3 (pc' := 7) (ls' := [.ref 24, .int x1, .int (iI 0), .null]) (st' := []) (S' := (M1, L)) rfl ?_
  exact h
set_option maxRecDepth 100000 in
set_option maxHeartbeats 4000000 in
theorem s_Tape_hearByte_7 {l : Launch} {Γ : qG} {d r : Nat} {M : qM} {L : Nat → Int64} {P : Int32 → qM → Prop} (v1 v2 : Int32) (h : ((M 24 2) ≤ v2 → V l Γ T_Tape_hearByte (d + 1) r 31 [.ref 24, .int v1, .null, .null] [] (M, L) (q_i L P)) ∧ (¬ (M 24 2) ≤ v2 → (¬ v1 = (iI 1) → V l Γ T_Tape_hearByte (d + 1) r 31 [.ref 24, .int v1, .null, .null] [] (M, L) (q_i L P)) ∧ (¬ (¬ v1 = (iI 1)) → ∃ P1 : Int32 → qM → Prop, V l Γ T_Tape_hearBit d 0 0 [.ref 24, .null, .null, .null] [] (M, L) (q_i L P1) ∧ ∀ (x1 : Int32) (M1 : qM), P1 x1 M1 → V l Γ T_Tape_hearByte (d + 1) r 7 [.ref 24, .int x1, .int (v2 + (iI 1)), .null] [] (M1, L) (q_i L P)))) : V l Γ T_Tape_hearByte (d + 1) r 7 [.ref 24, .int v1, .int v2, .null] [] (M, L) (q_i L P) := by
  refine V.run 3 (pc' := 12) (ls' := [.ref 24, .int v1, .int v2, .null]) (st' := [.int (M 24 2), .int v2]) (S' := (M, L)) rfl ?_
  refine V.icmp (cd := .ge) rfl (fun hc => ?_) (fun hc => ?_)
  · have h := h.1 hc
    refine V.forget (ls' := [.ref 24, .int v1, .null, .null]) ⟨Or.inr rfl, Or.inr rfl, Or.inl rfl, Or.inl rfl, trivial⟩ ?_
    exact h
  · have h := h.2 hc
    refine V.run 2 (pc' := 17) (ls' := [.ref 24, .int v1, .int v2, .null]) (st' := [.int (iI 1), .int v1]) (S' := (M, L)) rfl ?_
    refine V.icmp (cd := .ne) rfl (fun hc => ?_) (fun hc => ?_)
    · have h := h.1 hc
      refine V.forget (ls' := [.ref 24, .int v1, .null, .null]) ⟨Or.inr rfl, Or.inr rfl, Or.inl rfl, Or.inl rfl, trivial⟩ ?_
      exact h
    · have h := h.2 hc
      refine V.run 1 (pc' := 21) (ls' := [.ref 24, .int v1, .int v2, .null]) (st' := [.ref 24]) (S' := (M, L)) rfl ?_
      obtain ⟨P1, hv1, h⟩ := h
      refine V.callVi (T2 := T_Tape_hearBit) (As := []) (rest := []) rfl rfl g_Tape_hearBit rfl rfl rfl rfl (Nat.le_of_ble_eq_true rfl) (by simp [Value.category]) (by simp [Value.category]) (Nat.le_of_ble_eq_true rfl) (Nat.le_refl _) hv1 (fun x1 M1 hq => ?_)
      have h := h x1 M1 hq
      refine V.run 3 (pc' := 7) (ls' := [.ref 24, .int x1, .int (v2 + (iI 1)), .null]) (st' := []) (S' := (M1, L)) rfl ?_
      exact h
set_option maxRecDepth 100000 in
set_option maxHeartbeats 4000000 in
theorem s_Tape_hearByte_31 {l : Launch} {Γ : qG} {d r : Nat} {M : qM} {L : Nat → Int64} {P : Int32 → qM → Prop} (v1 : Int32) (h : (¬ v1 = (iI (-2)) → V l Γ T_Tape_hearByte (d + 1) r 44 [.ref 24, .null, .int (iI 0), .int (iI 0)] [] (M, L) (q_i L P)) ∧ (¬ (¬ v1 = (iI (-2))) → P (iI (-2)) M)) : V l Γ T_Tape_hearByte (d + 1) r 31 [.ref 24, .int v1, .null, .null] [] (M, L) (q_i L P) := by
  refine V.run 2 (pc' := 34) (ls' := [.ref 24, .int v1, .null, .null]) (st' := [.int (iI (-2)), .int v1]) (S' := (M, L)) rfl ?_
  refine V.icmp (cd := .ne) rfl (fun hc => ?_) (fun hc => ?_)
  · have h := h.1 hc
    refine V.run 4 (pc' := 44) (ls' := [.ref 24, .int v1, .int (iI 0), .int (iI 0)]) (st' := []) (S' := (M, L)) rfl ?_
    refine V.forget (ls' := [.ref 24, .null, .int (iI 0), .int (iI 0)]) ⟨Or.inr rfl, Or.inl rfl, Or.inr rfl, Or.inr rfl, trivial⟩ ?_
    exact h
  · have h := h.2 hc
    refine V.run 1 (pc' := 39) (ls' := [.ref 24, .int v1, .null, .null]) (st' := [.int (iI (-2))]) (S' := (M, L)) rfl ?_
    exact V.iret rfl rfl ⟨_, _, rfl, rfl, h⟩
set_option maxRecDepth 100000 in
set_option maxHeartbeats 4000000 in
theorem s_Tape_hearByte_44 {l : Launch} {Γ : qG} {d r : Nat} {M : qM} {L : Nat → Int64} {P : Int32 → qM → Prop} (v2 v3 : Int32) (h : ((iI 8) ≤ v3 → ∃ P1 : Int32 → qM → Prop, V l Γ T_Tape_hearBit d 0 0 [.ref 24, .null, .null, .null] [] (M, L) (q_i L P1) ∧ ∀ (x1 : Int32) (M1 : qM), P1 x1 M1 → (¬ x1 = (iI 1) → P (iI (-2)) M1) ∧ (¬ (¬ x1 = (iI 1)) → P v2 M1)) ∧ (¬ (iI 8) ≤ v3 → ∃ P2 : Int32 → qM → Prop, V l Γ T_Tape_hearBit d 0 0 [.ref 24, .null, .null, .null] [] (M, L) (q_i L P2) ∧ ∀ (x2 : Int32) (M2 : qM), P2 x2 M2 → (¬ x2 = (iI (-2)) → V l Γ T_Tape_hearByte (d + 1) r 44 [.ref 24, .null, .int (v2 + (x2 <<< (v3 &&& 31))), .int (v3 + (iI 1))] [] (M2, L) (q_i L P)) ∧ (¬ (¬ x2 = (iI (-2))) → P (iI (-2)) M2))) : V l Γ T_Tape_hearByte (d + 1) r 44 [.ref 24, .null, .int v2, .int v3] [] (M, L) (q_i L P) := by
  refine V.run 2 (pc' := 47) (ls' := [.ref 24, .null, .int v2, .int v3]) (st' := [.int (iI 8), .int v3]) (S' := (M, L)) rfl ?_
  refine V.icmp (cd := .ge) rfl (fun hc => ?_) (fun hc => ?_)
  · have h := h.1 hc
    refine V.run 1 (pc' := 77) (ls' := [.ref 24, .null, .int v2, .int v3]) (st' := [.ref 24]) (S' := (M, L)) rfl ?_
    obtain ⟨P1, hv1, h⟩ := h
    refine V.callVi (T2 := T_Tape_hearBit) (As := []) (rest := []) rfl rfl g_Tape_hearBit rfl rfl rfl rfl (Nat.le_of_ble_eq_true rfl) (by simp [Value.category]) (by simp [Value.category]) (Nat.le_of_ble_eq_true rfl) (Nat.le_refl _) hv1 (fun x1 M1 hq => ?_)
    have h := h x1 M1 hq
    refine V.run 1 (pc' := 81) (ls' := [.ref 24, .null, .int v2, .int v3]) (st' := [.int (iI 1), .int x1]) (S' := (M1, L)) rfl ?_
    refine V.icmp (cd := .ne) rfl (fun hc => ?_) (fun hc => ?_)
    · have h := h.1 hc
      refine V.run 1 (pc' := 90) (ls' := [.ref 24, .null, .int v2, .int v3]) (st' := [.int (iI (-2))]) (S' := (M1, L)) rfl ?_
      exact V.iret rfl rfl ⟨_, _, rfl, rfl, h⟩
    · have h := h.2 hc
      refine V.run 2 (pc' := 90) (ls' := [.ref 24, .null, .int v2, .int v3]) (st' := [.int v2]) (S' := (M1, L)) rfl ?_
      exact V.iret rfl rfl ⟨_, _, rfl, rfl, h⟩
  · have h := h.2 hc
    refine V.run 1 (pc' := 51) (ls' := [.ref 24, .null, .int v2, .int v3]) (st' := [.ref 24]) (S' := (M, L)) rfl ?_
    obtain ⟨P2, hv2, h⟩ := h
    refine V.callVi (T2 := T_Tape_hearBit) (As := []) (rest := []) rfl rfl g_Tape_hearBit rfl rfl rfl rfl (Nat.le_of_ble_eq_true rfl) (by simp [Value.category]) (by simp [Value.category]) (Nat.le_of_ble_eq_true rfl) (Nat.le_refl _) hv2 (fun x2 M2 hq => ?_)
    have h := h x2 M2 hq
    refine V.run 3 (pc' := 58) (ls' := [.ref 24, .int x2, .int v2, .int v3]) (st' := [.int (iI (-2)), .int x2]) (S' := (M2, L)) rfl ?_
    refine V.icmp (cd := .ne) rfl (fun hc => ?_) (fun hc => ?_)
    · have h := h.1 hc
      refine V.run 8 (pc' := 44) (ls' := [.ref 24, .int x2, .int (v2 + (x2 <<< (v3 &&& 31))), .int (v3 + (iI 1))]) (st' := []) (S' := (M2, L)) rfl ?_
      refine V.forget (ls' := [.ref 24, .null, .int (v2 + (x2 <<< (v3 &&& 31))), .int (v3 + (iI 1))]) ⟨Or.inr rfl, Or.inl rfl, Or.inr rfl, Or.inr rfl, trivial⟩ ?_
      exact h
    · have h := h.2 hc
      refine V.run 1 (pc' := 63) (ls' := [.ref 24, .int x2, .int v2, .int v3]) (st' := [.int (iI (-2))]) (S' := (M2, L)) rfl ?_
      exact V.iret rfl rfl ⟨_, _, rfl, rfl, h⟩
set_option maxRecDepth 100000 in
set_option maxHeartbeats 4000000 in
theorem s_Tape_hearBit_0 {l : Launch} {Γ : qG} {d r : Nat} {M : qM} {L : Nat → Int64} {P : Int32 → qM → Prop} (h : ((M 24 2) ≤ (M 24 3) → V l Γ T_Tape_hearBit d r 30 [.ref 24, .null, .null, .null] [.int (iI 0)] (M, L) (q_i L P)) ∧ (¬ (M 24 2) ≤ (M 24 3) → vp_in (M 24 3) 7754 ∧ ((M 25 ((M 24 3)).toNatClampNeg) ≤ (iI 8) → V l Γ T_Tape_hearBit d r 30 [.ref 24, .null, .null, .null] [.int (iI 0)] (M, L) (q_i L P)) ∧ (¬ (M 25 ((M 24 3)).toNatClampNeg) ≤ (iI 8) → V l Γ T_Tape_hearBit d r 30 [.ref 24, .null, .null, .null] [.int (iI 1)] (M, L) (q_i L P)))) : V l Γ T_Tape_hearBit d r 0 [.ref 24, .null, .null, .null] [] (M, L) (q_i L P) := by
  refine V.run 4 (pc' := 8) (ls' := [.ref 24, .null, .null, .null]) (st' := [.int (M 24 2), .int (M 24 3)]) (S' := (M, L)) rfl ?_
  refine V.icmp (cd := .ge) rfl (fun hc => ?_) (fun hc => ?_)
  · have h := h.1 hc
    refine V.run 1 (pc' := 30) (ls' := [.ref 24, .null, .null, .null]) (st' := [.int (iI 0)]) (S' := (M, L)) rfl ?_
    exact h
  · have h := h.2 hc
    refine V.run 4 (pc' := 19) (ls' := [.ref 24, .null, .null, .null]) (st' := [.int (M 24 3), .ref 25]) (S' := (M, L)) rfl ?_
    refine V.iald rfl rfl h.1 ?_
    have h := h.2
    refine V.run 1 (pc' := 22) (ls' := [.ref 24, .null, .null, .null]) (st' := [.int (iI 8), .int (M 25 ((M 24 3)).toNatClampNeg)]) (S' := (M, L)) rfl ?_
    refine V.icmp (cd := .le) rfl (fun hc => ?_) (fun hc => ?_)
    · have h := h.1 hc
      refine V.run 1 (pc' := 30) (ls' := [.ref 24, .null, .null, .null]) (st' := [.int (iI 0)]) (S' := (M, L)) rfl ?_
      exact h
    · have h := h.2 hc
      refine V.run 2 (pc' := 30) (ls' := [.ref 24, .null, .null, .null]) (st' := [.int (iI 1)]) (S' := (M, L)) rfl ?_
      exact h
set_option maxRecDepth 100000 in
set_option maxHeartbeats 4000000 in
theorem s_Tape_hearBit_30 {l : Launch} {Γ : qG} {d r : Nat} {M : qM} {L : Nat → Int64} {P : Int32 → qM → Prop} (w0 : Int32) (h : (w0 = 0 → V l Γ T_Tape_hearBit d r 40 [.ref 24, .int w0, .null, .null] [.int (iI 4)] (M, L) (q_i L P)) ∧ (¬ w0 = 0 → V l Γ T_Tape_hearBit d r 40 [.ref 24, .int w0, .null, .null] [.int (iI 2)] (M, L) (q_i L P))) : V l Γ T_Tape_hearBit d r 30 [.ref 24, .null, .null, .null] [.int w0] (M, L) (q_i L P) := by
  refine V.run 2 (pc' := 32) (ls' := [.ref 24, .int w0, .null, .null]) (st' := [.int w0]) (S' := (M, L)) rfl ?_
  refine V.ifc (cd := .eq) rfl (fun hc => ?_) (fun hc => ?_)
  · have h := h.1 hc
    refine V.run 1 (pc' := 40) (ls' := [.ref 24, .int w0, .null, .null]) (st' := [.int (iI 4)]) (S' := (M, L)) rfl ?_
    exact h
  · have h := h.2 hc
    refine V.run 2 (pc' := 40) (ls' := [.ref 24, .int w0, .null, .null]) (st' := [.int (iI 2)]) (S' := (M, L)) rfl ?_
    exact h
set_option maxRecDepth 100000 in
set_option maxHeartbeats 4000000 in
theorem s_Tape_hearBit_40 {l : Launch} {Γ : qG} {d r : Nat} {M : qM} {L : Nat → Int64} {P : Int32 → qM → Prop} (v1 w0 : Int32) (h : (w0 ≤ ((M 24 2) - (M 24 3)) → V l Γ T_Tape_hearBit d r 59 [.ref 24, .int v1, .int w0, .int (iI 1)] [] (M, L) (q_i L P)) ∧ (¬ w0 ≤ ((M 24 2) - (M 24 3)) → P (iI (-2)) M)) : V l Γ T_Tape_hearBit d r 40 [.ref 24, .int v1, .null, .null] [.int w0] (M, L) (q_i L P) := by
  refine V.run 7 (pc' := 51) (ls' := [.ref 24, .int v1, .int w0, .null]) (st' := [.int ((M 24 2) - (M 24 3)), .int w0]) (S' := (M, L)) rfl ?_
  refine V.icmp (cd := .le) rfl (fun hc => ?_) (fun hc => ?_)
  · have h := h.1 hc
    refine V.run 2 (pc' := 59) (ls' := [.ref 24, .int v1, .int w0, .int (iI 1)]) (st' := []) (S' := (M, L)) rfl ?_
    exact h
  · have h := h.2 hc
    refine V.run 1 (pc' := 56) (ls' := [.ref 24, .int v1, .int w0, .null]) (st' := [.int (iI (-2))]) (S' := (M, L)) rfl ?_
    exact V.iret rfl rfl ⟨_, _, rfl, rfl, h⟩
set_option maxRecDepth 100000 in
set_option maxHeartbeats 4000000 in
theorem s_Tape_hearBit_59 {l : Launch} {Γ : qG} {d r : Nat} {M : qM} {L : Nat → Int64} {P : Int32 → qM → Prop} (v1 v2 v3 : Int32) (h : (v2 ≤ v3 → (v1 = 0 → P (iI 1) (q_up M 24 3 ((M 24 3) + v2))) ∧ (¬ v1 = 0 → P (iI 0) (q_up M 24 3 ((M 24 3) + v2)))) ∧ (¬ v2 ≤ v3 → vp_in ((M 24 3) + v3) 7754 ∧ ((M 25 (((M 24 3) + v3)).toNatClampNeg) ≤ (iI 8) → V l Γ T_Tape_hearBit d r 85 [.ref 24, .int v1, .int v2, .int v3] [.int (iI 0)] (M, L) (q_i L P)) ∧ (¬ (M 25 (((M 24 3) + v3)).toNatClampNeg) ≤ (iI 8) → V l Γ T_Tape_hearBit d r 85 [.ref 24, .int v1, .int v2, .int v3] [.int (iI 1)] (M, L) (q_i L P)))) : V l Γ T_Tape_hearBit d r 59 [.ref 24, .int v1, .int v2, .int v3] [] (M, L) (q_i L P) := by
  refine V.run 2 (pc' := 61) (ls' := [.ref 24, .int v1, .int v2, .int v3]) (st' := [.int v2, .int v3]) (S' := (M, L)) rfl ?_
  refine V.icmp (cd := .ge) rfl (fun hc => ?_) (fun hc => ?_)
  · have h := h.1 hc
    refine V.run 7 (pc' := 109) (ls' := [.ref 24, .int v1, .int v2, .int v3]) (st' := [.int v1]) (S' := ((q_up M 24 3 ((M 24 3) + v2)), L)) rfl ?_
    refine V.ifc (cd := .eq) rfl (fun hc => ?_) (fun hc => ?_)
    · have h := h.1 hc
      refine V.run 1 (pc' := 117) (ls' := [.ref 24, .int v1, .int v2, .int v3]) (st' := [.int (iI 1)]) (S' := ((q_up M 24 3 ((M 24 3) + v2)), L)) rfl ?_
      exact V.iret rfl rfl ⟨_, _, rfl, rfl, h⟩
    · have h := h.2 hc
      refine V.run 2 (pc' := 117) (ls' := [.ref 24, .int v1, .int v2, .int v3]) (st' := [.int (iI 0)]) (S' := ((q_up M 24 3 ((M 24 3) + v2)), L)) rfl ?_
      exact V.iret rfl rfl ⟨_, _, rfl, rfl, h⟩
  · have h := h.2 hc
    refine V.run 6 (pc' := 74) (ls' := [.ref 24, .int v1, .int v2, .int v3]) (st' := [.int ((M 24 3) + v3), .ref 25]) (S' := (M, L)) rfl ?_
    refine V.iald rfl rfl h.1 ?_
    have h := h.2
    refine V.run 1 (pc' := 77) (ls' := [.ref 24, .int v1, .int v2, .int v3]) (st' := [.int (iI 8), .int (M 25 (((M 24 3) + v3)).toNatClampNeg)]) (S' := (M, L)) rfl ?_
    refine V.icmp (cd := .le) rfl (fun hc => ?_) (fun hc => ?_)
    · have h := h.1 hc
      refine V.run 1 (pc' := 85) (ls' := [.ref 24, .int v1, .int v2, .int v3]) (st' := [.int (iI 0)]) (S' := (M, L)) rfl ?_
      exact h
    · have h := h.2 hc
      refine V.run 2 (pc' := 85) (ls' := [.ref 24, .int v1, .int v2, .int v3]) (st' := [.int (iI 1)]) (S' := (M, L)) rfl ?_
      exact h
set_option maxRecDepth 100000 in
set_option maxHeartbeats 4000000 in
theorem s_Tape_hearBit_85 {l : Launch} {Γ : qG} {d r : Nat} {M : qM} {L : Nat → Int64} {P : Int32 → qM → Prop} (v1 v2 v3 w0 : Int32) (h : (w0 = v1 → V l Γ T_Tape_hearBit d r 59 [.ref 24, .int v1, .int v2, .int (v3 + (iI 1))] [] (M, L) (q_i L P)) ∧ (¬ w0 = v1 → P (iI (-2)) M)) : V l Γ T_Tape_hearBit d r 85 [.ref 24, .int v1, .int v2, .int v3] [.int w0] (M, L) (q_i L P) := by
  refine V.run 1 (pc' := 86) (ls' := [.ref 24, .int v1, .int v2, .int v3]) (st' := [.int v1, .int w0]) (S' := (M, L)) rfl ?_
  refine V.icmp (cd := .eq) rfl (fun hc => ?_) (fun hc => ?_)
  · have h := h.1 hc
    refine V.run 2 (pc' := 59) (ls' := [.ref 24, .int v1, .int v2, .int (v3 + (iI 1))]) (st' := []) (S' := (M, L)) rfl ?_
    exact h
  · have h := h.2 hc
    refine V.run 1 (pc' := 91) (ls' := [.ref 24, .int v1, .int v2, .int v3]) (st' := [.int (iI (-2))]) (S' := (M, L)) rfl ?_
    exact V.iret rfl rfl ⟨_, _, rfl, rfl, h⟩
