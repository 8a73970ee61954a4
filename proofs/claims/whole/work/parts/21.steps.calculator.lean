set_option maxRecDepth 100000 in
set_option maxHeartbeats 4000000 in
theorem s_Calculator_open_0 {l : Launch} {Γ : qG} {d r : Nat} {M : qM} {L : Nat → Int64} {P : qM → Prop} (b c : Int32) (h : P (q_up (q_up (q_up (q_up M 12 3 (Int32.ofNat 11)) 12 4 b) 12 5 c) 12 2 (iI 0))) : V l Γ T_Calculator_open d r 0 [.ref 12, .ref 11, .int b, .int c] [] (M, L) (q_n L P) := by
  refine V.run 12 (pc' := 20) (ls' := [.ref 12, .ref 11, .int b, .int c]) (st' := []) (S' := ((q_up (q_up (q_up (q_up M 12 3 (Int32.ofNat 11)) 12 4 b) 12 5 c) 12 2 (iI 0)), L)) rfl ?_
  exact V.vret rfl rfl ⟨_, rfl, rfl, h⟩
set_option maxRecDepth 100000 in
set_option maxHeartbeats 4000000 in
theorem s_Calculator_ahead_0 {l : Launch} {Γ : qG} {d r : Nat} {M : qM} {L : Nat → Int64} {P : Int32 → qM → Prop} (h : ((M 12 5) ≤ (M 12 4) → P (iI (-1)) M) ∧ (¬ (M 12 5) ≤ (M 12 4) → ((M 12 3)).toNatClampNeg = 11 ∧ vp_in (M 12 4) 200 ∧ P (M 11 ((M 12 4)).toNatClampNeg) M)) : V l Γ T_Calculator_ahead d r 0 [.ref 12] [] (M, L) (q_i L P) := by
  refine V.run 4 (pc' := 8) (ls' := [.ref 12]) (st' := [.int (M 12 5), .int (M 12 4)]) (S' := (M, L)) rfl ?_
  refine V.icmp (cd := .ge) rfl (fun hc => ?_) (fun hc => ?_)
  · have h := h.1 hc
    refine V.run 1 (pc' := 24) (ls' := [.ref 12]) (st' := [.int (iI (-1))]) (S' := (M, L)) rfl ?_
    exact V.iret rfl rfl ⟨_, _, rfl, rfl, h⟩
  · have h := h.2 hc
    refine V.run 1 (pc' := 12) (ls' := [.ref 12]) (st' := [.ref 12]) (S' := (M, L)) rfl ?_
    refine V.gfm rfl rfl rfl h.1 ?_
    have h := h.2
    refine V.run 2 (pc' := 19) (ls' := [.ref 12]) (st' := [.int (M 12 4), .ref 11]) (S' := (M, L)) rfl ?_
    refine V.iald rfl rfl h.1 ?_
    have h := h.2
    refine V.run 1 (pc' := 24) (ls' := [.ref 12]) (st' := [.int (M 11 ((M 12 4)).toNatClampNeg)]) (S' := (M, L)) rfl ?_
    exact V.iret rfl rfl ⟨_, _, rfl, rfl, h⟩
set_option maxRecDepth 100000 in
set_option maxHeartbeats 4000000 in
theorem s_Calculator_take_0 {l : Launch} {Γ : qG} {d r : Nat} {M : qM} {L : Nat → Int64} {P : Int32 → qM → Prop} (h : ((M 12 5) ≤ (M 12 4) → P (iI (-1)) (q_up M 12 4 ((M 12 4) + (iI 1)))) ∧ (¬ (M 12 5) ≤ (M 12 4) → ((M 12 3)).toNatClampNeg = 11 ∧ vp_in (M 12 4) 200 ∧ P (M 11 ((M 12 4)).toNatClampNeg) (q_up M 12 4 ((M 12 4) + (iI 1))))) : V l Γ T_Calculator_take d r 0 [.ref 12, .null] [] (M, L) (q_i L P) := by
  refine V.run 4 (pc' := 8) (ls' := [.ref 12, .null]) (st' := [.int (M 12 5), .int (M 12 4)]) (S' := (M, L)) rfl ?_
  refine V.icmp (cd := .ge) rfl (fun hc => ?_) (fun hc => ?_)
  · have h := h.1 hc
    refine V.run 9 (pc' := 36) (ls' := [.ref 12, .int (iI (-1))]) (st' := [.int (iI (-1))]) (S' := ((q_up M 12 4 ((M 12 4) + (iI 1))), L)) rfl ?_
    exact V.iret rfl rfl ⟨_, _, rfl, rfl, h⟩
  · have h := h.2 hc
    refine V.run 1 (pc' := 12) (ls' := [.ref 12, .null]) (st' := [.ref 12]) (S' := (M, L)) rfl ?_
    refine V.gfm rfl rfl rfl h.1 ?_
    have h := h.2
    refine V.run 2 (pc' := 19) (ls' := [.ref 12, .null]) (st' := [.int (M 12 4), .ref 11]) (S' := (M, L)) rfl ?_
    refine V.iald rfl rfl h.1 ?_
    have h := h.2
    refine V.run 9 (pc' := 36) (ls' := [.ref 12, .int (M 11 ((M 12 4)).toNatClampNeg)]) (st' := [.int (M 11 ((M 12 4)).toNatClampNeg)]) (S' := ((q_up M 12 4 ((M 12 4) + (iI 1))), L)) rfl ?_
    exact V.iret rfl rfl ⟨_, _, rfl, rfl, h⟩
set_option maxRecDepth 100000 in
set_option maxHeartbeats 4000000 in
theorem s_Calculator_takeVariable_0 {l : Launch} {Γ : qG} {d r : Nat} {M : qM} {L : Nat → Int64} {P : Int32 → qM → Prop} (h : ∃ P1 : Int32 → qM → Prop, V l Γ T_Calculator_take d 0 0 [.ref 12, .null] [] (M, L) (q_i L P1) ∧ ∀ (x1 : Int32) (M1 : qM), P1 x1 M1 → P ((x1 - (iI 97)) &&& (iI 7)) M1) : V l Γ T_Calculator_takeVariable (d + 1) r 0 [.ref 12] [] (M, L) (q_i L P) := by
  refine V.run 1 (pc' := 1) (ls' := [.ref 12]) (st' := [.ref 12]) (S' := (M, L)) rfl ?_
  obtain ⟨P1, hv1, h⟩ := h
  refine V.callVi (T2 := T_Calculator_take) (As := []) (rest := []) rfl rfl g_Calculator_take rfl rfl rfl rfl (Nat.le_of_ble_eq_true rfl) (by simp [Value.category]) (by simp [Value.category]) (Nat.le_of_ble_eq_true rfl) (Nat.le_refl _) hv1 (fun x1 M1 hq => ?_)
  have h := h x1 M1 hq
  refine V.run 4 (pc' := 10) (ls' := [.ref 12]) (st' := [.int ((x1 - (iI 97)) &&& (iI 7))]) (S' := (M1, L)) rfl ?_
  exact V.iret rfl rfl ⟨_, _, rfl, rfl, h⟩
set_option maxRecDepth 100000 in
set_option maxHeartbeats 4000000 in
theorem s_Calculator_takeNumber_0 {l : Launch} {Γ : qG} {d r : Nat} {M : qM} {L : Nat → Int64} {P : Int32 → qM → Prop} (h : V l Γ T_Calculator_takeNumber (d + 1) r 7 [.ref 12, .int (iI 0), .int (M 12 4)] [] (M, L) (q_i L P)) : V l Γ T_Calculator_takeNumber (d + 1) r 0 [.ref 12, .null, .null] [] (M, L) (q_i L P) := by
  refine V.run 5 (pc' := 7) (ls' := [.ref 12, .int (iI 0), .int (M 12 4)]) (st' := []) (S' := (M, L)) rfl ?_
  exact h
set_option maxRecDepth 100000 in
set_option maxHeartbeats 4000000 in
theorem s_Calculator_takeNumber_7 {l : Launch} {Γ : qG} {d r : Nat} {M : qM} {L : Nat → Int64} {P : Int32 → qM → Prop} (v1 v2 : Int32) (h : ((M 12 5) ≤ v2 → P v1 M) ∧ (¬ (M 12 5) ≤ v2 → ((M 12 3)).toNatClampNeg = 11 ∧ vp_in v2 200 ∧ ∃ P1 : Int32 → qM → Prop, V l Γ T_TapedLines_isDigit d 0 0 [.int (M 11 (v2).toNatClampNeg)] [] (M, L) (q_i L P1) ∧ ∀ (x1 : Int32) (M1 : qM), P1 x1 M1 → (x1 = 0 → P v1 M1) ∧ (¬ x1 = 0 → ((M1 12 3)).toNatClampNeg = 11 ∧ vp_in v2 200 ∧ V l Γ T_Calculator_takeNumber (d + 1) r 7 [.ref 12, .int (((v1 * (iI 10)) + (M1 11 (v2).toNatClampNeg)) - (iI 48)), .int (v2 + (iI 1))] [] ((q_up M1 12 4 ((M1 12 4) + (iI 1))), L) (q_i L P)))) : V l Γ T_Calculator_takeNumber (d + 1) r 7 [.ref 12, .int v1, .int v2] [] (M, L) (q_i L P) := by
  refine V.run 3 (pc' := 12) (ls' := [.ref 12, .int v1, .int v2]) (st' := [.int (M 12 5), .int v2]) (S' := (M, L)) rfl ?_
  refine V.icmp (cd := .ge) rfl (fun hc => ?_) (fun hc => ?_)
  · have h := h.1 hc
    refine V.run 1 (pc' := 59) (ls' := [.ref 12, .int v1, .int v2]) (st' := [.int v1]) (S' := (M, L)) rfl ?_
    exact V.iret rfl rfl ⟨_, _, rfl, rfl, h⟩
  · have h := h.2 hc
    refine V.run 1 (pc' := 16) (ls' := [.ref 12, .int v1, .int v2]) (st' := [.ref 12]) (S' := (M, L)) rfl ?_
    refine V.gfm rfl rfl rfl h.1 ?_
    have h := h.2
    refine V.run 1 (pc' := 20) (ls' := [.ref 12, .int v1, .int v2]) (st' := [.int v2, .ref 11]) (S' := (M, L)) rfl ?_
    refine V.iald rfl rfl h.1 ?_
    have h := h.2
    obtain ⟨P1, hv1, h⟩ := h
    refine V.callSNi (T2 := T_TapedLines_isDigit) (As := [.int (M 11 (v2).toNatClampNeg)]) (rest := []) rfl rfl g_TapedLines_isDigit rfl (Nat.le_of_ble_eq_true rfl) (by simp [Value.category]) (by simp [Value.category]) (Nat.le_of_ble_eq_true rfl) (Nat.le_refl _) hv1 (fun x1 M1 hq => ?_)
    have h := h x1 M1 hq
    refine V.ifc (cd := .eq) rfl (fun hc => ?_) (fun hc => ?_)
    · have h := h.1 hc
      refine V.run 1 (pc' := 59) (ls' := [.ref 12, .int v1, .int v2]) (st' := [.int v1]) (S' := (M1, L)) rfl ?_
      exact V.iret rfl rfl ⟨_, _, rfl, rfl, h⟩
    · have h := h.2 hc
      refine V.run 4 (pc' := 32) (ls' := [.ref 12, .int v1, .int v2]) (st' := [.ref 12, .int (v1 * (iI 10))]) (S' := (M1, L)) rfl ?_
      refine V.gfm rfl rfl rfl h.1 ?_
      have h := h.2
      refine V.run 1 (pc' := 36) (ls' := [.ref 12, .int v1, .int v2]) (st' := [.int v2, .ref 11, .int (v1 * (iI 10))]) (S' := (M1, L)) rfl ?_
      refine V.iald rfl rfl h.1 ?_
      have h := h.2
      refine V.run 12 (pc' := 7) (ls' := [.ref 12, .int (((v1 * (iI 10)) + (M1 11 (v2).toNatClampNeg)) - (iI 48)), .int (v2 + (iI 1))]) (st' := []) (S' := ((q_up M1 12 4 ((M1 12 4) + (iI 1))), L)) rfl ?_
      exact h
set_option maxRecDepth 100000 in
set_option maxHeartbeats 4000000 in
theorem s_Calculator_expression_0 {l : Launch} {Γ : qG} {d r : Nat} {M : qM} {L : Nat → Int64} {P : Int32 → qM → Prop} (h : ∃ P1 : Int32 → qM → Prop, V l Γ T_Calculator_worth d 0 0 [.ref 12, .int (iI 0), .int (iI 1), .null, .null, .null, .null] [] (M, L) (q_i L P1) ∧ ∀ (x1 : Int32) (M1 : qM), P1 x1 M1 → P x1 M1) : V l Γ T_Calculator_expression (d + 1) r 0 [.ref 12] [] (M, L) (q_i L P) := by
  refine V.run 3 (pc' := 3) (ls' := [.ref 12]) (st' := [.int (iI 1), .int (iI 0), .ref 12]) (S' := (M, L)) rfl ?_
  obtain ⟨P1, hv1, h⟩ := h
  refine V.callVi (T2 := T_Calculator_worth) (As := [.int (iI 0), .int (iI 1)]) (rest := []) rfl rfl g_Calculator_worth rfl rfl rfl rfl (Nat.le_of_ble_eq_true rfl) (by simp [Value.category]) (by simp [Value.category]) (Nat.le_of_ble_eq_true rfl) (Nat.le_refl _) hv1 (fun x1 M1 hq => ?_)
  have h := h x1 M1 hq
  exact V.iret rfl rfl ⟨_, _, rfl, rfl, h⟩
set_option maxRecDepth 100000 in
set_option maxHeartbeats 4000000 in
theorem s_Calculator_worth_0 {l : Launch} {Γ : qG} {d r : Nat} {M : qM} {L : Nat → Int64} {P : Int32 → qM → Prop} (a b : Int32) (h : ((M 12 2) = 0 → (a < (iI 3) → ∃ P1 : Int32 → qM → Prop, V l Γ T_Calculator_worth d 0 0 [.ref 12, .int (a + (iI 1)), .int b, .null, .null, .null, .null] [] (M, L) (q_i L P1) ∧ ∀ (x1 : Int32) (M1 : qM), P1 x1 M1 → V l Γ T_Calculator_worth (d + 1) r 32 [.ref 12, .int a, .int b, .int x1, .int (iI 0), .null, .null] [] (M1, L) (q_i L P)) ∧ (¬ a < (iI 3) → ∃ P2 : Int32 → qM → Prop, V l Γ T_Calculator_one d 0 0 [.ref 12, .int b, .null, .null, .null, .null] [] (M, L) (q_i L P2) ∧ ∀ (x2 : Int32) (M2 : qM), P2 x2 M2 → P x2 M2)) ∧ (¬ (M 12 2) = 0 → P (iI 0) M)) : V l Γ T_Calculator_worth (d + 1) r 0 [.ref 12, .int a, .int b, .null, .null, .null, .null] [] (M, L) (q_i L P) := by
  refine V.run 2 (pc' := 4) (ls' := [.ref 12, .int a, .int b, .null, .null, .null, .null]) (st' := [.int (M 12 2)]) (S' := (M, L)) rfl ?_
  refine V.ifc (cd := .eq) rfl (fun hc => ?_) (fun hc => ?_)
  · have h := h.1 hc
    refine V.run 2 (pc' := 11) (ls' := [.ref 12, .int a, .int b, .null, .null, .null, .null]) (st' := [.int (iI 3), .int a]) (S' := (M, L)) rfl ?_
    refine V.icmp (cd := .lt) rfl (fun hc => ?_) (fun hc => ?_)
    · have h := h.1 hc
      refine V.run 5 (pc' := 25) (ls' := [.ref 12, .int a, .int b, .null, .null, .null, .null]) (st' := [.int b, .int (a + (iI 1)), .ref 12]) (S' := (M, L)) rfl ?_
      obtain ⟨P1, hv1, h⟩ := h
      refine V.callVi (T2 := T_Calculator_worth) (As := [.int (a + (iI 1)), .int b]) (rest := []) rfl rfl g_Calculator_worth rfl rfl rfl rfl (Nat.le_of_ble_eq_true rfl) (by simp [Value.category]) (by simp [Value.category]) (Nat.le_of_ble_eq_true rfl) (Nat.le_refl _) hv1 (fun x1 M1 hq => ?_)
      have h := h x1 M1 hq
      refine V.run 3 (pc' := 32) (ls' := [.ref 12, .int a, .int b, .int x1, .int (iI 0), .null, .null]) (st' := []) (S' := (M1, L)) rfl ?_
      exact h
    · have h := h.2 hc
      refine V.run 2 (pc' := 16) (ls' := [.ref 12, .int a, .int b, .null, .null, .null, .null]) (st' := [.int b, .ref 12]) (S' := (M, L)) rfl ?_
      obtain ⟨P2, hv2, h⟩ := h
      refine V.callVi (T2 := T_Calculator_one) (As := [.int b]) (rest := []) rfl rfl g_Calculator_one rfl rfl rfl rfl (Nat.le_of_ble_eq_true rfl) (by simp [Value.category]) (by simp [Value.category]) (Nat.le_of_ble_eq_true rfl) (Nat.le_refl _) hv2 (fun x2 M2 hq => ?_)
      have h := h x2 M2 hq
      exact V.iret rfl rfl ⟨_, _, rfl, rfl, h⟩
  · have h := h.2 hc
    refine V.run 1 (pc' := 8) (ls' := [.ref 12, .int a, .int b, .null, .null, .null, .null]) (st' := [.int (iI 0)]) (S' := (M, L)) rfl ?_
    exact V.iret rfl rfl ⟨_, _, rfl, rfl, h⟩
set_option maxRecDepth 100000 in
set_option maxHeartbeats 4000000 in
theorem s_Calculator_worth_32 {l : Launch} {Γ : qG} {d r : Nat} {M : qM} {L : Nat → Int64} {P : Int32 → qM → Prop} (v1 v2 v3 v4 : Int32) (h : ((iI 200) ≤ v4 → P v3 M) ∧ (¬ (iI 200) ≤ v4 → (¬ (M 12 2) = 0 → P v3 M) ∧ (¬ (¬ (M 12 2) = 0) → ∃ P1 : Int32 → qM → Prop, V l Γ T_Calculator_ahead d 0 0 [.ref 12] [] (M, L) (q_i L P1) ∧ ∀ (x1 : Int32) (M1 : qM), P1 x1 M1 → ∃ P2 : Int32 → qM → Prop, V l Γ T_TapedLines_tierOf d 0 0 [.int x1] [] (M1, L) (q_i L P2) ∧ ∀ (x2 : Int32) (M2 : qM), P2 x2 M2 → (¬ x2 = v1 → P v3 M2) ∧ (¬ (¬ x2 = v1) → ∃ P3 : Int32 → qM → Prop, V l Γ T_Calculator_take d 0 0 [.ref 12, .null] [] (M2, L) (q_i L P3) ∧ ∀ (x3 : Int32) (M3 : qM), P3 x3 M3 → ∃ P4 : Int32 → qM → Prop, V l Γ T_Calculator_worth d 0 0 [.ref 12, .int (v1 + (iI 1)), .int v2, .null, .null, .null, .null] [] (M3, L) (q_i L P4) ∧ ∀ (x4 : Int32) (M4 : qM), P4 x4 M4 → (¬ (M4 12 2) = 0 → V l Γ T_Calculator_worth (d + 1) r 32 [.ref 12, .int v1, .int v2, .int (iI 0), .int (v4 + (iI 1)), .null, .null] [] (M4, L) (q_i L P)) ∧ (¬ (¬ (M4 12 2) = 0) → ∃ P5 : Int32 → qM → Prop, V l Γ T_Calculator_combine d 0 0 [.ref 12, .int x3, .int v3, .int x4] [] (M4, L) (q_i L P5) ∧ ∀ (x5 : Int32) (M5 : qM), P5 x5 M5 → V l Γ T_Calculator_worth (d + 1) r 32 [.ref 12, .int v1, .int v2, .int x5, .int (v4 + (iI 1)), .null, .null] [] (M5, L) (q_i L P)))))) : V l Γ T_Calculator_worth (d + 1) r 32 [.ref 12, .int v1, .int v2, .int v3, .int v4, .null, .null] [] (M, L) (q_i L P) := by
  refine V.run 2 (pc' := 37) (ls' := [.ref 12, .int v1, .int v2, .int v3, .int v4, .null, .null]) (st' := [.int (iI 200), .int v4]) (S' := (M, L)) rfl ?_
  refine V.icmp (cd := .ge) rfl (fun hc => ?_) (fun hc => ?_)
  · have h := h.1 hc
    refine V.run 1 (pc' := 102) (ls' := [.ref 12, .int v1, .int v2, .int v3, .int v4, .null, .null]) (st' := [.int v3]) (S' := (M, L)) rfl ?_
    exact V.iret rfl rfl ⟨_, _, rfl, rfl, h⟩
  · have h := h.2 hc
    refine V.run 2 (pc' := 44) (ls' := [.ref 12, .int v1, .int v2, .int v3, .int v4, .null, .null]) (st' := [.int (M 12 2)]) (S' := (M, L)) rfl ?_
    refine V.ifc (cd := .ne) rfl (fun hc => ?_) (fun hc => ?_)
    · have h := h.1 hc
      refine V.run 1 (pc' := 102) (ls' := [.ref 12, .int v1, .int v2, .int v3, .int v4, .null, .null]) (st' := [.int v3]) (S' := (M, L)) rfl ?_
      exact V.iret rfl rfl ⟨_, _, rfl, rfl, h⟩
    · have h := h.2 hc
      refine V.run 1 (pc' := 48) (ls' := [.ref 12, .int v1, .int v2, .int v3, .int v4, .null, .null]) (st' := [.ref 12]) (S' := (M, L)) rfl ?_
      obtain ⟨P1, hv1, h⟩ := h
      refine V.callVi (T2 := T_Calculator_ahead) (As := []) (rest := []) rfl rfl g_Calculator_ahead rfl rfl rfl rfl (Nat.le_of_ble_eq_true rfl) (by simp [Value.category]) (by simp [Value.category]) (Nat.le_of_ble_eq_true rfl) (Nat.le_refl _) hv1 (fun x1 M1 hq => ?_)
      have h := h x1 M1 hq
      obtain ⟨P2, hv2, h⟩ := h
      refine V.callSNi (T2 := T_TapedLines_tierOf) (As := [.int x1]) (rest := []) rfl rfl g_TapedLines_tierOf rfl (Nat.le_of_ble_eq_true rfl) (by simp [Value.category]) (by simp [Value.category]) (Nat.le_of_ble_eq_true rfl) (Nat.le_refl _) hv2 (fun x2 M2 hq => ?_)
      have h := h x2 M2 hq
      refine V.run 1 (pc' := 55) (ls' := [.ref 12, .int v1, .int v2, .int v3, .int v4, .null, .null]) (st' := [.int v1, .int x2]) (S' := (M2, L)) rfl ?_
      refine V.icmp (cd := .ne) rfl (fun hc => ?_) (fun hc => ?_)
      · have h := h.1 hc
        refine V.run 1 (pc' := 102) (ls' := [.ref 12, .int v1, .int v2, .int v3, .int v4, .null, .null]) (st' := [.int v3]) (S' := (M2, L)) rfl ?_
        exact V.iret rfl rfl ⟨_, _, rfl, rfl, h⟩
      · have h := h.2 hc
        refine V.run 1 (pc' := 59) (ls' := [.ref 12, .int v1, .int v2, .int v3, .int v4, .null, .null]) (st' := [.ref 12]) (S' := (M2, L)) rfl ?_
        obtain ⟨P3, hv3, h⟩ := h
        refine V.callVi (T2 := T_Calculator_take) (As := []) (rest := []) rfl rfl g_Calculator_take rfl rfl rfl rfl (Nat.le_of_ble_eq_true rfl) (by simp [Value.category]) (by simp [Value.category]) (Nat.le_of_ble_eq_true rfl) (Nat.le_refl _) hv3 (fun x3 M3 hq => ?_)
        have h := h x3 M3 hq
        refine V.run 6 (pc' := 69) (ls' := [.ref 12, .int v1, .int v2, .int v3, .int v4, .int x3, .null]) (st' := [.int v2, .int (v1 + (iI 1)), .ref 12]) (S' := (M3, L)) rfl ?_
        obtain ⟨P4, hv4, h⟩ := h
        refine V.callVi (T2 := T_Calculator_worth) (As := [.int (v1 + (iI 1)), .int v2]) (rest := []) rfl rfl g_Calculator_worth rfl rfl rfl rfl (Nat.le_of_ble_eq_true rfl) (by simp [Value.category]) (by simp [Value.category]) (Nat.le_of_ble_eq_true rfl) (Nat.le_refl _) hv4 (fun x4 M4 hq => ?_)
        have h := h x4 M4 hq
        refine V.run 3 (pc' := 78) (ls' := [.ref 12, .int v1, .int v2, .int v3, .int v4, .int x3, .int x4]) (st' := [.int (M4 12 2)]) (S' := (M4, L)) rfl ?_
        refine V.ifc (cd := .ne) rfl (fun hc => ?_) (fun hc => ?_)
        · have h := h.1 hc
          refine V.run 4 (pc' := 32) (ls' := [.ref 12, .int v1, .int v2, .int (iI 0), .int (v4 + (iI 1)), .int x3, .int x4]) (st' := []) (S' := (M4, L)) rfl ?_
          refine V.forget (ls' := [.ref 12, .int v1, .int v2, .int (iI 0), .int (v4 + (iI 1)), .null, .null]) ⟨Or.inr rfl, Or.inr rfl, Or.inr rfl, Or.inr rfl, Or.inr rfl, Or.inl rfl, Or.inl rfl, trivial⟩ ?_
          exact h
        · have h := h.2 hc
          refine V.run 4 (pc' := 87) (ls' := [.ref 12, .int v1, .int v2, .int v3, .int v4, .int x3, .int x4]) (st' := [.int x4, .int v3, .int x3, .ref 12]) (S' := (M4, L)) rfl ?_
          obtain ⟨P5, hv5, h⟩ := h
          refine V.callVi (T2 := T_Calculator_combine) (As := [.int x3, .int v3, .int x4]) (rest := []) rfl rfl g_Calculator_combine rfl rfl rfl rfl (Nat.le_of_ble_eq_true rfl) (by simp [Value.category]) (by simp [Value.category]) (Nat.le_of_ble_eq_true rfl) (Nat.le_refl _) hv5 (fun x5 M5 hq => ?_)
          have h := h x5 M5 hq
          refine V.run 4 (pc' := 32) (ls' := [.ref 12, .int v1, .int v2, .int x5, .int (v4 + (iI 1)), .int x3, .int x4]) (st' := []) (S' := (M5, L)) rfl ?_
          refine V.forget (ls' := [.ref 12, .int v1, .int v2, .int x5, .int (v4 + (iI 1)), .null, .null]) ⟨Or.inr rfl, Or.inr rfl, Or.inr rfl, Or.inr rfl, Or.inr rfl, Or.inl rfl, Or.inl rfl, trivial⟩ ?_
          exact h
set_option maxRecDepth 100000 in
set_option maxHeartbeats 4000000 in
theorem s_Calculator_one_0 {l : Launch} {Γ : qG} {d r : Nat} {M : qM} {L : Nat → Int64} {P : Int32 → qM → Prop} (a : Int32) (h : V l Γ T_Calculator_one (d + 1) r 4 [.ref 12, .int a, .int (iI 0), .int (iI 0), .null, .null] [] (M, L) (q_i L P)) : V l Γ T_Calculator_one (d + 1) r 0 [.ref 12, .int a, .null, .null, .null, .null] [] (M, L) (q_i L P) := by
  refine V.run 4 (pc' := 4) (ls' := [.ref 12, .int a, .int (iI 0), .int (iI 0), .null, .null]) (st' := []) (S' := (M, L)) rfl ?_
  exact h
set_option maxRecDepth 100000 in
set_option maxHeartbeats 4000000 in
theorem s_Calculator_one_4 {l : Launch} {Γ : qG} {d r : Nat} {M : qM} {L : Nat → Int64} {P : Int32 → qM → Prop} (v1 v2 v3 : Int32) (h : ((iI 200) ≤ v3 → V l Γ T_Calculator_one (d + 1) r 41 [.ref 12, .int v1, .int v2, .null, .null, .null] [] (M, L) (q_i L P)) ∧ (¬ (iI 200) ≤ v3 → ∃ P1 : Int32 → qM → Prop, V l Γ T_Calculator_ahead d 0 0 [.ref 12] [] (M, L) (q_i L P1) ∧ ∀ (x1 : Int32) (M1 : qM), P1 x1 M1 → (¬ x1 = (iI 45) → V l Γ T_Calculator_one (d + 1) r 41 [.ref 12, .int v1, .int v2, .null, .null, .null] [] (M1, L) (q_i L P)) ∧ (¬ (¬ x1 = (iI 45)) → ∃ P2 : Int32 → qM → Prop, V l Γ T_Calculator_take d 0 0 [.ref 12, .null] [] (M1, L) (q_i L P2) ∧ ∀ (x2 : Int32) (M2 : qM), P2 x2 M2 → (¬ v2 = 0 → V l Γ T_Calculator_one (d + 1) r 4 [.ref 12, .int v1, .int (iI 0), .int (v3 + (iI 1)), .null, .null] [] (M2, L) (q_i L P)) ∧ (¬ (¬ v2 = 0) → V l Γ T_Calculator_one (d + 1) r 4 [.ref 12, .int v1, .int (iI 1), .int (v3 + (iI 1)), .null, .null] [] (M2, L) (q_i L P))))) : V l Γ T_Calculator_one (d + 1) r 4 [.ref 12, .int v1, .int v2, .int v3, .null, .null] [] (M, L) (q_i L P) := by
  refine V.run 2 (pc' := 8) (ls' := [.ref 12, .int v1, .int v2, .int v3, .null, .null]) (st' := [.int (iI 200), .int v3]) (S' := (M, L)) rfl ?_
  refine V.icmp (cd := .ge) rfl (fun hc => ?_) (fun hc => ?_)
  · have h := h.1 hc
    refine V.forget (ls' := [.ref 12, .int v1, .int v2, .null, .null, .null]) ⟨Or.inr rfl, Or.inr rfl, Or.inr rfl, Or.inl rfl, Or.inl rfl, Or.inl rfl, trivial⟩ ?_
    exact h
  · have h := h.2 hc
    refine V.run 1 (pc' := 12) (ls' := [.ref 12, .int v1, .int v2, .int v3, .null, .null]) (st' := [.ref 12]) (S' := (M, L)) rfl ?_
    obtain ⟨P1, hv1, h⟩ := h
    refine V.callVi (T2 := T_Calculator_ahead) (As := []) (rest := []) rfl rfl g_Calculator_ahead rfl rfl rfl rfl (Nat.le_of_ble_eq_true rfl) (by simp [Value.category]) (by simp [Value.category]) (Nat.le_of_ble_eq_true rfl) (Nat.le_refl _) hv1 (fun x1 M1 hq => ?_)
    have h := h x1 M1 hq
    refine V.run 1 (pc' := 17) (ls' := [.ref 12, .int v1, .int v2, .int v3, .null, .null]) (st' := [.int (iI 45), .int x1]) (S' := (M1, L)) rfl ?_
    refine V.icmp (cd := .ne) rfl (fun hc => ?_) (fun hc => ?_)
    · have h := h.1 hc
      refine V.forget (ls' := [.ref 12, .int v1, .int v2, .null, .null, .null]) ⟨Or.inr rfl, Or.inr rfl, Or.inr rfl, Or.inl rfl, Or.inl rfl, Or.inl rfl, trivial⟩ ?_
      exact h
    · have h := h.2 hc
      refine V.run 1 (pc' := 21) (ls' := [.ref 12, .int v1, .int v2, .int v3, .null, .null]) (st' := [.ref 12]) (S' := (M1, L)) rfl ?_
      obtain ⟨P2, hv2, h⟩ := h
      refine V.callVi (T2 := T_Calculator_take) (As := []) (rest := []) rfl rfl g_Calculator_take rfl rfl rfl rfl (Nat.le_of_ble_eq_true rfl) (by simp [Value.category]) (by simp [Value.category]) (Nat.le_of_ble_eq_true rfl) (Nat.le_refl _) hv2 (fun x2 M2 hq => ?_)
      have h := h x2 M2 hq
      refine V.run 2 (pc' := 26) (ls' := [.ref 12, .int v1, .int v2, .int v3, .null, .null]) (st' := [.int v2]) (S' := (M2, L)) rfl ?_
      refine V.ifc (cd := .ne) rfl (fun hc => ?_) (fun hc => ?_)
      · have h := h.1 hc
        refine V.run 4 (pc' := 4) (ls' := [.ref 12, .int v1, .int (iI 0), .int (v3 + (iI 1)), .null, .null]) (st' := []) (S' := (M2, L)) rfl ?_
        exact h
      · have h := h.2 hc
        refine V.run 5 (pc' := 4) (ls' := [.ref 12, .int v1, .int (iI 1), .int (v3 + (iI 1)), .null, .null]) (st' := []) (S' := (M2, L)) rfl ?_
        exact h
set_option maxRecDepth 100000 in
set_option maxHeartbeats 4000000 in
theorem s_Calculator_one_41 {l : Launch} {Γ : qG} {d r : Nat} {M : qM} {L : Nat → Int64} {P : Int32 → qM → Prop} (v1 v2 : Int32) (h : ∃ P1 : Int32 → qM → Prop, V l Γ T_Calculator_ahead d 0 0 [.ref 12] [] (M, L) (q_i L P1) ∧ ∀ (x1 : Int32) (M1 : qM), P1 x1 M1 → ∃ P2 : Int32 → qM → Prop, V l Γ T_TapedLines_isDigit d 0 0 [.int x1] [] (M1, L) (q_i L P2) ∧ ∀ (x2 : Int32) (M2 : qM), P2 x2 M2 → (x2 = 0 → ∃ P3 : Int32 → qM → Prop, V l Γ T_Calculator_ahead d 0 0 [.ref 12] [] (M2, L) (q_i L P3) ∧ ∀ (x3 : Int32) (M3 : qM), P3 x3 M3 → ∃ P4 : Int32 → qM → Prop, V l Γ T_TapedLines_isVariable d 0 0 [.int x3] [] (M3, L) (q_i L P4) ∧ ∀ (x4 : Int32) (M4 : qM), P4 x4 M4 → (x4 = 0 → ((iI 4) ≤ v1 → V l Γ T_Calculator_one (d + 1) r 154 [.null, .null, .int v2, .int (iI 0), .null, .null] [] (M4, L) (q_i L P)) ∧ (¬ (iI 4) ≤ v1 → ∃ P5 : Int32 → qM → Prop, V l Γ T_Calculator_take d 0 0 [.ref 12, .null] [] (M4, L) (q_i L P5) ∧ ∀ (x5 : Int32) (M5 : qM), P5 x5 M5 → (¬ x5 = (iI 64) → V l Γ T_Calculator_one (d + 1) r 103 [.ref 12, .int v1, .int v2, .null, .null, .null] [.int (iI 0)] (M5, L) (q_i L P)) ∧ (¬ (¬ x5 = (iI 64)) → V l Γ T_Calculator_one (d + 1) r 103 [.ref 12, .int v1, .int v2, .null, .null, .null] [.int (iI 1)] (M5, L) (q_i L P)))) ∧ (¬ x4 = 0 → ∃ P6 : Int32 → qM → Prop, V l Γ T_Calculator_takeVariable d 0 0 [.ref 12] [] (M4, L) (q_i L P6) ∧ ∀ (x6 : Int32) (M6 : qM), P6 x6 M6 → vp_in x6 8 ∧ V l Γ T_Calculator_one (d + 1) r 154 [.null, .null, .int v2, .int (M6 13 (x6).toNatClampNeg), .null, .null] [] (M6, L) (q_i L P))) ∧ (¬ x2 = 0 → ∃ P7 : Int32 → qM → Prop, V l Γ T_Calculator_takeNumber d 0 0 [.ref 12, .null, .null] [] (M2, L) (q_i L P7) ∧ ∀ (x7 : Int32) (M7 : qM), P7 x7 M7 → V l Γ T_Calculator_one (d + 1) r 154 [.null, .null, .int v2, .int x7, .null, .null] [] (M7, L) (q_i L P))) : V l Γ T_Calculator_one (d + 1) r 41 [.ref 12, .int v1, .int v2, .null, .null, .null] [] (M, L) (q_i L P) := by
  refine V.run 3 (pc' := 44) (ls' := [.ref 12, .int v1, .int v2, .int (iI 0), .null, .null]) (st' := [.ref 12]) (S' := (M, L)) rfl ?_
  obtain ⟨P1, hv1, h⟩ := h
  refine V.callVi (T2 := T_Calculator_ahead) (As := []) (rest := []) rfl rfl g_Calculator_ahead rfl rfl rfl rfl (Nat.le_of_ble_eq_true rfl) (by simp [Value.category]) (by simp [Value.category]) (Nat.le_of_ble_eq_true rfl) (Nat.le_refl _) hv1 (fun x1 M1 hq => ?_)
  have h := h x1 M1 hq
  obtain ⟨P2, hv2, h⟩ := h
  refine V.callSNi (T2 := T_TapedLines_isDigit) (As := [.int x1]) (rest := []) rfl rfl g_TapedLines_isDigit rfl (Nat.le_of_ble_eq_true rfl) (by simp [Value.category]) (by simp [Value.category]) (Nat.le_of_ble_eq_true rfl) (Nat.le_refl _) hv2 (fun x2 M2 hq => ?_)
  have h := h x2 M2 hq
  refine V.ifc (cd := .eq) rfl (fun hc => ?_) (fun hc => ?_)
  · have h := h.1 hc
    refine V.run 1 (pc' := 62) (ls' := [.ref 12, .int v1, .int v2, .int (iI 0), .null, .null]) (st' := [.ref 12]) (S' := (M2, L)) rfl ?_
    obtain ⟨P3, hv3, h⟩ := h
    refine V.callVi (T2 := T_Calculator_ahead) (As := []) (rest := []) rfl rfl g_Calculator_ahead rfl rfl rfl rfl (Nat.le_of_ble_eq_true rfl) (by simp [Value.category]) (by simp [Value.category]) (Nat.le_of_ble_eq_true rfl) (Nat.le_refl _) hv3 (fun x3 M3 hq => ?_)
    have h := h x3 M3 hq
    obtain ⟨P4, hv4, h⟩ := h
    refine V.callSNi (T2 := T_TapedLines_isVariable) (As := [.int x3]) (rest := []) rfl rfl g_TapedLines_isVariable rfl (Nat.le_of_ble_eq_true rfl) (by simp [Value.category]) (by simp [Value.category]) (Nat.le_of_ble_eq_true rfl) (Nat.le_refl _) hv4 (fun x4 M4 hq => ?_)
    have h := h x4 M4 hq
    refine V.ifc (cd := .eq) rfl (fun hc => ?_) (fun hc => ?_)
    · have h := h.1 hc
      refine V.run 2 (pc' := 86) (ls' := [.ref 12, .int v1, .int v2, .int (iI 0), .null, .null]) (st' := [.int (iI 4), .int v1]) (S' := (M4, L)) rfl ?_
      refine V.icmp (cd := .ge) rfl (fun hc => ?_) (fun hc => ?_)
      · have h := h.1 hc
        refine V.forget (ls' := [.null, .null, .int v2, .int (iI 0), .null, .null]) ⟨Or.inl rfl, Or.inl rfl, Or.inr rfl, Or.inr rfl, Or.inl rfl, Or.inl rfl, trivial⟩ ?_
        exact h
      · have h := h.2 hc
        refine V.run 1 (pc' := 90) (ls' := [.ref 12, .int v1, .int v2, .int (iI 0), .null, .null]) (st' := [.ref 12]) (S' := (M4, L)) rfl ?_
        obtain ⟨P5, hv5, h⟩ := h
        refine V.callVi (T2 := T_Calculator_take) (As := []) (rest := []) rfl rfl g_Calculator_take rfl rfl rfl rfl (Nat.le_of_ble_eq_true rfl) (by simp [Value.category]) (by simp [Value.category]) (Nat.le_of_ble_eq_true rfl) (Nat.le_refl _) hv5 (fun x5 M5 hq => ?_)
        have h := h x5 M5 hq
        refine V.run 1 (pc' := 95) (ls' := [.ref 12, .int v1, .int v2, .int (iI 0), .null, .null]) (st' := [.int (iI 64), .int x5]) (S' := (M5, L)) rfl ?_
        refine V.icmp (cd := .ne) rfl (fun hc => ?_) (fun hc => ?_)
        · have h := h.1 hc
          refine V.run 1 (pc' := 103) (ls' := [.ref 12, .int v1, .int v2, .int (iI 0), .null, .null]) (st' := [.int (iI 0)]) (S' := (M5, L)) rfl ?_
          refine V.forget (ls' := [.ref 12, .int v1, .int v2, .null, .null, .null]) ⟨Or.inr rfl, Or.inr rfl, Or.inr rfl, Or.inl rfl, Or.inl rfl, Or.inl rfl, trivial⟩ ?_
          exact h
        · have h := h.2 hc
          refine V.run 2 (pc' := 103) (ls' := [.ref 12, .int v1, .int v2, .int (iI 0), .null, .null]) (st' := [.int (iI 1)]) (S' := (M5, L)) rfl ?_
          refine V.forget (ls' := [.ref 12, .int v1, .int v2, .null, .null, .null]) ⟨Or.inr rfl, Or.inr rfl, Or.inr rfl, Or.inl rfl, Or.inl rfl, Or.inl rfl, trivial⟩ ?_
          exact h
    · have h := h.2 hc
      refine V.run 3 (pc' := 76) (ls' := [.ref 12, .int v1, .int v2, .int (iI 0), .null, .null]) (st' := [.ref 12, .ref 13]) (S' := (M4, L)) rfl ?_
      obtain ⟨P6, hv6, h⟩ := h
      refine V.callVi (T2 := T_Calculator_takeVariable) (As := []) (rest := [.ref 13]) rfl rfl g_Calculator_takeVariable rfl rfl rfl rfl (Nat.le_of_ble_eq_true rfl) (by simp [Value.category]) (by simp [Value.category]) (Nat.le_of_ble_eq_true rfl) (Nat.le_refl _) hv6 (fun x6 M6 hq => ?_)
      have h := h x6 M6 hq
      refine V.iald rfl rfl h.1 ?_
      have h := h.2
      refine V.run 2 (pc' := 154) (ls' := [.ref 12, .int v1, .int v2, .int (M6 13 (x6).toNatClampNeg), .null, .null]) (st' := []) (S' := (M6, L)) rfl ?_
      refine V.forget (ls' := [.null, .null, .int v2, .int (M6 13 (x6).toNatClampNeg), .null, .null]) ⟨Or.inl rfl, Or.inl rfl, Or.inr rfl, Or.inr rfl, Or.inl rfl, Or.inl rfl, trivial⟩ ?_
      exact h
  · have h := h.2 hc
    refine V.run 1 (pc' := 54) (ls' := [.ref 12, .int v1, .int v2, .int (iI 0), .null, .null]) (st' := [.ref 12]) (S' := (M2, L)) rfl ?_
    obtain ⟨P7, hv7, h⟩ := h
    refine V.callVi (T2 := T_Calculator_takeNumber) (As := []) (rest := []) rfl rfl g_Calculator_takeNumber rfl rfl rfl rfl (Nat.le_of_ble_eq_true rfl) (by simp [Value.category]) (by simp [Value.category]) (Nat.le_of_ble_eq_true rfl) (Nat.le_refl _) hv7 (fun x7 M7 hq => ?_)
    have h := h x7 M7 hq
    refine V.run 2 (pc' := 154) (ls' := [.ref 12, .int v1, .int v2, .int x7, .null, .null]) (st' := []) (S' := (M7, L)) rfl ?_
    refine V.forget (ls' := [.null, .null, .int v2, .int x7, .null, .null]) ⟨Or.inl rfl, Or.inl rfl, Or.inr rfl, Or.inr rfl, Or.inl rfl, Or.inl rfl, trivial⟩ ?_
    exact h
set_option maxRecDepth 100000 in
set_option maxHeartbeats 4000000 in
theorem s_Calculator_one_103 {l : Launch} {Γ : qG} {d r : Nat} {M : qM} {L : Nat → Int64} {P : Int32 → qM → Prop} (v1 v2 w0 : Int32) (h : (w0 = 0 → V l Γ T_Calculator_one (d + 1) r 115 [.ref 12, .int v1, .int v2, .null, .int w0, .null] [] (M, L) (q_i L P)) ∧ (¬ w0 = 0 → ∃ P1 : Int32 → qM → Prop, V l Γ T_Calculator_take d 0 0 [.ref 12, .null] [] (M, L) (q_i L P1) ∧ ∀ (x1 : Int32) (M1 : qM), P1 x1 M1 → V l Γ T_Calculator_one (d + 1) r 115 [.ref 12, .int v1, .int v2, .null, .int w0, .null] [] (M1, L) (q_i L P))) : V l Γ T_Calculator_one (d + 1) r 103 [.ref 12, .int v1, .int v2, .null, .null, .null] [.int w0] (M, L) (q_i L P) := by
  refine V.run 2 (pc' := 107) (ls' := [.ref 12, .int v1, .int v2, .null, .int w0, .null]) (st' := [.int w0]) (S' := (M, L)) rfl ?_
  refine V.ifc (cd := .eq) rfl (fun hc => ?_) (fun hc => ?_)
  · have h := h.1 hc
    exact h
  · have h := h.2 hc
    refine V.run 1 (pc' := 111) (ls' := [.ref 12, .int v1, .int v2, .null, .int w0, .null]) (st' := [.ref 12]) (S' := (M, L)) rfl ?_
    obtain ⟨P1, hv1, h⟩ := h
    refine V.callVi (T2 := T_Calculator_take) (As := []) (rest := []) rfl rfl g_Calculator_take rfl rfl rfl rfl (Nat.le_of_ble_eq_true rfl) (by simp [Value.category]) (by simp [Value.category]) (Nat.le_of_ble_eq_true rfl) (Nat.le_refl _) hv1 (fun x1 M1 hq => ?_)
    have h := h x1 M1 hq
    refine V.run 1 (pc' := 115) (ls' := [.ref 12, .int v1, .int v2, .null, .int w0, .null]) (st' := []) (S' := (M1, L)) rfl ?_
    exact h
set_option maxRecDepth 100000 in
set_option maxHeartbeats 4000000 in
theorem s_Calculator_one_115 {l : Launch} {Γ : qG} {d r : Nat} {M : qM} {L : Nat → Int64} {P : Int32 → qM → Prop} (v1 v2 v4 : Int32) (h : ∃ P1 : Int32 → qM → Prop, V l Γ T_Calculator_worth d 0 0 [.ref 12, .int (iI 0), .int (v1 + (iI 1)), .null, .null, .null, .null] [] (M, L) (q_i L P1) ∧ ∀ (x1 : Int32) (M1 : qM), P1 x1 M1 → ∃ P2 : Int32 → qM → Prop, V l Γ T_Calculator_take d 0 0 [.ref 12, .null] [] (M1, L) (q_i L P2) ∧ ∀ (x2 : Int32) (M2 : qM), P2 x2 M2 → (v4 = 0 → V l Γ T_Calculator_one (d + 1) r 154 [.null, .null, .int v2, .int x1, .null, .null] [] (M2, L) (q_i L P)) ∧ (¬ v4 = 0 → (¬ (M2 12 2) = 0 → V l Γ T_Calculator_one (d + 1) r 154 [.null, .null, .int v2, .int x1, .null, .null] [] (M2, L) (q_i L P)) ∧ (¬ (¬ (M2 12 2) = 0) → ∃ P3 : Int32 → qM → Prop, V l Γ T_Calculator_cellAt d 0 0 [.ref 12, .int x1] [] (M2, L) (q_i L P3) ∧ ∀ (x3 : Int32) (M3 : qM), P3 x3 M3 → V l Γ T_Calculator_one (d + 1) r 154 [.null, .null, .int v2, .int x3, .null, .null] [] (M3, L) (q_i L P)))) : V l Γ T_Calculator_one (d + 1) r 115 [.ref 12, .int v1, .int v2, .null, .int v4, .null] [] (M, L) (q_i L P) := by
  refine V.run 5 (pc' := 120) (ls' := [.ref 12, .int v1, .int v2, .null, .int v4, .null]) (st' := [.int (v1 + (iI 1)), .int (iI 0), .ref 12]) (S' := (M, L)) rfl ?_
  obtain ⟨P1, hv1, h⟩ := h
  refine V.callVi (T2 := T_Calculator_worth) (As := [.int (iI 0), .int (v1 + (iI 1))]) (rest := []) rfl rfl g_Calculator_worth rfl rfl rfl rfl (Nat.le_of_ble_eq_true rfl) (by simp [Value.category]) (by simp [Value.category]) (Nat.le_of_ble_eq_true rfl) (Nat.le_refl _) hv1 (fun x1 M1 hq => ?_)
  have h := h x1 M1 hq
  refine V.run 2 (pc' := 126) (ls' := [.ref 12, .int v1, .int v2, .null, .int v4, .int x1]) (st' := [.ref 12]) (S' := (M1, L)) rfl ?_
  obtain ⟨P2, hv2, h⟩ := h
  refine V.callVi (T2 := T_Calculator_take) (As := []) (rest := []) rfl rfl g_Calculator_take rfl rfl rfl rfl (Nat.le_of_ble_eq_true rfl) (by simp [Value.category]) (by simp [Value.category]) (Nat.le_of_ble_eq_true rfl) (Nat.le_refl _) hv2 (fun x2 M2 hq => ?_)
  have h := h x2 M2 hq
  refine V.run 2 (pc' := 132) (ls' := [.ref 12, .int v1, .int v2, .null, .int v4, .int x1]) (st' := [.int v4]) (S' := (M2, L)) rfl ?_
  refine V.ifc (cd := .eq) rfl (fun hc => ?_) (fun hc => ?_)
  · have h := h.1 hc
    refine V.run 2 (pc' := 154) (ls' := [.ref 12, .int v1, .int v2, .int x1, .int v4, .int x1]) (st' := []) (S' := (M2, L)) rfl ?_
    refine V.forget (ls' := [.null, .null, .int v2, .int x1, .null, .null]) ⟨Or.inl rfl, Or.inl rfl, Or.inr rfl, Or.inr rfl, Or.inl rfl, Or.inl rfl, trivial⟩ ?_
    exact h
  · have h := h.2 hc
    refine V.run 2 (pc' := 139) (ls' := [.ref 12, .int v1, .int v2, .null, .int v4, .int x1]) (st' := [.int (M2 12 2)]) (S' := (M2, L)) rfl ?_
    refine V.ifc (cd := .ne) rfl (fun hc => ?_) (fun hc => ?_)
    · have h := h.1 hc
      refine V.run 2 (pc' := 154) (ls' := [.ref 12, .int v1, .int v2, .int x1, .int v4, .int x1]) (st' := []) (S' := (M2, L)) rfl ?_
      refine V.forget (ls' := [.null, .null, .int v2, .int x1, .null, .null]) ⟨Or.inl rfl, Or.inl rfl, Or.inr rfl, Or.inr rfl, Or.inl rfl, Or.inl rfl, trivial⟩ ?_
      exact h
    · have h := h.2 hc
      refine V.run 2 (pc' := 145) (ls' := [.ref 12, .int v1, .int v2, .null, .int v4, .int x1]) (st' := [.int x1, .ref 12]) (S' := (M2, L)) rfl ?_
      obtain ⟨P3, hv3, h⟩ := h
      refine V.callVi (T2 := T_Calculator_cellAt) (As := [.int x1]) (rest := []) rfl rfl g_Calculator_cellAt rfl rfl rfl rfl (Nat.le_of_ble_eq_true rfl) (by simp [Value.category]) (by simp [Value.category]) (Nat.le_of_ble_eq_true rfl) (Nat.le_refl _) hv3 (fun x3 M3 hq => ?_)
      have h := h x3 M3 hq
      refine V.run 2 (pc' := 154) (ls' := [.ref 12, .int v1, .int v2, .int x3, .int v4, .int x1]) (st' := []) (S' := (M3, L)) rfl ?_
      refine V.forget (ls' := [.null, .null, .int v2, .int x3, .null, .null]) ⟨Or.inl rfl, Or.inl rfl, Or.inr rfl, Or.inr rfl, Or.inl rfl, Or.inl rfl, trivial⟩ ?_
      exact h
set_option maxRecDepth 100000 in
set_option maxHeartbeats 4000000 in
theorem s_Calculator_one_154 {l : Launch} {Γ : qG} {d r : Nat} {M : qM} {L : Nat → Int64} {P : Int32 → qM → Prop} (v2 v3 : Int32) (h : (v2 = 0 → P v3 M) ∧ (¬ v2 = 0 → P ((-v3)).toInt16.toInt32 M)) : V l Γ T_Calculator_one (d + 1) r 154 [.null, .null, .int v2, .int v3, .null, .null] [] (M, L) (q_i L P) := by
  refine V.run 1 (pc' := 155) (ls' := [.null, .null, .int v2, .int v3, .null, .null]) (st' := [.int v2]) (S' := (M, L)) rfl ?_
  refine V.ifc (cd := .eq) rfl (fun hc => ?_) (fun hc => ?_)
  · have h := h.1 hc
    refine V.run 1 (pc' := 165) (ls' := [.null, .null, .int v2, .int v3, .null, .null]) (st' := [.int v3]) (S' := (M, L)) rfl ?_
    exact V.iret rfl rfl ⟨_, _, rfl, rfl, h⟩
  · have h := h.2 hc
    refine V.run 4 (pc' := 165) (ls' := [.null, .null, .int v2, .int v3, .null, .null]) (st' := [.int ((-v3)).toInt16.toInt32]) (S' := (M, L)) rfl ?_
    exact V.iret rfl rfl ⟨_, _, rfl, rfl, h⟩
set_option maxRecDepth 100000 in
set_option maxHeartbeats 4000000 in
theorem s_Calculator_cellAt_0 {l : Launch} {Γ : qG} {d r : Nat} {M : qM} {L : Nat → Int64} {P : Int32 → qM → Prop} (a : Int32) (h : (a < 0 → P (iI 0) (q_up M 12 2 (iI 6))) ∧ (¬ a < 0 → (a < (iI 16) → vp_in a 16 ∧ P (M 14 (a).toNatClampNeg) M) ∧ (¬ a < (iI 16) → P (iI 0) (q_up M 12 2 (iI 6))))) : V l Γ T_Calculator_cellAt d r 0 [.ref 12, .int a] [] (M, L) (q_i L P) := by
  refine V.run 1 (pc' := 1) (ls' := [.ref 12, .int a]) (st' := [.int a]) (S' := (M, L)) rfl ?_
  refine V.ifc (cd := .lt) rfl (fun hc => ?_) (fun hc => ?_)
  · have h := h.1 hc
    refine V.run 4 (pc' := 17) (ls' := [.ref 12, .int a]) (st' := [.int (iI 0)]) (S' := ((q_up M 12 2 (iI 6)), L)) rfl ?_
    exact V.iret rfl rfl ⟨_, _, rfl, rfl, h⟩
  · have h := h.2 hc
    refine V.run 2 (pc' := 7) (ls' := [.ref 12, .int a]) (st' := [.int (iI 16), .int a]) (S' := (M, L)) rfl ?_
    refine V.icmp (cd := .lt) rfl (fun hc => ?_) (fun hc => ?_)
    · have h := h.1 hc
      refine V.run 3 (pc' := 23) (ls' := [.ref 12, .int a]) (st' := [.int a, .ref 14]) (S' := (M, L)) rfl ?_
      refine V.iald rfl rfl h.1 ?_
      have h := h.2
      exact V.iret rfl rfl ⟨_, _, rfl, rfl, h⟩
    · have h := h.2 hc
      refine V.run 4 (pc' := 17) (ls' := [.ref 12, .int a]) (st' := [.int (iI 0)]) (S' := ((q_up M 12 2 (iI 6)), L)) rfl ?_
      exact V.iret rfl rfl ⟨_, _, rfl, rfl, h⟩
set_option maxRecDepth 100000 in
set_option maxHeartbeats 4000000 in
theorem s_Calculator_combine_0 {l : Launch} {Γ : qG} {d r : Nat} {M : qM} {L : Nat → Int64} {P : Int32 → qM → Prop} (a b c : Int32) (h : ((a).toInt = 42 → P ((b * c)).toInt16.toInt32 M) ∧ (¬ (a).toInt = 42 → ((a).toInt = 43 → P ((b + c)).toInt16.toInt32 M) ∧ (¬ (a).toInt = 43 → ((a).toInt = 45 → P ((b - c)).toInt16.toInt32 M) ∧ (¬ (a).toInt = 45 → ((a).toInt = 60 → (c ≤ b → P (iI 0) M) ∧ (¬ c ≤ b → P (iI 1) M)) ∧ (¬ (a).toInt = 60 → ((a).toInt = 61 → (¬ b = c → P (iI 0) M) ∧ (¬ (¬ b = c) → P (iI 1) M)) ∧ (¬ (a).toInt = 61 → ((a).toInt = 62 → (b ≤ c → P (iI 0) M) ∧ (¬ b ≤ c → P (iI 1) M)) ∧ (¬ (a).toInt = 62 → ∃ P1 : Int32 → qM → Prop, V l Γ T_Calculator_divide d 0 0 [.ref 12, .int a, .int b, .int c] [] (M, L) (q_i L P1) ∧ ∀ (x1 : Int32) (M1 : qM), P1 x1 M1 → P x1 M1))))))) : V l Γ T_Calculator_combine (d + 1) r 0 [.ref 12, .int a, .int b, .int c] [] (M, L) (q_i L P) := by
  refine V.run 1 (pc' := 1) (ls' := [.ref 12, .int a, .int b, .int c]) (st' := [.int a]) (S' := (M, L)) rfl ?_
  refine V.swl rfl 108 [(42, 103), (43, 93), (45, 98), (60, 71), (61, 60), (62, 82)] (by decide) (by decide) (by decide) ?_
  refine q_swP.c (fun hc => ?_) (fun hc => ?_)
  · have h := h.1 hc
    refine V.run 4 (pc' := 107) (ls' := [.ref 12, .int a, .int b, .int c]) (st' := [.int ((b * c)).toInt16.toInt32]) (S' := (M, L)) rfl ?_
    exact V.iret rfl rfl ⟨_, _, rfl, rfl, h⟩
  · have h := h.2 hc
    refine q_swP.c (fun hc => ?_) (fun hc => ?_)
    · have h := h.1 hc
      refine V.run 4 (pc' := 97) (ls' := [.ref 12, .int a, .int b, .int c]) (st' := [.int ((b + c)).toInt16.toInt32]) (S' := (M, L)) rfl ?_
      exact V.iret rfl rfl ⟨_, _, rfl, rfl, h⟩
    · have h := h.2 hc
      refine q_swP.c (fun hc => ?_) (fun hc => ?_)
      · have h := h.1 hc
        refine V.run 4 (pc' := 102) (ls' := [.ref 12, .int a, .int b, .int c]) (st' := [.int ((b - c)).toInt16.toInt32]) (S' := (M, L)) rfl ?_
        exact V.iret rfl rfl ⟨_, _, rfl, rfl, h⟩
      · have h := h.2 hc
        refine q_swP.c (fun hc => ?_) (fun hc => ?_)
        · have h := h.1 hc
          refine V.run 2 (pc' := 73) (ls' := [.ref 12, .int a, .int b, .int c]) (st' := [.int c, .int b]) (S' := (M, L)) rfl ?_
          refine V.icmp (cd := .ge) rfl (fun hc => ?_) (fun hc => ?_)
          · have h := h.1 hc
            refine V.run 1 (pc' := 81) (ls' := [.ref 12, .int a, .int b, .int c]) (st' := [.int (iI 0)]) (S' := (M, L)) rfl ?_
            exact V.iret rfl rfl ⟨_, _, rfl, rfl, h⟩
          · have h := h.2 hc
            refine V.run 2 (pc' := 81) (ls' := [.ref 12, .int a, .int b, .int c]) (st' := [.int (iI 1)]) (S' := (M, L)) rfl ?_
            exact V.iret rfl rfl ⟨_, _, rfl, rfl, h⟩
        · have h := h.2 hc
          refine q_swP.c (fun hc => ?_) (fun hc => ?_)
          · have h := h.1 hc
            refine V.run 2 (pc' := 62) (ls' := [.ref 12, .int a, .int b, .int c]) (st' := [.int c, .int b]) (S' := (M, L)) rfl ?_
            refine V.icmp (cd := .ne) rfl (fun hc => ?_) (fun hc => ?_)
            · have h := h.1 hc
              refine V.run 1 (pc' := 70) (ls' := [.ref 12, .int a, .int b, .int c]) (st' := [.int (iI 0)]) (S' := (M, L)) rfl ?_
              exact V.iret rfl rfl ⟨_, _, rfl, rfl, h⟩
            · have h := h.2 hc
              refine V.run 2 (pc' := 70) (ls' := [.ref 12, .int a, .int b, .int c]) (st' := [.int (iI 1)]) (S' := (M, L)) rfl ?_
              exact V.iret rfl rfl ⟨_, _, rfl, rfl, h⟩
          · have h := h.2 hc
            refine q_swP.c (fun hc => ?_) (fun hc => ?_)
            · have h := h.1 hc
              refine V.run 2 (pc' := 84) (ls' := [.ref 12, .int a, .int b, .int c]) (st' := [.int c, .int b]) (S' := (M, L)) rfl ?_
              refine V.icmp (cd := .le) rfl (fun hc => ?_) (fun hc => ?_)
              · have h := h.1 hc
                refine V.run 1 (pc' := 92) (ls' := [.ref 12, .int a, .int b, .int c]) (st' := [.int (iI 0)]) (S' := (M, L)) rfl ?_
                exact V.iret rfl rfl ⟨_, _, rfl, rfl, h⟩
              · have h := h.2 hc
                refine V.run 2 (pc' := 92) (ls' := [.ref 12, .int a, .int b, .int c]) (st' := [.int (iI 1)]) (S' := (M, L)) rfl ?_
                exact V.iret rfl rfl ⟨_, _, rfl, rfl, h⟩
            · have h := h.2 hc
              refine q_swP.e ?_
              refine V.run 4 (pc' := 112) (ls' := [.ref 12, .int a, .int b, .int c]) (st' := [.int c, .int b, .int a, .ref 12]) (S' := (M, L)) rfl ?_
              obtain ⟨P1, hv1, h⟩ := h
              refine V.callVi (T2 := T_Calculator_divide) (As := [.int a, .int b, .int c]) (rest := []) rfl rfl g_Calculator_divide rfl rfl rfl rfl (Nat.le_of_ble_eq_true rfl) (by simp [Value.category]) (by simp [Value.category]) (Nat.le_of_ble_eq_true rfl) (Nat.le_refl _) hv1 (fun x1 M1 hq => ?_)
              have h := h x1 M1 hq
              exact V.iret rfl rfl ⟨_, _, rfl, rfl, h⟩
set_option maxRecDepth 100000 in
set_option maxHeartbeats 4000000 in
theorem s_Calculator_divide_0 {l : Launch} {Γ : qG} {d r : Nat} {M : qM} {L : Nat → Int64} {P : Int32 → qM → Prop} (a b c : Int32) (h : (¬ c = 0 → (¬ a = (iI 47) → ¬ c = 0 ∧ P ((b - b / c * c)).toInt16.toInt32 M) ∧ (¬ (¬ a = (iI 47)) → ¬ c = 0 ∧ P ((b / c)).toInt16.toInt32 M)) ∧ (¬ (¬ c = 0) → P (iI 0) (q_up M 12 2 (iI 5)))) : V l Γ T_Calculator_divide d r 0 [.ref 12, .int a, .int b, .int c] [] (M, L) (q_i L P) := by
  refine V.run 1 (pc' := 1) (ls' := [.ref 12, .int a, .int b, .int c]) (st' := [.int c]) (S' := (M, L)) rfl ?_
  refine V.ifc (cd := .ne) rfl (fun hc => ?_) (fun hc => ?_)
  · have h := h.1 hc
    refine V.run 2 (pc' := 14) (ls' := [.ref 12, .int a, .int b, .int c]) (st' := [.int (iI 47), .int a]) (S' := (M, L)) rfl ?_
    refine V.icmp (cd := .ne) rfl (fun hc => ?_) (fun hc => ?_)
    · have h := h.1 hc
      refine V.run 2 (pc' := 25) (ls' := [.ref 12, .int a, .int b, .int c]) (st' := [.int c, .int b]) (S' := (M, L)) rfl ?_
      refine V.irem rfl h.1 ?_
      have h := h.2
      refine V.run 1 (pc' := 27) (ls' := [.ref 12, .int a, .int b, .int c]) (st' := [.int ((b - b / c * c)).toInt16.toInt32]) (S' := (M, L)) rfl ?_
      exact V.iret rfl rfl ⟨_, _, rfl, rfl, h⟩
    · have h := h.2 hc
      refine V.run 2 (pc' := 19) (ls' := [.ref 12, .int a, .int b, .int c]) (st' := [.int c, .int b]) (S' := (M, L)) rfl ?_
      refine V.idiv rfl h.1 ?_
      have h := h.2
      refine V.run 2 (pc' := 27) (ls' := [.ref 12, .int a, .int b, .int c]) (st' := [.int ((b / c)).toInt16.toInt32]) (S' := (M, L)) rfl ?_
      exact V.iret rfl rfl ⟨_, _, rfl, rfl, h⟩
  · have h := h.2 hc
    refine V.run 4 (pc' := 10) (ls' := [.ref 12, .int a, .int b, .int c]) (st' := [.int (iI 0)]) (S' := ((q_up M 12 2 (iI 5)), L)) rfl ?_
    exact V.iret rfl rfl ⟨_, _, rfl, rfl, h⟩
