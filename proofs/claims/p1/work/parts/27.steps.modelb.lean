set_option maxRecDepth 100000 in
set_option maxHeartbeats 4000000 in
theorem s_TapedLinesModel_find_0 {l : Launch} {Γ : qG} {d r : Nat} {M : qM} {L : Nat → Int64} {P : Int32 → qM → Prop} (a : Int32) (h : V l Γ T_TapedLinesModel_find d r 4 [.ref 27, .int a, .int (iI 0), .int (iI (-1))] [] (M, L) (q_i L P)) : V l Γ T_TapedLinesModel_find d r 0 [.ref 27, .int a, .null, .null] [] (M, L) (q_i L P) := by
  refine V.run 4 (pc' := 4) (ls' := [.ref 27, .int a, .int (iI 0), .int (iI (-1))]) (st' := []) (S' := (M, L)) rfl ?_
  exact h
set_option maxRecDepth 100000 in
set_option maxHeartbeats 4000000 in
theorem s_TapedLinesModel_find_4 {l : Launch} {Γ : qG} {d r : Nat} {M : qM} {L : Nat → Int64} {P : Int32 → qM → Prop} (v1 v2 v3 : Int32) (h : ((M 27 12) ≤ v2 → P v3 M) ∧ (¬ (M 27 12) ≤ v2 → vp_in v2 260 ∧ (¬ (M 30 (v2).toNatClampNeg) = v1 → vp_in (v2 + (iI 1)) 260 ∧ V l Γ T_TapedLinesModel_find d r 4 [.ref 27, .int v1, .int ((v2 + (iI 2)) + (M 30 ((v2 + (iI 1))).toNatClampNeg)), .int v3] [] (M, L) (q_i L P)) ∧ (¬ (¬ (M 30 (v2).toNatClampNeg) = v1) → vp_in (v2 + (iI 1)) 260 ∧ V l Γ T_TapedLinesModel_find d r 4 [.ref 27, .int v1, .int ((v2 + (iI 2)) + (M 30 ((v2 + (iI 1))).toNatClampNeg)), .int v2] [] (M, L) (q_i L P)))) : V l Γ T_TapedLinesModel_find d r 4 [.ref 27, .int v1, .int v2, .int v3] [] (M, L) (q_i L P) := by
  refine V.run 3 (pc' := 9) (ls' := [.ref 27, .int v1, .int v2, .int v3]) (st' := [.int (M 27 12), .int v2]) (S' := (M, L)) rfl ?_
  refine V.icmp (cd := .ge) rfl (fun hc => ?_) (fun hc => ?_)
  · have h := h.1 hc
    refine V.run 1 (pc' := 45) (ls' := [.ref 27, .int v1, .int v2, .int v3]) (st' := [.int v3]) (S' := (M, L)) rfl ?_
    exact V.iret rfl rfl ⟨_, _, rfl, rfl, h⟩
  · have h := h.2 hc
    refine V.run 3 (pc' := 17) (ls' := [.ref 27, .int v1, .int v2, .int v3]) (st' := [.int v2, .ref 30]) (S' := (M, L)) rfl ?_
    refine V.iald rfl rfl h.1 ?_
    have h := h.2
    refine V.run 1 (pc' := 19) (ls' := [.ref 27, .int v1, .int v2, .int v3]) (st' := [.int v1, .int (M 30 (v2).toNatClampNeg)]) (S' := (M, L)) rfl ?_
    refine V.icmp (cd := .ne) rfl (fun hc => ?_) (fun hc => ?_)
    · have h := h.1 hc
      refine V.run 10 (pc' := 38) (ls' := [.ref 27, .int v1, .int v2, .int v3]) (st' := [.int (v2 + (iI 1)), .ref 30, .int (v2 + (iI 2))]) (S' := (M, L)) rfl ?_
      refine V.iald rfl rfl h.1 ?_
      have h := h.2
      refine V.run 3 (pc' := 4) (ls' := [.ref 27, .int v1, .int ((v2 + (iI 2)) + (M 30 ((v2 + (iI 1))).toNatClampNeg)), .int v3]) (st' := []) (S' := (M, L)) rfl ?_
      exact h
    · have h := h.2 hc
      refine V.run 11 (pc' := 38) (ls' := [.ref 27, .int v1, .int v2, .int v2]) (st' := [.int (v2 + (iI 1)), .ref 30, .int (v2 + (iI 2))]) (S' := (M, L)) rfl ?_
      refine V.iald rfl rfl h.1 ?_
      have h := h.2
      refine V.run 3 (pc' := 4) (ls' := [.ref 27, .int v1, .int ((v2 + (iI 2)) + (M 30 ((v2 + (iI 1))).toNatClampNeg)), .int v2]) (st' := []) (S' := (M, L)) rfl ?_
      exact h
set_option maxRecDepth 100000 in
set_option maxHeartbeats 4000000 in
theorem s_TapedLinesModel_insert_0 {l : Launch} {Γ : qG} {d r : Nat} {M : qM} {L : Nat → Int64} {P : qM → Prop} (a : Int32) (h : V l Γ T_TapedLinesModel_insert d r 14 [.ref 27, .int a, .int ((iI 2) + (M 27 10)), .int ((M 27 12) - (iI 1))] [] (M, L) (q_n L P)) : V l Γ T_TapedLinesModel_insert d r 0 [.ref 27, .int a, .null, .null] [] (M, L) (q_n L P) := by
  refine V.run 10 (pc' := 14) (ls' := [.ref 27, .int a, .int ((iI 2) + (M 27 10)), .int ((M 27 12) - (iI 1))]) (st' := []) (S' := (M, L)) rfl ?_
  exact h
set_option maxRecDepth 100000 in
set_option maxHeartbeats 4000000 in
theorem s_TapedLinesModel_insert_14 {l : Launch} {Γ : qG} {d r : Nat} {M : qM} {L : Nat → Int64} {P : qM → Prop} (v1 v2 v3 : Int32) (h : (v3 < v1 → vp_in v1 260 ∧ vp_in (v1 + (iI 1)) 260 ∧ V l Γ T_TapedLinesModel_insert d r 63 [.ref 27, .int v1, .int v2, .int (iI 0)] [] ((q_up (q_up M 30 (v1).toNatClampNeg (M 27 7)) 30 ((v1 + (iI 1))).toNatClampNeg (M 27 10)), L) (q_n L P)) ∧ (¬ v3 < v1 → vp_in v3 260 ∧ vp_in (v3 + v2) 260 ∧ V l Γ T_TapedLinesModel_insert d r 14 [.ref 27, .int v1, .int v2, .int (v3 + (iI (-1)))] [] ((q_up M 30 ((v3 + v2)).toNatClampNeg (M 30 (v3).toNatClampNeg)), L) (q_n L P))) : V l Γ T_TapedLinesModel_insert d r 14 [.ref 27, .int v1, .int v2, .int v3] [] (M, L) (q_n L P) := by
  refine V.run 2 (pc' := 16) (ls' := [.ref 27, .int v1, .int v2, .int v3]) (st' := [.int v1, .int v3]) (S' := (M, L)) rfl ?_
  refine V.icmp (cd := .lt) rfl (fun hc => ?_) (fun hc => ?_)
  · have h := h.1 hc
    refine V.run 5 (pc' := 48) (ls' := [.ref 27, .int v1, .int v2, .int v3]) (st' := [.int (M 27 7), .int v1, .ref 30]) (S' := (M, L)) rfl ?_
    refine V.iast rfl rfl h.1 ?_
    have h := h.2
    refine V.run 7 (pc' := 60) (ls' := [.ref 27, .int v1, .int v2, .int v3]) (st' := [.int (M 27 10), .int (v1 + (iI 1)), .ref 30]) (S' := ((q_up M 30 (v1).toNatClampNeg (M 27 7)), L)) rfl ?_
    refine V.iast rfl rfl h.1 ?_
    have h := h.2
    refine V.run 2 (pc' := 63) (ls' := [.ref 27, .int v1, .int v2, .int (iI 0)]) (st' := []) (S' := ((q_up (q_up M 30 (v1).toNatClampNeg (M 27 7)) 30 ((v1 + (iI 1))).toNatClampNeg (M 27 10)), L)) rfl ?_
    exact h
  · have h := h.2 hc
    refine V.run 8 (pc' := 31) (ls' := [.ref 27, .int v1, .int v2, .int v3]) (st' := [.int v3, .ref 30, .int (v3 + v2), .ref 30]) (S' := (M, L)) rfl ?_
    refine V.iald rfl rfl h.1 ?_
    have h := h.2
    refine V.iast rfl rfl h.1 ?_
    have h := h.2
    refine V.run 2 (pc' := 14) (ls' := [.ref 27, .int v1, .int v2, .int (v3 + (iI (-1)))]) (st' := []) (S' := ((q_up M 30 ((v3 + v2)).toNatClampNeg (M 30 (v3).toNatClampNeg)), L)) rfl ?_
    exact h
set_option maxRecDepth 100000 in
set_option maxHeartbeats 4000000 in
theorem s_TapedLinesModel_insert_63 {l : Launch} {Γ : qG} {d r : Nat} {M : qM} {L : Nat → Int64} {P : qM → Prop} (v1 v2 v3 : Int32) (h : ((M 27 10) ≤ v3 → P (q_up M 27 12 ((M 27 12) + v2))) ∧ (¬ (M 27 10) ≤ v3 → vp_in v3 260 ∧ vp_in ((v1 + (iI 2)) + v3) 260 ∧ V l Γ T_TapedLinesModel_insert d r 63 [.ref 27, .int v1, .int v2, .int (v3 + (iI 1))] [] ((q_up M 30 (((v1 + (iI 2)) + v3)).toNatClampNeg (M 29 (v3).toNatClampNeg)), L) (q_n L P))) : V l Γ T_TapedLinesModel_insert d r 63 [.ref 27, .int v1, .int v2, .int v3] [] (M, L) (q_n L P) := by
  refine V.run 3 (pc' := 68) (ls' := [.ref 27, .int v1, .int v2, .int v3]) (st' := [.int (M 27 10), .int v3]) (S' := (M, L)) rfl ?_
  refine V.icmp (cd := .ge) rfl (fun hc => ?_) (fun hc => ?_)
  · have h := h.1 hc
    refine V.run 6 (pc' := 103) (ls' := [.ref 27, .int v1, .int v2, .int v3]) (st' := []) (S' := ((q_up M 27 12 ((M 27 12) + v2)), L)) rfl ?_
    exact V.vret rfl rfl ⟨_, rfl, rfl, h⟩
  · have h := h.2 hc
    refine V.run 10 (pc' := 85) (ls' := [.ref 27, .int v1, .int v2, .int v3]) (st' := [.int v3, .ref 29, .int ((v1 + (iI 2)) + v3), .ref 30]) (S' := (M, L)) rfl ?_
    refine V.iald rfl rfl h.1 ?_
    have h := h.2
    refine V.iast rfl rfl h.1 ?_
    have h := h.2
    refine V.run 2 (pc' := 63) (ls' := [.ref 27, .int v1, .int v2, .int (v3 + (iI 1))]) (st' := []) (S' := ((q_up M 30 (((v1 + (iI 2)) + v3)).toNatClampNeg (M 29 (v3).toNatClampNeg)), L)) rfl ?_
    exact h
set_option maxRecDepth 100000 in
set_option maxHeartbeats 4000000 in
theorem s_TapedLinesModel_remove_0 {l : Launch} {Γ : qG} {d r : Nat} {M : qM} {L : Nat → Int64} {P : qM → Prop} (a : Int32) (h : vp_in (a + (iI 1)) 260 ∧ V l Γ T_TapedLinesModel_remove d r 15 [.ref 27, .null, .int ((iI 2) + (M 30 ((a + (iI 1))).toNatClampNeg)), .int (a + ((iI 2) + (M 30 ((a + (iI 1))).toNatClampNeg)))] [] (M, L) (q_n L P)) : V l Γ T_TapedLinesModel_remove d r 0 [.ref 27, .int a, .null, .null] [] (M, L) (q_n L P) := by
  refine V.run 6 (pc' := 8) (ls' := [.ref 27, .int a, .null, .null]) (st' := [.int (a + (iI 1)), .ref 30, .int (iI 2)]) (S' := (M, L)) rfl ?_
  refine V.iald rfl rfl h.1 ?_
  have h := h.2
  refine V.run 6 (pc' := 15) (ls' := [.ref 27, .int a, .int ((iI 2) + (M 30 ((a + (iI 1))).toNatClampNeg)), .int (a + ((iI 2) + (M 30 ((a + (iI 1))).toNatClampNeg)))]) (st' := []) (S' := (M, L)) rfl ?_
  refine V.forget (ls' := [.ref 27, .null, .int ((iI 2) + (M 30 ((a + (iI 1))).toNatClampNeg)), .int (a + ((iI 2) + (M 30 ((a + (iI 1))).toNatClampNeg)))]) ⟨Or.inr rfl, Or.inl rfl, Or.inr rfl, Or.inr rfl, trivial⟩ ?_
  exact h
set_option maxRecDepth 100000 in
set_option maxHeartbeats 4000000 in
theorem s_TapedLinesModel_remove_15 {l : Launch} {Γ : qG} {d r : Nat} {M : qM} {L : Nat → Int64} {P : qM → Prop} (v2 v3 : Int32) (h : ((M 27 12) ≤ v3 → P (q_up M 27 12 ((M 27 12) - v2))) ∧ (¬ (M 27 12) ≤ v3 → vp_in v3 260 ∧ vp_in (v3 - v2) 260 ∧ V l Γ T_TapedLinesModel_remove d r 15 [.ref 27, .null, .int v2, .int (v3 + (iI 1))] [] ((q_up M 30 ((v3 - v2)).toNatClampNeg (M 30 (v3).toNatClampNeg)), L) (q_n L P))) : V l Γ T_TapedLinesModel_remove d r 15 [.ref 27, .null, .int v2, .int v3] [] (M, L) (q_n L P) := by
  refine V.run 3 (pc' := 20) (ls' := [.ref 27, .null, .int v2, .int v3]) (st' := [.int (M 27 12), .int v3]) (S' := (M, L)) rfl ?_
  refine V.icmp (cd := .ge) rfl (fun hc => ?_) (fun hc => ?_)
  · have h := h.1 hc
    refine V.run 6 (pc' := 53) (ls' := [.ref 27, .null, .int v2, .int v3]) (st' := []) (S' := ((q_up M 27 12 ((M 27 12) - v2)), L)) rfl ?_
    exact V.vret rfl rfl ⟨_, rfl, rfl, h⟩
  · have h := h.2 hc
    refine V.run 8 (pc' := 35) (ls' := [.ref 27, .null, .int v2, .int v3]) (st' := [.int v3, .ref 30, .int (v3 - v2), .ref 30]) (S' := (M, L)) rfl ?_
    refine V.iald rfl rfl h.1 ?_
    have h := h.2
    refine V.iast rfl rfl h.1 ?_
    have h := h.2
    refine V.run 2 (pc' := 15) (ls' := [.ref 27, .null, .int v2, .int (v3 + (iI 1))]) (st' := []) (S' := ((q_up M 30 ((v3 - v2)).toNatClampNeg (M 30 (v3).toNatClampNeg)), L)) rfl ?_
    exact h
set_option maxRecDepth 100000 in
set_option maxHeartbeats 4000000 in
theorem s_TapedLinesModel_enter_0 {l : Launch} {Γ : qG} {d r : Nat} {M : qM} {L : Nat → Int64} {P : Int32 → qM → Prop} (h : ∃ P1 : qM → Prop, V l Γ T_TapedLinesModel_begin d 0 0 [.ref 27, .int (iI 0)] [] ((q_up (q_up M 27 0 (iI 0)) 27 1 (iI 0)), L) (q_n L P1) ∧ ∀ (M1 : qM), P1 M1 → V l Γ T_TapedLinesModel_enter (d + 1) r 22 [.ref 27, .int (M 27 1), .int (iI 0), .null, .null] [] (M1, L) (q_i L P)) : V l Γ T_TapedLinesModel_enter (d + 1) r 0 [.ref 27, .null, .null, .null, .null] [] (M, L) (q_i L P) := by
  refine V.run 11 (pc' := 17) (ls' := [.ref 27, .int (M 27 1), .null, .null, .null]) (st' := [.int (iI 0), .ref 27]) (S' := ((q_up (q_up M 27 0 (iI 0)) 27 1 (iI 0)), L)) rfl ?_
  obtain ⟨P1, hv1, h⟩ := h
  refine V.callVv (T2 := T_TapedLinesModel_begin) (As := [.int (iI 0)]) (rest := []) rfl rfl g_TapedLinesModel_begin rfl rfl rfl rfl (Nat.le_of_ble_eq_true rfl) (by simp [Value.category]) (by simp [Value.category]) (Nat.le_of_ble_eq_true rfl) (Nat.le_refl _) hv1 (fun M1 hq => ?_)
  have h := h M1 hq
  refine V.run 2 (pc' := 22) (ls' := [.ref 27, .int (M 27 1), .int (iI 0), .null, .null]) (st' := []) (S' := (M1, L)) rfl ?_
  exact h
set_option maxRecDepth 100000 in
set_option maxHeartbeats 4000000 in
theorem s_TapedLinesModel_enter_22 {l : Launch} {Γ : qG} {d r : Nat} {M : qM} {L : Nat → Int64} {P : Int32 → qM → Prop} (v1 v2 : Int32) (h : (v1 ≤ v2 → ∃ P1 : Int32 → qM → Prop, V l Γ T_TapedLinesModel_isWhole d 0 0 [.ref 27, .null] [] (M, L) (q_i L P1) ∧ ∀ (x1 : Int32) (M1 : qM), P1 x1 M1 → (¬ x1 = 0 → ∃ P2 : Int32 → qM → Prop, V l Γ T_TapedLinesModel_find d 0 0 [.ref 27, .int (M1 27 7), .null, .null] [] (M1, L) (q_i L P2) ∧ ∀ (x2 : Int32) (M2 : qM), P2 x2 M2 → (0 ≤ x2 → vp_in (x2 + (iI 1)) 260 ∧ V l Γ T_TapedLinesModel_enter (d + 1) r 88 [.ref 27, .null, .int x2, .null, .null] [.int ((iI 2) + (M2 30 ((x2 + (iI 1))).toNatClampNeg))] (M2, L) (q_i L P)) ∧ (¬ 0 ≤ x2 → V l Γ T_TapedLinesModel_enter (d + 1) r 88 [.ref 27, .null, .int x2, .null, .null] [.int (iI 0)] (M2, L) (q_i L P))) ∧ (¬ (¬ x1 = 0) → P ((iI (-1)) - v1) M1)) ∧ (¬ v1 ≤ v2 → vp_in v2 60 ∧ ∃ P3 : Int32 → qM → Prop, V l Γ T_TapedLinesModel_take d 0 0 [.ref 27, .int (M 28 (v2).toNatClampNeg)] [] (M, L) (q_i L P3) ∧ ∀ (x3 : Int32) (M3 : qM), P3 x3 M3 → (¬ x3 = 0 → V l Γ T_TapedLinesModel_enter (d + 1) r 22 [.ref 27, .int v1, .int (v2 + (iI 1)), .null, .null] [] (M3, L) (q_i L P)) ∧ (¬ (¬ x3 = 0) → P ((iI (-1)) - v2) M3))) : V l Γ T_TapedLinesModel_enter (d + 1) r 22 [.ref 27, .int v1, .int v2, .null, .null] [] (M, L) (q_i L P) := by
  refine V.run 2 (pc' := 24) (ls' := [.ref 27, .int v1, .int v2, .null, .null]) (st' := [.int v1, .int v2]) (S' := (M, L)) rfl ?_
  refine V.icmp (cd := .ge) rfl (fun hc => ?_) (fun hc => ?_)
  · have h := h.1 hc
    refine V.run 1 (pc' := 51) (ls' := [.ref 27, .int v1, .int v2, .null, .null]) (st' := [.ref 27]) (S' := (M, L)) rfl ?_
    obtain ⟨P1, hv1, h⟩ := h
    refine V.callVi (T2 := T_TapedLinesModel_isWhole) (As := []) (rest := []) rfl rfl g_TapedLinesModel_isWhole rfl rfl rfl rfl (Nat.le_of_ble_eq_true rfl) (by simp [Value.category]) (by simp [Value.category]) (Nat.le_of_ble_eq_true rfl) (Nat.le_refl _) hv1 (fun x1 M1 hq => ?_)
    have h := h x1 M1 hq
    refine V.ifc (cd := .ne) rfl (fun hc => ?_) (fun hc => ?_)
    · have h := h.1 hc
      refine V.run 3 (pc' := 66) (ls' := [.ref 27, .int v1, .int v2, .null, .null]) (st' := [.int (M1 27 7), .ref 27]) (S' := (M1, L)) rfl ?_
      obtain ⟨P2, hv2, h⟩ := h
      refine V.callVi (T2 := T_TapedLinesModel_find) (As := [.int (M1 27 7)]) (rest := []) rfl rfl g_TapedLinesModel_find rfl rfl rfl rfl (Nat.le_of_ble_eq_true rfl) (by simp [Value.category]) (by simp [Value.category]) (Nat.le_of_ble_eq_true rfl) (Nat.le_refl _) hv2 (fun x2 M2 hq => ?_)
      have h := h x2 M2 hq
      refine V.run 2 (pc' := 71) (ls' := [.ref 27, .int v1, .int x2, .null, .null]) (st' := [.int x2]) (S' := (M2, L)) rfl ?_
      refine V.ifc (cd := .ge) rfl (fun hc => ?_) (fun hc => ?_)
      · have h := h.1 hc
        refine V.run 6 (pc' := 86) (ls' := [.ref 27, .int v1, .int x2, .null, .null]) (st' := [.int (x2 + (iI 1)), .ref 30, .int (iI 2)]) (S' := (M2, L)) rfl ?_
        refine V.iald rfl rfl h.1 ?_
        have h := h.2
        refine V.run 1 (pc' := 88) (ls' := [.ref 27, .int v1, .int x2, .null, .null]) (st' := [.int ((iI 2) + (M2 30 ((x2 + (iI 1))).toNatClampNeg))]) (S' := (M2, L)) rfl ?_
        refine V.forget (ls' := [.ref 27, .null, .int x2, .null, .null]) ⟨Or.inr rfl, Or.inl rfl, Or.inr rfl, Or.inl rfl, Or.inl rfl, trivial⟩ ?_
        exact h
      · have h := h.2 hc
        refine V.run 2 (pc' := 88) (ls' := [.ref 27, .int v1, .int x2, .null, .null]) (st' := [.int (iI 0)]) (S' := (M2, L)) rfl ?_
        refine V.forget (ls' := [.ref 27, .null, .int x2, .null, .null]) ⟨Or.inr rfl, Or.inl rfl, Or.inr rfl, Or.inl rfl, Or.inl rfl, trivial⟩ ?_
        exact h
    · have h := h.2 hc
      refine V.run 3 (pc' := 60) (ls' := [.ref 27, .int v1, .int v2, .null, .null]) (st' := [.int ((iI (-1)) - v1)]) (S' := (M1, L)) rfl ?_
      exact V.iret rfl rfl ⟨_, _, rfl, rfl, h⟩
  · have h := h.2 hc
    refine V.run 4 (pc' := 33) (ls' := [.ref 27, .int v1, .int v2, .null, .null]) (st' := [.int v2, .ref 28, .ref 27]) (S' := (M, L)) rfl ?_
    refine V.iald rfl rfl h.1 ?_
    have h := h.2
    obtain ⟨P3, hv3, h⟩ := h
    refine V.callVi (T2 := T_TapedLinesModel_take) (As := [.int (M 28 (v2).toNatClampNeg)]) (rest := []) rfl rfl g_TapedLinesModel_take rfl rfl rfl rfl (Nat.le_of_ble_eq_true rfl) (by simp [Value.category]) (by simp [Value.category]) (Nat.le_of_ble_eq_true rfl) (Nat.le_refl _) hv3 (fun x3 M3 hq => ?_)
    have h := h x3 M3 hq
    refine V.ifc (cd := .ne) rfl (fun hc => ?_) (fun hc => ?_)
    · have h := h.1 hc
      refine V.run 2 (pc' := 22) (ls' := [.ref 27, .int v1, .int (v2 + (iI 1)), .null, .null]) (st' := []) (S' := (M3, L)) rfl ?_
      exact h
    · have h := h.2 hc
      refine V.run 3 (pc' := 43) (ls' := [.ref 27, .int v1, .int v2, .null, .null]) (st' := [.int ((iI (-1)) - v2)]) (S' := (M3, L)) rfl ?_
      exact V.iret rfl rfl ⟨_, _, rfl, rfl, h⟩
set_option maxRecDepth 100000 in
set_option maxHeartbeats 4000000 in
theorem s_TapedLinesModel_enter_88 {l : Launch} {Γ : qG} {d r : Nat} {M : qM} {L : Nat → Int64} {P : Int32 → qM → Prop} (v2 w0 : Int32) (h : ((M 27 10) ≤ 0 → V l Γ T_TapedLinesModel_enter (d + 1) r 118 [.ref 27, .null, .int v2, .null, .null] [] (M, L) (q_i L P)) ∧ (¬ (M 27 10) ≤ 0 → (((((M 27 12) - w0) + (iI 2)) + (M 27 10)) ≤ (iI 200) → V l Γ T_TapedLinesModel_enter (d + 1) r 118 [.ref 27, .null, .int v2, .null, .null] [] (M, L) (q_i L P)) ∧ (¬ ((((M 27 12) - w0) + (iI 2)) + (M 27 10)) ≤ (iI 200) → P (iI (-100)) M))) : V l Γ T_TapedLinesModel_enter (d + 1) r 88 [.ref 27, .null, .int v2, .null, .null] [.int w0] (M, L) (q_i L P) := by
  refine V.run 3 (pc' := 93) (ls' := [.ref 27, .null, .int v2, .int w0, .null]) (st' := [.int (M 27 10)]) (S' := (M, L)) rfl ?_
  refine V.ifc (cd := .le) rfl (fun hc => ?_) (fun hc => ?_)
  · have h := h.1 hc
    refine V.forget (ls' := [.ref 27, .null, .int v2, .null, .null]) ⟨Or.inr rfl, Or.inl rfl, Or.inr rfl, Or.inl rfl, Or.inl rfl, trivial⟩ ?_
    exact h
  · have h := h.2 hc
    refine V.run 10 (pc' := 112) (ls' := [.ref 27, .null, .int v2, .int w0, .null]) (st' := [.int (iI 200), .int ((((M 27 12) - w0) + (iI 2)) + (M 27 10))]) (S' := (M, L)) rfl ?_
    refine V.icmp (cd := .le) rfl (fun hc => ?_) (fun hc => ?_)
    · have h := h.1 hc
      refine V.forget (ls' := [.ref 27, .null, .int v2, .null, .null]) ⟨Or.inr rfl, Or.inl rfl, Or.inr rfl, Or.inl rfl, Or.inl rfl, trivial⟩ ?_
      exact h
    · have h := h.2 hc
      refine V.run 1 (pc' := 117) (ls' := [.ref 27, .null, .int v2, .int w0, .null]) (st' := [.int (iI (-100))]) (S' := (M, L)) rfl ?_
      exact V.iret rfl rfl ⟨_, _, rfl, rfl, h⟩
set_option maxRecDepth 100000 in
set_option maxHeartbeats 4000000 in
theorem s_TapedLinesModel_enter_118 {l : Launch} {Γ : qG} {d r : Nat} {M : qM} {L : Nat → Int64} {P : Int32 → qM → Prop} (v2 : Int32) (h : (v2 < 0 → V l Γ T_TapedLinesModel_enter (d + 1) r 130 [.ref 27, .null, .null, .null, .int (iI 0)] [] (M, L) (q_i L P)) ∧ (¬ v2 < 0 → ∃ P1 : qM → Prop, V l Γ T_TapedLinesModel_remove d 0 0 [.ref 27, .int v2, .null, .null] [] (M, L) (q_n L P1) ∧ ∀ (M1 : qM), P1 M1 → V l Γ T_TapedLinesModel_enter (d + 1) r 130 [.ref 27, .null, .null, .null, .int (iI 0)] [] (M1, L) (q_i L P))) : V l Γ T_TapedLinesModel_enter (d + 1) r 118 [.ref 27, .null, .int v2, .null, .null] [] (M, L) (q_i L P) := by
  refine V.run 1 (pc' := 119) (ls' := [.ref 27, .null, .int v2, .null, .null]) (st' := [.int v2]) (S' := (M, L)) rfl ?_
  refine V.ifc (cd := .lt) rfl (fun hc => ?_) (fun hc => ?_)
  · have h := h.1 hc
    refine V.run 2 (pc' := 130) (ls' := [.ref 27, .null, .int v2, .null, .int (iI 0)]) (st' := []) (S' := (M, L)) rfl ?_
    refine V.forget (ls' := [.ref 27, .null, .null, .null, .int (iI 0)]) ⟨Or.inr rfl, Or.inl rfl, Or.inl rfl, Or.inl rfl, Or.inr rfl, trivial⟩ ?_
    exact h
  · have h := h.2 hc
    refine V.run 2 (pc' := 124) (ls' := [.ref 27, .null, .int v2, .null, .null]) (st' := [.int v2, .ref 27]) (S' := (M, L)) rfl ?_
    obtain ⟨P1, hv1, h⟩ := h
    refine V.callVv (T2 := T_TapedLinesModel_remove) (As := [.int v2]) (rest := []) rfl rfl g_TapedLinesModel_remove rfl rfl rfl rfl (Nat.le_of_ble_eq_true rfl) (by simp [Value.category]) (by simp [Value.category]) (Nat.le_of_ble_eq_true rfl) (Nat.le_refl _) hv1 (fun M1 hq => ?_)
    have h := h M1 hq
    refine V.run 2 (pc' := 130) (ls' := [.ref 27, .null, .int v2, .null, .int (iI 0)]) (st' := []) (S' := (M1, L)) rfl ?_
    refine V.forget (ls' := [.ref 27, .null, .null, .null, .int (iI 0)]) ⟨Or.inr rfl, Or.inl rfl, Or.inl rfl, Or.inl rfl, Or.inr rfl, trivial⟩ ?_
    exact h
set_option maxRecDepth 100000 in
set_option maxHeartbeats 4000000 in
theorem s_TapedLinesModel_enter_130 {l : Launch} {Γ : qG} {d r : Nat} {M : qM} {L : Nat → Int64} {P : Int32 → qM → Prop} (v4 : Int32) (h : ((M 27 12) ≤ v4 → V l Γ T_TapedLinesModel_enter (d + 1) r 172 [.ref 27, .null, .null, .null, .int v4] [] (M, L) (q_i L P)) ∧ (¬ (M 27 12) ≤ v4 → vp_in v4 260 ∧ ((M 27 7) ≤ (M 30 (v4).toNatClampNeg) → V l Γ T_TapedLinesModel_enter (d + 1) r 172 [.ref 27, .null, .null, .null, .int v4] [] (M, L) (q_i L P)) ∧ (¬ (M 27 7) ≤ (M 30 (v4).toNatClampNeg) → vp_in (v4 + (iI 1)) 260 ∧ V l Γ T_TapedLinesModel_enter (d + 1) r 130 [.ref 27, .null, .null, .null, .int ((v4 + (iI 2)) + (M 30 ((v4 + (iI 1))).toNatClampNeg))] [] (M, L) (q_i L P)))) : V l Γ T_TapedLinesModel_enter (d + 1) r 130 [.ref 27, .null, .null, .null, .int v4] [] (M, L) (q_i L P) := by
  refine V.run 3 (pc' := 136) (ls' := [.ref 27, .null, .null, .null, .int v4]) (st' := [.int (M 27 12), .int v4]) (S' := (M, L)) rfl ?_
  refine V.icmp (cd := .ge) rfl (fun hc => ?_) (fun hc => ?_)
  · have h := h.1 hc
    exact h
  · have h := h.2 hc
    refine V.run 3 (pc' := 145) (ls' := [.ref 27, .null, .null, .null, .int v4]) (st' := [.int v4, .ref 30]) (S' := (M, L)) rfl ?_
    refine V.iald rfl rfl h.1 ?_
    have h := h.2
    refine V.run 2 (pc' := 150) (ls' := [.ref 27, .null, .null, .null, .int v4]) (st' := [.int (M 27 7), .int (M 30 (v4).toNatClampNeg)]) (S' := (M, L)) rfl ?_
    refine V.icmp (cd := .ge) rfl (fun hc => ?_) (fun hc => ?_)
    · have h := h.1 hc
      exact h
    · have h := h.2 hc
      refine V.run 8 (pc' := 165) (ls' := [.ref 27, .null, .null, .null, .int v4]) (st' := [.int (v4 + (iI 1)), .ref 30, .int (v4 + (iI 2))]) (S' := (M, L)) rfl ?_
      refine V.iald rfl rfl h.1 ?_
      have h := h.2
      refine V.run 3 (pc' := 130) (ls' := [.ref 27, .null, .null, .null, .int ((v4 + (iI 2)) + (M 30 ((v4 + (iI 1))).toNatClampNeg))]) (st' := []) (S' := (M, L)) rfl ?_
      exact h
set_option maxRecDepth 100000 in
set_option maxHeartbeats 4000000 in
theorem s_TapedLinesModel_enter_172 {l : Launch} {Γ : qG} {d r : Nat} {M : qM} {L : Nat → Int64} {P : Int32 → qM → Prop} (v4 : Int32) (h : ((M 27 10) ≤ 0 → P (M 27 12) (q_up M 27 14 (iI 0))) ∧ (¬ (M 27 10) ≤ 0 → ∃ P1 : qM → Prop, V l Γ T_TapedLinesModel_insert d 0 0 [.ref 27, .int v4, .null, .null] [] (M, L) (q_n L P1) ∧ ∀ (M1 : qM), P1 M1 → P (M1 27 12) (q_up M1 27 14 (iI 0)))) : V l Γ T_TapedLinesModel_enter (d + 1) r 172 [.ref 27, .null, .null, .null, .int v4] [] (M, L) (q_i L P) := by
  refine V.run 2 (pc' := 176) (ls' := [.ref 27, .null, .null, .null, .int v4]) (st' := [.int (M 27 10)]) (S' := (M, L)) rfl ?_
  refine V.ifc (cd := .le) rfl (fun hc => ?_) (fun hc => ?_)
  · have h := h.1 hc
    refine V.run 5 (pc' := 194) (ls' := [.ref 27, .null, .null, .null, .int v4]) (st' := [.int (M 27 12)]) (S' := ((q_up M 27 14 (iI 0)), L)) rfl ?_
    exact V.iret rfl rfl ⟨_, _, rfl, rfl, h⟩
  · have h := h.2 hc
    refine V.run 2 (pc' := 182) (ls' := [.ref 27, .null, .null, .null, .int v4]) (st' := [.int v4, .ref 27]) (S' := (M, L)) rfl ?_
    obtain ⟨P1, hv1, h⟩ := h
    refine V.callVv (T2 := T_TapedLinesModel_insert) (As := [.int v4]) (rest := []) rfl rfl g_TapedLinesModel_insert rfl rfl rfl rfl (Nat.le_of_ble_eq_true rfl) (by simp [Value.category]) (by simp [Value.category]) (Nat.le_of_ble_eq_true rfl) (Nat.le_refl _) hv1 (fun M1 hq => ?_)
    have h := h M1 hq
    refine V.run 5 (pc' := 194) (ls' := [.ref 27, .null, .null, .null, .int v4]) (st' := [.int (M1 27 12)]) (S' := ((q_up M1 27 14 (iI 0)), L)) rfl ?_
    exact V.iret rfl rfl ⟨_, _, rfl, rfl, h⟩
set_option maxRecDepth 100000 in
set_option maxHeartbeats 4000000 in
theorem s_TapedLinesModel_lineAt_0 {l : Launch} {Γ : qG} {d r : Nat} {M : qM} {L : Nat → Int64} {P : Int32 → qM → Prop} (a : Int32) (h : V l Γ T_TapedLinesModel_lineAt d r 4 [.ref 27, .int a, .int (iI 0), .int (iI 0)] [] (M, L) (q_i L P)) : V l Γ T_TapedLinesModel_lineAt d r 0 [.ref 27, .int a, .null, .null] [] (M, L) (q_i L P) := by
  refine V.run 4 (pc' := 4) (ls' := [.ref 27, .int a, .int (iI 0), .int (iI 0)]) (st' := []) (S' := (M, L)) rfl ?_
  exact h
set_option maxRecDepth 100000 in
set_option maxHeartbeats 4000000 in
theorem s_TapedLinesModel_lineAt_4 {l : Launch} {Γ : qG} {d r : Nat} {M : qM} {L : Nat → Int64} {P : Int32 → qM → Prop} (v1 v2 v3 : Int32) (h : (v1 ≤ v3 → P v2 M) ∧ (¬ v1 ≤ v3 → ((M 27 12) ≤ v2 → P v2 M) ∧ (¬ (M 27 12) ≤ v2 → vp_in (v2 + (iI 1)) 260 ∧ V l Γ T_TapedLinesModel_lineAt d r 4 [.ref 27, .int v1, .int ((v2 + (iI 2)) + (M 30 ((v2 + (iI 1))).toNatClampNeg)), .int (v3 + (iI 1))] [] (M, L) (q_i L P)))) : V l Γ T_TapedLinesModel_lineAt d r 4 [.ref 27, .int v1, .int v2, .int v3] [] (M, L) (q_i L P) := by
  refine V.run 2 (pc' := 6) (ls' := [.ref 27, .int v1, .int v2, .int v3]) (st' := [.int v1, .int v3]) (S' := (M, L)) rfl ?_
  refine V.icmp (cd := .ge) rfl (fun hc => ?_) (fun hc => ?_)
  · have h := h.1 hc
    refine V.run 1 (pc' := 37) (ls' := [.ref 27, .int v1, .int v2, .int v3]) (st' := [.int v2]) (S' := (M, L)) rfl ?_
    exact V.iret rfl rfl ⟨_, _, rfl, rfl, h⟩
  · have h := h.2 hc
    refine V.run 3 (pc' := 14) (ls' := [.ref 27, .int v1, .int v2, .int v3]) (st' := [.int (M 27 12), .int v2]) (S' := (M, L)) rfl ?_
    refine V.icmp (cd := .ge) rfl (fun hc => ?_) (fun hc => ?_)
    · have h := h.1 hc
      refine V.run 1 (pc' := 37) (ls' := [.ref 27, .int v1, .int v2, .int v3]) (st' := [.int v2]) (S' := (M, L)) rfl ?_
      exact V.iret rfl rfl ⟨_, _, rfl, rfl, h⟩
    · have h := h.2 hc
      refine V.run 8 (pc' := 27) (ls' := [.ref 27, .int v1, .int v2, .int v3]) (st' := [.int (v2 + (iI 1)), .ref 30, .int (v2 + (iI 2))]) (S' := (M, L)) rfl ?_
      refine V.iald rfl rfl h.1 ?_
      have h := h.2
      refine V.run 4 (pc' := 4) (ls' := [.ref 27, .int v1, .int ((v2 + (iI 2)) + (M 30 ((v2 + (iI 1))).toNatClampNeg)), .int (v3 + (iI 1))]) (st' := []) (S' := (M, L)) rfl ?_
      exact h
set_option maxRecDepth 100000 in
set_option maxHeartbeats 4000000 in
theorem s_TapedLinesModel_lines_0 {l : Launch} {Γ : qG} {d r : Nat} {M : qM} {L : Nat → Int64} {P : Int32 → qM → Prop} (h : ∃ P1 : Int32 → qM → Prop, V l Γ T_TapedLinesModel_countLines d 0 0 [.ref 27, .null, .null] [] ((q_up M 27 0 (iI 0)), L) (q_i L P1) ∧ ∀ (x1 : Int32) (M1 : qM), P1 x1 M1 → P x1 M1) : V l Γ T_TapedLinesModel_lines (d + 1) r 0 [.ref 27] [] (M, L) (q_i L P) := by
  refine V.run 4 (pc' := 6) (ls' := [.ref 27]) (st' := [.ref 27]) (S' := ((q_up M 27 0 (iI 0)), L)) rfl ?_
  obtain ⟨P1, hv1, h⟩ := h
  refine V.callVi (T2 := T_TapedLinesModel_countLines) (As := []) (rest := []) rfl rfl g_TapedLinesModel_countLines rfl rfl rfl rfl (Nat.le_of_ble_eq_true rfl) (by simp [Value.category]) (by simp [Value.category]) (Nat.le_of_ble_eq_true rfl) (Nat.le_refl _) hv1 (fun x1 M1 hq => ?_)
  have h := h x1 M1 hq
  exact V.iret rfl rfl ⟨_, _, rfl, rfl, h⟩
set_option maxRecDepth 100000 in
set_option maxHeartbeats 4000000 in
theorem s_TapedLinesModel_countLines_0 {l : Launch} {Γ : qG} {d r : Nat} {M : qM} {L : Nat → Int64} {P : Int32 → qM → Prop} (h : V l Γ T_TapedLinesModel_countLines d r 4 [.ref 27, .int (iI 0), .int (iI 0)] [] (M, L) (q_i L P)) : V l Γ T_TapedLinesModel_countLines d r 0 [.ref 27, .null, .null] [] (M, L) (q_i L P) := by
  refine V.run 4 (pc' := 4) (ls' := [.ref 27, .int (iI 0), .int (iI 0)]) (st' := []) (S' := (M, L)) rfl ?_
  exact h
set_option maxRecDepth 100000 in
set_option maxHeartbeats 4000000 in
theorem s_TapedLinesModel_countLines_4 {l : Launch} {Γ : qG} {d r : Nat} {M : qM} {L : Nat → Int64} {P : Int32 → qM → Prop} (v1 v2 : Int32) (h : ((M 27 12) ≤ v2 → P v1 M) ∧ (¬ (M 27 12) ≤ v2 → vp_in (v2 + (iI 1)) 260 ∧ V l Γ T_TapedLinesModel_countLines d r 4 [.ref 27, .int (v1 + (iI 1)), .int ((v2 + (iI 2)) + (M 30 ((v2 + (iI 1))).toNatClampNeg))] [] (M, L) (q_i L P))) : V l Γ T_TapedLinesModel_countLines d r 4 [.ref 27, .int v1, .int v2] [] (M, L) (q_i L P) := by
  refine V.run 3 (pc' := 9) (ls' := [.ref 27, .int v1, .int v2]) (st' := [.int (M 27 12), .int v2]) (S' := (M, L)) rfl ?_
  refine V.icmp (cd := .ge) rfl (fun hc => ?_) (fun hc => ?_)
  · have h := h.1 hc
    refine V.run 1 (pc' := 32) (ls' := [.ref 27, .int v1, .int v2]) (st' := [.int v1]) (S' := (M, L)) rfl ?_
    exact V.iret rfl rfl ⟨_, _, rfl, rfl, h⟩
  · have h := h.2 hc
    refine V.run 9 (pc' := 25) (ls' := [.ref 27, .int (v1 + (iI 1)), .int v2]) (st' := [.int (v2 + (iI 1)), .ref 30, .int (v2 + (iI 2))]) (S' := (M, L)) rfl ?_
    refine V.iald rfl rfl h.1 ?_
    have h := h.2
    refine V.run 3 (pc' := 4) (ls' := [.ref 27, .int (v1 + (iI 1)), .int ((v2 + (iI 2)) + (M 30 ((v2 + (iI 1))).toNatClampNeg))]) (st' := []) (S' := (M, L)) rfl ?_
    exact h
set_option maxRecDepth 100000 in
set_option maxHeartbeats 4000000 in
theorem s_TapedLinesModel_put_0 {l : Launch} {Γ : qG} {d r : Nat} {M : qM} {L : Nat → Int64} {P : qM → Prop} (a : Int32) (h : vp_in (M 27 37) 400 ∧ P (q_up (q_up M 41 ((M 27 37)).toNatClampNeg a) 27 37 ((M 27 37) + (iI 1)))) : V l Γ T_TapedLinesModel_put d r 0 [.ref 27, .int a] [] (M, L) (q_n L P) := by
  refine V.run 5 (pc' := 9) (ls' := [.ref 27, .int a]) (st' := [.int a, .int (M 27 37), .ref 41]) (S' := (M, L)) rfl ?_
  refine V.iast rfl rfl h.1 ?_
  have h := h.2
  refine V.run 6 (pc' := 20) (ls' := [.ref 27, .int a]) (st' := []) (S' := ((q_up (q_up M 41 ((M 27 37)).toNatClampNeg a) 27 37 ((M 27 37) + (iI 1))), L)) rfl ?_
  exact V.vret rfl rfl ⟨_, rfl, rfl, h⟩
set_option maxRecDepth 100000 in
set_option maxHeartbeats 4000000 in
theorem s_TapedLinesModel_putNumber_0 {l : Launch} {Γ : qG} {d r : Nat} {M : qM} {L : Nat → Int64} {P : qM → Prop} (a : Int32) (h : (a ≤ (iI 9) → ∃ P1 : qM → Prop, V l Γ T_TapedLinesModel_put d 0 0 [.ref 27, .int ((iI 48) + (a - a / (iI 10) * (iI 10)))] [] (M, L) (q_n L P1) ∧ ∀ (M1 : qM), P1 M1 → P M1) ∧ (¬ a ≤ (iI 9) → ∃ P2 : qM → Prop, V l Γ T_TapedLinesModel_put d 0 0 [.ref 27, .int ((iI 48) + (a / (iI 10)))] [] (M, L) (q_n L P2) ∧ ∀ (M2 : qM), P2 M2 → ∃ P3 : qM → Prop, V l Γ T_TapedLinesModel_put d 0 0 [.ref 27, .int ((iI 48) + (a - a / (iI 10) * (iI 10)))] [] (M2, L) (q_n L P3) ∧ ∀ (M3 : qM), P3 M3 → P M3)) : V l Γ T_TapedLinesModel_putNumber (d + 1) r 0 [.ref 27, .int a] [] (M, L) (q_n L P) := by
  refine V.run 2 (pc' := 3) (ls' := [.ref 27, .int a]) (st' := [.int (iI 9), .int a]) (S' := (M, L)) rfl ?_
  refine V.icmp (cd := .le) rfl (fun hc => ?_) (fun hc => ?_)
  · have h := h.1 hc
    refine V.run 4 (pc' := 23) (ls' := [.ref 27, .int a]) (st' := [.int (iI 10), .int a, .int (iI 48), .ref 27]) (S' := (M, L)) rfl ?_
    refine V.irem rfl (by decide) ?_
    refine V.run 1 (pc' := 25) (ls' := [.ref 27, .int a]) (st' := [.int ((iI 48) + (a - a / (iI 10) * (iI 10))), .ref 27]) (S' := (M, L)) rfl ?_
    obtain ⟨P1, hv1, h⟩ := h
    refine V.callVv (T2 := T_TapedLinesModel_put) (As := [.int ((iI 48) + (a - a / (iI 10) * (iI 10)))]) (rest := []) rfl rfl g_TapedLinesModel_put rfl rfl rfl rfl (Nat.le_of_ble_eq_true rfl) (by simp [Value.category]) (by simp [Value.category]) (Nat.le_of_ble_eq_true rfl) (Nat.le_refl _) hv1 (fun M1 hq => ?_)
    have h := h M1 hq
    exact V.vret rfl rfl ⟨_, rfl, rfl, h⟩
  · have h := h.2 hc
    refine V.run 4 (pc' := 12) (ls' := [.ref 27, .int a]) (st' := [.int (iI 10), .int a, .int (iI 48), .ref 27]) (S' := (M, L)) rfl ?_
    refine V.idiv rfl (by decide) ?_
    refine V.run 1 (pc' := 14) (ls' := [.ref 27, .int a]) (st' := [.int ((iI 48) + (a / (iI 10))), .ref 27]) (S' := (M, L)) rfl ?_
    obtain ⟨P2, hv2, h⟩ := h
    refine V.callVv (T2 := T_TapedLinesModel_put) (As := [.int ((iI 48) + (a / (iI 10)))]) (rest := []) rfl rfl g_TapedLinesModel_put rfl rfl rfl rfl (Nat.le_of_ble_eq_true rfl) (by simp [Value.category]) (by simp [Value.category]) (Nat.le_of_ble_eq_true rfl) (Nat.le_refl _) hv2 (fun M2 hq => ?_)
    have h := h M2 hq
    refine V.run 4 (pc' := 23) (ls' := [.ref 27, .int a]) (st' := [.int (iI 10), .int a, .int (iI 48), .ref 27]) (S' := (M2, L)) rfl ?_
    refine V.irem rfl (by decide) ?_
    refine V.run 1 (pc' := 25) (ls' := [.ref 27, .int a]) (st' := [.int ((iI 48) + (a - a / (iI 10) * (iI 10))), .ref 27]) (S' := (M2, L)) rfl ?_
    obtain ⟨P3, hv3, h⟩ := h
    refine V.callVv (T2 := T_TapedLinesModel_put) (As := [.int ((iI 48) + (a - a / (iI 10) * (iI 10)))]) (rest := []) rfl rfl g_TapedLinesModel_put rfl rfl rfl rfl (Nat.le_of_ble_eq_true rfl) (by simp [Value.category]) (by simp [Value.category]) (Nat.le_of_ble_eq_true rfl) (Nat.le_refl _) hv3 (fun M3 hq => ?_)
    have h := h M3 hq
    exact V.vret rfl rfl ⟨_, rfl, rfl, h⟩
set_option maxRecDepth 100000 in
set_option maxHeartbeats 4000000 in
theorem s_TapedLinesModel_putWord_0 {l : Launch} {Γ : qG} {d r : Nat} {M : qM} {L : Nat → Int64} {P : qM → Prop} (a : Int32) (h : V l Γ T_TapedLinesModel_putWord (d + 1) r 2 [.ref 27, .int a, .int (iI 0)] [] (M, L) (q_n L P)) : V l Γ T_TapedLinesModel_putWord (d + 1) r 0 [.ref 27, .int a, .null] [] (M, L) (q_n L P) := by
  refine V.run 2 (pc' := 2) (ls' := [.ref 27, .int a, .int (iI 0)]) (st' := []) (S' := (M, L)) rfl ?_
  exact h
set_option maxRecDepth 100000 in
set_option maxHeartbeats 4000000 in
theorem s_TapedLinesModel_putWord_2 {l : Launch} {Γ : qG} {d r : Nat} {M : qM} {L : Nat → Int64} {P : qM → Prop} (v1 v2 : Int32) (h : ∃ P1 : Int32 → qM → Prop, V l Γ T_TapedLinesModel_letter d 0 0 [.int v1, .int v2, .null] [] (M, L) (q_i L P1) ∧ ∀ (x1 : Int32) (M1 : qM), P1 x1 M1 → (x1 ≤ 0 → P M1) ∧ (¬ x1 ≤ 0 → ∃ P2 : Int32 → qM → Prop, V l Γ T_TapedLinesModel_letter d 0 0 [.int v1, .int v2, .null] [] (M1, L) (q_i L P2) ∧ ∀ (x2 : Int32) (M2 : qM), P2 x2 M2 → ∃ P3 : qM → Prop, V l Γ T_TapedLinesModel_put d 0 0 [.ref 27, .int ((iI 64) + x2)] [] (M2, L) (q_n L P3) ∧ ∀ (M3 : qM), P3 M3 → V l Γ T_TapedLinesModel_putWord (d + 1) r 2 [.ref 27, .int v1, .int (v2 + (iI 1))] [] (M3, L) (q_n L P))) : V l Γ T_TapedLinesModel_putWord (d + 1) r 2 [.ref 27, .int v1, .int v2] [] (M, L) (q_n L P) := by
  refine V.run 2 (pc' := 4) (ls' := [.ref 27, .int v1, .int v2]) (st' := [.int v2, .int v1]) (S' := (M, L)) rfl ?_
  obtain ⟨P1, hv1, h⟩ := h
  refine V.callSi (T2 := T_TapedLinesModel_letter) (As := [.int v1, .int v2]) (rest := []) rfl rfl g_TapedLinesModel_letter rfl (Nat.le_of_ble_eq_true rfl) (by simp [Value.category]) (by simp [Value.category]) (Nat.le_of_ble_eq_true rfl) (Nat.le_refl _) hv1 (fun x1 M1 hq => ?_)
  have h := h x1 M1 hq
  refine V.ifc (cd := .le) rfl (fun hc => ?_) (fun hc => ?_)
  · have h := h.1 hc
    exact V.vret rfl rfl ⟨_, rfl, rfl, h⟩
  · have h := h.2 hc
    refine V.run 4 (pc' := 15) (ls' := [.ref 27, .int v1, .int v2]) (st' := [.int v2, .int v1, .int (iI 64), .ref 27]) (S' := (M1, L)) rfl ?_
    obtain ⟨P2, hv2, h⟩ := h
    refine V.callSi (T2 := T_TapedLinesModel_letter) (As := [.int v1, .int v2]) (rest := [.int (iI 64), .ref 27]) rfl rfl g_TapedLinesModel_letter rfl (Nat.le_of_ble_eq_true rfl) (by simp [Value.category]) (by simp [Value.category]) (Nat.le_of_ble_eq_true rfl) (Nat.le_refl _) hv2 (fun x2 M2 hq => ?_)
    have h := h x2 M2 hq
    refine V.run 1 (pc' := 19) (ls' := [.ref 27, .int v1, .int v2]) (st' := [.int ((iI 64) + x2), .ref 27]) (S' := (M2, L)) rfl ?_
    obtain ⟨P3, hv3, h⟩ := h
    refine V.callVv (T2 := T_TapedLinesModel_put) (As := [.int ((iI 64) + x2)]) (rest := []) rfl rfl g_TapedLinesModel_put rfl rfl rfl rfl (Nat.le_of_ble_eq_true rfl) (by simp [Value.category]) (by simp [Value.category]) (Nat.le_of_ble_eq_true rfl) (Nat.le_refl _) hv3 (fun M3 hq => ?_)
    have h := h M3 hq
    refine V.run 2 (pc' := 2) (ls' := [.ref 27, .int v1, .int (v2 + (iI 1))]) (st' := []) (S' := (M3, L)) rfl ?_
    exact h
set_option maxRecDepth 100000 in
set_option maxHeartbeats 4000000 in
theorem s_TapedLinesModel_list_0 {l : Launch} {Γ : qG} {d r : Nat} {M : qM} {L : Nat → Int64} {P : Int32 → qM → Prop} (a : Int32) (h : (a < 0 → V l Γ T_TapedLinesModel_list (d + 1) r 18 [.ref 27, .int a, .null, .null, .null, .null] [.int (iI 1), .ref 27] (M, L) (q_i L P)) ∧ (¬ a < 0 → ∃ P1 : Int32 → qM → Prop, V l Γ T_TapedLinesModel_countLines d 0 0 [.ref 27, .null, .null] [] (M, L) (q_i L P1) ∧ ∀ (x1 : Int32) (M1 : qM), P1 x1 M1 → (a < x1 → V l Γ T_TapedLinesModel_list (d + 1) r 18 [.ref 27, .int a, .null, .null, .null, .null] [.int (iI 0), .ref 27] (M1, L) (q_i L P)) ∧ (¬ a < x1 → V l Γ T_TapedLinesModel_list (d + 1) r 18 [.ref 27, .int a, .null, .null, .null, .null] [.int (iI 1), .ref 27] (M1, L) (q_i L P)))) : V l Γ T_TapedLinesModel_list (d + 1) r 0 [.ref 27, .int a, .null, .null, .null, .null] [] (M, L) (q_i L P) := by
  refine V.run 2 (pc' := 2) (ls' := [.ref 27, .int a, .null, .null, .null, .null]) (st' := [.int a, .ref 27]) (S' := (M, L)) rfl ?_
  refine V.ifc (cd := .lt) rfl (fun hc => ?_) (fun hc => ?_)
  · have h := h.1 hc
    refine V.run 2 (pc' := 18) (ls' := [.ref 27, .int a, .null, .null, .null, .null]) (st' := [.int (iI 1), .ref 27]) (S' := (M, L)) rfl ?_
    exact h
  · have h := h.2 hc
    refine V.run 2 (pc' := 7) (ls' := [.ref 27, .int a, .null, .null, .null, .null]) (st' := [.ref 27, .int a, .ref 27]) (S' := (M, L)) rfl ?_
    obtain ⟨P1, hv1, h⟩ := h
    refine V.callVi (T2 := T_TapedLinesModel_countLines) (As := []) (rest := [.int a, .ref 27]) rfl rfl g_TapedLinesModel_countLines rfl rfl rfl rfl (Nat.le_of_ble_eq_true rfl) (by simp [Value.category]) (by simp [Value.category]) (Nat.le_of_ble_eq_true rfl) (Nat.le_refl _) hv1 (fun x1 M1 hq => ?_)
    have h := h x1 M1 hq
    refine V.icmp (cd := .lt) rfl (fun hc => ?_) (fun hc => ?_)
    · have h := h.1 hc
      refine V.run 1 (pc' := 18) (ls' := [.ref 27, .int a, .null, .null, .null, .null]) (st' := [.int (iI 0), .ref 27]) (S' := (M1, L)) rfl ?_
      exact h
    · have h := h.2 hc
      refine V.run 2 (pc' := 18) (ls' := [.ref 27, .int a, .null, .null, .null, .null]) (st' := [.int (iI 1), .ref 27]) (S' := (M1, L)) rfl ?_
      exact h
set_option maxRecDepth 100000 in
set_option maxHeartbeats 4000000 in
theorem s_TapedLinesModel_list_18 {l : Launch} {Γ : qG} {d r : Nat} {M : qM} {L : Nat → Int64} {P : Int32 → qM → Prop} (v1 w0 : Int32) (h : ∃ P1 : Int32 → qM → Prop, V l Γ T_TapedLinesModel_refused d 0 0 [.ref 27, .int w0, .int (iI 0)] [] (M, L) (q_i L P1) ∧ ∀ (x1 : Int32) (M1 : qM), P1 x1 M1 → (x1 = 0 → ∃ P2 : Int32 → qM → Prop, V l Γ T_TapedLinesModel_lineAt d 0 0 [.ref 27, .int v1, .null, .null] [] ((q_up M1 27 37 (iI 0)), L) (q_i L P2) ∧ ∀ (x2 : Int32) (M2 : qM), P2 x2 M2 → vp_in (x2 + (iI 1)) 260 ∧ vp_in x2 260 ∧ ∃ P3 : qM → Prop, V l Γ T_TapedLinesModel_putNumber d 0 0 [.ref 27, .int (M2 30 (x2).toNatClampNeg)] [] (M2, L) (q_n L P3) ∧ ∀ (M3 : qM), P3 M3 → ∃ P4 : qM → Prop, V l Γ T_TapedLinesModel_put d 0 0 [.ref 27, .int (iI 32)] [] (M3, L) (q_n L P4) ∧ ∀ (M4 : qM), P4 M4 → V l Γ T_TapedLinesModel_list (d + 1) r 66 [.ref 27, .null, .int x2, .int (M2 30 ((x2 + (iI 1))).toNatClampNeg), .int (iI 0), .null] [] (M4, L) (q_i L P)) ∧ (¬ x1 = 0 → P (iI 0) M1)) : V l Γ T_TapedLinesModel_list (d + 1) r 18 [.ref 27, .int v1, .null, .null, .null, .null] [.int w0, .ref 27] (M, L) (q_i L P) := by
  refine V.run 1 (pc' := 19) (ls' := [.ref 27, .int v1, .null, .null, .null, .null]) (st' := [.int (iI 0), .int w0, .ref 27]) (S' := (M, L)) rfl ?_
  obtain ⟨P1, hv1, h⟩ := h
  refine V.callVi (T2 := T_TapedLinesModel_refused) (As := [.int w0, .int (iI 0)]) (rest := []) rfl rfl g_TapedLinesModel_refused rfl rfl rfl rfl (Nat.le_of_ble_eq_true rfl) (by simp [Value.category]) (by simp [Value.category]) (Nat.le_of_ble_eq_true rfl) (Nat.le_refl _) hv1 (fun x1 M1 hq => ?_)
  have h := h x1 M1 hq
  refine V.ifc (cd := .eq) rfl (fun hc => ?_) (fun hc => ?_)
  · have h := h.1 hc
    refine V.run 5 (pc' := 34) (ls' := [.ref 27, .int v1, .null, .null, .null, .null]) (st' := [.int v1, .ref 27]) (S' := ((q_up M1 27 37 (iI 0)), L)) rfl ?_
    obtain ⟨P2, hv2, h⟩ := h
    refine V.callVi (T2 := T_TapedLinesModel_lineAt) (As := [.int v1]) (rest := []) rfl rfl g_TapedLinesModel_lineAt rfl rfl rfl rfl (Nat.le_of_ble_eq_true rfl) (by simp [Value.category]) (by simp [Value.category]) (Nat.le_of_ble_eq_true rfl) (Nat.le_refl _) hv2 (fun x2 M2 hq => ?_)
    have h := h x2 M2 hq
    refine V.run 6 (pc' := 45) (ls' := [.ref 27, .int v1, .int x2, .null, .null, .null]) (st' := [.int (x2 + (iI 1)), .ref 30]) (S' := (M2, L)) rfl ?_
    refine V.iald rfl rfl h.1 ?_
    have h := h.2
    refine V.run 5 (pc' := 53) (ls' := [.ref 27, .int v1, .int x2, .int (M2 30 ((x2 + (iI 1))).toNatClampNeg), .null, .null]) (st' := [.int x2, .ref 30, .ref 27]) (S' := (M2, L)) rfl ?_
    refine V.iald rfl rfl h.1 ?_
    have h := h.2
    obtain ⟨P3, hv3, h⟩ := h
    refine V.callVv (T2 := T_TapedLinesModel_putNumber) (As := [.int (M2 30 (x2).toNatClampNeg)]) (rest := []) rfl rfl g_TapedLinesModel_putNumber rfl rfl rfl rfl (Nat.le_of_ble_eq_true rfl) (by simp [Value.category]) (by simp [Value.category]) (Nat.le_of_ble_eq_true rfl) (Nat.le_refl _) hv3 (fun M3 hq => ?_)
    have h := h M3 hq
    refine V.run 2 (pc' := 60) (ls' := [.ref 27, .int v1, .int x2, .int (M2 30 ((x2 + (iI 1))).toNatClampNeg), .null, .null]) (st' := [.int (iI 32), .ref 27]) (S' := (M3, L)) rfl ?_
    obtain ⟨P4, hv4, h⟩ := h
    refine V.callVv (T2 := T_TapedLinesModel_put) (As := [.int (iI 32)]) (rest := []) rfl rfl g_TapedLinesModel_put rfl rfl rfl rfl (Nat.le_of_ble_eq_true rfl) (by simp [Value.category]) (by simp [Value.category]) (Nat.le_of_ble_eq_true rfl) (Nat.le_refl _) hv4 (fun M4 hq => ?_)
    have h := h M4 hq
    refine V.run 2 (pc' := 66) (ls' := [.ref 27, .int v1, .int x2, .int (M2 30 ((x2 + (iI 1))).toNatClampNeg), .int (iI 0), .null]) (st' := []) (S' := (M4, L)) rfl ?_
    refine V.forget (ls' := [.ref 27, .null, .int x2, .int (M2 30 ((x2 + (iI 1))).toNatClampNeg), .int (iI 0), .null]) ⟨Or.inr rfl, Or.inl rfl, Or.inr rfl, Or.inr rfl, Or.inr rfl, Or.inl rfl, trivial⟩ ?_
    exact h
  · have h := h.2 hc
    refine V.run 1 (pc' := 26) (ls' := [.ref 27, .int v1, .null, .null, .null, .null]) (st' := [.int (iI 0)]) (S' := (M1, L)) rfl ?_
    exact V.iret rfl rfl ⟨_, _, rfl, rfl, h⟩
set_option maxRecDepth 100000 in
set_option maxHeartbeats 4000000 in
theorem s_TapedLinesModel_list_66 {l : Launch} {Γ : qG} {d r : Nat} {M : qM} {L : Nat → Int64} {P : Int32 → qM → Prop} (v2 v3 v4 : Int32) (h : (v3 ≤ v4 → P (M 27 37) M) ∧ (¬ v3 ≤ v4 → vp_in ((v2 + (iI 2)) + v4) 260 ∧ ((iI 128) ≤ (M 30 (((v2 + (iI 2)) + v4)).toNatClampNeg) → (v4 ≤ 0 → V l Γ T_TapedLinesModel_list (d + 1) r 113 [.ref 27, .null, .int v2, .int v3, .int v4, .int (M 30 (((v2 + (iI 2)) + v4)).toNatClampNeg)] [] (M, L) (q_i L P)) ∧ (¬ v4 ≤ 0 → ∃ P1 : qM → Prop, V l Γ T_TapedLinesModel_put d 0 0 [.ref 27, .int (iI 32)] [] (M, L) (q_n L P1) ∧ ∀ (M1 : qM), P1 M1 → V l Γ T_TapedLinesModel_list (d + 1) r 113 [.ref 27, .null, .int v2, .int v3, .int v4, .int (M 30 (((v2 + (iI 2)) + v4)).toNatClampNeg)] [] (M1, L) (q_i L P))) ∧ (¬ (iI 128) ≤ (M 30 (((v2 + (iI 2)) + v4)).toNatClampNeg) → ∃ P2 : qM → Prop, V l Γ T_TapedLinesModel_put d 0 0 [.ref 27, .int (M 30 (((v2 + (iI 2)) + v4)).toNatClampNeg)] [] (M, L) (q_n L P2) ∧ ∀ (M2 : qM), P2 M2 → V l Γ T_TapedLinesModel_list (d + 1) r 66 [.ref 27, .null, .int v2, .int v3, .int (v4 + (iI 1)), .null] [] (M2, L) (q_i L P)))) : V l Γ T_TapedLinesModel_list (d + 1) r 66 [.ref 27, .null, .int v2, .int v3, .int v4, .null] [] (M, L) (q_i L P) := by
  refine V.run 2 (pc' := 69) (ls' := [.ref 27, .null, .int v2, .int v3, .int v4, .null]) (st' := [.int v3, .int v4]) (S' := (M, L)) rfl ?_
  refine V.icmp (cd := .ge) rfl (fun hc => ?_) (fun hc => ?_)
  · have h := h.1 hc
    refine V.run 2 (pc' := 147) (ls' := [.ref 27, .null, .int v2, .int v3, .int v4, .null]) (st' := [.int (M 27 37)]) (S' := (M, L)) rfl ?_
    exact V.iret rfl rfl ⟨_, _, rfl, rfl, h⟩
  · have h := h.2 hc
    refine V.run 7 (pc' := 82) (ls' := [.ref 27, .null, .int v2, .int v3, .int v4, .null]) (st' := [.int ((v2 + (iI 2)) + v4), .ref 30]) (S' := (M, L)) rfl ?_
    refine V.iald rfl rfl h.1 ?_
    have h := h.2
    refine V.run 3 (pc' := 90) (ls' := [.ref 27, .null, .int v2, .int v3, .int v4, .int (M 30 (((v2 + (iI 2)) + v4)).toNatClampNeg)]) (st' := [.int (iI 128), .int (M 30 (((v2 + (iI 2)) + v4)).toNatClampNeg)]) (S' := (M, L)) rfl ?_
    refine V.icmp (cd := .ge) rfl (fun hc => ?_) (fun hc => ?_)
    · have h := h.1 hc
      refine V.run 1 (pc' := 104) (ls' := [.ref 27, .null, .int v2, .int v3, .int v4, .int (M 30 (((v2 + (iI 2)) + v4)).toNatClampNeg)]) (st' := [.int v4]) (S' := (M, L)) rfl ?_
      refine V.ifc (cd := .le) rfl (fun hc => ?_) (fun hc => ?_)
      · have h := h.1 hc
        exact h
      · have h := h.2 hc
        refine V.run 2 (pc' := 110) (ls' := [.ref 27, .null, .int v2, .int v3, .int v4, .int (M 30 (((v2 + (iI 2)) + v4)).toNatClampNeg)]) (st' := [.int (iI 32), .ref 27]) (S' := (M, L)) rfl ?_
        obtain ⟨P1, hv1, h⟩ := h
        refine V.callVv (T2 := T_TapedLinesModel_put) (As := [.int (iI 32)]) (rest := []) rfl rfl g_TapedLinesModel_put rfl rfl rfl rfl (Nat.le_of_ble_eq_true rfl) (by simp [Value.category]) (by simp [Value.category]) (Nat.le_of_ble_eq_true rfl) (Nat.le_refl _) hv1 (fun M1 hq => ?_)
        have h := h M1 hq
        exact h
    · have h := h.2 hc
      refine V.run 2 (pc' := 96) (ls' := [.ref 27, .null, .int v2, .int v3, .int v4, .int (M 30 (((v2 + (iI 2)) + v4)).toNatClampNeg)]) (st' := [.int (M 30 (((v2 + (iI 2)) + v4)).toNatClampNeg), .ref 27]) (S' := (M, L)) rfl ?_
      obtain ⟨P2, hv2, h⟩ := h
      refine V.callVv (T2 := T_TapedLinesModel_put) (As := [.int (M 30 (((v2 + (iI 2)) + v4)).toNatClampNeg)]) (rest := []) rfl rfl g_TapedLinesModel_put rfl rfl rfl rfl (Nat.le_of_ble_eq_true rfl) (by simp [Value.category]) (by simp [Value.category]) (Nat.le_of_ble_eq_true rfl) (Nat.le_refl _) hv2 (fun M2 hq => ?_)
      have h := h M2 hq
      refine V.run 3 (pc' := 66) (ls' := [.ref 27, .null, .int v2, .int v3, .int (v4 + (iI 1)), .int (M 30 (((v2 + (iI 2)) + v4)).toNatClampNeg)]) (st' := []) (S' := (M2, L)) rfl ?_
      refine V.forget (ls' := [.ref 27, .null, .int v2, .int v3, .int (v4 + (iI 1)), .null]) ⟨Or.inr rfl, Or.inl rfl, Or.inr rfl, Or.inr rfl, Or.inr rfl, Or.inl rfl, trivial⟩ ?_
      exact h
set_option maxRecDepth 100000 in
set_option maxHeartbeats 4000000 in
theorem s_TapedLinesModel_list_113 {l : Launch} {Γ : qG} {d r : Nat} {M : qM} {L : Nat → Int64} {P : Int32 → qM → Prop} (v2 v3 v4 v5 : Int32) (h : ∃ P1 : qM → Prop, V l Γ T_TapedLinesModel_putWord d 0 0 [.ref 27, .int (v5 - (iI 128)), .null] [] (M, L) (q_n L P1) ∧ ∀ (M1 : qM), P1 M1 → ((v3 - (iI 1)) ≤ v4 → V l Γ T_TapedLinesModel_list (d + 1) r 66 [.ref 27, .null, .int v2, .int v3, .int (v4 + (iI 1)), .null] [] (M1, L) (q_i L P)) ∧ (¬ (v3 - (iI 1)) ≤ v4 → ∃ P2 : qM → Prop, V l Γ T_TapedLinesModel_put d 0 0 [.ref 27, .int (iI 32)] [] (M1, L) (q_n L P2) ∧ ∀ (M2 : qM), P2 M2 → V l Γ T_TapedLinesModel_list (d + 1) r 66 [.ref 27, .null, .int v2, .int v3, .int (v4 + (iI 1)), .null] [] (M2, L) (q_i L P))) : V l Γ T_TapedLinesModel_list (d + 1) r 113 [.ref 27, .null, .int v2, .int v3, .int v4, .int v5] [] (M, L) (q_i L P) := by
  refine V.run 4 (pc' := 120) (ls' := [.ref 27, .null, .int v2, .int v3, .int v4, .int v5]) (st' := [.int (v5 - (iI 128)), .ref 27]) (S' := (M, L)) rfl ?_
  obtain ⟨P1, hv1, h⟩ := h
  refine V.callVv (T2 := T_TapedLinesModel_putWord) (As := [.int (v5 - (iI 128))]) (rest := []) rfl rfl g_TapedLinesModel_putWord rfl rfl rfl rfl (Nat.le_of_ble_eq_true rfl) (by simp [Value.category]) (by simp [Value.category]) (Nat.le_of_ble_eq_true rfl) (Nat.le_refl _) hv1 (fun M1 hq => ?_)
  have h := h M1 hq
  refine V.run 4 (pc' := 128) (ls' := [.ref 27, .null, .int v2, .int v3, .int v4, .int v5]) (st' := [.int (v3 - (iI 1)), .int v4]) (S' := (M1, L)) rfl ?_
  refine V.icmp (cd := .ge) rfl (fun hc => ?_) (fun hc => ?_)
  · have h := h.1 hc
    refine V.run 2 (pc' := 66) (ls' := [.ref 27, .null, .int v2, .int v3, .int (v4 + (iI 1)), .int v5]) (st' := []) (S' := (M1, L)) rfl ?_
    refine V.forget (ls' := [.ref 27, .null, .int v2, .int v3, .int (v4 + (iI 1)), .null]) ⟨Or.inr rfl, Or.inl rfl, Or.inr rfl, Or.inr rfl, Or.inr rfl, Or.inl rfl, trivial⟩ ?_
    exact h
  · have h := h.2 hc
    refine V.run 2 (pc' := 134) (ls' := [.ref 27, .null, .int v2, .int v3, .int v4, .int v5]) (st' := [.int (iI 32), .ref 27]) (S' := (M1, L)) rfl ?_
    obtain ⟨P2, hv2, h⟩ := h
    refine V.callVv (T2 := T_TapedLinesModel_put) (As := [.int (iI 32)]) (rest := []) rfl rfl g_TapedLinesModel_put rfl rfl rfl rfl (Nat.le_of_ble_eq_true rfl) (by simp [Value.category]) (by simp [Value.category]) (Nat.le_of_ble_eq_true rfl) (Nat.le_refl _) hv2 (fun M2 hq => ?_)
    have h := h M2 hq
    refine V.run 2 (pc' := 66) (ls' := [.ref 27, .null, .int v2, .int v3, .int (v4 + (iI 1)), .int v5]) (st' := []) (S' := (M2, L)) rfl ?_
    refine V.forget (ls' := [.ref 27, .null, .int v2, .int v3, .int (v4 + (iI 1)), .null]) ⟨Or.inr rfl, Or.inl rfl, Or.inr rfl, Or.inr rfl, Or.inr rfl, Or.inl rfl, trivial⟩ ?_
    exact h
set_option maxRecDepth 100000 in
set_option maxHeartbeats 4000000 in
theorem s_TapedLinesModel_programByte_0 {l : Launch} {Γ : qG} {d r : Nat} {M : qM} {L : Nat → Int64} {P : Int32 → qM → Prop} (a : Int32) (h : (a < 0 → V l Γ T_TapedLinesModel_programByte (d + 1) r 18 [.ref 27, .int a] [.int (iI 1), .ref 27] (M, L) (q_i L P)) ∧ (¬ a < 0 → (a < (M 27 12) → V l Γ T_TapedLinesModel_programByte (d + 1) r 18 [.ref 27, .int a] [.int (iI 0), .ref 27] (M, L) (q_i L P)) ∧ (¬ a < (M 27 12) → V l Γ T_TapedLinesModel_programByte (d + 1) r 18 [.ref 27, .int a] [.int (iI 1), .ref 27] (M, L) (q_i L P)))) : V l Γ T_TapedLinesModel_programByte (d + 1) r 0 [.ref 27, .int a] [] (M, L) (q_i L P) := by
  refine V.run 2 (pc' := 2) (ls' := [.ref 27, .int a]) (st' := [.int a, .ref 27]) (S' := (M, L)) rfl ?_
  refine V.ifc (cd := .lt) rfl (fun hc => ?_) (fun hc => ?_)
  · have h := h.1 hc
    refine V.run 2 (pc' := 18) (ls' := [.ref 27, .int a]) (st' := [.int (iI 1), .ref 27]) (S' := (M, L)) rfl ?_
    exact h
  · have h := h.2 hc
    refine V.run 3 (pc' := 10) (ls' := [.ref 27, .int a]) (st' := [.int (M 27 12), .int a, .ref 27]) (S' := (M, L)) rfl ?_
    refine V.icmp (cd := .lt) rfl (fun hc => ?_) (fun hc => ?_)
    · have h := h.1 hc
      refine V.run 1 (pc' := 18) (ls' := [.ref 27, .int a]) (st' := [.int (iI 0), .ref 27]) (S' := (M, L)) rfl ?_
      exact h
    · have h := h.2 hc
      refine V.run 2 (pc' := 18) (ls' := [.ref 27, .int a]) (st' := [.int (iI 1), .ref 27]) (S' := (M, L)) rfl ?_
      exact h
set_option maxRecDepth 100000 in
set_option maxHeartbeats 4000000 in
theorem s_TapedLinesModel_programByte_18 {l : Launch} {Γ : qG} {d r : Nat} {M : qM} {L : Nat → Int64} {P : Int32 → qM → Prop} (v1 w0 : Int32) (h : ∃ P1 : Int32 → qM → Prop, V l Γ T_TapedLinesModel_refused d 0 0 [.ref 27, .int w0, .int (iI 0)] [] (M, L) (q_i L P1) ∧ ∀ (x1 : Int32) (M1 : qM), P1 x1 M1 → (x1 = 0 → vp_in v1 260 ∧ P (M1 30 (v1).toNatClampNeg) M1) ∧ (¬ x1 = 0 → P (iI 0) M1)) : V l Γ T_TapedLinesModel_programByte (d + 1) r 18 [.ref 27, .int v1] [.int w0, .ref 27] (M, L) (q_i L P) := by
  refine V.run 1 (pc' := 19) (ls' := [.ref 27, .int v1]) (st' := [.int (iI 0), .int w0, .ref 27]) (S' := (M, L)) rfl ?_
  obtain ⟨P1, hv1, h⟩ := h
  refine V.callVi (T2 := T_TapedLinesModel_refused) (As := [.int w0, .int (iI 0)]) (rest := []) rfl rfl g_TapedLinesModel_refused rfl rfl rfl rfl (Nat.le_of_ble_eq_true rfl) (by simp [Value.category]) (by simp [Value.category]) (Nat.le_of_ble_eq_true rfl) (Nat.le_refl _) hv1 (fun x1 M1 hq => ?_)
  have h := h x1 M1 hq
  refine V.ifc (cd := .eq) rfl (fun hc => ?_) (fun hc => ?_)
  · have h := h.1 hc
    refine V.run 3 (pc' := 34) (ls' := [.ref 27, .int v1]) (st' := [.int v1, .ref 30]) (S' := (M1, L)) rfl ?_
    refine V.iald rfl rfl h.1 ?_
    have h := h.2
    exact V.iret rfl rfl ⟨_, _, rfl, rfl, h⟩
  · have h := h.2 hc
    refine V.run 2 (pc' := 35) (ls' := [.ref 27, .int v1]) (st' := [.int (iI 0)]) (S' := (M1, L)) rfl ?_
    exact V.iret rfl rfl ⟨_, _, rfl, rfl, h⟩
set_option maxRecDepth 100000 in
set_option maxHeartbeats 4000000 in
theorem s_TapedLinesModel_start_0 {l : Launch} {Γ : qG} {d r : Nat} {M : qM} {L : Nat → Int64} {P : qM → Prop} (h : (¬ (M 27 12) = 0 → V l Γ T_TapedLinesModel_start d r 43 [.ref 27, .int (iI 0)] [] ((q_up (q_up (q_up (q_up (q_up (q_up M 27 0 (iI 0)) 27 14 (iI 1)) 27 15 (iI 0)) 27 18 (iI 0)) 27 22 (iI 0)) 27 24 (iI 0)), L) (q_n L P)) ∧ (¬ (¬ (M 27 12) = 0) → V l Γ T_TapedLinesModel_start d r 43 [.ref 27, .int (iI 0)] [] ((q_up (q_up (q_up (q_up (q_up (q_up M 27 0 (iI 0)) 27 14 (iI 2)) 27 15 (iI 0)) 27 18 (iI 0)) 27 22 (iI 0)) 27 24 (iI 0)), L) (q_n L P))) : V l Γ T_TapedLinesModel_start d r 0 [.ref 27, .null] [] (M, L) (q_n L P) := by
  refine V.run 6 (pc' := 10) (ls' := [.ref 27, .null]) (st' := [.int (M 27 12), .ref 27]) (S' := ((q_up M 27 0 (iI 0)), L)) rfl ?_
  refine V.ifc (cd := .ne) rfl (fun hc => ?_) (fun hc => ?_)
  · have h := h.1 hc
    refine V.run 16 (pc' := 43) (ls' := [.ref 27, .int (iI 0)]) (st' := []) (S' := ((q_up (q_up (q_up (q_up (q_up (q_up M 27 0 (iI 0)) 27 14 (iI 1)) 27 15 (iI 0)) 27 18 (iI 0)) 27 22 (iI 0)) 27 24 (iI 0)), L)) rfl ?_
    exact h
  · have h := h.2 hc
    refine V.run 17 (pc' := 43) (ls' := [.ref 27, .int (iI 0)]) (st' := []) (S' := ((q_up (q_up (q_up (q_up (q_up (q_up M 27 0 (iI 0)) 27 14 (iI 2)) 27 15 (iI 0)) 27 18 (iI 0)) 27 22 (iI 0)) 27 24 (iI 0)), L)) rfl ?_
    exact h
set_option maxRecDepth 100000 in
set_option maxHeartbeats 4000000 in
theorem s_TapedLinesModel_start_43 {l : Launch} {Γ : qG} {d r : Nat} {M : qM} {L : Nat → Int64} {P : qM → Prop} (v1 : Int32) (h : ((iI 16) ≤ v1 → P M) ∧ (¬ (iI 16) ≤ v1 → vp_in v1 16 ∧ vp_in (v1 - v1 / (iI 8) * (iI 8)) 8 ∧ V l Γ T_TapedLinesModel_start d r 43 [.ref 27, .int (v1 + (iI 1))] [] ((q_up (q_up M 32 (v1).toNatClampNeg (iI 0)) 31 ((v1 - v1 / (iI 8) * (iI 8))).toNatClampNeg (iI 0)), L) (q_n L P))) : V l Γ T_TapedLinesModel_start d r 43 [.ref 27, .int v1] [] (M, L) (q_n L P) := by
  refine V.run 2 (pc' := 46) (ls' := [.ref 27, .int v1]) (st' := [.int (iI 16), .int v1]) (S' := (M, L)) rfl ?_
  refine V.icmp (cd := .ge) rfl (fun hc => ?_) (fun hc => ?_)
  · have h := h.1 hc
    exact V.vret rfl rfl ⟨_, rfl, rfl, h⟩
  · have h := h.2 hc
    refine V.run 4 (pc' := 55) (ls' := [.ref 27, .int v1]) (st' := [.int (iI 0), .int v1, .ref 32]) (S' := (M, L)) rfl ?_
    refine V.iast rfl rfl h.1 ?_
    have h := h.2
    refine V.run 4 (pc' := 63) (ls' := [.ref 27, .int v1]) (st' := [.int (iI 8), .int v1, .ref 31]) (S' := ((q_up M 32 (v1).toNatClampNeg (iI 0)), L)) rfl ?_
    refine V.irem rfl (by decide) ?_
    refine V.run 1 (pc' := 65) (ls' := [.ref 27, .int v1]) (st' := [.int (iI 0), .int (v1 - v1 / (iI 8) * (iI 8)), .ref 31]) (S' := ((q_up M 32 (v1).toNatClampNeg (iI 0)), L)) rfl ?_
    refine V.iast rfl rfl h.1 ?_
    have h := h.2
    refine V.run 2 (pc' := 43) (ls' := [.ref 27, .int (v1 + (iI 1))]) (st' := []) (S' := ((q_up (q_up M 32 (v1).toNatClampNeg (iI 0)) 31 ((v1 - v1 / (iI 8) * (iI 8))).toNatClampNeg (iI 0)), L)) rfl ?_
    exact h
set_option maxRecDepth 100000 in
set_option maxHeartbeats 4000000 in
theorem s_TapedLinesModel_rank_0 {l : Launch} {Γ : qG} {d r : Nat} {M : qM} {L : Nat → Int64} {P : Int32 → qM → Prop} (a : Int32) (h : ((a).toInt = 37 → P (iI 3) M) ∧ (¬ (a).toInt = 37 → ((a).toInt = 42 → P (iI 3) M) ∧ (¬ (a).toInt = 42 → ((a).toInt = 43 → P (iI 2) M) ∧ (¬ (a).toInt = 43 → ((a).toInt = 45 → P (iI 2) M) ∧ (¬ (a).toInt = 45 → ((a).toInt = 47 → P (iI 3) M) ∧ (¬ (a).toInt = 47 → ((a).toInt = 60 → P (iI 1) M) ∧ (¬ (a).toInt = 60 → ((a).toInt = 61 → P (iI 1) M) ∧ (¬ (a).toInt = 61 → ((a).toInt = 62 → P (iI 1) M) ∧ (¬ (a).toInt = 62 → ((a).toInt = 109 → P (iI 4) M) ∧ (¬ (a).toInt = 109 → P (iI 0) M)))))))))) : V l Γ T_TapedLinesModel_rank d r 0 [.int a] [] (M, L) (q_i L P) := by
  refine V.run 1 (pc' := 1) (ls' := [.int a]) (st' := [.int a]) (S' := (M, L)) rfl ?_
  refine V.swl rfl 92 [(37, 86), (42, 86), (43, 88), (45, 88), (47, 86), (60, 90), (61, 90), (62, 90), (109, 84)] (by decide) (by decide) (by decide) ?_
  refine q_swP.c (fun hc => ?_) (fun hc => ?_)
  · have h := h.1 hc
    refine V.run 1 (pc' := 87) (ls' := [.int a]) (st' := [.int (iI 3)]) (S' := (M, L)) rfl ?_
    exact V.iret rfl rfl ⟨_, _, rfl, rfl, h⟩
  · have h := h.2 hc
    refine q_swP.c (fun hc => ?_) (fun hc => ?_)
    · have h := h.1 hc
      refine V.run 1 (pc' := 87) (ls' := [.int a]) (st' := [.int (iI 3)]) (S' := (M, L)) rfl ?_
      exact V.iret rfl rfl ⟨_, _, rfl, rfl, h⟩
    · have h := h.2 hc
      refine q_swP.c (fun hc => ?_) (fun hc => ?_)
      · have h := h.1 hc
        refine V.run 1 (pc' := 89) (ls' := [.int a]) (st' := [.int (iI 2)]) (S' := (M, L)) rfl ?_
        exact V.iret rfl rfl ⟨_, _, rfl, rfl, h⟩
      · have h := h.2 hc
        refine q_swP.c (fun hc => ?_) (fun hc => ?_)
        · have h := h.1 hc
          refine V.run 1 (pc' := 89) (ls' := [.int a]) (st' := [.int (iI 2)]) (S' := (M, L)) rfl ?_
          exact V.iret rfl rfl ⟨_, _, rfl, rfl, h⟩
        · have h := h.2 hc
          refine q_swP.c (fun hc => ?_) (fun hc => ?_)
          · have h := h.1 hc
            refine V.run 1 (pc' := 87) (ls' := [.int a]) (st' := [.int (iI 3)]) (S' := (M, L)) rfl ?_
            exact V.iret rfl rfl ⟨_, _, rfl, rfl, h⟩
          · have h := h.2 hc
            refine q_swP.c (fun hc => ?_) (fun hc => ?_)
            · have h := h.1 hc
              refine V.run 1 (pc' := 91) (ls' := [.int a]) (st' := [.int (iI 1)]) (S' := (M, L)) rfl ?_
              exact V.iret rfl rfl ⟨_, _, rfl, rfl, h⟩
            · have h := h.2 hc
              refine q_swP.c (fun hc => ?_) (fun hc => ?_)
              · have h := h.1 hc
                refine V.run 1 (pc' := 91) (ls' := [.int a]) (st' := [.int (iI 1)]) (S' := (M, L)) rfl ?_
                exact V.iret rfl rfl ⟨_, _, rfl, rfl, h⟩
              · have h := h.2 hc
                refine q_swP.c (fun hc => ?_) (fun hc => ?_)
                · have h := h.1 hc
                  refine V.run 1 (pc' := 91) (ls' := [.int a]) (st' := [.int (iI 1)]) (S' := (M, L)) rfl ?_
                  exact V.iret rfl rfl ⟨_, _, rfl, rfl, h⟩
                · have h := h.2 hc
                  refine q_swP.c (fun hc => ?_) (fun hc => ?_)
                  · have h := h.1 hc
                    refine V.run 1 (pc' := 85) (ls' := [.int a]) (st' := [.int (iI 4)]) (S' := (M, L)) rfl ?_
                    exact V.iret rfl rfl ⟨_, _, rfl, rfl, h⟩
                  · have h := h.2 hc
                    refine q_swP.e ?_
                    refine V.run 1 (pc' := 93) (ls' := [.int a]) (st' := [.int (iI 0)]) (S' := (M, L)) rfl ?_
                    exact V.iret rfl rfl ⟨_, _, rfl, rfl, h⟩
set_option maxRecDepth 100000 in
set_option maxHeartbeats 4000000 in
theorem s_TapedLinesModel_push_0 {l : Launch} {Γ : qG} {d r : Nat} {M : qM} {L : Nat → Int64} {P : qM → Prop} (a : Int32) (h : vp_in (M 27 29) 260 ∧ P (q_up (q_up M 38 ((M 27 29)).toNatClampNeg (a).toInt16.toInt32) 27 29 ((M 27 29) + (iI 1)))) : V l Γ T_TapedLinesModel_push d r 0 [.ref 27, .int a] [] (M, L) (q_n L P) := by
  refine V.run 6 (pc' := 10) (ls' := [.ref 27, .int a]) (st' := [.int (a).toInt16.toInt32, .int (M 27 29), .ref 38]) (S' := (M, L)) rfl ?_
  refine V.iast rfl rfl h.1 ?_
  have h := h.2
  refine V.run 6 (pc' := 21) (ls' := [.ref 27, .int a]) (st' := []) (S' := ((q_up (q_up M 38 ((M 27 29)).toNatClampNeg (a).toInt16.toInt32) 27 29 ((M 27 29) + (iI 1))), L)) rfl ?_
  exact V.vret rfl rfl ⟨_, rfl, rfl, h⟩
set_option maxRecDepth 100000 in
set_option maxHeartbeats 4000000 in
theorem s_TapedLinesModel_apply_0 {l : Launch} {Γ : qG} {d r : Nat} {M : qM} {L : Nat → Int64} {P : qM → Prop} (h : vp_in ((M 27 31) - (iI 1)) 260 ∧ vp_in ((M 27 29) - (iI 1)) 260 ∧ (¬ (M 39 (((M 27 31) - (iI 1))).toNatClampNeg) = (iI 109) → vp_in (((M 27 29) - (iI 1)) - (iI 1)) 260 ∧ ((M 39 (((M 27 31) - (iI 1))).toNatClampNeg) = (iI 47) → V l Γ T_TapedLinesModel_apply (d + 1) r 90 [.ref 27, .int (M 39 (((M 27 31) - (iI 1))).toNatClampNeg), .int (M 38 (((M 27 29) - (iI 1))).toNatClampNeg), .int (M 38 ((((M 27 29) - (iI 1)) - (iI 1))).toNatClampNeg), .null] [.int (iI 1)] ((q_up (q_up (q_up M 27 31 ((M 27 31) - (iI 1))) 27 29 ((M 27 29) - (iI 1))) 27 29 (((M 27 29) - (iI 1)) - (iI 1))), L) (q_n L P)) ∧ (¬ (M 39 (((M 27 31) - (iI 1))).toNatClampNeg) = (iI 47) → (¬ (M 39 (((M 27 31) - (iI 1))).toNatClampNeg) = (iI 37) → V l Γ T_TapedLinesModel_apply (d + 1) r 90 [.ref 27, .int (M 39 (((M 27 31) - (iI 1))).toNatClampNeg), .int (M 38 (((M 27 29) - (iI 1))).toNatClampNeg), .int (M 38 ((((M 27 29) - (iI 1)) - (iI 1))).toNatClampNeg), .null] [.int (iI 0)] ((q_up (q_up (q_up M 27 31 ((M 27 31) - (iI 1))) 27 29 ((M 27 29) - (iI 1))) 27 29 (((M 27 29) - (iI 1)) - (iI 1))), L) (q_n L P)) ∧ (¬ (¬ (M 39 (((M 27 31) - (iI 1))).toNatClampNeg) = (iI 37)) → V l Γ T_TapedLinesModel_apply (d + 1) r 90 [.ref 27, .int (M 39 (((M 27 31) - (iI 1))).toNatClampNeg), .int (M 38 (((M 27 29) - (iI 1))).toNatClampNeg), .int (M 38 ((((M 27 29) - (iI 1)) - (iI 1))).toNatClampNeg), .null] [.int (iI 1)] ((q_up (q_up (q_up M 27 31 ((M 27 31) - (iI 1))) 27 29 ((M 27 29) - (iI 1))) 27 29 (((M 27 29) - (iI 1)) - (iI 1))), L) (q_n L P)))) ∧ (¬ (¬ (M 39 (((M 27 31) - (iI 1))).toNatClampNeg) = (iI 109)) → ∃ P1 : qM → Prop, V l Γ T_TapedLinesModel_push d 0 0 [.ref 27, .int (-(M 38 (((M 27 29) - (iI 1))).toNatClampNeg))] [] ((q_up (q_up M 27 31 ((M 27 31) - (iI 1))) 27 29 ((M 27 29) - (iI 1))), L) (q_n L P1) ∧ ∀ (M1 : qM), P1 M1 → P M1)) : V l Γ T_TapedLinesModel_apply (d + 1) r 0 [.ref 27, .null, .null, .null, .null] [] (M, L) (q_n L P) := by
  refine V.run 10 (pc' := 18) (ls' := [.ref 27, .null, .null, .null, .null]) (st' := [.int ((M 27 31) - (iI 1)), .ref 39]) (S' := ((q_up M 27 31 ((M 27 31) - (iI 1))), L)) rfl ?_
  refine V.iald rfl rfl h.1 ?_
  have h := h.2
  refine V.run 11 (pc' := 38) (ls' := [.ref 27, .int (M 39 (((M 27 31) - (iI 1))).toNatClampNeg), .null, .null, .null]) (st' := [.int ((M 27 29) - (iI 1)), .ref 38]) (S' := ((q_up (q_up M 27 31 ((M 27 31) - (iI 1))) 27 29 ((M 27 29) - (iI 1))), L)) rfl ?_
  refine V.iald rfl rfl h.1 ?_
  have h := h.2
  refine V.run 3 (pc' := 43) (ls' := [.ref 27, .int (M 39 (((M 27 31) - (iI 1))).toNatClampNeg), .int (M 38 (((M 27 29) - (iI 1))).toNatClampNeg), .null, .null]) (st' := [.int (iI 109), .int (M 39 (((M 27 31) - (iI 1))).toNatClampNeg)]) (S' := ((q_up (q_up M 27 31 ((M 27 31) - (iI 1))) 27 29 ((M 27 29) - (iI 1))), L)) rfl ?_
  refine V.icmp (cd := .ne) rfl (fun hc => ?_) (fun hc => ?_)
  · have h := h.1 hc
    refine V.run 10 (pc' := 71) (ls' := [.ref 27, .int (M 39 (((M 27 31) - (iI 1))).toNatClampNeg), .int (M 38 (((M 27 29) - (iI 1))).toNatClampNeg), .null, .null]) (st' := [.int (((M 27 29) - (iI 1)) - (iI 1)), .ref 38]) (S' := ((q_up (q_up (q_up M 27 31 ((M 27 31) - (iI 1))) 27 29 ((M 27 29) - (iI 1))) 27 29 (((M 27 29) - (iI 1)) - (iI 1))), L)) rfl ?_
    refine V.iald rfl rfl h.1 ?_
    have h := h.2
    refine V.run 3 (pc' := 76) (ls' := [.ref 27, .int (M 39 (((M 27 31) - (iI 1))).toNatClampNeg), .int (M 38 (((M 27 29) - (iI 1))).toNatClampNeg), .int (M 38 ((((M 27 29) - (iI 1)) - (iI 1))).toNatClampNeg), .null]) (st' := [.int (iI 47), .int (M 39 (((M 27 31) - (iI 1))).toNatClampNeg)]) (S' := ((q_up (q_up (q_up M 27 31 ((M 27 31) - (iI 1))) 27 29 ((M 27 29) - (iI 1))) 27 29 (((M 27 29) - (iI 1)) - (iI 1))), L)) rfl ?_
    refine V.icmp (cd := .eq) rfl (fun hc => ?_) (fun hc => ?_)
    · have h := h.1 hc
      refine V.run 2 (pc' := 90) (ls' := [.ref 27, .int (M 39 (((M 27 31) - (iI 1))).toNatClampNeg), .int (M 38 (((M 27 29) - (iI 1))).toNatClampNeg), .int (M 38 ((((M 27 29) - (iI 1)) - (iI 1))).toNatClampNeg), .null]) (st' := [.int (iI 1)]) (S' := ((q_up (q_up (q_up M 27 31 ((M 27 31) - (iI 1))) 27 29 ((M 27 29) - (iI 1))) 27 29 (((M 27 29) - (iI 1)) - (iI 1))), L)) rfl ?_
      exact h
    · have h := h.2 hc
      refine V.run 2 (pc' := 82) (ls' := [.ref 27, .int (M 39 (((M 27 31) - (iI 1))).toNatClampNeg), .int (M 38 (((M 27 29) - (iI 1))).toNatClampNeg), .int (M 38 ((((M 27 29) - (iI 1)) - (iI 1))).toNatClampNeg), .null]) (st' := [.int (iI 37), .int (M 39 (((M 27 31) - (iI 1))).toNatClampNeg)]) (S' := ((q_up (q_up (q_up M 27 31 ((M 27 31) - (iI 1))) 27 29 ((M 27 29) - (iI 1))) 27 29 (((M 27 29) - (iI 1)) - (iI 1))), L)) rfl ?_
      refine V.icmp (cd := .ne) rfl (fun hc => ?_) (fun hc => ?_)
      · have h := h.1 hc
        refine V.run 1 (pc' := 90) (ls' := [.ref 27, .int (M 39 (((M 27 31) - (iI 1))).toNatClampNeg), .int (M 38 (((M 27 29) - (iI 1))).toNatClampNeg), .int (M 38 ((((M 27 29) - (iI 1)) - (iI 1))).toNatClampNeg), .null]) (st' := [.int (iI 0)]) (S' := ((q_up (q_up (q_up M 27 31 ((M 27 31) - (iI 1))) 27 29 ((M 27 29) - (iI 1))) 27 29 (((M 27 29) - (iI 1)) - (iI 1))), L)) rfl ?_
        exact h
      · have h := h.2 hc
        refine V.run 2 (pc' := 90) (ls' := [.ref 27, .int (M 39 (((M 27 31) - (iI 1))).toNatClampNeg), .int (M 38 (((M 27 29) - (iI 1))).toNatClampNeg), .int (M 38 ((((M 27 29) - (iI 1)) - (iI 1))).toNatClampNeg), .null]) (st' := [.int (iI 1)]) (S' := ((q_up (q_up (q_up M 27 31 ((M 27 31) - (iI 1))) 27 29 ((M 27 29) - (iI 1))) 27 29 (((M 27 29) - (iI 1)) - (iI 1))), L)) rfl ?_
        exact h
  · have h := h.2 hc
    refine V.run 3 (pc' := 49) (ls' := [.ref 27, .int (M 39 (((M 27 31) - (iI 1))).toNatClampNeg), .int (M 38 (((M 27 29) - (iI 1))).toNatClampNeg), .null, .null]) (st' := [.int (-(M 38 (((M 27 29) - (iI 1))).toNatClampNeg)), .ref 27]) (S' := ((q_up (q_up M 27 31 ((M 27 31) - (iI 1))) 27 29 ((M 27 29) - (iI 1))), L)) rfl ?_
    obtain ⟨P1, hv1, h⟩ := h
    refine V.callVv (T2 := T_TapedLinesModel_push) (As := [.int (-(M 38 (((M 27 29) - (iI 1))).toNatClampNeg))]) (rest := []) rfl rfl g_TapedLinesModel_push rfl rfl rfl rfl (Nat.le_of_ble_eq_true rfl) (by simp [Value.category]) (by simp [Value.category]) (Nat.le_of_ble_eq_true rfl) (Nat.le_refl _) hv1 (fun M1 hq => ?_)
    have h := h M1 hq
    exact V.vret rfl rfl ⟨_, rfl, rfl, h⟩
set_option maxRecDepth 100000 in
set_option maxHeartbeats 4000000 in
theorem s_TapedLinesModel_apply_90 {l : Launch} {Γ : qG} {d r : Nat} {M : qM} {L : Nat → Int64} {P : qM → Prop} (v1 v2 v3 w0 : Int32) (h : (w0 = 0 → V l Γ T_TapedLinesModel_apply (d + 1) r 107 [.ref 27, .int v1, .int v2, .int v3, .null] [] (M, L) (q_n L P)) ∧ (¬ w0 = 0 → (¬ v2 = 0 → V l Γ T_TapedLinesModel_apply (d + 1) r 107 [.ref 27, .int v1, .int v2, .int v3, .null] [] (M, L) (q_n L P)) ∧ (¬ (¬ v2 = 0) → P (q_up M 27 26 (iI 5))))) : V l Γ T_TapedLinesModel_apply (d + 1) r 90 [.ref 27, .int v1, .int v2, .int v3, .null] [.int w0] (M, L) (q_n L P) := by
  refine V.run 2 (pc' := 94) (ls' := [.ref 27, .int v1, .int v2, .int v3, .int w0]) (st' := [.int w0]) (S' := (M, L)) rfl ?_
  refine V.ifc (cd := .eq) rfl (fun hc => ?_) (fun hc => ?_)
  · have h := h.1 hc
    refine V.forget (ls' := [.ref 27, .int v1, .int v2, .int v3, .null]) ⟨Or.inr rfl, Or.inr rfl, Or.inr rfl, Or.inr rfl, Or.inl rfl, trivial⟩ ?_
    exact h
  · have h := h.2 hc
    refine V.run 1 (pc' := 98) (ls' := [.ref 27, .int v1, .int v2, .int v3, .int w0]) (st' := [.int v2]) (S' := (M, L)) rfl ?_
    refine V.ifc (cd := .ne) rfl (fun hc => ?_) (fun hc => ?_)
    · have h := h.1 hc
      refine V.forget (ls' := [.ref 27, .int v1, .int v2, .int v3, .null]) ⟨Or.inr rfl, Or.inr rfl, Or.inr rfl, Or.inr rfl, Or.inl rfl, trivial⟩ ?_
      exact h
    · have h := h.2 hc
      refine V.run 3 (pc' := 106) (ls' := [.ref 27, .int v1, .int v2, .int v3, .int w0]) (st' := []) (S' := ((q_up M 27 26 (iI 5)), L)) rfl ?_
      exact V.vret rfl rfl ⟨_, rfl, rfl, h⟩
set_option maxRecDepth 100000 in
set_option maxHeartbeats 4000000 in
theorem s_TapedLinesModel_apply_107 {l : Launch} {Γ : qG} {d r : Nat} {M : qM} {L : Nat → Int64} {P : qM → Prop} (v1 v2 v3 : Int32) (h : ((v1).toInt = 37 → ¬ v2 = 0 ∧ ∃ P1 : qM → Prop, V l Γ T_TapedLinesModel_push d 0 0 [.ref 27, .int (v3 - v3 / v2 * v2)] [] (M, L) (q_n L P1) ∧ ∀ (M1 : qM), P1 M1 → P M1) ∧ (¬ (v1).toInt = 37 → ((v1).toInt = 42 → ∃ P2 : qM → Prop, V l Γ T_TapedLinesModel_push d 0 0 [.ref 27, .int (v3 * v2)] [] (M, L) (q_n L P2) ∧ ∀ (M2 : qM), P2 M2 → P M2) ∧ (¬ (v1).toInt = 42 → ((v1).toInt = 43 → ∃ P3 : qM → Prop, V l Γ T_TapedLinesModel_push d 0 0 [.ref 27, .int (v3 + v2)] [] (M, L) (q_n L P3) ∧ ∀ (M3 : qM), P3 M3 → P M3) ∧ (¬ (v1).toInt = 43 → ((v1).toInt = 45 → ∃ P4 : qM → Prop, V l Γ T_TapedLinesModel_push d 0 0 [.ref 27, .int (v3 - v2)] [] (M, L) (q_n L P4) ∧ ∀ (M4 : qM), P4 M4 → P M4) ∧ (¬ (v1).toInt = 45 → ((v1).toInt = 47 → ¬ v2 = 0 ∧ ∃ P5 : qM → Prop, V l Γ T_TapedLinesModel_push d 0 0 [.ref 27, .int (v3 / v2)] [] (M, L) (q_n L P5) ∧ ∀ (M5 : qM), P5 M5 → P M5) ∧ (¬ (v1).toInt = 47 → (¬ v1 = (iI 61) → (¬ v1 = (iI 60) → (v3 ≤ v2 → ∃ P6 : qM → Prop, V l Γ T_TapedLinesModel_push d 0 0 [.ref 27, .int (iI 0)] [] (M, L) (q_n L P6) ∧ ∀ (M6 : qM), P6 M6 → P M6) ∧ (¬ v3 ≤ v2 → ∃ P7 : qM → Prop, V l Γ T_TapedLinesModel_push d 0 0 [.ref 27, .int (iI 1)] [] (M, L) (q_n L P7) ∧ ∀ (M7 : qM), P7 M7 → P M7)) ∧ (¬ (¬ v1 = (iI 60)) → (v2 ≤ v3 → ∃ P8 : qM → Prop, V l Γ T_TapedLinesModel_push d 0 0 [.ref 27, .int (iI 0)] [] (M, L) (q_n L P8) ∧ ∀ (M8 : qM), P8 M8 → P M8) ∧ (¬ v2 ≤ v3 → ∃ P9 : qM → Prop, V l Γ T_TapedLinesModel_push d 0 0 [.ref 27, .int (iI 1)] [] (M, L) (q_n L P9) ∧ ∀ (M9 : qM), P9 M9 → P M9))) ∧ (¬ (¬ v1 = (iI 61)) → (¬ v3 = v2 → ∃ P10 : qM → Prop, V l Γ T_TapedLinesModel_push d 0 0 [.ref 27, .int (iI 0)] [] (M, L) (q_n L P10) ∧ ∀ (M10 : qM), P10 M10 → P M10) ∧ (¬ (¬ v3 = v2) → ∃ P11 : qM → Prop, V l Γ T_TapedLinesModel_push d 0 0 [.ref 27, .int (iI 1)] [] (M, L) (q_n L P11) ∧ ∀ (M11 : qM), P11 M11 → P M11)))))))) : V l Γ T_TapedLinesModel_apply (d + 1) r 107 [.ref 27, .int v1, .int v2, .int v3, .null] [] (M, L) (q_n L P) := by
  refine V.run 1 (pc' := 108) (ls' := [.ref 27, .int v1, .int v2, .int v3, .null]) (st' := [.int v1]) (S' := (M, L)) rfl ?_
  refine V.swt rfl 218 [(37, 208), (42, 188), (43, 168), (45, 178), (47, 198)] (by decide) (by decide) (by decide) ?_
  refine q_swP.c (fun hc => ?_) (fun hc => ?_)
  · have h := h.1 hc
    refine V.run 3 (pc' := 211) (ls' := [.ref 27, .int v1, .int v2, .int v3, .null]) (st' := [.int v2, .int v3, .ref 27]) (S' := (M, L)) rfl ?_
    refine V.irem rfl h.1 ?_
    have h := h.2
    obtain ⟨P1, hv1, h⟩ := h
    refine V.callVv (T2 := T_TapedLinesModel_push) (As := [.int (v3 - v3 / v2 * v2)]) (rest := []) rfl rfl g_TapedLinesModel_push rfl rfl rfl rfl (Nat.le_of_ble_eq_true rfl) (by simp [Value.category]) (by simp [Value.category]) (Nat.le_of_ble_eq_true rfl) (Nat.le_refl _) hv1 (fun M1 hq => ?_)
    have h := h M1 hq
    refine V.run 1 (pc' := 260) (ls' := [.ref 27, .int v1, .int v2, .int v3, .null]) (st' := []) (S' := (M1, L)) rfl ?_
    exact V.vret rfl rfl ⟨_, rfl, rfl, h⟩
  · have h := h.2 hc
    refine q_swP.c (fun hc => ?_) (fun hc => ?_)
    · have h := h.1 hc
      refine V.run 4 (pc' := 192) (ls' := [.ref 27, .int v1, .int v2, .int v3, .null]) (st' := [.int (v3 * v2), .ref 27]) (S' := (M, L)) rfl ?_
      obtain ⟨P2, hv2, h⟩ := h
      refine V.callVv (T2 := T_TapedLinesModel_push) (As := [.int (v3 * v2)]) (rest := []) rfl rfl g_TapedLinesModel_push rfl rfl rfl rfl (Nat.le_of_ble_eq_true rfl) (by simp [Value.category]) (by simp [Value.category]) (Nat.le_of_ble_eq_true rfl) (Nat.le_refl _) hv2 (fun M2 hq => ?_)
      have h := h M2 hq
      refine V.run 1 (pc' := 260) (ls' := [.ref 27, .int v1, .int v2, .int v3, .null]) (st' := []) (S' := (M2, L)) rfl ?_
      exact V.vret rfl rfl ⟨_, rfl, rfl, h⟩
    · have h := h.2 hc
      refine q_swP.c (fun hc => ?_) (fun hc => ?_)
      · have h := h.1 hc
        refine V.run 4 (pc' := 172) (ls' := [.ref 27, .int v1, .int v2, .int v3, .null]) (st' := [.int (v3 + v2), .ref 27]) (S' := (M, L)) rfl ?_
        obtain ⟨P3, hv3, h⟩ := h
        refine V.callVv (T2 := T_TapedLinesModel_push) (As := [.int (v3 + v2)]) (rest := []) rfl rfl g_TapedLinesModel_push rfl rfl rfl rfl (Nat.le_of_ble_eq_true rfl) (by simp [Value.category]) (by simp [Value.category]) (Nat.le_of_ble_eq_true rfl) (Nat.le_refl _) hv3 (fun M3 hq => ?_)
        have h := h M3 hq
        refine V.run 1 (pc' := 260) (ls' := [.ref 27, .int v1, .int v2, .int v3, .null]) (st' := []) (S' := (M3, L)) rfl ?_
        exact V.vret rfl rfl ⟨_, rfl, rfl, h⟩
      · have h := h.2 hc
        refine q_swP.c (fun hc => ?_) (fun hc => ?_)
        · have h := h.1 hc
          refine V.run 4 (pc' := 182) (ls' := [.ref 27, .int v1, .int v2, .int v3, .null]) (st' := [.int (v3 - v2), .ref 27]) (S' := (M, L)) rfl ?_
          obtain ⟨P4, hv4, h⟩ := h
          refine V.callVv (T2 := T_TapedLinesModel_push) (As := [.int (v3 - v2)]) (rest := []) rfl rfl g_TapedLinesModel_push rfl rfl rfl rfl (Nat.le_of_ble_eq_true rfl) (by simp [Value.category]) (by simp [Value.category]) (Nat.le_of_ble_eq_true rfl) (Nat.le_refl _) hv4 (fun M4 hq => ?_)
          have h := h M4 hq
          refine V.run 1 (pc' := 260) (ls' := [.ref 27, .int v1, .int v2, .int v3, .null]) (st' := []) (S' := (M4, L)) rfl ?_
          exact V.vret rfl rfl ⟨_, rfl, rfl, h⟩
        · have h := h.2 hc
          refine q_swP.c (fun hc => ?_) (fun hc => ?_)
          · have h := h.1 hc
            refine V.run 3 (pc' := 201) (ls' := [.ref 27, .int v1, .int v2, .int v3, .null]) (st' := [.int v2, .int v3, .ref 27]) (S' := (M, L)) rfl ?_
            refine V.idiv rfl h.1 ?_
            have h := h.2
            obtain ⟨P5, hv5, h⟩ := h
            refine V.callVv (T2 := T_TapedLinesModel_push) (As := [.int (v3 / v2)]) (rest := []) rfl rfl g_TapedLinesModel_push rfl rfl rfl rfl (Nat.le_of_ble_eq_true rfl) (by simp [Value.category]) (by simp [Value.category]) (Nat.le_of_ble_eq_true rfl) (Nat.le_refl _) hv5 (fun M5 hq => ?_)
            have h := h M5 hq
            refine V.run 1 (pc' := 260) (ls' := [.ref 27, .int v1, .int v2, .int v3, .null]) (st' := []) (S' := (M5, L)) rfl ?_
            exact V.vret rfl rfl ⟨_, rfl, rfl, h⟩
          · have h := h.2 hc
            refine q_swP.e ?_
            refine V.run 3 (pc' := 222) (ls' := [.ref 27, .int v1, .int v2, .int v3, .null]) (st' := [.int (iI 61), .int v1, .ref 27]) (S' := (M, L)) rfl ?_
            refine V.icmp (cd := .ne) rfl (fun hc => ?_) (fun hc => ?_)
            · have h := h.1 hc
              refine V.run 2 (pc' := 236) (ls' := [.ref 27, .int v1, .int v2, .int v3, .null]) (st' := [.int (iI 60), .int v1, .ref 27]) (S' := (M, L)) rfl ?_
              refine V.icmp (cd := .ne) rfl (fun hc => ?_) (fun hc => ?_)
              · have h := h.1 hc
                refine V.run 2 (pc' := 249) (ls' := [.ref 27, .int v1, .int v2, .int v3, .null]) (st' := [.int v2, .int v3, .ref 27]) (S' := (M, L)) rfl ?_
                refine V.icmp (cd := .le) rfl (fun hc => ?_) (fun hc => ?_)
                · have h := h.1 hc
                  refine V.run 1 (pc' := 257) (ls' := [.ref 27, .int v1, .int v2, .int v3, .null]) (st' := [.int (iI 0), .ref 27]) (S' := (M, L)) rfl ?_
                  obtain ⟨P6, hv6, h⟩ := h
                  refine V.callVv (T2 := T_TapedLinesModel_push) (As := [.int (iI 0)]) (rest := []) rfl rfl g_TapedLinesModel_push rfl rfl rfl rfl (Nat.le_of_ble_eq_true rfl) (by simp [Value.category]) (by simp [Value.category]) (Nat.le_of_ble_eq_true rfl) (Nat.le_refl _) hv6 (fun M6 hq => ?_)
                  have h := h M6 hq
                  exact V.vret rfl rfl ⟨_, rfl, rfl, h⟩
                · have h := h.2 hc
                  refine V.run 2 (pc' := 257) (ls' := [.ref 27, .int v1, .int v2, .int v3, .null]) (st' := [.int (iI 1), .ref 27]) (S' := (M, L)) rfl ?_
                  obtain ⟨P7, hv7, h⟩ := h
                  refine V.callVv (T2 := T_TapedLinesModel_push) (As := [.int (iI 1)]) (rest := []) rfl rfl g_TapedLinesModel_push rfl rfl rfl rfl (Nat.le_of_ble_eq_true rfl) (by simp [Value.category]) (by simp [Value.category]) (Nat.le_of_ble_eq_true rfl) (Nat.le_refl _) hv7 (fun M7 hq => ?_)
                  have h := h M7 hq
                  exact V.vret rfl rfl ⟨_, rfl, rfl, h⟩
              · have h := h.2 hc
                refine V.run 2 (pc' := 241) (ls' := [.ref 27, .int v1, .int v2, .int v3, .null]) (st' := [.int v2, .int v3, .ref 27]) (S' := (M, L)) rfl ?_
                refine V.icmp (cd := .ge) rfl (fun hc => ?_) (fun hc => ?_)
                · have h := h.1 hc
                  refine V.run 1 (pc' := 257) (ls' := [.ref 27, .int v1, .int v2, .int v3, .null]) (st' := [.int (iI 0), .ref 27]) (S' := (M, L)) rfl ?_
                  obtain ⟨P8, hv8, h⟩ := h
                  refine V.callVv (T2 := T_TapedLinesModel_push) (As := [.int (iI 0)]) (rest := []) rfl rfl g_TapedLinesModel_push rfl rfl rfl rfl (Nat.le_of_ble_eq_true rfl) (by simp [Value.category]) (by simp [Value.category]) (Nat.le_of_ble_eq_true rfl) (Nat.le_refl _) hv8 (fun M8 hq => ?_)
                  have h := h M8 hq
                  exact V.vret rfl rfl ⟨_, rfl, rfl, h⟩
                · have h := h.2 hc
                  refine V.run 3 (pc' := 257) (ls' := [.ref 27, .int v1, .int v2, .int v3, .null]) (st' := [.int (iI 1), .ref 27]) (S' := (M, L)) rfl ?_
                  obtain ⟨P9, hv9, h⟩ := h
                  refine V.callVv (T2 := T_TapedLinesModel_push) (As := [.int (iI 1)]) (rest := []) rfl rfl g_TapedLinesModel_push rfl rfl rfl rfl (Nat.le_of_ble_eq_true rfl) (by simp [Value.category]) (by simp [Value.category]) (Nat.le_of_ble_eq_true rfl) (Nat.le_refl _) hv9 (fun M9 hq => ?_)
                  have h := h M9 hq
                  exact V.vret rfl rfl ⟨_, rfl, rfl, h⟩
            · have h := h.2 hc
              refine V.run 2 (pc' := 227) (ls' := [.ref 27, .int v1, .int v2, .int v3, .null]) (st' := [.int v2, .int v3, .ref 27]) (S' := (M, L)) rfl ?_
              refine V.icmp (cd := .ne) rfl (fun hc => ?_) (fun hc => ?_)
              · have h := h.1 hc
                refine V.run 1 (pc' := 257) (ls' := [.ref 27, .int v1, .int v2, .int v3, .null]) (st' := [.int (iI 0), .ref 27]) (S' := (M, L)) rfl ?_
                obtain ⟨P10, hv10, h⟩ := h
                refine V.callVv (T2 := T_TapedLinesModel_push) (As := [.int (iI 0)]) (rest := []) rfl rfl g_TapedLinesModel_push rfl rfl rfl rfl (Nat.le_of_ble_eq_true rfl) (by simp [Value.category]) (by simp [Value.category]) (Nat.le_of_ble_eq_true rfl) (Nat.le_refl _) hv10 (fun M10 hq => ?_)
                have h := h M10 hq
                exact V.vret rfl rfl ⟨_, rfl, rfl, h⟩
              · have h := h.2 hc
                refine V.run 3 (pc' := 257) (ls' := [.ref 27, .int v1, .int v2, .int v3, .null]) (st' := [.int (iI 1), .ref 27]) (S' := (M, L)) rfl ?_
                obtain ⟨P11, hv11, h⟩ := h
                refine V.callVv (T2 := T_TapedLinesModel_push) (As := [.int (iI 1)]) (rest := []) rfl rfl g_TapedLinesModel_push rfl rfl rfl rfl (Nat.le_of_ble_eq_true rfl) (by simp [Value.category]) (by simp [Value.category]) (Nat.le_of_ble_eq_true rfl) (Nat.le_refl _) hv11 (fun M11 hq => ?_)
                have h := h M11 hq
                exact V.vret rfl rfl ⟨_, rfl, rfl, h⟩
set_option maxRecDepth 100000 in
set_option maxHeartbeats 4000000 in
theorem s_TapedLinesModel_applyDown_0 {l : Launch} {Γ : qG} {d r : Nat} {M : qM} {L : Nat → Int64} {P : qM → Prop} (a : Int32) (h : (¬ (M 27 26) = 0 → P M) ∧ (¬ (¬ (M 27 26) = 0) → ((M 27 31) ≤ 0 → P M) ∧ (¬ (M 27 31) ≤ 0 → vp_in ((M 27 31) - (iI 1)) 260 ∧ ∃ P1 : Int32 → qM → Prop, V l Γ T_TapedLinesModel_rank d 0 0 [.int (M 39 (((M 27 31) - (iI 1))).toNatClampNeg)] [] (M, L) (q_i L P1) ∧ ∀ (x1 : Int32) (M1 : qM), P1 x1 M1 → (x1 < a → P M1) ∧ (¬ x1 < a → ∃ P2 : qM → Prop, V l Γ T_TapedLinesModel_apply d 0 0 [.ref 27, .null, .null, .null, .null] [] (M1, L) (q_n L P2) ∧ ∀ (M2 : qM), P2 M2 → V l Γ T_TapedLinesModel_applyDown (d + 1) r 0 [.ref 27, .int a] [] (M2, L) (q_n L P))))) : V l Γ T_TapedLinesModel_applyDown (d + 1) r 0 [.ref 27, .int a] [] (M, L) (q_n L P) := by
  refine V.run 2 (pc' := 4) (ls' := [.ref 27, .int a]) (st' := [.int (M 27 26)]) (S' := (M, L)) rfl ?_
  refine V.ifc (cd := .ne) rfl (fun hc => ?_) (fun hc => ?_)
  · have h := h.1 hc
    exact V.vret rfl rfl ⟨_, rfl, rfl, h⟩
  · have h := h.2 hc
    refine V.run 2 (pc' := 11) (ls' := [.ref 27, .int a]) (st' := [.int (M 27 31)]) (S' := (M, L)) rfl ?_
    refine V.ifc (cd := .le) rfl (fun hc => ?_) (fun hc => ?_)
    · have h := h.1 hc
      exact V.vret rfl rfl ⟨_, rfl, rfl, h⟩
    · have h := h.2 hc
      refine V.run 6 (pc' := 24) (ls' := [.ref 27, .int a]) (st' := [.int ((M 27 31) - (iI 1)), .ref 39]) (S' := (M, L)) rfl ?_
      refine V.iald rfl rfl h.1 ?_
      have h := h.2
      obtain ⟨P1, hv1, h⟩ := h
      refine V.callSi (T2 := T_TapedLinesModel_rank) (As := [.int (M 39 (((M 27 31) - (iI 1))).toNatClampNeg)]) (rest := []) rfl rfl g_TapedLinesModel_rank rfl (Nat.le_of_ble_eq_true rfl) (by simp [Value.category]) (by simp [Value.category]) (Nat.le_of_ble_eq_true rfl) (Nat.le_refl _) hv1 (fun x1 M1 hq => ?_)
      have h := h x1 M1 hq
      refine V.run 1 (pc' := 29) (ls' := [.ref 27, .int a]) (st' := [.int a, .int x1]) (S' := (M1, L)) rfl ?_
      refine V.icmp (cd := .lt) rfl (fun hc => ?_) (fun hc => ?_)
      · have h := h.1 hc
        exact V.vret rfl rfl ⟨_, rfl, rfl, h⟩
      · have h := h.2 hc
        refine V.run 1 (pc' := 33) (ls' := [.ref 27, .int a]) (st' := [.ref 27]) (S' := (M1, L)) rfl ?_
        obtain ⟨P2, hv2, h⟩ := h
        refine V.callVv (T2 := T_TapedLinesModel_apply) (As := []) (rest := []) rfl rfl g_TapedLinesModel_apply rfl rfl rfl rfl (Nat.le_of_ble_eq_true rfl) (by simp [Value.category]) (by simp [Value.category]) (Nat.le_of_ble_eq_true rfl) (Nat.le_refl _) hv2 (fun M2 hq => ?_)
        have h := h M2 hq
        refine V.run 1 (pc' := 0) (ls' := [.ref 27, .int a]) (st' := []) (S' := (M2, L)) rfl ?_
        exact h
set_option maxRecDepth 100000 in
set_option maxHeartbeats 4000000 in
theorem s_TapedLinesModel_workOne_0 {l : Launch} {Γ : qG} {d r : Nat} {M : qM} {L : Nat → Int64} {P : Int32 → qM → Prop} (a b : Int32) (h : vp_in a 260 ∧ ∃ P1 : Int32 → qM → Prop, V l Γ T_TapedLinesModel_isDigit d 0 0 [.int (M 30 (a).toNatClampNeg)] [] (M, L) (q_i L P1) ∧ ∀ (x1 : Int32) (M1 : qM), P1 x1 M1 → (x1 = 0 → ∃ P2 : Int32 → qM → Prop, V l Γ T_TapedLinesModel_isVariable d 0 0 [.int (M 30 (a).toNatClampNeg)] [] (M1, L) (q_i L P2) ∧ ∀ (x2 : Int32) (M2 : qM), P2 x2 M2 → (x2 = 0 → (¬ (M 30 (a).toNatClampNeg) = (iI 45) → V l Γ T_TapedLinesModel_workOne (d + 1) r 116 [.ref 27, .null, .null, .int (M 30 (a).toNatClampNeg), .null, .null] [.int (M 30 (a).toNatClampNeg), .int (M2 27 31), .ref 39] (M2, L) (q_i L P)) ∧ (¬ (¬ (M 30 (a).toNatClampNeg) = (iI 45)) → V l Γ T_TapedLinesModel_workOne (d + 1) r 116 [.ref 27, .null, .null, .int (M 30 (a).toNatClampNeg), .null, .null] [.int (iI 109), .int (M2 27 31), .ref 39] (M2, L) (q_i L P))) ∧ (¬ x2 = 0 → vp_in ((M 30 (a).toNatClampNeg) - (iI 97)) 8 ∧ ∃ P3 : qM → Prop, V l Γ T_TapedLinesModel_push d 0 0 [.ref 27, .int (M2 31 (((M 30 (a).toNatClampNeg) - (iI 97))).toNatClampNeg)] [] (M2, L) (q_n L P3) ∧ ∀ (M3 : qM), P3 M3 → P (iI 1) M3)) ∧ (¬ x1 = 0 → V l Γ T_TapedLinesModel_workOne (d + 1) r 20 [.ref 27, .int a, .int b, .null, .int a, .int (iI 0)] [] (M1, L) (q_i L P))) : V l Γ T_TapedLinesModel_workOne (d + 1) r 0 [.ref 27, .int a, .int b, .null, .null, .null] [] (M, L) (q_i L P) := by
  refine V.run 3 (pc' := 5) (ls' := [.ref 27, .int a, .int b, .null, .null, .null]) (st' := [.int a, .ref 30]) (S' := (M, L)) rfl ?_
  refine V.iald rfl rfl h.1 ?_
  have h := h.2
  refine V.run 2 (pc' := 8) (ls' := [.ref 27, .int a, .int b, .int (M 30 (a).toNatClampNeg), .null, .null]) (st' := [.int (M 30 (a).toNatClampNeg)]) (S' := (M, L)) rfl ?_
  obtain ⟨P1, hv1, h⟩ := h
  refine V.callSi (T2 := T_TapedLinesModel_isDigit) (As := [.int (M 30 (a).toNatClampNeg)]) (rest := []) rfl rfl g_TapedLinesModel_isDigit rfl (Nat.le_of_ble_eq_true rfl) (by simp [Value.category]) (by simp [Value.category]) (Nat.le_of_ble_eq_true rfl) (Nat.le_refl _) hv1 (fun x1 M1 hq => ?_)
  have h := h x1 M1 hq
  refine V.ifc (cd := .eq) rfl (fun hc => ?_) (fun hc => ?_)
  · have h := h.1 hc
    refine V.run 1 (pc' := 75) (ls' := [.ref 27, .int a, .int b, .int (M 30 (a).toNatClampNeg), .null, .null]) (st' := [.int (M 30 (a).toNatClampNeg)]) (S' := (M1, L)) rfl ?_
    obtain ⟨P2, hv2, h⟩ := h
    refine V.callSi (T2 := T_TapedLinesModel_isVariable) (As := [.int (M 30 (a).toNatClampNeg)]) (rest := []) rfl rfl g_TapedLinesModel_isVariable rfl (Nat.le_of_ble_eq_true rfl) (by simp [Value.category]) (by simp [Value.category]) (Nat.le_of_ble_eq_true rfl) (Nat.le_refl _) hv2 (fun x2 M2 hq => ?_)
    have h := h x2 M2 hq
    refine V.ifc (cd := .eq) rfl (fun hc => ?_) (fun hc => ?_)
    · have h := h.1 hc
      refine V.run 6 (pc' := 107) (ls' := [.ref 27, .int a, .int b, .int (M 30 (a).toNatClampNeg), .null, .null]) (st' := [.int (iI 45), .int (M 30 (a).toNatClampNeg), .int (M2 27 31), .ref 39]) (S' := (M2, L)) rfl ?_
      refine V.icmp (cd := .ne) rfl (fun hc => ?_) (fun hc => ?_)
      · have h := h.1 hc
        refine V.run 1 (pc' := 116) (ls' := [.ref 27, .int a, .int b, .int (M 30 (a).toNatClampNeg), .null, .null]) (st' := [.int (M 30 (a).toNatClampNeg), .int (M2 27 31), .ref 39]) (S' := (M2, L)) rfl ?_
        refine V.forget (ls' := [.ref 27, .null, .null, .int (M 30 (a).toNatClampNeg), .null, .null]) ⟨Or.inr rfl, Or.inl rfl, Or.inl rfl, Or.inr rfl, Or.inl rfl, Or.inl rfl, trivial⟩ ?_
        exact h
      · have h := h.2 hc
        refine V.run 2 (pc' := 116) (ls' := [.ref 27, .int a, .int b, .int (M 30 (a).toNatClampNeg), .null, .null]) (st' := [.int (iI 109), .int (M2 27 31), .ref 39]) (S' := (M2, L)) rfl ?_
        refine V.forget (ls' := [.ref 27, .null, .null, .int (M 30 (a).toNatClampNeg), .null, .null]) ⟨Or.inr rfl, Or.inl rfl, Or.inl rfl, Or.inr rfl, Or.inl rfl, Or.inl rfl, trivial⟩ ?_
        exact h
    · have h := h.2 hc
      refine V.run 6 (pc' := 90) (ls' := [.ref 27, .int a, .int b, .int (M 30 (a).toNatClampNeg), .null, .null]) (st' := [.int ((M 30 (a).toNatClampNeg) - (iI 97)), .ref 31, .ref 27]) (S' := (M2, L)) rfl ?_
      refine V.iald rfl rfl h.1 ?_
      have h := h.2
      obtain ⟨P3, hv3, h⟩ := h
      refine V.callVv (T2 := T_TapedLinesModel_push) (As := [.int (M2 31 (((M 30 (a).toNatClampNeg) - (iI 97))).toNatClampNeg)]) (rest := []) rfl rfl g_TapedLinesModel_push rfl rfl rfl rfl (Nat.le_of_ble_eq_true rfl) (by simp [Value.category]) (by simp [Value.category]) (Nat.le_of_ble_eq_true rfl) (Nat.le_refl _) hv3 (fun M3 hq => ?_)
      have h := h M3 hq
      refine V.run 1 (pc' := 95) (ls' := [.ref 27, .int a, .int b, .int (M 30 (a).toNatClampNeg), .null, .null]) (st' := [.int (iI 1)]) (S' := (M3, L)) rfl ?_
      exact V.iret rfl rfl ⟨_, _, rfl, rfl, h⟩
  · have h := h.2 hc
    refine V.run 4 (pc' := 20) (ls' := [.ref 27, .int a, .int b, .int (M 30 (a).toNatClampNeg), .int a, .int (iI 0)]) (st' := []) (S' := (M1, L)) rfl ?_
    refine V.forget (ls' := [.ref 27, .int a, .int b, .null, .int a, .int (iI 0)]) ⟨Or.inr rfl, Or.inr rfl, Or.inr rfl, Or.inl rfl, Or.inr rfl, Or.inr rfl, trivial⟩ ?_
    exact h
set_option maxRecDepth 100000 in
set_option maxHeartbeats 4000000 in
theorem s_TapedLinesModel_workOne_20 {l : Launch} {Γ : qG} {d r : Nat} {M : qM} {L : Nat → Int64} {P : Int32 → qM → Prop} (v1 v2 v4 v5 : Int32) (h : (v2 ≤ v4 → ∃ P1 : qM → Prop, V l Γ T_TapedLinesModel_push d 0 0 [.ref 27, .int v5] [] (M, L) (q_n L P1) ∧ ∀ (M1 : qM), P1 M1 → P (v4 - v1) M1) ∧ (¬ v2 ≤ v4 → vp_in v4 260 ∧ ∃ P2 : Int32 → qM → Prop, V l Γ T_TapedLinesModel_isDigit d 0 0 [.int (M 30 (v4).toNatClampNeg)] [] (M, L) (q_i L P2) ∧ ∀ (x2 : Int32) (M2 : qM), P2 x2 M2 → (x2 = 0 → ∃ P3 : qM → Prop, V l Γ T_TapedLinesModel_push d 0 0 [.ref 27, .int v5] [] (M2, L) (q_n L P3) ∧ ∀ (M3 : qM), P3 M3 → P (v4 - v1) M3) ∧ (¬ x2 = 0 → vp_in v4 260 ∧ V l Γ T_TapedLinesModel_workOne (d + 1) r 20 [.ref 27, .int v1, .int v2, .null, .int (v4 + (iI 1)), .int ((((iI 10) * v5) + (M2 30 (v4).toNatClampNeg)) - (iI 48))] [] (M2, L) (q_i L P)))) : V l Γ T_TapedLinesModel_workOne (d + 1) r 20 [.ref 27, .int v1, .int v2, .null, .int v4, .int v5] [] (M, L) (q_i L P) := by
  refine V.run 2 (pc' := 23) (ls' := [.ref 27, .int v1, .int v2, .null, .int v4, .int v5]) (st' := [.int v2, .int v4]) (S' := (M, L)) rfl ?_
  refine V.icmp (cd := .ge) rfl (fun hc => ?_) (fun hc => ?_)
  · have h := h.1 hc
    refine V.run 2 (pc' := 66) (ls' := [.ref 27, .int v1, .int v2, .null, .int v4, .int v5]) (st' := [.int v5, .ref 27]) (S' := (M, L)) rfl ?_
    obtain ⟨P1, hv1, h⟩ := h
    refine V.callVv (T2 := T_TapedLinesModel_push) (As := [.int v5]) (rest := []) rfl rfl g_TapedLinesModel_push rfl rfl rfl rfl (Nat.le_of_ble_eq_true rfl) (by simp [Value.category]) (by simp [Value.category]) (Nat.le_of_ble_eq_true rfl) (Nat.le_refl _) hv1 (fun M1 hq => ?_)
    have h := h M1 hq
    refine V.run 3 (pc' := 73) (ls' := [.ref 27, .int v1, .int v2, .null, .int v4, .int v5]) (st' := [.int (v4 - v1)]) (S' := (M1, L)) rfl ?_
    exact V.iret rfl rfl ⟨_, _, rfl, rfl, h⟩
  · have h := h.2 hc
    refine V.run 3 (pc' := 32) (ls' := [.ref 27, .int v1, .int v2, .null, .int v4, .int v5]) (st' := [.int v4, .ref 30]) (S' := (M, L)) rfl ?_
    refine V.iald rfl rfl h.1 ?_
    have h := h.2
    obtain ⟨P2, hv2, h⟩ := h
    refine V.callSi (T2 := T_TapedLinesModel_isDigit) (As := [.int (M 30 (v4).toNatClampNeg)]) (rest := []) rfl rfl g_TapedLinesModel_isDigit rfl (Nat.le_of_ble_eq_true rfl) (by simp [Value.category]) (by simp [Value.category]) (Nat.le_of_ble_eq_true rfl) (Nat.le_refl _) hv2 (fun x2 M2 hq => ?_)
    have h := h x2 M2 hq
    refine V.ifc (cd := .eq) rfl (fun hc => ?_) (fun hc => ?_)
    · have h := h.1 hc
      refine V.run 2 (pc' := 66) (ls' := [.ref 27, .int v1, .int v2, .null, .int v4, .int v5]) (st' := [.int v5, .ref 27]) (S' := (M2, L)) rfl ?_
      obtain ⟨P3, hv3, h⟩ := h
      refine V.callVv (T2 := T_TapedLinesModel_push) (As := [.int v5]) (rest := []) rfl rfl g_TapedLinesModel_push rfl rfl rfl rfl (Nat.le_of_ble_eq_true rfl) (by simp [Value.category]) (by simp [Value.category]) (Nat.le_of_ble_eq_true rfl) (Nat.le_refl _) hv3 (fun M3 hq => ?_)
      have h := h M3 hq
      refine V.run 3 (pc' := 73) (ls' := [.ref 27, .int v1, .int v2, .null, .int v4, .int v5]) (st' := [.int (v4 - v1)]) (S' := (M3, L)) rfl ?_
      exact V.iret rfl rfl ⟨_, _, rfl, rfl, h⟩
    · have h := h.2 hc
      refine V.run 6 (pc' := 50) (ls' := [.ref 27, .int v1, .int v2, .null, .int v4, .int v5]) (st' := [.int v4, .ref 30, .int ((iI 10) * v5)]) (S' := (M2, L)) rfl ?_
      refine V.iald rfl rfl h.1 ?_
      have h := h.2
      refine V.run 6 (pc' := 20) (ls' := [.ref 27, .int v1, .int v2, .null, .int (v4 + (iI 1)), .int ((((iI 10) * v5) + (M2 30 (v4).toNatClampNeg)) - (iI 48))]) (st' := []) (S' := (M2, L)) rfl ?_
      exact h
set_option maxRecDepth 100000 in
set_option maxHeartbeats 4000000 in
theorem s_TapedLinesModel_workOne_116 {l : Launch} {Γ : qG} {d r : Nat} {M : qM} {L : Nat → Int64} {P : Int32 → qM → Prop} (v3 w0 w1 : Int32) (h : vp_in w1 260 ∧ (¬ v3 = (iI 64) → P (iI 1) (q_up (q_up M 39 (w1).toNatClampNeg w0) 27 31 ((M 27 31) + (iI 1)))) ∧ (¬ (¬ v3 = (iI 64)) → P (iI 2) (q_up (q_up M 39 (w1).toNatClampNeg w0) 27 31 ((M 27 31) + (iI 1))))) : V l Γ T_TapedLinesModel_workOne (d + 1) r 116 [.ref 27, .null, .null, .int v3, .null, .null] [.int w0, .int w1, .ref 39] (M, L) (q_i L P) := by
  refine V.iast rfl rfl h.1 ?_
  have h := h.2
  refine V.run 8 (pc' := 130) (ls' := [.ref 27, .null, .null, .int v3, .null, .null]) (st' := [.int (iI 64), .int v3]) (S' := ((q_up (q_up M 39 (w1).toNatClampNeg w0) 27 31 ((M 27 31) + (iI 1))), L)) rfl ?_
  refine V.icmp (cd := .ne) rfl (fun hc => ?_) (fun hc => ?_)
  · have h := h.1 hc
    refine V.run 1 (pc' := 138) (ls' := [.ref 27, .null, .null, .int v3, .null, .null]) (st' := [.int (iI 1)]) (S' := ((q_up (q_up M 39 (w1).toNatClampNeg w0) 27 31 ((M 27 31) + (iI 1))), L)) rfl ?_
    exact V.iret rfl rfl ⟨_, _, rfl, rfl, h⟩
  · have h := h.2 hc
    refine V.run 2 (pc' := 138) (ls' := [.ref 27, .null, .null, .int v3, .null, .null]) (st' := [.int (iI 2)]) (S' := ((q_up (q_up M 39 (w1).toNatClampNeg w0) 27 31 ((M 27 31) + (iI 1))), L)) rfl ?_
    exact V.iret rfl rfl ⟨_, _, rfl, rfl, h⟩
set_option maxRecDepth 100000 in
set_option maxHeartbeats 4000000 in
theorem s_TapedLinesModel_close_0 {l : Launch} {Γ : qG} {d r : Nat} {M : qM} {L : Nat → Int64} {P : qM → Prop} (h : ∃ P1 : qM → Prop, V l Γ T_TapedLinesModel_applyDown d 0 0 [.ref 27, .int (iI 1)] [] (M, L) (q_n L P1) ∧ ∀ (M1 : qM), P1 M1 → ((M1 27 26) ≤ 0 → vp_in ((M1 27 31) - (iI 1)) 260 ∧ (¬ (M1 39 (((M1 27 31) - (iI 1))).toNatClampNeg) = (iI 64) → P (q_up M1 27 31 ((M1 27 31) - (iI 1)))) ∧ (¬ (¬ (M1 39 (((M1 27 31) - (iI 1))).toNatClampNeg) = (iI 64)) → vp_in ((M1 27 29) - (iI 1)) 260 ∧ ((M1 38 (((M1 27 29) - (iI 1))).toNatClampNeg) < 0 → V l Γ T_TapedLinesModel_close (d + 1) r 74 [.ref 27, .int (M1 38 (((M1 27 29) - (iI 1))).toNatClampNeg)] [.int (iI 6), .ref 27] ((q_up (q_up M1 27 31 ((M1 27 31) - (iI 1))) 27 29 ((M1 27 29) - (iI 1))), L) (q_n L P)) ∧ (¬ (M1 38 (((M1 27 29) - (iI 1))).toNatClampNeg) < 0 → ((M1 38 (((M1 27 29) - (iI 1))).toNatClampNeg) ≤ (iI 15) → V l Γ T_TapedLinesModel_close (d + 1) r 74 [.ref 27, .int (M1 38 (((M1 27 29) - (iI 1))).toNatClampNeg)] [.int (iI 0), .ref 27] ((q_up (q_up M1 27 31 ((M1 27 31) - (iI 1))) 27 29 ((M1 27 29) - (iI 1))), L) (q_n L P)) ∧ (¬ (M1 38 (((M1 27 29) - (iI 1))).toNatClampNeg) ≤ (iI 15) → V l Γ T_TapedLinesModel_close (d + 1) r 74 [.ref 27, .int (M1 38 (((M1 27 29) - (iI 1))).toNatClampNeg)] [.int (iI 6), .ref 27] ((q_up (q_up M1 27 31 ((M1 27 31) - (iI 1))) 27 29 ((M1 27 29) - (iI 1))), L) (q_n L P))))) ∧ (¬ (M1 27 26) ≤ 0 → P M1)) : V l Γ T_TapedLinesModel_close (d + 1) r 0 [.ref 27, .null] [] (M, L) (q_n L P) := by
  refine V.run 2 (pc' := 2) (ls' := [.ref 27, .null]) (st' := [.int (iI 1), .ref 27]) (S' := (M, L)) rfl ?_
  obtain ⟨P1, hv1, h⟩ := h
  refine V.callVv (T2 := T_TapedLinesModel_applyDown) (As := [.int (iI 1)]) (rest := []) rfl rfl g_TapedLinesModel_applyDown rfl rfl rfl rfl (Nat.le_of_ble_eq_true rfl) (by simp [Value.category]) (by simp [Value.category]) (Nat.le_of_ble_eq_true rfl) (Nat.le_refl _) hv1 (fun M1 hq => ?_)
  have h := h M1 hq
  refine V.run 2 (pc' := 9) (ls' := [.ref 27, .null]) (st' := [.int (M1 27 26)]) (S' := (M1, L)) rfl ?_
  refine V.ifc (cd := .le) rfl (fun hc => ?_) (fun hc => ?_)
  · have h := h.1 hc
    refine V.run 10 (pc' := 31) (ls' := [.ref 27, .null]) (st' := [.int ((M1 27 31) - (iI 1)), .ref 39]) (S' := ((q_up M1 27 31 ((M1 27 31) - (iI 1))), L)) rfl ?_
    refine V.iald rfl rfl h.1 ?_
    have h := h.2
    refine V.run 1 (pc' := 34) (ls' := [.ref 27, .null]) (st' := [.int (iI 64), .int (M1 39 (((M1 27 31) - (iI 1))).toNatClampNeg)]) (S' := ((q_up M1 27 31 ((M1 27 31) - (iI 1))), L)) rfl ?_
    refine V.icmp (cd := .ne) rfl (fun hc => ?_) (fun hc => ?_)
    · have h := h.1 hc
      exact V.vret rfl rfl ⟨_, rfl, rfl, h⟩
    · have h := h.2 hc
      refine V.run 10 (pc' := 55) (ls' := [.ref 27, .null]) (st' := [.int ((M1 27 29) - (iI 1)), .ref 38]) (S' := ((q_up (q_up M1 27 31 ((M1 27 31) - (iI 1))) 27 29 ((M1 27 29) - (iI 1))), L)) rfl ?_
      refine V.iald rfl rfl h.1 ?_
      have h := h.2
      refine V.run 3 (pc' := 59) (ls' := [.ref 27, .int (M1 38 (((M1 27 29) - (iI 1))).toNatClampNeg)]) (st' := [.int (M1 38 (((M1 27 29) - (iI 1))).toNatClampNeg), .ref 27]) (S' := ((q_up (q_up M1 27 31 ((M1 27 31) - (iI 1))) 27 29 ((M1 27 29) - (iI 1))), L)) rfl ?_
      refine V.ifc (cd := .lt) rfl (fun hc => ?_) (fun hc => ?_)
      · have h := h.1 hc
        refine V.run 2 (pc' := 74) (ls' := [.ref 27, .int (M1 38 (((M1 27 29) - (iI 1))).toNatClampNeg)]) (st' := [.int (iI 6), .ref 27]) (S' := ((q_up (q_up M1 27 31 ((M1 27 31) - (iI 1))) 27 29 ((M1 27 29) - (iI 1))), L)) rfl ?_
        exact h
      · have h := h.2 hc
        refine V.run 2 (pc' := 65) (ls' := [.ref 27, .int (M1 38 (((M1 27 29) - (iI 1))).toNatClampNeg)]) (st' := [.int (iI 15), .int (M1 38 (((M1 27 29) - (iI 1))).toNatClampNeg), .ref 27]) (S' := ((q_up (q_up M1 27 31 ((M1 27 31) - (iI 1))) 27 29 ((M1 27 29) - (iI 1))), L)) rfl ?_
        refine V.icmp (cd := .le) rfl (fun hc => ?_) (fun hc => ?_)
        · have h := h.1 hc
          refine V.run 1 (pc' := 74) (ls' := [.ref 27, .int (M1 38 (((M1 27 29) - (iI 1))).toNatClampNeg)]) (st' := [.int (iI 0), .ref 27]) (S' := ((q_up (q_up M1 27 31 ((M1 27 31) - (iI 1))) 27 29 ((M1 27 29) - (iI 1))), L)) rfl ?_
          exact h
        · have h := h.2 hc
          refine V.run 2 (pc' := 74) (ls' := [.ref 27, .int (M1 38 (((M1 27 29) - (iI 1))).toNatClampNeg)]) (st' := [.int (iI 6), .ref 27]) (S' := ((q_up (q_up M1 27 31 ((M1 27 31) - (iI 1))) 27 29 ((M1 27 29) - (iI 1))), L)) rfl ?_
          exact h
  · have h := h.2 hc
    exact V.vret rfl rfl ⟨_, rfl, rfl, h⟩
set_option maxRecDepth 100000 in
set_option maxHeartbeats 4000000 in
theorem s_TapedLinesModel_close_74 {l : Launch} {Γ : qG} {d r : Nat} {M : qM} {L : Nat → Int64} {P : qM → Prop} (v1 w0 : Int32) (h : (¬ w0 = 0 → ∃ P1 : qM → Prop, V l Γ T_TapedLinesModel_push d 0 0 [.ref 27, .int (iI 0)] [] ((q_up M 27 26 w0), L) (q_n L P1) ∧ ∀ (M1 : qM), P1 M1 → P M1) ∧ (¬ (¬ w0 = 0) → vp_in v1 16 ∧ ∃ P2 : qM → Prop, V l Γ T_TapedLinesModel_push d 0 0 [.ref 27, .int (M 32 (v1).toNatClampNeg)] [] ((q_up M 27 26 w0), L) (q_n L P2) ∧ ∀ (M2 : qM), P2 M2 → P M2)) : V l Γ T_TapedLinesModel_close (d + 1) r 74 [.ref 27, .int v1] [.int w0, .ref 27] (M, L) (q_n L P) := by
  refine V.run 4 (pc' := 82) (ls' := [.ref 27, .int v1]) (st' := [.int w0, .ref 27]) (S' := ((q_up M 27 26 w0), L)) rfl ?_
  refine V.ifc (cd := .ne) rfl (fun hc => ?_) (fun hc => ?_)
  · have h := h.1 hc
    refine V.run 1 (pc' := 95) (ls' := [.ref 27, .int v1]) (st' := [.int (iI 0), .ref 27]) (S' := ((q_up M 27 26 w0), L)) rfl ?_
    obtain ⟨P1, hv1, h⟩ := h
    refine V.callVv (T2 := T_TapedLinesModel_push) (As := [.int (iI 0)]) (rest := []) rfl rfl g_TapedLinesModel_push rfl rfl rfl rfl (Nat.le_of_ble_eq_true rfl) (by simp [Value.category]) (by simp [Value.category]) (Nat.le_of_ble_eq_true rfl) (Nat.le_refl _) hv1 (fun M1 hq => ?_)
    have h := h M1 hq
    exact V.vret rfl rfl ⟨_, rfl, rfl, h⟩
  · have h := h.2 hc
    refine V.run 3 (pc' := 90) (ls' := [.ref 27, .int v1]) (st' := [.int v1, .ref 32, .ref 27]) (S' := ((q_up M 27 26 w0), L)) rfl ?_
    refine V.iald rfl rfl h.1 ?_
    have h := h.2
    refine V.run 1 (pc' := 95) (ls' := [.ref 27, .int v1]) (st' := [.int (M 32 (v1).toNatClampNeg), .ref 27]) (S' := ((q_up M 27 26 w0), L)) rfl ?_
    obtain ⟨P2, hv2, h⟩ := h
    refine V.callVv (T2 := T_TapedLinesModel_push) (As := [.int (M 32 (v1).toNatClampNeg)]) (rest := []) rfl rfl g_TapedLinesModel_push rfl rfl rfl rfl (Nat.le_of_ble_eq_true rfl) (by simp [Value.category]) (by simp [Value.category]) (Nat.le_of_ble_eq_true rfl) (Nat.le_refl _) hv2 (fun M2 hq => ?_)
    have h := h M2 hq
    exact V.vret rfl rfl ⟨_, rfl, rfl, h⟩
set_option maxRecDepth 100000 in
set_option maxHeartbeats 4000000 in
theorem s_TapedLinesModel_work_0 {l : Launch} {Γ : qG} {d r : Nat} {M : qM} {L : Nat → Int64} {P : qM → Prop} (a b : Int32) (h : V l Γ T_TapedLinesModel_work (d + 1) r 23 [.ref 27, .null, .int b, .int (iI 0), .int (iI 1), .int (iI 1), .null] [] ((q_up (q_up (q_up M 27 29 (iI 0)) 27 31 (iI 0)) 27 28 a), L) (q_n L P)) : V l Γ T_TapedLinesModel_work (d + 1) r 0 [.ref 27, .int a, .int b, .null, .null, .null, .null] [] (M, L) (q_n L P) := by
  refine V.run 15 (pc' := 23) (ls' := [.ref 27, .int a, .int b, .int (iI 0), .int (iI 1), .int (iI 1), .null]) (st' := []) (S' := ((q_up (q_up (q_up M 27 29 (iI 0)) 27 31 (iI 0)) 27 28 a), L)) rfl ?_
  refine V.forget (ls' := [.ref 27, .null, .int b, .int (iI 0), .int (iI 1), .int (iI 1), .null]) ⟨Or.inr rfl, Or.inl rfl, Or.inr rfl, Or.inr rfl, Or.inr rfl, Or.inr rfl, Or.inl rfl, trivial⟩ ?_
  exact h
set_option maxRecDepth 100000 in
set_option maxHeartbeats 4000000 in
theorem s_TapedLinesModel_work_23 {l : Launch} {Γ : qG} {d r : Nat} {M : qM} {L : Nat → Int64} {P : qM → Prop} (v2 v3 v4 v5 : Int32) (h : (v5 = 0 → V l Γ T_TapedLinesModel_work (d + 1) r 223 [.ref 27, .null, .null, .null, .null, .null, .null] [] (M, L) (q_n L P)) ∧ (¬ v5 = 0 → (¬ (M 27 26) = 0 → V l Γ T_TapedLinesModel_work (d + 1) r 223 [.ref 27, .null, .null, .null, .null, .null, .null] [] (M, L) (q_n L P)) ∧ (¬ (¬ (M 27 26) = 0) → (v2 ≤ (M 27 28) → V l Γ T_TapedLinesModel_work (d + 1) r 223 [.ref 27, .null, .null, .null, .null, .null, .null] [] (M, L) (q_n L P)) ∧ (¬ v2 ≤ (M 27 28) → vp_in (M 27 28) 260 ∧ (v4 = 0 → ((iI 128) ≤ (M 30 ((M 27 28)).toNatClampNeg) → V l Γ T_TapedLinesModel_work (d + 1) r 23 [.ref 27, .null, .int v2, .int v3, .int v4, .int (iI 0), .null] [] (M, L) (q_n L P)) ∧ (¬ (iI 128) ≤ (M 30 ((M 27 28)).toNatClampNeg) → (¬ (M 30 ((M 27 28)).toNatClampNeg) = (iI 41) → V l Γ T_TapedLinesModel_work (d + 1) r 150 [.ref 27, .null, .int v2, .int v3, .int v4, .int v5, .int (M 30 ((M 27 28)).toNatClampNeg)] [] (M, L) (q_n L P)) ∧ (¬ (¬ (M 30 ((M 27 28)).toNatClampNeg) = (iI 41)) → (¬ v3 = 0 → V l Γ T_TapedLinesModel_work (d + 1) r 150 [.ref 27, .null, .int v2, .int v3, .int v4, .int v5, .int (M 30 ((M 27 28)).toNatClampNeg)] [] (M, L) (q_n L P)) ∧ (¬ (¬ v3 = 0) → V l Γ T_TapedLinesModel_work (d + 1) r 23 [.ref 27, .null, .int v2, .int v3, .int v4, .int (iI 0), .null] [] (M, L) (q_n L P))))) ∧ (¬ v4 = 0 → ∃ P1 : Int32 → qM → Prop, V l Γ T_TapedLinesModel_isDigit d 0 0 [.int (M 30 ((M 27 28)).toNatClampNeg)] [] (M, L) (q_i L P1) ∧ ∀ (x1 : Int32) (M1 : qM), P1 x1 M1 → (¬ x1 = 0 → V l Γ T_TapedLinesModel_work (d + 1) r 80 [.ref 27, .null, .int v2, .int v3, .null, .int v5, .int (M 30 ((M 27 28)).toNatClampNeg)] [.int (iI 0)] (M1, L) (q_n L P)) ∧ (¬ (¬ x1 = 0) → ∃ P2 : Int32 → qM → Prop, V l Γ T_TapedLinesModel_isVariable d 0 0 [.int (M 30 ((M 27 28)).toNatClampNeg)] [] (M1, L) (q_i L P2) ∧ ∀ (x2 : Int32) (M2 : qM), P2 x2 M2 → (¬ x2 = 0 → V l Γ T_TapedLinesModel_work (d + 1) r 80 [.ref 27, .null, .int v2, .int v3, .null, .int v5, .int (M 30 ((M 27 28)).toNatClampNeg)] [.int (iI 0)] (M2, L) (q_n L P)) ∧ (¬ (¬ x2 = 0) → V l Γ T_TapedLinesModel_work (d + 1) r 80 [.ref 27, .null, .int v2, .int v3, .null, .int v5, .int (M 30 ((M 27 28)).toNatClampNeg)] [.int (iI 1)] (M2, L) (q_n L P)))))))) : V l Γ T_TapedLinesModel_work (d + 1) r 23 [.ref 27, .null, .int v2, .int v3, .int v4, .int v5, .null] [] (M, L) (q_n L P) := by
  refine V.run 1 (pc' := 25) (ls' := [.ref 27, .null, .int v2, .int v3, .int v4, .int v5, .null]) (st' := [.int v5]) (S' := (M, L)) rfl ?_
  refine V.ifc (cd := .eq) rfl (fun hc => ?_) (fun hc => ?_)
  · have h := h.1 hc
    refine V.forget (ls' := [.ref 27, .null, .null, .null, .null, .null, .null]) ⟨Or.inr rfl, Or.inl rfl, Or.inl rfl, Or.inl rfl, Or.inl rfl, Or.inl rfl, Or.inl rfl, trivial⟩ ?_
    exact h
  · have h := h.2 hc
    refine V.run 2 (pc' := 32) (ls' := [.ref 27, .null, .int v2, .int v3, .int v4, .int v5, .null]) (st' := [.int (M 27 26)]) (S' := (M, L)) rfl ?_
    refine V.ifc (cd := .ne) rfl (fun hc => ?_) (fun hc => ?_)
    · have h := h.1 hc
      refine V.forget (ls' := [.ref 27, .null, .null, .null, .null, .null, .null]) ⟨Or.inr rfl, Or.inl rfl, Or.inl rfl, Or.inl rfl, Or.inl rfl, Or.inl rfl, Or.inl rfl, trivial⟩ ?_
      exact h
    · have h := h.2 hc
      refine V.run 3 (pc' := 40) (ls' := [.ref 27, .null, .int v2, .int v3, .int v4, .int v5, .null]) (st' := [.int v2, .int (M 27 28)]) (S' := (M, L)) rfl ?_
      refine V.icmp (cd := .ge) rfl (fun hc => ?_) (fun hc => ?_)
      · have h := h.1 hc
        refine V.forget (ls' := [.ref 27, .null, .null, .null, .null, .null, .null]) ⟨Or.inr rfl, Or.inl rfl, Or.inl rfl, Or.inl rfl, Or.inl rfl, Or.inl rfl, Or.inl rfl, trivial⟩ ?_
        exact h
      · have h := h.2 hc
        refine V.run 4 (pc' := 51) (ls' := [.ref 27, .null, .int v2, .int v3, .int v4, .int v5, .null]) (st' := [.int (M 27 28), .ref 30]) (S' := (M, L)) rfl ?_
        refine V.iald rfl rfl h.1 ?_
        have h := h.2
        refine V.run 2 (pc' := 56) (ls' := [.ref 27, .null, .int v2, .int v3, .int v4, .int v5, .int (M 30 ((M 27 28)).toNatClampNeg)]) (st' := [.int v4]) (S' := (M, L)) rfl ?_
        refine V.ifc (cd := .eq) rfl (fun hc => ?_) (fun hc => ?_)
        · have h := h.1 hc
          refine V.run 2 (pc' := 130) (ls' := [.ref 27, .null, .int v2, .int v3, .int v4, .int v5, .int (M 30 ((M 27 28)).toNatClampNeg)]) (st' := [.int (iI 128), .int (M 30 ((M 27 28)).toNatClampNeg)]) (S' := (M, L)) rfl ?_
          refine V.icmp (cd := .ge) rfl (fun hc => ?_) (fun hc => ?_)
          · have h := h.1 hc
            refine V.run 4 (pc' := 23) (ls' := [.ref 27, .null, .int v2, .int v3, .int v4, .int (iI 0), .int (M 30 ((M 27 28)).toNatClampNeg)]) (st' := []) (S' := (M, L)) rfl ?_
            refine V.forget (ls' := [.ref 27, .null, .int v2, .int v3, .int v4, .int (iI 0), .null]) ⟨Or.inr rfl, Or.inl rfl, Or.inr rfl, Or.inr rfl, Or.inr rfl, Or.inr rfl, Or.inl rfl, trivial⟩ ?_
            exact h
          · have h := h.2 hc
            refine V.run 2 (pc' := 137) (ls' := [.ref 27, .null, .int v2, .int v3, .int v4, .int v5, .int (M 30 ((M 27 28)).toNatClampNeg)]) (st' := [.int (iI 41), .int (M 30 ((M 27 28)).toNatClampNeg)]) (S' := (M, L)) rfl ?_
            refine V.icmp (cd := .ne) rfl (fun hc => ?_) (fun hc => ?_)
            · have h := h.1 hc
              exact h
            · have h := h.2 hc
              refine V.run 1 (pc' := 141) (ls' := [.ref 27, .null, .int v2, .int v3, .int v4, .int v5, .int (M 30 ((M 27 28)).toNatClampNeg)]) (st' := [.int v3]) (S' := (M, L)) rfl ?_
              refine V.ifc (cd := .ne) rfl (fun hc => ?_) (fun hc => ?_)
              · have h := h.1 hc
                exact h
              · have h := h.2 hc
                refine V.run 4 (pc' := 23) (ls' := [.ref 27, .null, .int v2, .int v3, .int v4, .int (iI 0), .int (M 30 ((M 27 28)).toNatClampNeg)]) (st' := []) (S' := (M, L)) rfl ?_
                refine V.forget (ls' := [.ref 27, .null, .int v2, .int v3, .int v4, .int (iI 0), .null]) ⟨Or.inr rfl, Or.inl rfl, Or.inr rfl, Or.inr rfl, Or.inr rfl, Or.inr rfl, Or.inl rfl, trivial⟩ ?_
                exact h
        · have h := h.2 hc
          refine V.run 1 (pc' := 61) (ls' := [.ref 27, .null, .int v2, .int v3, .int v4, .int v5, .int (M 30 ((M 27 28)).toNatClampNeg)]) (st' := [.int (M 30 ((M 27 28)).toNatClampNeg)]) (S' := (M, L)) rfl ?_
          obtain ⟨P1, hv1, h⟩ := h
          refine V.callSi (T2 := T_TapedLinesModel_isDigit) (As := [.int (M 30 ((M 27 28)).toNatClampNeg)]) (rest := []) rfl rfl g_TapedLinesModel_isDigit rfl (Nat.le_of_ble_eq_true rfl) (by simp [Value.category]) (by simp [Value.category]) (Nat.le_of_ble_eq_true rfl) (Nat.le_refl _) hv1 (fun x1 M1 hq => ?_)
          have h := h x1 M1 hq
          refine V.ifc (cd := .ne) rfl (fun hc => ?_) (fun hc => ?_)
          · have h := h.1 hc
            refine V.run 1 (pc' := 80) (ls' := [.ref 27, .null, .int v2, .int v3, .int v4, .int v5, .int (M 30 ((M 27 28)).toNatClampNeg)]) (st' := [.int (iI 0)]) (S' := (M1, L)) rfl ?_
            refine V.forget (ls' := [.ref 27, .null, .int v2, .int v3, .null, .int v5, .int (M 30 ((M 27 28)).toNatClampNeg)]) ⟨Or.inr rfl, Or.inl rfl, Or.inr rfl, Or.inr rfl, Or.inl rfl, Or.inr rfl, Or.inr rfl, trivial⟩ ?_
            exact h
          · have h := h.2 hc
            refine V.run 1 (pc' := 69) (ls' := [.ref 27, .null, .int v2, .int v3, .int v4, .int v5, .int (M 30 ((M 27 28)).toNatClampNeg)]) (st' := [.int (M 30 ((M 27 28)).toNatClampNeg)]) (S' := (M1, L)) rfl ?_
            obtain ⟨P2, hv2, h⟩ := h
            refine V.callSi (T2 := T_TapedLinesModel_isVariable) (As := [.int (M 30 ((M 27 28)).toNatClampNeg)]) (rest := []) rfl rfl g_TapedLinesModel_isVariable rfl (Nat.le_of_ble_eq_true rfl) (by simp [Value.category]) (by simp [Value.category]) (Nat.le_of_ble_eq_true rfl) (Nat.le_refl _) hv2 (fun x2 M2 hq => ?_)
            have h := h x2 M2 hq
            refine V.ifc (cd := .ne) rfl (fun hc => ?_) (fun hc => ?_)
            · have h := h.1 hc
              refine V.run 1 (pc' := 80) (ls' := [.ref 27, .null, .int v2, .int v3, .int v4, .int v5, .int (M 30 ((M 27 28)).toNatClampNeg)]) (st' := [.int (iI 0)]) (S' := (M2, L)) rfl ?_
              refine V.forget (ls' := [.ref 27, .null, .int v2, .int v3, .null, .int v5, .int (M 30 ((M 27 28)).toNatClampNeg)]) ⟨Or.inr rfl, Or.inl rfl, Or.inr rfl, Or.inr rfl, Or.inl rfl, Or.inr rfl, Or.inr rfl, trivial⟩ ?_
              exact h
            · have h := h.2 hc
              refine V.run 2 (pc' := 80) (ls' := [.ref 27, .null, .int v2, .int v3, .int v4, .int v5, .int (M 30 ((M 27 28)).toNatClampNeg)]) (st' := [.int (iI 1)]) (S' := (M2, L)) rfl ?_
              refine V.forget (ls' := [.ref 27, .null, .int v2, .int v3, .null, .int v5, .int (M 30 ((M 27 28)).toNatClampNeg)]) ⟨Or.inr rfl, Or.inl rfl, Or.inr rfl, Or.inr rfl, Or.inl rfl, Or.inr rfl, Or.inr rfl, trivial⟩ ?_
              exact h
set_option maxRecDepth 100000 in
set_option maxHeartbeats 4000000 in
theorem s_TapedLinesModel_work_80 {l : Launch} {Γ : qG} {d r : Nat} {M : qM} {L : Nat → Int64} {P : qM → Prop} (v2 v3 v5 v6 w0 : Int32) (h : (v6 = (iI 40) → ∃ P1 : Int32 → qM → Prop, V l Γ T_TapedLinesModel_workOne d 0 0 [.ref 27, .int (M 27 28), .int v2, .null, .null, .null] [] (M, L) (q_i L P1) ∧ ∀ (x1 : Int32) (M1 : qM), P1 x1 M1 → V l Γ T_TapedLinesModel_work (d + 1) r 23 [.ref 27, .null, .int v2, .int (v3 + (iI 1)), .int w0, .int v5, .null] [] ((q_up M1 27 28 ((M 27 28) + x1)), L) (q_n L P)) ∧ (¬ v6 = (iI 40) → (¬ v6 = (iI 64) → ∃ P2 : Int32 → qM → Prop, V l Γ T_TapedLinesModel_workOne d 0 0 [.ref 27, .int (M 27 28), .int v2, .null, .null, .null] [] (M, L) (q_i L P2) ∧ ∀ (x2 : Int32) (M2 : qM), P2 x2 M2 → V l Γ T_TapedLinesModel_work (d + 1) r 23 [.ref 27, .null, .int v2, .int v3, .int w0, .int v5, .null] [] ((q_up M2 27 28 ((M 27 28) + x2)), L) (q_n L P)) ∧ (¬ (¬ v6 = (iI 64)) → ∃ P3 : Int32 → qM → Prop, V l Γ T_TapedLinesModel_workOne d 0 0 [.ref 27, .int (M 27 28), .int v2, .null, .null, .null] [] (M, L) (q_i L P3) ∧ ∀ (x3 : Int32) (M3 : qM), P3 x3 M3 → V l Γ T_TapedLinesModel_work (d + 1) r 23 [.ref 27, .null, .int v2, .int (v3 + (iI 1)), .int w0, .int v5, .null] [] ((q_up M3 27 28 ((M 27 28) + x3)), L) (q_n L P)))) : V l Γ T_TapedLinesModel_work (d + 1) r 80 [.ref 27, .null, .int v2, .int v3, .null, .int v5, .int v6] [.int w0] (M, L) (q_n L P) := by
  refine V.run 3 (pc' := 86) (ls' := [.ref 27, .null, .int v2, .int v3, .int w0, .int v5, .int v6]) (st' := [.int (iI 40), .int v6]) (S' := (M, L)) rfl ?_
  refine V.icmp (cd := .eq) rfl (fun hc => ?_) (fun hc => ?_)
  · have h := h.1 hc
    refine V.run 12 (pc' := 115) (ls' := [.ref 27, .null, .int v2, .int (v3 + (iI 1)), .int w0, .int v5, .int v6]) (st' := [.int v2, .int (M 27 28), .ref 27, .int (M 27 28), .ref 27]) (S' := (M, L)) rfl ?_
    obtain ⟨P1, hv1, h⟩ := h
    refine V.callVi (T2 := T_TapedLinesModel_workOne) (As := [.int (M 27 28), .int v2]) (rest := [.int (M 27 28), .ref 27]) rfl rfl g_TapedLinesModel_workOne rfl rfl rfl rfl (Nat.le_of_ble_eq_true rfl) (by simp [Value.category]) (by simp [Value.category]) (Nat.le_of_ble_eq_true rfl) (Nat.le_refl _) hv1 (fun x1 M1 hq => ?_)
    have h := h x1 M1 hq
    refine V.run 4 (pc' := 23) (ls' := [.ref 27, .null, .int v2, .int (v3 + (iI 1)), .int w0, .int v5, .int v6]) (st' := []) (S' := ((q_up M1 27 28 ((M 27 28) + x1)), L)) rfl ?_
    refine V.forget (ls' := [.ref 27, .null, .int v2, .int (v3 + (iI 1)), .int w0, .int v5, .null]) ⟨Or.inr rfl, Or.inl rfl, Or.inr rfl, Or.inr rfl, Or.inr rfl, Or.inr rfl, Or.inl rfl, trivial⟩ ?_
    exact h
  · have h := h.2 hc
    refine V.run 2 (pc' := 93) (ls' := [.ref 27, .null, .int v2, .int v3, .int w0, .int v5, .int v6]) (st' := [.int (iI 64), .int v6]) (S' := (M, L)) rfl ?_
    refine V.icmp (cd := .ne) rfl (fun hc => ?_) (fun hc => ?_)
    · have h := h.1 hc
      refine V.run 9 (pc' := 115) (ls' := [.ref 27, .null, .int v2, .int v3, .int w0, .int v5, .int v6]) (st' := [.int v2, .int (M 27 28), .ref 27, .int (M 27 28), .ref 27]) (S' := (M, L)) rfl ?_
      obtain ⟨P2, hv2, h⟩ := h
      refine V.callVi (T2 := T_TapedLinesModel_workOne) (As := [.int (M 27 28), .int v2]) (rest := [.int (M 27 28), .ref 27]) rfl rfl g_TapedLinesModel_workOne rfl rfl rfl rfl (Nat.le_of_ble_eq_true rfl) (by simp [Value.category]) (by simp [Value.category]) (Nat.le_of_ble_eq_true rfl) (Nat.le_refl _) hv2 (fun x2 M2 hq => ?_)
      have h := h x2 M2 hq
      refine V.run 4 (pc' := 23) (ls' := [.ref 27, .null, .int v2, .int v3, .int w0, .int v5, .int v6]) (st' := []) (S' := ((q_up M2 27 28 ((M 27 28) + x2)), L)) rfl ?_
      refine V.forget (ls' := [.ref 27, .null, .int v2, .int v3, .int w0, .int v5, .null]) ⟨Or.inr rfl, Or.inl rfl, Or.inr rfl, Or.inr rfl, Or.inr rfl, Or.inr rfl, Or.inl rfl, trivial⟩ ?_
      exact h
    · have h := h.2 hc
      refine V.run 12 (pc' := 115) (ls' := [.ref 27, .null, .int v2, .int (v3 + (iI 1)), .int w0, .int v5, .int v6]) (st' := [.int v2, .int (M 27 28), .ref 27, .int (M 27 28), .ref 27]) (S' := (M, L)) rfl ?_
      obtain ⟨P3, hv3, h⟩ := h
      refine V.callVi (T2 := T_TapedLinesModel_workOne) (As := [.int (M 27 28), .int v2]) (rest := [.int (M 27 28), .ref 27]) rfl rfl g_TapedLinesModel_workOne rfl rfl rfl rfl (Nat.le_of_ble_eq_true rfl) (by simp [Value.category]) (by simp [Value.category]) (Nat.le_of_ble_eq_true rfl) (Nat.le_refl _) hv3 (fun x3 M3 hq => ?_)
      have h := h x3 M3 hq
      refine V.run 4 (pc' := 23) (ls' := [.ref 27, .null, .int v2, .int (v3 + (iI 1)), .int w0, .int v5, .int v6]) (st' := []) (S' := ((q_up M3 27 28 ((M 27 28) + x3)), L)) rfl ?_
      refine V.forget (ls' := [.ref 27, .null, .int v2, .int (v3 + (iI 1)), .int w0, .int v5, .null]) ⟨Or.inr rfl, Or.inl rfl, Or.inr rfl, Or.inr rfl, Or.inr rfl, Or.inr rfl, Or.inl rfl, trivial⟩ ?_
      exact h
set_option maxRecDepth 100000 in
set_option maxHeartbeats 4000000 in
theorem s_TapedLinesModel_work_150 {l : Launch} {Γ : qG} {d r : Nat} {M : qM} {L : Nat → Int64} {P : qM → Prop} (v2 v3 v4 v5 v6 : Int32) (h : (¬ v6 = (iI 41) → ∃ P1 : Int32 → qM → Prop, V l Γ T_TapedLinesModel_rank d 0 0 [.int v6] [] (M, L) (q_i L P1) ∧ ∀ (x1 : Int32) (M1 : qM), P1 x1 M1 → ∃ P2 : qM → Prop, V l Γ T_TapedLinesModel_applyDown d 0 0 [.ref 27, .int x1] [] (M1, L) (q_n L P2) ∧ ∀ (M2 : qM), P2 M2 → vp_in (M2 27 31) 260 ∧ V l Γ T_TapedLinesModel_work (d + 1) r 23 [.ref 27, .null, .int v2, .int v3, .int (iI 1), .int v5, .null] [] ((q_up (q_up (q_up M2 39 ((M2 27 31)).toNatClampNeg v6) 27 31 ((M2 27 31) + (iI 1))) 27 28 ((M2 27 28) + (iI 1))), L) (q_n L P)) ∧ (¬ (¬ v6 = (iI 41)) → ∃ P3 : qM → Prop, V l Γ T_TapedLinesModel_close d 0 0 [.ref 27, .null] [] (M, L) (q_n L P3) ∧ ∀ (M3 : qM), P3 M3 → V l Γ T_TapedLinesModel_work (d + 1) r 23 [.ref 27, .null, .int v2, .int (v3 + (iI (-1))), .int v4, .int v5, .null] [] ((q_up M3 27 28 ((M3 27 28) + (iI 1))), L) (q_n L P))) : V l Γ T_TapedLinesModel_work (d + 1) r 150 [.ref 27, .null, .int v2, .int v3, .int v4, .int v5, .int v6] [] (M, L) (q_n L P) := by
  refine V.run 2 (pc' := 154) (ls' := [.ref 27, .null, .int v2, .int v3, .int v4, .int v5, .int v6]) (st' := [.int (iI 41), .int v6]) (S' := (M, L)) rfl ?_
  refine V.icmp (cd := .ne) rfl (fun hc => ?_) (fun hc => ?_)
  · have h := h.1 hc
    refine V.run 2 (pc' := 180) (ls' := [.ref 27, .null, .int v2, .int v3, .int v4, .int v5, .int v6]) (st' := [.int v6, .ref 27]) (S' := (M, L)) rfl ?_
    obtain ⟨P1, hv1, h⟩ := h
    refine V.callSi (T2 := T_TapedLinesModel_rank) (As := [.int v6]) (rest := [.ref 27]) rfl rfl g_TapedLinesModel_rank rfl (Nat.le_of_ble_eq_true rfl) (by simp [Value.category]) (by simp [Value.category]) (Nat.le_of_ble_eq_true rfl) (Nat.le_refl _) hv1 (fun x1 M1 hq => ?_)
    have h := h x1 M1 hq
    obtain ⟨P2, hv2, h⟩ := h
    refine V.callVv (T2 := T_TapedLinesModel_applyDown) (As := [.int x1]) (rest := []) rfl rfl g_TapedLinesModel_applyDown rfl rfl rfl rfl (Nat.le_of_ble_eq_true rfl) (by simp [Value.category]) (by simp [Value.category]) (Nat.le_of_ble_eq_true rfl) (Nat.le_refl _) hv2 (fun M2 hq => ?_)
    have h := h M2 hq
    refine V.run 5 (pc' := 196) (ls' := [.ref 27, .null, .int v2, .int v3, .int v4, .int v5, .int v6]) (st' := [.int v6, .int (M2 27 31), .ref 39]) (S' := (M2, L)) rfl ?_
    refine V.iast rfl rfl h.1 ?_
    have h := h.2
    refine V.run 15 (pc' := 23) (ls' := [.ref 27, .null, .int v2, .int v3, .int (iI 1), .int v5, .int v6]) (st' := []) (S' := ((q_up (q_up (q_up M2 39 ((M2 27 31)).toNatClampNeg v6) 27 31 ((M2 27 31) + (iI 1))) 27 28 ((M2 27 28) + (iI 1))), L)) rfl ?_
    refine V.forget (ls' := [.ref 27, .null, .int v2, .int v3, .int (iI 1), .int v5, .null]) ⟨Or.inr rfl, Or.inl rfl, Or.inr rfl, Or.inr rfl, Or.inr rfl, Or.inr rfl, Or.inl rfl, trivial⟩ ?_
    exact h
  · have h := h.2 hc
    refine V.run 1 (pc' := 158) (ls' := [.ref 27, .null, .int v2, .int v3, .int v4, .int v5, .int v6]) (st' := [.ref 27]) (S' := (M, L)) rfl ?_
    obtain ⟨P3, hv3, h⟩ := h
    refine V.callVv (T2 := T_TapedLinesModel_close) (As := []) (rest := []) rfl rfl g_TapedLinesModel_close rfl rfl rfl rfl (Nat.le_of_ble_eq_true rfl) (by simp [Value.category]) (by simp [Value.category]) (Nat.le_of_ble_eq_true rfl) (Nat.le_refl _) hv3 (fun M3 hq => ?_)
    have h := h M3 hq
    refine V.run 9 (pc' := 23) (ls' := [.ref 27, .null, .int v2, .int (v3 + (iI (-1))), .int v4, .int v5, .int v6]) (st' := []) (S' := ((q_up M3 27 28 ((M3 27 28) + (iI 1))), L)) rfl ?_
    refine V.forget (ls' := [.ref 27, .null, .int v2, .int (v3 + (iI (-1))), .int v4, .int v5, .null]) ⟨Or.inr rfl, Or.inl rfl, Or.inr rfl, Or.inr rfl, Or.inr rfl, Or.inr rfl, Or.inl rfl, trivial⟩ ?_
    exact h
set_option maxRecDepth 100000 in
set_option maxHeartbeats 4000000 in
theorem s_TapedLinesModel_work_223 {l : Launch} {Γ : qG} {d r : Nat} {M : qM} {L : Nat → Int64} {P : qM → Prop} (h : ∃ P1 : qM → Prop, V l Γ T_TapedLinesModel_applyDown d 0 0 [.ref 27, .int (iI 1)] [] (M, L) (q_n L P1) ∧ ∀ (M1 : qM), P1 M1 → (¬ (M1 27 26) = 0 → P (q_up M1 27 27 (iI 0))) ∧ (¬ (¬ (M1 27 26) = 0) → vp_in (iI 0) 260 ∧ P (q_up M1 27 27 (M1 38 ((iI 0)).toNatClampNeg)))) : V l Γ T_TapedLinesModel_work (d + 1) r 223 [.ref 27, .null, .null, .null, .null, .null, .null] [] (M, L) (q_n L P) := by
  refine V.run 2 (pc' := 225) (ls' := [.ref 27, .null, .null, .null, .null, .null, .null]) (st' := [.int (iI 1), .ref 27]) (S' := (M, L)) rfl ?_
  obtain ⟨P1, hv1, h⟩ := h
  refine V.callVv (T2 := T_TapedLinesModel_applyDown) (As := [.int (iI 1)]) (rest := []) rfl rfl g_TapedLinesModel_applyDown rfl rfl rfl rfl (Nat.le_of_ble_eq_true rfl) (by simp [Value.category]) (by simp [Value.category]) (Nat.le_of_ble_eq_true rfl) (Nat.le_refl _) hv1 (fun M1 hq => ?_)
  have h := h M1 hq
  refine V.run 3 (pc' := 233) (ls' := [.ref 27, .null, .null, .null, .null, .null, .null]) (st' := [.int (M1 27 26), .ref 27]) (S' := (M1, L)) rfl ?_
  refine V.ifc (cd := .ne) rfl (fun hc => ?_) (fun hc => ?_)
  · have h := h.1 hc
    refine V.run 2 (pc' := 249) (ls' := [.ref 27, .null, .null, .null, .null, .null, .null]) (st' := []) (S' := ((q_up M1 27 27 (iI 0)), L)) rfl ?_
    exact V.vret rfl rfl ⟨_, rfl, rfl, h⟩
  · have h := h.2 hc
    refine V.run 3 (pc' := 241) (ls' := [.ref 27, .null, .null, .null, .null, .null, .null]) (st' := [.int (iI 0), .ref 38, .ref 27]) (S' := (M1, L)) rfl ?_
    refine V.iald rfl rfl h.1 ?_
    have h := h.2
    refine V.run 2 (pc' := 249) (ls' := [.ref 27, .null, .null, .null, .null, .null, .null]) (st' := []) (S' := ((q_up M1 27 27 (M1 38 ((iI 0)).toNatClampNeg)), L)) rfl ?_
    exact V.vret rfl rfl ⟨_, rfl, rfl, h⟩
set_option maxRecDepth 100000 in
set_option maxHeartbeats 4000000 in
theorem s_TapedLinesModel_numberAt_0 {l : Launch} {Γ : qG} {d r : Nat} {M : qM} {L : Nat → Int64} {P : Int32 → qM → Prop} (a b : Int32) (h : V l Γ T_TapedLinesModel_numberAt d r 5 [.ref 27, .null, .int b, .int (iI 0), .int a] [] (M, L) (q_i L P)) : V l Γ T_TapedLinesModel_numberAt d r 0 [.ref 27, .int a, .int b, .null, .null] [] (M, L) (q_i L P) := by
  refine V.run 4 (pc' := 5) (ls' := [.ref 27, .int a, .int b, .int (iI 0), .int a]) (st' := []) (S' := (M, L)) rfl ?_
  refine V.forget (ls' := [.ref 27, .null, .int b, .int (iI 0), .int a]) ⟨Or.inr rfl, Or.inl rfl, Or.inr rfl, Or.inr rfl, Or.inr rfl, trivial⟩ ?_
  exact h
set_option maxRecDepth 100000 in
set_option maxHeartbeats 4000000 in
theorem s_TapedLinesModel_numberAt_5 {l : Launch} {Γ : qG} {d r : Nat} {M : qM} {L : Nat → Int64} {P : Int32 → qM → Prop} (v2 v3 v4 : Int32) (h : (v2 ≤ v4 → P v3 M) ∧ (¬ v2 ≤ v4 → vp_in v4 260 ∧ V l Γ T_TapedLinesModel_numberAt d r 5 [.ref 27, .null, .int v2, .int ((((iI 10) * v3) + (M 30 (v4).toNatClampNeg)) - (iI 48)), .int (v4 + (iI 1))] [] (M, L) (q_i L P))) : V l Γ T_TapedLinesModel_numberAt d r 5 [.ref 27, .null, .int v2, .int v3, .int v4] [] (M, L) (q_i L P) := by
  refine V.run 2 (pc' := 8) (ls' := [.ref 27, .null, .int v2, .int v3, .int v4]) (st' := [.int v2, .int v4]) (S' := (M, L)) rfl ?_
  refine V.icmp (cd := .ge) rfl (fun hc => ?_) (fun hc => ?_)
  · have h := h.1 hc
    refine V.run 1 (pc' := 34) (ls' := [.ref 27, .null, .int v2, .int v3, .int v4]) (st' := [.int v3]) (S' := (M, L)) rfl ?_
    exact V.iret rfl rfl ⟨_, _, rfl, rfl, h⟩
  · have h := h.2 hc
    refine V.run 6 (pc' := 21) (ls' := [.ref 27, .null, .int v2, .int v3, .int v4]) (st' := [.int v4, .ref 30, .int ((iI 10) * v3)]) (S' := (M, L)) rfl ?_
    refine V.iald rfl rfl h.1 ?_
    have h := h.2
    refine V.run 6 (pc' := 5) (ls' := [.ref 27, .null, .int v2, .int ((((iI 10) * v3) + (M 30 (v4).toNatClampNeg)) - (iI 48)), .int (v4 + (iI 1))]) (st' := []) (S' := (M, L)) rfl ?_
    exact h
set_option maxRecDepth 100000 in
set_option maxHeartbeats 4000000 in
theorem s_TapedLinesModel_jump_0 {l : Launch} {Γ : qG} {d r : Nat} {M : qM} {L : Nat → Int64} {P : qM → Prop} (a b : Int32) (h : ∃ P1 : Int32 → qM → Prop, V l Γ T_TapedLinesModel_numberAt d 0 0 [.ref 27, .int a, .int b, .null, .null] [] (M, L) (q_i L P1) ∧ ∀ (x1 : Int32) (M1 : qM), P1 x1 M1 → ∃ P2 : Int32 → qM → Prop, V l Γ T_TapedLinesModel_find d 0 0 [.ref 27, .int x1, .null, .null] [] (M1, L) (q_i L P2) ∧ ∀ (x2 : Int32) (M2 : qM), P2 x2 M2 → (0 ≤ x2 → V l Γ T_TapedLinesModel_jump (d + 1) r 21 [.ref 27, .null, .null, .int x2] [.int (iI 0), .ref 27] (M2, L) (q_n L P)) ∧ (¬ 0 ≤ x2 → V l Γ T_TapedLinesModel_jump (d + 1) r 21 [.ref 27, .null, .null, .int x2] [.int (iI 1), .ref 27] (M2, L) (q_n L P))) : V l Γ T_TapedLinesModel_jump (d + 1) r 0 [.ref 27, .int a, .int b, .null] [] (M, L) (q_n L P) := by
  refine V.run 4 (pc' := 4) (ls' := [.ref 27, .int a, .int b, .null]) (st' := [.int b, .int a, .ref 27, .ref 27]) (S' := (M, L)) rfl ?_
  obtain ⟨P1, hv1, h⟩ := h
  refine V.callVi (T2 := T_TapedLinesModel_numberAt) (As := [.int a, .int b]) (rest := [.ref 27]) rfl rfl g_TapedLinesModel_numberAt rfl rfl rfl rfl (Nat.le_of_ble_eq_true rfl) (by simp [Value.category]) (by simp [Value.category]) (Nat.le_of_ble_eq_true rfl) (Nat.le_refl _) hv1 (fun x1 M1 hq => ?_)
  have h := h x1 M1 hq
  obtain ⟨P2, hv2, h⟩ := h
  refine V.callVi (T2 := T_TapedLinesModel_find) (As := [.int x1]) (rest := []) rfl rfl g_TapedLinesModel_find rfl rfl rfl rfl (Nat.le_of_ble_eq_true rfl) (by simp [Value.category]) (by simp [Value.category]) (Nat.le_of_ble_eq_true rfl) (Nat.le_refl _) hv2 (fun x2 M2 hq => ?_)
  have h := h x2 M2 hq
  refine V.run 3 (pc' := 13) (ls' := [.ref 27, .int a, .int b, .int x2]) (st' := [.int x2, .ref 27]) (S' := (M2, L)) rfl ?_
  refine V.ifc (cd := .ge) rfl (fun hc => ?_) (fun hc => ?_)
  · have h := h.1 hc
    refine V.run 1 (pc' := 21) (ls' := [.ref 27, .int a, .int b, .int x2]) (st' := [.int (iI 0), .ref 27]) (S' := (M2, L)) rfl ?_
    refine V.forget (ls' := [.ref 27, .null, .null, .int x2]) ⟨Or.inr rfl, Or.inl rfl, Or.inl rfl, Or.inr rfl, trivial⟩ ?_
    exact h
  · have h := h.2 hc
    refine V.run 2 (pc' := 21) (ls' := [.ref 27, .int a, .int b, .int x2]) (st' := [.int (iI 1), .ref 27]) (S' := (M2, L)) rfl ?_
    refine V.forget (ls' := [.ref 27, .null, .null, .int x2]) ⟨Or.inr rfl, Or.inl rfl, Or.inl rfl, Or.inr rfl, trivial⟩ ?_
    exact h
set_option maxRecDepth 100000 in
set_option maxHeartbeats 4000000 in
theorem s_TapedLinesModel_jump_21 {l : Launch} {Γ : qG} {d r : Nat} {M : qM} {L : Nat → Int64} {P : qM → Prop} (v3 w0 : Int32) (h : (0 ≤ v3 → P (q_up (q_up M 27 26 w0) 27 15 v3)) ∧ (¬ 0 ≤ v3 → P (q_up (q_up M 27 26 w0) 27 15 (M 27 15)))) : V l Γ T_TapedLinesModel_jump (d + 1) r 21 [.ref 27, .null, .null, .int v3] [.int w0, .ref 27] (M, L) (q_n L P) := by
  refine V.run 3 (pc' := 26) (ls' := [.ref 27, .null, .null, .int v3]) (st' := [.int v3, .ref 27]) (S' := ((q_up M 27 26 w0), L)) rfl ?_
  refine V.ifc (cd := .ge) rfl (fun hc => ?_) (fun hc => ?_)
  · have h := h.1 hc
    refine V.run 2 (pc' := 40) (ls' := [.ref 27, .null, .null, .int v3]) (st' := []) (S' := ((q_up (q_up M 27 26 w0) 27 15 v3), L)) rfl ?_
    exact V.vret rfl rfl ⟨_, rfl, rfl, h⟩
  · have h := h.2 hc
    refine V.run 4 (pc' := 40) (ls' := [.ref 27, .null, .null, .int v3]) (st' := []) (S' := ((q_up (q_up M 27 26 w0) 27 15 (M 27 15)), L)) rfl ?_
    exact V.vret rfl rfl ⟨_, rfl, rfl, h⟩
set_option maxRecDepth 100000 in
set_option maxHeartbeats 4000000 in
theorem s_TapedLinesModel_loopOf_0 {l : Launch} {Γ : qG} {d r : Nat} {M : qM} {L : Nat → Int64} {P : Int32 → qM → Prop} (a : Int32) (h : V l Γ T_TapedLinesModel_loopOf d r 4 [.ref 27, .int a, .int (iI (-1)), .int (iI 0)] [] (M, L) (q_i L P)) : V l Γ T_TapedLinesModel_loopOf d r 0 [.ref 27, .int a, .null, .null] [] (M, L) (q_i L P) := by
  refine V.run 4 (pc' := 4) (ls' := [.ref 27, .int a, .int (iI (-1)), .int (iI 0)]) (st' := []) (S' := (M, L)) rfl ?_
  exact h
set_option maxRecDepth 100000 in
set_option maxHeartbeats 4000000 in
theorem s_TapedLinesModel_loopOf_4 {l : Launch} {Γ : qG} {d r : Nat} {M : qM} {L : Nat → Int64} {P : Int32 → qM → Prop} (v1 v2 v3 : Int32) (h : ((M 27 18) ≤ v3 → P v2 M) ∧ (¬ (M 27 18) ≤ v3 → vp_in v3 6 ∧ (¬ (M 33 (v3).toNatClampNeg) = v1 → V l Γ T_TapedLinesModel_loopOf d r 4 [.ref 27, .int v1, .int v2, .int (v3 + (iI 1))] [] (M, L) (q_i L P)) ∧ (¬ (¬ (M 33 (v3).toNatClampNeg) = v1) → V l Γ T_TapedLinesModel_loopOf d r 4 [.ref 27, .int v1, .int v3, .int (v3 + (iI 1))] [] (M, L) (q_i L P)))) : V l Γ T_TapedLinesModel_loopOf d r 4 [.ref 27, .int v1, .int v2, .int v3] [] (M, L) (q_i L P) := by
  refine V.run 3 (pc' := 9) (ls' := [.ref 27, .int v1, .int v2, .int v3]) (st' := [.int (M 27 18), .int v3]) (S' := (M, L)) rfl ?_
  refine V.icmp (cd := .ge) rfl (fun hc => ?_) (fun hc => ?_)
  · have h := h.1 hc
    refine V.run 1 (pc' := 35) (ls' := [.ref 27, .int v1, .int v2, .int v3]) (st' := [.int v2]) (S' := (M, L)) rfl ?_
    exact V.iret rfl rfl ⟨_, _, rfl, rfl, h⟩
  · have h := h.2 hc
    refine V.run 3 (pc' := 17) (ls' := [.ref 27, .int v1, .int v2, .int v3]) (st' := [.int v3, .ref 33]) (S' := (M, L)) rfl ?_
    refine V.iald rfl rfl h.1 ?_
    have h := h.2
    refine V.run 1 (pc' := 19) (ls' := [.ref 27, .int v1, .int v2, .int v3]) (st' := [.int v1, .int (M 33 (v3).toNatClampNeg)]) (S' := (M, L)) rfl ?_
    refine V.icmp (cd := .ne) rfl (fun hc => ?_) (fun hc => ?_)
    · have h := h.1 hc
      refine V.run 4 (pc' := 4) (ls' := [.ref 27, .int v1, .int v2, .int (v3 + (iI 1))]) (st' := []) (S' := (M, L)) rfl ?_
      exact h
    · have h := h.2 hc
      refine V.run 5 (pc' := 4) (ls' := [.ref 27, .int v1, .int v3, .int (v3 + (iI 1))]) (st' := []) (S' := (M, L)) rfl ?_
      exact h
set_option maxRecDepth 100000 in
set_option maxHeartbeats 4000000 in
theorem s_TapedLinesModel_doFor_0 {l : Launch} {Γ : qG} {d r : Nat} {M : qM} {L : Nat → Int64} {P : qM → Prop} (a b : Int32) (h : vp_in a 260 ∧ ∃ P1 : qM → Prop, V l Γ T_TapedLinesModel_work d 0 0 [.ref 27, .int (a + (iI 2)), .int b, .null, .null, .null, .null] [] (M, L) (q_n L P1) ∧ ∀ (M1 : qM), P1 M1 → (¬ (M1 27 26) = 0 → V l Γ T_TapedLinesModel_doFor (d + 1) r 42 [.ref 27, .null, .int b, .int ((M 30 (a).toNatClampNeg) - (iI 97)), .int (M1 27 27), .null, .null] [] (M1, L) (q_n L P)) ∧ (¬ (¬ (M1 27 26) = 0) → ∃ P2 : qM → Prop, V l Γ T_TapedLinesModel_work d 0 0 [.ref 27, .int ((M1 27 28) + (iI 1)), .int b, .null, .null, .null, .null] [] (M1, L) (q_n L P2) ∧ ∀ (M2 : qM), P2 M2 → V l Γ T_TapedLinesModel_doFor (d + 1) r 42 [.ref 27, .null, .int b, .int ((M 30 (a).toNatClampNeg) - (iI 97)), .int (M1 27 27), .null, .null] [] (M2, L) (q_n L P))) : V l Γ T_TapedLinesModel_doFor (d + 1) r 0 [.ref 27, .int a, .int b, .null, .null, .null, .null] [] (M, L) (q_n L P) := by
  refine V.run 3 (pc' := 5) (ls' := [.ref 27, .int a, .int b, .null, .null, .null, .null]) (st' := [.int a, .ref 30]) (S' := (M, L)) rfl ?_
  refine V.iald rfl rfl h.1 ?_
  have h := h.2
  refine V.run 8 (pc' := 15) (ls' := [.ref 27, .int a, .int b, .int ((M 30 (a).toNatClampNeg) - (iI 97)), .null, .null, .null]) (st' := [.int b, .int (a + (iI 2)), .ref 27]) (S' := (M, L)) rfl ?_
  obtain ⟨P1, hv1, h⟩ := h
  refine V.callVv (T2 := T_TapedLinesModel_work) (As := [.int (a + (iI 2)), .int b]) (rest := []) rfl rfl g_TapedLinesModel_work rfl rfl rfl rfl (Nat.le_of_ble_eq_true rfl) (by simp [Value.category]) (by simp [Value.category]) (Nat.le_of_ble_eq_true rfl) (Nat.le_refl _) hv1 (fun M1 hq => ?_)
  have h := h M1 hq
  refine V.run 5 (pc' := 28) (ls' := [.ref 27, .int a, .int b, .int ((M 30 (a).toNatClampNeg) - (iI 97)), .int (M1 27 27), .null, .null]) (st' := [.int (M1 27 26)]) (S' := (M1, L)) rfl ?_
  refine V.ifc (cd := .ne) rfl (fun hc => ?_) (fun hc => ?_)
  · have h := h.1 hc
    refine V.forget (ls' := [.ref 27, .null, .int b, .int ((M 30 (a).toNatClampNeg) - (iI 97)), .int (M1 27 27), .null, .null]) ⟨Or.inr rfl, Or.inl rfl, Or.inr rfl, Or.inr rfl, Or.inr rfl, Or.inl rfl, Or.inl rfl, trivial⟩ ?_
    exact h
  · have h := h.2 hc
    refine V.run 6 (pc' := 39) (ls' := [.ref 27, .int a, .int b, .int ((M 30 (a).toNatClampNeg) - (iI 97)), .int (M1 27 27), .null, .null]) (st' := [.int b, .int ((M1 27 28) + (iI 1)), .ref 27]) (S' := (M1, L)) rfl ?_
    obtain ⟨P2, hv2, h⟩ := h
    refine V.callVv (T2 := T_TapedLinesModel_work) (As := [.int ((M1 27 28) + (iI 1)), .int b]) (rest := []) rfl rfl g_TapedLinesModel_work rfl rfl rfl rfl (Nat.le_of_ble_eq_true rfl) (by simp [Value.category]) (by simp [Value.category]) (Nat.le_of_ble_eq_true rfl) (Nat.le_refl _) hv2 (fun M2 hq => ?_)
    have h := h M2 hq
    refine V.forget (ls' := [.ref 27, .null, .int b, .int ((M 30 (a).toNatClampNeg) - (iI 97)), .int (M1 27 27), .null, .null]) ⟨Or.inr rfl, Or.inl rfl, Or.inr rfl, Or.inr rfl, Or.inr rfl, Or.inl rfl, Or.inl rfl, trivial⟩ ?_
    exact h
set_option maxRecDepth 100000 in
set_option maxHeartbeats 4000000 in
theorem s_TapedLinesModel_doFor_42 {l : Launch} {Γ : qG} {d r : Nat} {M : qM} {L : Nat → Int64} {P : qM → Prop} (v2 v3 v4 : Int32) (h : ∃ P1 : Int32 → qM → Prop, V l Γ T_TapedLinesModel_loopOf d 0 0 [.ref 27, .int v3, .null, .null] [] (M, L) (q_i L P1) ∧ ∀ (x1 : Int32) (M1 : qM), P1 x1 M1 → (x1 < 0 → V l Γ T_TapedLinesModel_doFor (d + 1) r 63 [.ref 27, .null, .int v2, .int v3, .int v4, .null, .null] [.int (M1 27 18)] (M1, L) (q_n L P)) ∧ (¬ x1 < 0 → V l Γ T_TapedLinesModel_doFor (d + 1) r 63 [.ref 27, .null, .int v2, .int v3, .int v4, .null, .null] [.int x1] (M1, L) (q_n L P))) : V l Γ T_TapedLinesModel_doFor (d + 1) r 42 [.ref 27, .null, .int v2, .int v3, .int v4, .null, .null] [] (M, L) (q_n L P) := by
  refine V.run 2 (pc' := 44) (ls' := [.ref 27, .null, .int v2, .int v3, .int v4, .null, .null]) (st' := [.int v3, .ref 27]) (S' := (M, L)) rfl ?_
  obtain ⟨P1, hv1, h⟩ := h
  refine V.callVi (T2 := T_TapedLinesModel_loopOf) (As := [.int v3]) (rest := []) rfl rfl g_TapedLinesModel_loopOf rfl rfl rfl rfl (Nat.le_of_ble_eq_true rfl) (by simp [Value.category]) (by simp [Value.category]) (Nat.le_of_ble_eq_true rfl) (Nat.le_refl _) hv1 (fun x1 M1 hq => ?_)
  have h := h x1 M1 hq
  refine V.run 2 (pc' := 51) (ls' := [.ref 27, .null, .int v2, .int v3, .int v4, .int x1, .null]) (st' := [.int x1]) (S' := (M1, L)) rfl ?_
  refine V.ifc (cd := .lt) rfl (fun hc => ?_) (fun hc => ?_)
  · have h := h.1 hc
    refine V.run 2 (pc' := 63) (ls' := [.ref 27, .null, .int v2, .int v3, .int v4, .int x1, .null]) (st' := [.int (M1 27 18)]) (S' := (M1, L)) rfl ?_
    refine V.forget (ls' := [.ref 27, .null, .int v2, .int v3, .int v4, .null, .null]) ⟨Or.inr rfl, Or.inl rfl, Or.inr rfl, Or.inr rfl, Or.inr rfl, Or.inl rfl, Or.inl rfl, trivial⟩ ?_
    exact h
  · have h := h.2 hc
    refine V.run 2 (pc' := 63) (ls' := [.ref 27, .null, .int v2, .int v3, .int v4, .int x1, .null]) (st' := [.int x1]) (S' := (M1, L)) rfl ?_
    refine V.forget (ls' := [.ref 27, .null, .int v2, .int v3, .int v4, .null, .null]) ⟨Or.inr rfl, Or.inl rfl, Or.inr rfl, Or.inr rfl, Or.inr rfl, Or.inl rfl, Or.inl rfl, trivial⟩ ?_
    exact h
set_option maxRecDepth 100000 in
set_option maxHeartbeats 4000000 in
theorem s_TapedLinesModel_doFor_63 {l : Launch} {Γ : qG} {d r : Nat} {M : qM} {L : Nat → Int64} {P : qM → Prop} (v2 v3 v4 w0 : Int32) (h : (¬ (M 27 26) = 0 → V l Γ T_TapedLinesModel_doFor (d + 1) r 88 [.ref 27, .null, .int v2, .int v3, .int v4, .null, .int w0] [.int (M 27 26), .ref 27] (M, L) (q_n L P)) ∧ (¬ (¬ (M 27 26) = 0) → (¬ w0 = (iI 6) → V l Γ T_TapedLinesModel_doFor (d + 1) r 88 [.ref 27, .null, .int v2, .int v3, .int v4, .null, .int w0] [.int (M 27 26), .ref 27] (M, L) (q_n L P)) ∧ (¬ (¬ w0 = (iI 6)) → V l Γ T_TapedLinesModel_doFor (d + 1) r 88 [.ref 27, .null, .int v2, .int v3, .int v4, .null, .int w0] [.int (iI 4), .ref 27] (M, L) (q_n L P)))) : V l Γ T_TapedLinesModel_doFor (d + 1) r 63 [.ref 27, .null, .int v2, .int v3, .int v4, .null, .null] [.int w0] (M, L) (q_n L P) := by
  refine V.run 4 (pc' := 70) (ls' := [.ref 27, .null, .int v2, .int v3, .int v4, .null, .int w0]) (st' := [.int (M 27 26), .ref 27]) (S' := (M, L)) rfl ?_
  refine V.ifc (cd := .ne) rfl (fun hc => ?_) (fun hc => ?_)
  · have h := h.1 hc
    refine V.run 2 (pc' := 88) (ls' := [.ref 27, .null, .int v2, .int v3, .int v4, .null, .int w0]) (st' := [.int (M 27 26), .ref 27]) (S' := (M, L)) rfl ?_
    exact h
  · have h := h.2 hc
    refine V.run 2 (pc' := 77) (ls' := [.ref 27, .null, .int v2, .int v3, .int v4, .null, .int w0]) (st' := [.int (iI 6), .int w0, .ref 27]) (S' := (M, L)) rfl ?_
    refine V.icmp (cd := .ne) rfl (fun hc => ?_) (fun hc => ?_)
    · have h := h.1 hc
      refine V.run 2 (pc' := 88) (ls' := [.ref 27, .null, .int v2, .int v3, .int v4, .null, .int w0]) (st' := [.int (M 27 26), .ref 27]) (S' := (M, L)) rfl ?_
      exact h
    · have h := h.2 hc
      refine V.run 2 (pc' := 88) (ls' := [.ref 27, .null, .int v2, .int v3, .int v4, .null, .int w0]) (st' := [.int (iI 4), .ref 27]) (S' := (M, L)) rfl ?_
      exact h
set_option maxRecDepth 100000 in
set_option maxHeartbeats 4000000 in
theorem s_TapedLinesModel_doFor_88 {l : Launch} {Γ : qG} {d r : Nat} {M : qM} {L : Nat → Int64} {P : qM → Prop} (v2 v3 v4 v6 w0 : Int32) (h : (¬ w0 = 0 → P (q_up M 27 26 w0)) ∧ (¬ (¬ w0 = 0) → vp_in v6 6 ∧ vp_in v6 6 ∧ vp_in v6 6 ∧ vp_in v3 8 ∧ P (q_up (q_up (q_up (q_up (q_up (q_up (q_up M 27 26 w0) 33 (v6).toNatClampNeg v3) 34 (v6).toNatClampNeg (M 27 27)) 35 (v6).toNatClampNeg v2) 27 18 (v6 + (iI 1))) 31 (v3).toNatClampNeg v4) 27 15 v2))) : V l Γ T_TapedLinesModel_doFor (d + 1) r 88 [.ref 27, .null, .int v2, .int v3, .int v4, .null, .int v6] [.int w0, .ref 27] (M, L) (q_n L P) := by
  refine V.run 3 (pc' := 95) (ls' := [.ref 27, .null, .int v2, .int v3, .int v4, .null, .int v6]) (st' := [.int w0]) (S' := ((q_up M 27 26 w0), L)) rfl ?_
  refine V.ifc (cd := .ne) rfl (fun hc => ?_) (fun hc => ?_)
  · have h := h.1 hc
    exact V.vret rfl rfl ⟨_, rfl, rfl, h⟩
  · have h := h.2 hc
    refine V.run 4 (pc' := 105) (ls' := [.ref 27, .null, .int v2, .int v3, .int v4, .null, .int v6]) (st' := [.int v3, .int v6, .ref 33]) (S' := ((q_up M 27 26 w0), L)) rfl ?_
    refine V.iast rfl rfl h.1 ?_
    have h := h.2
    refine V.run 5 (pc' := 116) (ls' := [.ref 27, .null, .int v2, .int v3, .int v4, .null, .int v6]) (st' := [.int (M 27 27), .int v6, .ref 34]) (S' := ((q_up (q_up M 27 26 w0) 33 (v6).toNatClampNeg v3), L)) rfl ?_
    refine V.iast rfl rfl h.1 ?_
    have h := h.2
    refine V.run 4 (pc' := 124) (ls' := [.ref 27, .null, .int v2, .int v3, .int v4, .null, .int v6]) (st' := [.int v2, .int v6, .ref 35]) (S' := ((q_up (q_up (q_up M 27 26 w0) 33 (v6).toNatClampNeg v3) 34 (v6).toNatClampNeg (M 27 27)), L)) rfl ?_
    refine V.iast rfl rfl h.1 ?_
    have h := h.2
    refine V.run 9 (pc' := 140) (ls' := [.ref 27, .null, .int v2, .int v3, .int v4, .null, .int v6]) (st' := [.int v4, .int v3, .ref 31]) (S' := ((q_up (q_up (q_up (q_up (q_up M 27 26 w0) 33 (v6).toNatClampNeg v3) 34 (v6).toNatClampNeg (M 27 27)) 35 (v6).toNatClampNeg v2) 27 18 (v6 + (iI 1))), L)) rfl ?_
    refine V.iast rfl rfl h.1 ?_
    have h := h.2
    refine V.run 3 (pc' := 146) (ls' := [.ref 27, .null, .int v2, .int v3, .int v4, .null, .int v6]) (st' := []) (S' := ((q_up (q_up (q_up (q_up (q_up (q_up (q_up M 27 26 w0) 33 (v6).toNatClampNeg v3) 34 (v6).toNatClampNeg (M 27 27)) 35 (v6).toNatClampNeg v2) 27 18 (v6 + (iI 1))) 31 (v3).toNatClampNeg v4) 27 15 v2), L)) rfl ?_
    exact V.vret rfl rfl ⟨_, rfl, rfl, h⟩
set_option maxRecDepth 100000 in
set_option maxHeartbeats 4000000 in
theorem s_TapedLinesModel_doNext_0 {l : Launch} {Γ : qG} {d r : Nat} {M : qM} {L : Nat → Int64} {P : qM → Prop} (a b : Int32) (h : ∃ P1 : Int32 → qM → Prop, V l Γ T_TapedLinesModel_loopOf d 0 0 [.ref 27, .int a, .null, .null] [] (M, L) (q_i L P1) ∧ ∀ (x1 : Int32) (M1 : qM), P1 x1 M1 → (0 ≤ x1 → V l Γ T_TapedLinesModel_doNext (d + 1) r 16 [.ref 27, .int a, .int b, .int x1, .null] [.int (iI 0), .ref 27] (M1, L) (q_n L P)) ∧ (¬ 0 ≤ x1 → V l Γ T_TapedLinesModel_doNext (d + 1) r 16 [.ref 27, .int a, .int b, .int x1, .null] [.int (iI 3), .ref 27] (M1, L) (q_n L P))) : V l Γ T_TapedLinesModel_doNext (d + 1) r 0 [.ref 27, .int a, .int b, .null, .null] [] (M, L) (q_n L P) := by
  refine V.run 2 (pc' := 2) (ls' := [.ref 27, .int a, .int b, .null, .null]) (st' := [.int a, .ref 27]) (S' := (M, L)) rfl ?_
  obtain ⟨P1, hv1, h⟩ := h
  refine V.callVi (T2 := T_TapedLinesModel_loopOf) (As := [.int a]) (rest := []) rfl rfl g_TapedLinesModel_loopOf rfl rfl rfl rfl (Nat.le_of_ble_eq_true rfl) (by simp [Value.category]) (by simp [Value.category]) (Nat.le_of_ble_eq_true rfl) (Nat.le_refl _) hv1 (fun x1 M1 hq => ?_)
  have h := h x1 M1 hq
  refine V.run 3 (pc' := 8) (ls' := [.ref 27, .int a, .int b, .int x1, .null]) (st' := [.int x1, .ref 27]) (S' := (M1, L)) rfl ?_
  refine V.ifc (cd := .ge) rfl (fun hc => ?_) (fun hc => ?_)
  · have h := h.1 hc
    refine V.run 1 (pc' := 16) (ls' := [.ref 27, .int a, .int b, .int x1, .null]) (st' := [.int (iI 0), .ref 27]) (S' := (M1, L)) rfl ?_
    exact h
  · have h := h.2 hc
    refine V.run 2 (pc' := 16) (ls' := [.ref 27, .int a, .int b, .int x1, .null]) (st' := [.int (iI 3), .ref 27]) (S' := (M1, L)) rfl ?_
    exact h
set_option maxRecDepth 100000 in
set_option maxHeartbeats 4000000 in
theorem s_TapedLinesModel_doNext_16 {l : Launch} {Γ : qG} {d r : Nat} {M : qM} {L : Nat → Int64} {P : qM → Prop} (v1 v2 v3 w0 : Int32) (h : (¬ w0 = 0 → P (q_up M 27 26 w0)) ∧ (¬ (¬ w0 = 0) → vp_in v1 8 ∧ vp_in v1 8 ∧ vp_in v1 8 ∧ vp_in v3 6 ∧ ((M 34 (v3).toNatClampNeg) < ((q_up (q_up M 27 26 w0) 31 (v1).toNatClampNeg (((M 31 (v1).toNatClampNeg) + (iI 1))).toInt16.toInt32) 31 (v1).toNatClampNeg) → V l Γ T_TapedLinesModel_doNext (d + 1) r 61 [.ref 27, .null, .int v2, .int v3, .null] [.int (iI 0)] ((q_up (q_up M 27 26 w0) 31 (v1).toNatClampNeg (((M 31 (v1).toNatClampNeg) + (iI 1))).toInt16.toInt32), L) (q_n L P)) ∧ (¬ (M 34 (v3).toNatClampNeg) < ((q_up (q_up M 27 26 w0) 31 (v1).toNatClampNeg (((M 31 (v1).toNatClampNeg) + (iI 1))).toInt16.toInt32) 31 (v1).toNatClampNeg) → V l Γ T_TapedLinesModel_doNext (d + 1) r 61 [.ref 27, .null, .int v2, .int v3, .null] [.int (iI 1)] ((q_up (q_up M 27 26 w0) 31 (v1).toNatClampNeg (((M 31 (v1).toNatClampNeg) + (iI 1))).toInt16.toInt32), L) (q_n L P)))) : V l Γ T_TapedLinesModel_doNext (d + 1) r 16 [.ref 27, .int v1, .int v2, .int v3, .null] [.int w0, .ref 27] (M, L) (q_n L P) := by
  refine V.run 3 (pc' := 23) (ls' := [.ref 27, .int v1, .int v2, .int v3, .null]) (st' := [.int w0]) (S' := ((q_up M 27 26 w0), L)) rfl ?_
  refine V.ifc (cd := .ne) rfl (fun hc => ?_) (fun hc => ?_)
  · have h := h.1 hc
    exact V.vret rfl rfl ⟨_, rfl, rfl, h⟩
  · have h := h.2 hc
    refine V.run 6 (pc' := 36) (ls' := [.ref 27, .int v1, .int v2, .int v3, .null]) (st' := [.int v1, .ref 31, .int v1, .ref 31]) (S' := ((q_up M 27 26 w0), L)) rfl ?_
    refine V.iald rfl rfl h.1 ?_
    have h := h.2
    refine V.run 3 (pc' := 40) (ls' := [.ref 27, .int v1, .int v2, .int v3, .null]) (st' := [.int (((M 31 (v1).toNatClampNeg) + (iI 1))).toInt16.toInt32, .int v1, .ref 31]) (S' := ((q_up M 27 26 w0), L)) rfl ?_
    refine V.iast rfl rfl h.1 ?_
    have h := h.2
    refine V.run 3 (pc' := 46) (ls' := [.ref 27, .int v1, .int v2, .int v3, .null]) (st' := [.int v1, .ref 31]) (S' := ((q_up (q_up M 27 26 w0) 31 (v1).toNatClampNeg (((M 31 (v1).toNatClampNeg) + (iI 1))).toInt16.toInt32), L)) rfl ?_
    refine V.iald rfl rfl h.1 ?_
    have h := h.2
    refine V.run 3 (pc' := 52) (ls' := [.ref 27, .int v1, .int v2, .int v3, .null]) (st' := [.int v3, .ref 34, .int ((q_up (q_up M 27 26 w0) 31 (v1).toNatClampNeg (((M 31 (v1).toNatClampNeg) + (iI 1))).toInt16.toInt32) 31 (v1).toNatClampNeg)]) (S' := ((q_up (q_up M 27 26 w0) 31 (v1).toNatClampNeg (((M 31 (v1).toNatClampNeg) + (iI 1))).toInt16.toInt32), L)) rfl ?_
    refine V.iald rfl rfl h.1 ?_
    have h := h.2
    refine V.icmp (cd := .gt) rfl (fun hc => ?_) (fun hc => ?_)
    · have h := h.1 hc
      refine V.run 1 (pc' := 61) (ls' := [.ref 27, .int v1, .int v2, .int v3, .null]) (st' := [.int (iI 0)]) (S' := ((q_up (q_up M 27 26 w0) 31 (v1).toNatClampNeg (((M 31 (v1).toNatClampNeg) + (iI 1))).toInt16.toInt32), L)) rfl ?_
      refine V.forget (ls' := [.ref 27, .null, .int v2, .int v3, .null]) ⟨Or.inr rfl, Or.inl rfl, Or.inr rfl, Or.inr rfl, Or.inl rfl, trivial⟩ ?_
      exact h
    · have h := h.2 hc
      refine V.run 2 (pc' := 61) (ls' := [.ref 27, .int v1, .int v2, .int v3, .null]) (st' := [.int (iI 1)]) (S' := ((q_up (q_up M 27 26 w0) 31 (v1).toNatClampNeg (((M 31 (v1).toNatClampNeg) + (iI 1))).toInt16.toInt32), L)) rfl ?_
      refine V.forget (ls' := [.ref 27, .null, .int v2, .int v3, .null]) ⟨Or.inr rfl, Or.inl rfl, Or.inr rfl, Or.inr rfl, Or.inl rfl, trivial⟩ ?_
      exact h
set_option maxRecDepth 100000 in
set_option maxHeartbeats 4000000 in
theorem s_TapedLinesModel_doNext_61 {l : Launch} {Γ : qG} {d r : Nat} {M : qM} {L : Nat → Int64} {P : qM → Prop} (v2 v3 w0 : Int32) (h : (w0 = 0 → V l Γ T_TapedLinesModel_doNext (d + 1) r 76 [.ref 27, .null, .int v2, .int v3, .int w0] [.int v3, .ref 27] (M, L) (q_n L P)) ∧ (¬ w0 = 0 → V l Γ T_TapedLinesModel_doNext (d + 1) r 76 [.ref 27, .null, .int v2, .int v3, .int w0] [.int (v3 + (iI 1)), .ref 27] (M, L) (q_n L P))) : V l Γ T_TapedLinesModel_doNext (d + 1) r 61 [.ref 27, .null, .int v2, .int v3, .null] [.int w0] (M, L) (q_n L P) := by
  refine V.run 3 (pc' := 66) (ls' := [.ref 27, .null, .int v2, .int v3, .int w0]) (st' := [.int w0, .ref 27]) (S' := (M, L)) rfl ?_
  refine V.ifc (cd := .eq) rfl (fun hc => ?_) (fun hc => ?_)
  · have h := h.1 hc
    refine V.run 1 (pc' := 76) (ls' := [.ref 27, .null, .int v2, .int v3, .int w0]) (st' := [.int v3, .ref 27]) (S' := (M, L)) rfl ?_
    exact h
  · have h := h.2 hc
    refine V.run 4 (pc' := 76) (ls' := [.ref 27, .null, .int v2, .int v3, .int w0]) (st' := [.int (v3 + (iI 1)), .ref 27]) (S' := (M, L)) rfl ?_
    exact h
set_option maxRecDepth 100000 in
set_option maxHeartbeats 4000000 in
theorem s_TapedLinesModel_doNext_76 {l : Launch} {Γ : qG} {d r : Nat} {M : qM} {L : Nat → Int64} {P : qM → Prop} (v2 v3 v4 w0 : Int32) (h : (v4 = 0 → P (q_up (q_up M 27 18 w0) 27 15 v2)) ∧ (¬ v4 = 0 → vp_in v3 6 ∧ P (q_up (q_up M 27 18 w0) 27 15 (M 35 (v3).toNatClampNeg)))) : V l Γ T_TapedLinesModel_doNext (d + 1) r 76 [.ref 27, .null, .int v2, .int v3, .int v4] [.int w0, .ref 27] (M, L) (q_n L P) := by
  refine V.run 3 (pc' := 82) (ls' := [.ref 27, .null, .int v2, .int v3, .int v4]) (st' := [.int v4, .ref 27]) (S' := ((q_up M 27 18 w0), L)) rfl ?_
  refine V.ifc (cd := .eq) rfl (fun hc => ?_) (fun hc => ?_)
  · have h := h.1 hc
    refine V.run 2 (pc' := 98) (ls' := [.ref 27, .null, .int v2, .int v3, .int v4]) (st' := []) (S' := ((q_up (q_up M 27 18 w0) 27 15 v2), L)) rfl ?_
    exact V.vret rfl rfl ⟨_, rfl, rfl, h⟩
  · have h := h.2 hc
    refine V.run 3 (pc' := 90) (ls' := [.ref 27, .null, .int v2, .int v3, .int v4]) (st' := [.int v3, .ref 35, .ref 27]) (S' := ((q_up M 27 18 w0), L)) rfl ?_
    refine V.iald rfl rfl h.1 ?_
    have h := h.2
    refine V.run 2 (pc' := 98) (ls' := [.ref 27, .null, .int v2, .int v3, .int v4]) (st' := []) (S' := ((q_up (q_up M 27 18 w0) 27 15 (M 35 (v3).toNatClampNeg)), L)) rfl ?_
    exact V.vret rfl rfl ⟨_, rfl, rfl, h⟩
set_option maxRecDepth 100000 in
set_option maxHeartbeats 4000000 in
theorem s_TapedLinesModel_doGosub_0 {l : Launch} {Γ : qG} {d r : Nat} {M : qM} {L : Nat → Int64} {P : qM → Prop} (a b : Int32) (h : ∃ P1 : qM → Prop, V l Γ T_TapedLinesModel_jump d 0 0 [.ref 27, .int a, .int b, .null] [] (M, L) (q_n L P1) ∧ ∀ (M1 : qM), P1 M1 → (¬ (M1 27 26) = 0 → V l Γ T_TapedLinesModel_doGosub (d + 1) r 31 [.ref 27, .null, .int b] [.int (M1 27 26), .ref 27] (M1, L) (q_n L P)) ∧ (¬ (¬ (M1 27 26) = 0) → (¬ (M1 27 22) = (iI 6) → V l Γ T_TapedLinesModel_doGosub (d + 1) r 31 [.ref 27, .null, .int b] [.int (M1 27 26), .ref 27] (M1, L) (q_n L P)) ∧ (¬ (¬ (M1 27 22) = (iI 6)) → V l Γ T_TapedLinesModel_doGosub (d + 1) r 31 [.ref 27, .null, .int b] [.int (iI 4), .ref 27] (M1, L) (q_n L P)))) : V l Γ T_TapedLinesModel_doGosub (d + 1) r 0 [.ref 27, .int a, .int b] [] (M, L) (q_n L P) := by
  refine V.run 3 (pc' := 3) (ls' := [.ref 27, .int a, .int b]) (st' := [.int b, .int a, .ref 27]) (S' := (M, L)) rfl ?_
  obtain ⟨P1, hv1, h⟩ := h
  refine V.callVv (T2 := T_TapedLinesModel_jump) (As := [.int a, .int b]) (rest := []) rfl rfl g_TapedLinesModel_jump rfl rfl rfl rfl (Nat.le_of_ble_eq_true rfl) (by simp [Value.category]) (by simp [Value.category]) (Nat.le_of_ble_eq_true rfl) (Nat.le_refl _) hv1 (fun M1 hq => ?_)
  have h := h M1 hq
  refine V.run 3 (pc' := 11) (ls' := [.ref 27, .int a, .int b]) (st' := [.int (M1 27 26), .ref 27]) (S' := (M1, L)) rfl ?_
  refine V.ifc (cd := .ne) rfl (fun hc => ?_) (fun hc => ?_)
  · have h := h.1 hc
    refine V.run 2 (pc' := 31) (ls' := [.ref 27, .int a, .int b]) (st' := [.int (M1 27 26), .ref 27]) (S' := (M1, L)) rfl ?_
    refine V.forget (ls' := [.ref 27, .null, .int b]) ⟨Or.inr rfl, Or.inl rfl, Or.inr rfl, trivial⟩ ?_
    exact h
  · have h := h.2 hc
    refine V.run 3 (pc' := 20) (ls' := [.ref 27, .int a, .int b]) (st' := [.int (iI 6), .int (M1 27 22), .ref 27]) (S' := (M1, L)) rfl ?_
    refine V.icmp (cd := .ne) rfl (fun hc => ?_) (fun hc => ?_)
    · have h := h.1 hc
      refine V.run 2 (pc' := 31) (ls' := [.ref 27, .int a, .int b]) (st' := [.int (M1 27 26), .ref 27]) (S' := (M1, L)) rfl ?_
      refine V.forget (ls' := [.ref 27, .null, .int b]) ⟨Or.inr rfl, Or.inl rfl, Or.inr rfl, trivial⟩ ?_
      exact h
    · have h := h.2 hc
      refine V.run 2 (pc' := 31) (ls' := [.ref 27, .int a, .int b]) (st' := [.int (iI 4), .ref 27]) (S' := (M1, L)) rfl ?_
      refine V.forget (ls' := [.ref 27, .null, .int b]) ⟨Or.inr rfl, Or.inl rfl, Or.inr rfl, trivial⟩ ?_
      exact h
set_option maxRecDepth 100000 in
set_option maxHeartbeats 4000000 in
theorem s_TapedLinesModel_doGosub_31 {l : Launch} {Γ : qG} {d r : Nat} {M : qM} {L : Nat → Int64} {P : qM → Prop} (v2 w0 : Int32) (h : (¬ w0 = 0 → P (q_up M 27 26 w0)) ∧ (¬ (¬ w0 = 0) → vp_in (M 27 22) 6 ∧ P (q_up (q_up (q_up M 27 26 w0) 36 ((M 27 22)).toNatClampNeg v2) 27 22 ((M 27 22) + (iI 1))))) : V l Γ T_TapedLinesModel_doGosub (d + 1) r 31 [.ref 27, .null, .int v2] [.int w0, .ref 27] (M, L) (q_n L P) := by
  refine V.run 3 (pc' := 38) (ls' := [.ref 27, .null, .int v2]) (st' := [.int w0]) (S' := ((q_up M 27 26 w0), L)) rfl ?_
  refine V.ifc (cd := .ne) rfl (fun hc => ?_) (fun hc => ?_)
  · have h := h.1 hc
    exact V.vret rfl rfl ⟨_, rfl, rfl, h⟩
  · have h := h.2 hc
    refine V.run 5 (pc' := 50) (ls' := [.ref 27, .null, .int v2]) (st' := [.int v2, .int (M 27 22), .ref 36]) (S' := ((q_up M 27 26 w0), L)) rfl ?_
    refine V.iast rfl rfl h.1 ?_
    have h := h.2
    refine V.run 6 (pc' := 61) (ls' := [.ref 27, .null, .int v2]) (st' := []) (S' := ((q_up (q_up (q_up M 27 26 w0) 36 ((M 27 22)).toNatClampNeg v2) 27 22 ((M 27 22) + (iI 1))), L)) rfl ?_
    exact V.vret rfl rfl ⟨_, rfl, rfl, h⟩
set_option maxRecDepth 100000 in
set_option maxHeartbeats 4000000 in
theorem s_TapedLinesModel_doReturn_0 {l : Launch} {Γ : qG} {d r : Nat} {M : qM} {L : Nat → Int64} {P : qM → Prop} (h : (¬ (M 27 22) = 0 → V l Γ T_TapedLinesModel_doReturn d r 13 [.ref 27] [.int (iI 0), .ref 27] (M, L) (q_n L P)) ∧ (¬ (¬ (M 27 22) = 0) → V l Γ T_TapedLinesModel_doReturn d r 13 [.ref 27] [.int (iI 2), .ref 27] (M, L) (q_n L P))) : V l Γ T_TapedLinesModel_doReturn d r 0 [.ref 27] [] (M, L) (q_n L P) := by
  refine V.run 3 (pc' := 5) (ls' := [.ref 27]) (st' := [.int (M 27 22), .ref 27]) (S' := (M, L)) rfl ?_
  refine V.ifc (cd := .ne) rfl (fun hc => ?_) (fun hc => ?_)
  · have h := h.1 hc
    refine V.run 1 (pc' := 13) (ls' := [.ref 27]) (st' := [.int (iI 0), .ref 27]) (S' := (M, L)) rfl ?_
    exact h
  · have h := h.2 hc
    refine V.run 2 (pc' := 13) (ls' := [.ref 27]) (st' := [.int (iI 2), .ref 27]) (S' := (M, L)) rfl ?_
    exact h
set_option maxRecDepth 100000 in
set_option maxHeartbeats 4000000 in
theorem s_TapedLinesModel_doReturn_13 {l : Launch} {Γ : qG} {d r : Nat} {M : qM} {L : Nat → Int64} {P : qM → Prop} (w0 : Int32) (h : (¬ w0 = 0 → P (q_up M 27 26 w0)) ∧ (¬ (¬ w0 = 0) → vp_in ((M 27 22) - (iI 1)) 6 ∧ P (q_up (q_up (q_up M 27 26 w0) 27 22 ((M 27 22) - (iI 1))) 27 15 (M 36 (((M 27 22) - (iI 1))).toNatClampNeg)))) : V l Γ T_TapedLinesModel_doReturn d r 13 [.ref 27] [.int w0, .ref 27] (M, L) (q_n L P) := by
  refine V.run 3 (pc' := 20) (ls' := [.ref 27]) (st' := [.int w0]) (S' := ((q_up M 27 26 w0), L)) rfl ?_
  refine V.ifc (cd := .ne) rfl (fun hc => ?_) (fun hc => ?_)
  · have h := h.1 hc
    exact V.vret rfl rfl ⟨_, rfl, rfl, h⟩
  · have h := h.2 hc
    refine V.run 11 (pc' := 42) (ls' := [.ref 27]) (st' := [.int ((M 27 22) - (iI 1)), .ref 36, .ref 27]) (S' := ((q_up (q_up M 27 26 w0) 27 22 ((M 27 22) - (iI 1))), L)) rfl ?_
    refine V.iald rfl rfl h.1 ?_
    have h := h.2
    refine V.run 1 (pc' := 46) (ls' := [.ref 27]) (st' := []) (S' := ((q_up (q_up (q_up M 27 26 w0) 27 22 ((M 27 22) - (iI 1))) 27 15 (M 36 (((M 27 22) - (iI 1))).toNatClampNeg)), L)) rfl ?_
    exact V.vret rfl rfl ⟨_, rfl, rfl, h⟩
