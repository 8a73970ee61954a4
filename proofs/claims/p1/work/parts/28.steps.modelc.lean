set_option maxRecDepth 100000 in
set_option maxHeartbeats 4000000 in
theorem s_TapedLinesModel_doIf_0 {l : Launch} {Γ : qG} {d r : Nat} {M : qM} {L : Nat → Int64} {P : qM → Prop} (a b : Int32) (h : ∃ P1 : qM → Prop, V l Γ T_TapedLinesModel_work d 0 0 [.ref 27, .int a, .int b, .null, .null, .null, .null] [] (M, L) (q_n L P1) ∧ ∀ (M1 : qM), P1 M1 → (¬ (M1 27 26) = 0 → P (q_up M1 27 15 b)) ∧ (¬ (¬ (M1 27 26) = 0) → ((M1 27 27) = 0 → P (q_up M1 27 15 b)) ∧ (¬ (M1 27 27) = 0 → ∃ P2 : qM → Prop, V l Γ T_TapedLinesModel_jump d 0 0 [.ref 27, .int ((M1 27 28) + (iI 1)), .int b, .null] [] (M1, L) (q_n L P2) ∧ ∀ (M2 : qM), P2 M2 → P M2))) : V l Γ T_TapedLinesModel_doIf (d + 1) r 0 [.ref 27, .int a, .int b] [] (M, L) (q_n L P) := by
  refine V.run 3 (pc' := 3) (ls' := [.ref 27, .int a, .int b]) (st' := [.int b, .int a, .ref 27]) (S' := (M, L)) rfl ?_
  obtain ⟨P1, hv1, h⟩ := h
  refine V.callVv (T2 := T_TapedLinesModel_work) (As := [.int a, .int b]) (rest := []) rfl rfl g_TapedLinesModel_work rfl rfl rfl rfl (Nat.le_of_ble_eq_true rfl) (by simp [Value.category]) (by simp [Value.category]) (Nat.le_of_ble_eq_true rfl) (Nat.le_refl _) hv1 (fun M1 hq => ?_)
  have h := h M1 hq
  refine V.run 2 (pc' := 10) (ls' := [.ref 27, .int a, .int b]) (st' := [.int (M1 27 26)]) (S' := (M1, L)) rfl ?_
  refine V.ifc (cd := .ne) rfl (fun hc => ?_) (fun hc => ?_)
  · have h := h.1 hc
    refine V.run 3 (pc' := 39) (ls' := [.ref 27, .int a, .int b]) (st' := []) (S' := ((q_up M1 27 15 b), L)) rfl ?_
    exact V.vret rfl rfl ⟨_, rfl, rfl, h⟩
  · have h := h.2 hc
    refine V.run 2 (pc' := 17) (ls' := [.ref 27, .int a, .int b]) (st' := [.int (M1 27 27)]) (S' := (M1, L)) rfl ?_
    refine V.ifc (cd := .eq) rfl (fun hc => ?_) (fun hc => ?_)
    · have h := h.1 hc
      refine V.run 3 (pc' := 39) (ls' := [.ref 27, .int a, .int b]) (st' := []) (S' := ((q_up M1 27 15 b), L)) rfl ?_
      exact V.vret rfl rfl ⟨_, rfl, rfl, h⟩
    · have h := h.2 hc
      refine V.run 6 (pc' := 28) (ls' := [.ref 27, .int a, .int b]) (st' := [.int b, .int ((M1 27 28) + (iI 1)), .ref 27]) (S' := (M1, L)) rfl ?_
      obtain ⟨P2, hv2, h⟩ := h
      refine V.callVv (T2 := T_TapedLinesModel_jump) (As := [.int ((M1 27 28) + (iI 1)), .int b]) (rest := []) rfl rfl g_TapedLinesModel_jump rfl rfl rfl rfl (Nat.le_of_ble_eq_true rfl) (by simp [Value.category]) (by simp [Value.category]) (Nat.le_of_ble_eq_true rfl) (Nat.le_refl _) hv2 (fun M2 hq => ?_)
      have h := h M2 hq
      refine V.run 1 (pc' := 39) (ls' := [.ref 27, .int a, .int b]) (st' := []) (S' := (M2, L)) rfl ?_
      exact V.vret rfl rfl ⟨_, rfl, rfl, h⟩
set_option maxRecDepth 100000 in
set_option maxHeartbeats 4000000 in
theorem s_TapedLinesModel_show_0 {l : Launch} {Γ : qG} {d r : Nat} {M : qM} {L : Nat → Int64} {P : qM → Prop} (a : Int32) (h : vp_in (M 27 24) 100 ∧ P (q_up (q_up M 37 ((M 27 24)).toNatClampNeg a) 27 24 ((M 27 24) + (iI 1)))) : V l Γ T_TapedLinesModel_show d r 0 [.ref 27, .int a] [] (M, L) (q_n L P) := by
  refine V.run 5 (pc' := 9) (ls' := [.ref 27, .int a]) (st' := [.int a, .int (M 27 24), .ref 37]) (S' := (M, L)) rfl ?_
  refine V.iast rfl rfl h.1 ?_
  have h := h.2
  refine V.run 6 (pc' := 20) (ls' := [.ref 27, .int a]) (st' := []) (S' := ((q_up (q_up M 37 ((M 27 24)).toNatClampNeg a) 27 24 ((M 27 24) + (iI 1))), L)) rfl ?_
  exact V.vret rfl rfl ⟨_, rfl, rfl, h⟩
set_option maxRecDepth 100000 in
set_option maxHeartbeats 4000000 in
theorem s_TapedLinesModel_doPrint_0 {l : Launch} {Γ : qG} {d r : Nat} {M : qM} {L : Nat → Int64} {P : qM → Prop} (a b : Int32) (h : vp_in a 260 ∧ (¬ (M 30 (a).toNatClampNeg) = (iI 34) → ∃ P1 : qM → Prop, V l Γ T_TapedLinesModel_work d 0 0 [.ref 27, .int a, .int b, .null, .null, .null, .null] [] (M, L) (q_n L P1) ∧ ∀ (M1 : qM), P1 M1 → (0 ≤ (M1 27 27) → V l Γ T_TapedLinesModel_doPrint (d + 1) r 96 [.ref 27, .null, .null, .null, .null, .null] [.int (M1 27 27)] (M1, L) (q_n L P)) ∧ (¬ 0 ≤ (M1 27 27) → V l Γ T_TapedLinesModel_doPrint (d + 1) r 96 [.ref 27, .null, .null, .null, .null, .null] [.int (-(M1 27 27))] (M1, L) (q_n L P))) ∧ (¬ (¬ (M 30 (a).toNatClampNeg) = (iI 34)) → (((((M 27 24) + b) - a) - (iI 2)) ≤ (iI 100) → V l Γ T_TapedLinesModel_doPrint (d + 1) r 40 [.ref 27, .null, .int b, .int (a + (iI 1)), .null, .null] [] ((q_up M 27 26 (iI 0)), L) (q_n L P)) ∧ (¬ ((((M 27 24) + b) - a) - (iI 2)) ≤ (iI 100) → V l Γ T_TapedLinesModel_doPrint (d + 1) r 40 [.ref 27, .null, .int b, .int (a + (iI 1)), .null, .null] [] ((q_up M 27 26 (iI 7)), L) (q_n L P)))) : V l Γ T_TapedLinesModel_doPrint (d + 1) r 0 [.ref 27, .int a, .int b, .null, .null, .null] [] (M, L) (q_n L P) := by
  refine V.run 3 (pc' := 5) (ls' := [.ref 27, .int a, .int b, .null, .null, .null]) (st' := [.int a, .ref 30]) (S' := (M, L)) rfl ?_
  refine V.iald rfl rfl h.1 ?_
  have h := h.2
  refine V.run 1 (pc' := 8) (ls' := [.ref 27, .int a, .int b, .null, .null, .null]) (st' := [.int (iI 34), .int (M 30 (a).toNatClampNeg)]) (S' := (M, L)) rfl ?_
  refine V.icmp (cd := .ne) rfl (fun hc => ?_) (fun hc => ?_)
  · have h := h.1 hc
    refine V.run 3 (pc' := 74) (ls' := [.ref 27, .int a, .int b, .null, .null, .null]) (st' := [.int b, .int a, .ref 27]) (S' := (M, L)) rfl ?_
    obtain ⟨P1, hv1, h⟩ := h
    refine V.callVv (T2 := T_TapedLinesModel_work) (As := [.int a, .int b]) (rest := []) rfl rfl g_TapedLinesModel_work rfl rfl rfl rfl (Nat.le_of_ble_eq_true rfl) (by simp [Value.category]) (by simp [Value.category]) (Nat.le_of_ble_eq_true rfl) (Nat.le_refl _) hv1 (fun M1 hq => ?_)
    have h := h M1 hq
    refine V.run 2 (pc' := 81) (ls' := [.ref 27, .int a, .int b, .null, .null, .null]) (st' := [.int (M1 27 27)]) (S' := (M1, L)) rfl ?_
    refine V.ifc (cd := .ge) rfl (fun hc => ?_) (fun hc => ?_)
    · have h := h.1 hc
      refine V.run 2 (pc' := 96) (ls' := [.ref 27, .int a, .int b, .null, .null, .null]) (st' := [.int (M1 27 27)]) (S' := (M1, L)) rfl ?_
      refine V.forget (ls' := [.ref 27, .null, .null, .null, .null, .null]) ⟨Or.inr rfl, Or.inl rfl, Or.inl rfl, Or.inl rfl, Or.inl rfl, Or.inl rfl, trivial⟩ ?_
      exact h
    · have h := h.2 hc
      refine V.run 4 (pc' := 96) (ls' := [.ref 27, .int a, .int b, .null, .null, .null]) (st' := [.int (-(M1 27 27))]) (S' := (M1, L)) rfl ?_
      refine V.forget (ls' := [.ref 27, .null, .null, .null, .null, .null]) ⟨Or.inr rfl, Or.inl rfl, Or.inl rfl, Or.inl rfl, Or.inl rfl, Or.inl rfl, trivial⟩ ?_
      exact h
  · have h := h.2 hc
    refine V.run 10 (pc' := 24) (ls' := [.ref 27, .int a, .int b, .null, .null, .null]) (st' := [.int (iI 100), .int ((((M 27 24) + b) - a) - (iI 2)), .ref 27]) (S' := (M, L)) rfl ?_
    refine V.icmp (cd := .le) rfl (fun hc => ?_) (fun hc => ?_)
    · have h := h.1 hc
      refine V.run 6 (pc' := 40) (ls' := [.ref 27, .int a, .int b, .int (a + (iI 1)), .null, .null]) (st' := []) (S' := ((q_up M 27 26 (iI 0)), L)) rfl ?_
      refine V.forget (ls' := [.ref 27, .null, .int b, .int (a + (iI 1)), .null, .null]) ⟨Or.inr rfl, Or.inl rfl, Or.inr rfl, Or.inr rfl, Or.inl rfl, Or.inl rfl, trivial⟩ ?_
      exact h
    · have h := h.2 hc
      refine V.run 7 (pc' := 40) (ls' := [.ref 27, .int a, .int b, .int (a + (iI 1)), .null, .null]) (st' := []) (S' := ((q_up M 27 26 (iI 7)), L)) rfl ?_
      refine V.forget (ls' := [.ref 27, .null, .int b, .int (a + (iI 1)), .null, .null]) ⟨Or.inr rfl, Or.inl rfl, Or.inr rfl, Or.inr rfl, Or.inl rfl, Or.inl rfl, trivial⟩ ?_
      exact h
set_option maxRecDepth 100000 in
set_option maxHeartbeats 4000000 in
theorem s_TapedLinesModel_doPrint_40 {l : Launch} {Γ : qG} {d r : Nat} {M : qM} {L : Nat → Int64} {P : qM → Prop} (v2 v3 : Int32) (h : ((v2 - (iI 1)) ≤ v3 → P M) ∧ (¬ (v2 - (iI 1)) ≤ v3 → (¬ (M 27 26) = 0 → P M) ∧ (¬ (¬ (M 27 26) = 0) → vp_in v3 260 ∧ ∃ P1 : qM → Prop, V l Γ T_TapedLinesModel_show d 0 0 [.ref 27, .int (M 30 (v3).toNatClampNeg)] [] (M, L) (q_n L P1) ∧ ∀ (M1 : qM), P1 M1 → V l Γ T_TapedLinesModel_doPrint (d + 1) r 40 [.ref 27, .null, .int v2, .int (v3 + (iI 1)), .null, .null] [] (M1, L) (q_n L P)))) : V l Γ T_TapedLinesModel_doPrint (d + 1) r 40 [.ref 27, .null, .int v2, .int v3, .null, .null] [] (M, L) (q_n L P) := by
  refine V.run 4 (pc' := 44) (ls' := [.ref 27, .null, .int v2, .int v3, .null, .null]) (st' := [.int (v2 - (iI 1)), .int v3]) (S' := (M, L)) rfl ?_
  refine V.icmp (cd := .ge) rfl (fun hc => ?_) (fun hc => ?_)
  · have h := h.1 hc
    exact V.vret rfl rfl ⟨_, rfl, rfl, h⟩
  · have h := h.2 hc
    refine V.run 2 (pc' := 51) (ls' := [.ref 27, .null, .int v2, .int v3, .null, .null]) (st' := [.int (M 27 26)]) (S' := (M, L)) rfl ?_
    refine V.ifc (cd := .ne) rfl (fun hc => ?_) (fun hc => ?_)
    · have h := h.1 hc
      exact V.vret rfl rfl ⟨_, rfl, rfl, h⟩
    · have h := h.2 hc
      refine V.run 4 (pc' := 60) (ls' := [.ref 27, .null, .int v2, .int v3, .null, .null]) (st' := [.int v3, .ref 30, .ref 27]) (S' := (M, L)) rfl ?_
      refine V.iald rfl rfl h.1 ?_
      have h := h.2
      obtain ⟨P1, hv1, h⟩ := h
      refine V.callVv (T2 := T_TapedLinesModel_show) (As := [.int (M 30 (v3).toNatClampNeg)]) (rest := []) rfl rfl g_TapedLinesModel_show rfl rfl rfl rfl (Nat.le_of_ble_eq_true rfl) (by simp [Value.category]) (by simp [Value.category]) (Nat.le_of_ble_eq_true rfl) (Nat.le_refl _) hv1 (fun M1 hq => ?_)
      have h := h M1 hq
      refine V.run 2 (pc' := 40) (ls' := [.ref 27, .null, .int v2, .int (v3 + (iI 1)), .null, .null]) (st' := []) (S' := (M1, L)) rfl ?_
      exact h
set_option maxRecDepth 100000 in
set_option maxHeartbeats 4000000 in
theorem s_TapedLinesModel_doPrint_96 {l : Launch} {Γ : qG} {d r : Nat} {M : qM} {L : Nat → Int64} {P : qM → Prop} (w0 : Int32) (h : (0 ≤ (M 27 27) → V l Γ T_TapedLinesModel_doPrint (d + 1) r 114 [.ref 27, .null, .null, .int w0, .int (iI 1), .int (iI 2)] [] (M, L) (q_n L P)) ∧ (¬ 0 ≤ (M 27 27) → V l Γ T_TapedLinesModel_doPrint (d + 1) r 114 [.ref 27, .null, .null, .int w0, .int (iI 1), .int (iI 3)] [] (M, L) (q_n L P))) : V l Γ T_TapedLinesModel_doPrint (d + 1) r 96 [.ref 27, .null, .null, .null, .null, .null] [.int w0] (M, L) (q_n L P) := by
  refine V.run 5 (pc' := 104) (ls' := [.ref 27, .null, .null, .int w0, .int (iI 1), .null]) (st' := [.int (M 27 27)]) (S' := (M, L)) rfl ?_
  refine V.ifc (cd := .ge) rfl (fun hc => ?_) (fun hc => ?_)
  · have h := h.1 hc
    refine V.run 2 (pc' := 114) (ls' := [.ref 27, .null, .null, .int w0, .int (iI 1), .int (iI 2)]) (st' := []) (S' := (M, L)) rfl ?_
    exact h
  · have h := h.2 hc
    refine V.run 3 (pc' := 114) (ls' := [.ref 27, .null, .null, .int w0, .int (iI 1), .int (iI 3)]) (st' := []) (S' := (M, L)) rfl ?_
    exact h
set_option maxRecDepth 100000 in
set_option maxHeartbeats 4000000 in
theorem s_TapedLinesModel_doPrint_114 {l : Launch} {Γ : qG} {d r : Nat} {M : qM} {L : Nat → Int64} {P : qM → Prop} (v3 v4 v5 : Int32) (h : ¬ v4 = 0 ∧ ((v3 / v4) ≤ (iI 9) → (¬ (M 27 26) = 0 → V l Γ T_TapedLinesModel_doPrint (d + 1) r 165 [.ref 27, .null, .null, .int v3, .int v4, .null] [.int (M 27 26), .ref 27] (M, L) (q_n L P)) ∧ (¬ (¬ (M 27 26) = 0) → (((M 27 24) + v5) ≤ (iI 100) → V l Γ T_TapedLinesModel_doPrint (d + 1) r 165 [.ref 27, .null, .null, .int v3, .int v4, .null] [.int (M 27 26), .ref 27] (M, L) (q_n L P)) ∧ (¬ ((M 27 24) + v5) ≤ (iI 100) → V l Γ T_TapedLinesModel_doPrint (d + 1) r 165 [.ref 27, .null, .null, .int v3, .int v4, .null] [.int (iI 7), .ref 27] (M, L) (q_n L P)))) ∧ (¬ (v3 / v4) ≤ (iI 9) → V l Γ T_TapedLinesModel_doPrint (d + 1) r 114 [.ref 27, .null, .null, .int v3, .int ((iI 10) * v4), .int (v5 + (iI 1))] [] (M, L) (q_n L P))) : V l Γ T_TapedLinesModel_doPrint (d + 1) r 114 [.ref 27, .null, .null, .int v3, .int v4, .int v5] [] (M, L) (q_n L P) := by
  refine V.run 2 (pc' := 117) (ls' := [.ref 27, .null, .null, .int v3, .int v4, .int v5]) (st' := [.int v4, .int v3]) (S' := (M, L)) rfl ?_
  refine V.idiv rfl h.1 ?_
  have h := h.2
  refine V.run 1 (pc' := 120) (ls' := [.ref 27, .null, .null, .int v3, .int v4, .int v5]) (st' := [.int (iI 9), .int (v3 / v4)]) (S' := (M, L)) rfl ?_
  refine V.icmp (cd := .le) rfl (fun hc => ?_) (fun hc => ?_)
  · have h := h.1 hc
    refine V.run 3 (pc' := 141) (ls' := [.ref 27, .null, .null, .int v3, .int v4, .int v5]) (st' := [.int (M 27 26), .ref 27]) (S' := (M, L)) rfl ?_
    refine V.ifc (cd := .ne) rfl (fun hc => ?_) (fun hc => ?_)
    · have h := h.1 hc
      refine V.run 2 (pc' := 165) (ls' := [.ref 27, .null, .null, .int v3, .int v4, .int v5]) (st' := [.int (M 27 26), .ref 27]) (S' := (M, L)) rfl ?_
      refine V.forget (ls' := [.ref 27, .null, .null, .int v3, .int v4, .null]) ⟨Or.inr rfl, Or.inl rfl, Or.inl rfl, Or.inr rfl, Or.inr rfl, Or.inl rfl, trivial⟩ ?_
      exact h
    · have h := h.2 hc
      refine V.run 5 (pc' := 153) (ls' := [.ref 27, .null, .null, .int v3, .int v4, .int v5]) (st' := [.int (iI 100), .int ((M 27 24) + v5), .ref 27]) (S' := (M, L)) rfl ?_
      refine V.icmp (cd := .le) rfl (fun hc => ?_) (fun hc => ?_)
      · have h := h.1 hc
        refine V.run 2 (pc' := 165) (ls' := [.ref 27, .null, .null, .int v3, .int v4, .int v5]) (st' := [.int (M 27 26), .ref 27]) (S' := (M, L)) rfl ?_
        refine V.forget (ls' := [.ref 27, .null, .null, .int v3, .int v4, .null]) ⟨Or.inr rfl, Or.inl rfl, Or.inl rfl, Or.inr rfl, Or.inr rfl, Or.inl rfl, trivial⟩ ?_
        exact h
      · have h := h.2 hc
        refine V.run 2 (pc' := 165) (ls' := [.ref 27, .null, .null, .int v3, .int v4, .int v5]) (st' := [.int (iI 7), .ref 27]) (S' := (M, L)) rfl ?_
        refine V.forget (ls' := [.ref 27, .null, .null, .int v3, .int v4, .null]) ⟨Or.inr rfl, Or.inl rfl, Or.inl rfl, Or.inr rfl, Or.inr rfl, Or.inl rfl, trivial⟩ ?_
        exact h
  · have h := h.2 hc
    refine V.run 6 (pc' := 114) (ls' := [.ref 27, .null, .null, .int v3, .int ((iI 10) * v4), .int (v5 + (iI 1))]) (st' := []) (S' := (M, L)) rfl ?_
    exact h
set_option maxRecDepth 100000 in
set_option maxHeartbeats 4000000 in
theorem s_TapedLinesModel_doPrint_165 {l : Launch} {Γ : qG} {d r : Nat} {M : qM} {L : Nat → Int64} {P : qM → Prop} (v3 v4 w0 : Int32) (h : (w0 ≤ 0 → (0 ≤ (M 27 27) → V l Γ T_TapedLinesModel_doPrint (d + 1) r 189 [.ref 27, .null, .null, .int v3, .int v4, .null] [] ((q_up M 27 26 w0), L) (q_n L P)) ∧ (¬ 0 ≤ (M 27 27) → ∃ P1 : qM → Prop, V l Γ T_TapedLinesModel_show d 0 0 [.ref 27, .int (iI 45)] [] ((q_up M 27 26 w0), L) (q_n L P1) ∧ ∀ (M1 : qM), P1 M1 → V l Γ T_TapedLinesModel_doPrint (d + 1) r 189 [.ref 27, .null, .null, .int v3, .int v4, .null] [] (M1, L) (q_n L P))) ∧ (¬ w0 ≤ 0 → P (q_up M 27 26 w0))) : V l Γ T_TapedLinesModel_doPrint (d + 1) r 165 [.ref 27, .null, .null, .int v3, .int v4, .null] [.int w0, .ref 27] (M, L) (q_n L P) := by
  refine V.run 3 (pc' := 172) (ls' := [.ref 27, .null, .null, .int v3, .int v4, .null]) (st' := [.int w0]) (S' := ((q_up M 27 26 w0), L)) rfl ?_
  refine V.ifc (cd := .le) rfl (fun hc => ?_) (fun hc => ?_)
  · have h := h.1 hc
    refine V.run 2 (pc' := 180) (ls' := [.ref 27, .null, .null, .int v3, .int v4, .null]) (st' := [.int (M 27 27)]) (S' := ((q_up M 27 26 w0), L)) rfl ?_
    refine V.ifc (cd := .ge) rfl (fun hc => ?_) (fun hc => ?_)
    · have h := h.1 hc
      exact h
    · have h := h.2 hc
      refine V.run 2 (pc' := 186) (ls' := [.ref 27, .null, .null, .int v3, .int v4, .null]) (st' := [.int (iI 45), .ref 27]) (S' := ((q_up M 27 26 w0), L)) rfl ?_
      obtain ⟨P1, hv1, h⟩ := h
      refine V.callVv (T2 := T_TapedLinesModel_show) (As := [.int (iI 45)]) (rest := []) rfl rfl g_TapedLinesModel_show rfl rfl rfl rfl (Nat.le_of_ble_eq_true rfl) (by simp [Value.category]) (by simp [Value.category]) (Nat.le_of_ble_eq_true rfl) (Nat.le_refl _) hv1 (fun M1 hq => ?_)
      have h := h M1 hq
      exact h
  · have h := h.2 hc
    exact V.vret rfl rfl ⟨_, rfl, rfl, h⟩
set_option maxRecDepth 100000 in
set_option maxHeartbeats 4000000 in
theorem s_TapedLinesModel_doPrint_189 {l : Launch} {Γ : qG} {d r : Nat} {M : qM} {L : Nat → Int64} {P : qM → Prop} (v3 v4 : Int32) (h : (v4 ≤ 0 → ∃ P1 : qM → Prop, V l Γ T_TapedLinesModel_show d 0 0 [.ref 27, .int (iI 32)] [] (M, L) (q_n L P1) ∧ ∀ (M1 : qM), P1 M1 → P M1) ∧ (¬ v4 ≤ 0 → ¬ v4 = 0 ∧ ∃ P2 : qM → Prop, V l Γ T_TapedLinesModel_show d 0 0 [.ref 27, .int ((iI 48) + ((v3 / v4) - (v3 / v4) / (iI 10) * (iI 10)))] [] (M, L) (q_n L P2) ∧ ∀ (M2 : qM), P2 M2 → V l Γ T_TapedLinesModel_doPrint (d + 1) r 189 [.ref 27, .null, .null, .int v3, .int (v4 / (iI 10)), .null] [] (M2, L) (q_n L P))) : V l Γ T_TapedLinesModel_doPrint (d + 1) r 189 [.ref 27, .null, .null, .int v3, .int v4, .null] [] (M, L) (q_n L P) := by
  refine V.run 1 (pc' := 191) (ls' := [.ref 27, .null, .null, .int v3, .int v4, .null]) (st' := [.int v4]) (S' := (M, L)) rfl ?_
  refine V.ifc (cd := .le) rfl (fun hc => ?_) (fun hc => ?_)
  · have h := h.1 hc
    refine V.run 2 (pc' := 221) (ls' := [.ref 27, .null, .null, .int v3, .int v4, .null]) (st' := [.int (iI 32), .ref 27]) (S' := (M, L)) rfl ?_
    obtain ⟨P1, hv1, h⟩ := h
    refine V.callVv (T2 := T_TapedLinesModel_show) (As := [.int (iI 32)]) (rest := []) rfl rfl g_TapedLinesModel_show rfl rfl rfl rfl (Nat.le_of_ble_eq_true rfl) (by simp [Value.category]) (by simp [Value.category]) (Nat.le_of_ble_eq_true rfl) (Nat.le_refl _) hv1 (fun M1 hq => ?_)
    have h := h M1 hq
    exact V.vret rfl rfl ⟨_, rfl, rfl, h⟩
  · have h := h.2 hc
    refine V.run 4 (pc' := 200) (ls' := [.ref 27, .null, .null, .int v3, .int v4, .null]) (st' := [.int v4, .int v3, .int (iI 48), .ref 27]) (S' := (M, L)) rfl ?_
    refine V.idiv rfl h.1 ?_
    have h := h.2
    refine V.run 1 (pc' := 203) (ls' := [.ref 27, .null, .null, .int v3, .int v4, .null]) (st' := [.int (iI 10), .int (v3 / v4), .int (iI 48), .ref 27]) (S' := (M, L)) rfl ?_
    refine V.irem rfl (by decide) ?_
    refine V.run 1 (pc' := 205) (ls' := [.ref 27, .null, .null, .int v3, .int v4, .null]) (st' := [.int ((iI 48) + ((v3 / v4) - (v3 / v4) / (iI 10) * (iI 10))), .ref 27]) (S' := (M, L)) rfl ?_
    obtain ⟨P2, hv2, h⟩ := h
    refine V.callVv (T2 := T_TapedLinesModel_show) (As := [.int ((iI 48) + ((v3 / v4) - (v3 / v4) / (iI 10) * (iI 10)))]) (rest := []) rfl rfl g_TapedLinesModel_show rfl rfl rfl rfl (Nat.le_of_ble_eq_true rfl) (by simp [Value.category]) (by simp [Value.category]) (Nat.le_of_ble_eq_true rfl) (Nat.le_refl _) hv2 (fun M2 hq => ?_)
    have h := h M2 hq
    refine V.run 2 (pc' := 212) (ls' := [.ref 27, .null, .null, .int v3, .int v4, .null]) (st' := [.int (iI 10), .int v4]) (S' := (M2, L)) rfl ?_
    refine V.idiv rfl (by decide) ?_
    refine V.run 2 (pc' := 189) (ls' := [.ref 27, .null, .null, .int v3, .int (v4 / (iI 10)), .null]) (st' := []) (S' := (M2, L)) rfl ?_
    exact h
set_option maxRecDepth 100000 in
set_option maxHeartbeats 4000000 in
theorem s_TapedLinesModel_doWord_0 {l : Launch} {Γ : qG} {d r : Nat} {M : qM} {L : Nat → Int64} {P : qM → Prop} (a b c : Int32) (h : ((a).toInt = 0 → ∃ P1 : qM → Prop, V l Γ T_TapedLinesModel_jump d 0 0 [.ref 27, .int b, .int c, .null] [] (M, L) (q_n L P1) ∧ ∀ (M1 : qM), P1 M1 → P M1) ∧ (¬ (a).toInt = 0 → ((a).toInt = 1 → ∃ P2 : qM → Prop, V l Γ T_TapedLinesModel_doGosub d 0 0 [.ref 27, .int b, .int c] [] (M, L) (q_n L P2) ∧ ∀ (M2 : qM), P2 M2 → P M2) ∧ (¬ (a).toInt = 1 → ((a).toInt = 2 → ∃ P3 : qM → Prop, V l Γ T_TapedLinesModel_doReturn d 0 0 [.ref 27] [] (M, L) (q_n L P3) ∧ ∀ (M3 : qM), P3 M3 → P M3) ∧ (¬ (a).toInt = 2 → ((a).toInt = 3 → ∃ P4 : qM → Prop, V l Γ T_TapedLinesModel_doIf d 0 0 [.ref 27, .int b, .int c] [] (M, L) (q_n L P4) ∧ ∀ (M4 : qM), P4 M4 → P M4) ∧ (¬ (a).toInt = 3 → ((a).toInt = 4 → ∃ P5 : qM → Prop, V l Γ T_TapedLinesModel_doFor d 0 0 [.ref 27, .int b, .int c, .null, .null, .null, .null] [] (M, L) (q_n L P5) ∧ ∀ (M5 : qM), P5 M5 → P M5) ∧ (¬ (a).toInt = 4 → ((a).toInt = 6 → vp_in b 260 ∧ ∃ P6 : qM → Prop, V l Γ T_TapedLinesModel_doNext d 0 0 [.ref 27, .int ((M 30 (b).toNatClampNeg) - (iI 97)), .int c, .null, .null] [] (M, L) (q_n L P6) ∧ ∀ (M6 : qM), P6 M6 → P M6) ∧ (¬ (a).toInt = 6 → P (q_up M 27 14 (iI 2))))))))) : V l Γ T_TapedLinesModel_doWord (d + 1) r 0 [.ref 27, .int a, .int b, .int c] [] (M, L) (q_n L P) := by
  refine V.run 1 (pc' := 1) (ls' := [.ref 27, .int a, .int b, .int c]) (st' := [.int a]) (S' := (M, L)) rfl ?_
  refine V.swt rfl 104 [(0, 44), (1, 53), (2, 62), (3, 69), (4, 78), (6, 87)] (by decide) (by decide) (by decide) ?_
  refine q_swP.c (fun hc => ?_) (fun hc => ?_)
  · have h := h.1 hc
    refine V.run 3 (pc' := 47) (ls' := [.ref 27, .int a, .int b, .int c]) (st' := [.int c, .int b, .ref 27]) (S' := (M, L)) rfl ?_
    obtain ⟨P1, hv1, h⟩ := h
    refine V.callVv (T2 := T_TapedLinesModel_jump) (As := [.int b, .int c]) (rest := []) rfl rfl g_TapedLinesModel_jump rfl rfl rfl rfl (Nat.le_of_ble_eq_true rfl) (by simp [Value.category]) (by simp [Value.category]) (Nat.le_of_ble_eq_true rfl) (Nat.le_refl _) hv1 (fun M1 hq => ?_)
    have h := h M1 hq
    refine V.run 1 (pc' := 109) (ls' := [.ref 27, .int a, .int b, .int c]) (st' := []) (S' := (M1, L)) rfl ?_
    exact V.vret rfl rfl ⟨_, rfl, rfl, h⟩
  · have h := h.2 hc
    refine q_swP.c (fun hc => ?_) (fun hc => ?_)
    · have h := h.1 hc
      refine V.run 3 (pc' := 56) (ls' := [.ref 27, .int a, .int b, .int c]) (st' := [.int c, .int b, .ref 27]) (S' := (M, L)) rfl ?_
      obtain ⟨P2, hv2, h⟩ := h
      refine V.callVv (T2 := T_TapedLinesModel_doGosub) (As := [.int b, .int c]) (rest := []) rfl rfl g_TapedLinesModel_doGosub rfl rfl rfl rfl (Nat.le_of_ble_eq_true rfl) (by simp [Value.category]) (by simp [Value.category]) (Nat.le_of_ble_eq_true rfl) (Nat.le_refl _) hv2 (fun M2 hq => ?_)
      have h := h M2 hq
      refine V.run 1 (pc' := 109) (ls' := [.ref 27, .int a, .int b, .int c]) (st' := []) (S' := (M2, L)) rfl ?_
      exact V.vret rfl rfl ⟨_, rfl, rfl, h⟩
    · have h := h.2 hc
      refine q_swP.c (fun hc => ?_) (fun hc => ?_)
      · have h := h.1 hc
        refine V.run 1 (pc' := 63) (ls' := [.ref 27, .int a, .int b, .int c]) (st' := [.ref 27]) (S' := (M, L)) rfl ?_
        obtain ⟨P3, hv3, h⟩ := h
        refine V.callVv (T2 := T_TapedLinesModel_doReturn) (As := []) (rest := []) rfl rfl g_TapedLinesModel_doReturn rfl rfl rfl rfl (Nat.le_of_ble_eq_true rfl) (by simp [Value.category]) (by simp [Value.category]) (Nat.le_of_ble_eq_true rfl) (Nat.le_refl _) hv3 (fun M3 hq => ?_)
        have h := h M3 hq
        refine V.run 1 (pc' := 109) (ls' := [.ref 27, .int a, .int b, .int c]) (st' := []) (S' := (M3, L)) rfl ?_
        exact V.vret rfl rfl ⟨_, rfl, rfl, h⟩
      · have h := h.2 hc
        refine q_swP.c (fun hc => ?_) (fun hc => ?_)
        · have h := h.1 hc
          refine V.run 3 (pc' := 72) (ls' := [.ref 27, .int a, .int b, .int c]) (st' := [.int c, .int b, .ref 27]) (S' := (M, L)) rfl ?_
          obtain ⟨P4, hv4, h⟩ := h
          refine V.callVv (T2 := T_TapedLinesModel_doIf) (As := [.int b, .int c]) (rest := []) rfl rfl g_TapedLinesModel_doIf rfl rfl rfl rfl (Nat.le_of_ble_eq_true rfl) (by simp [Value.category]) (by simp [Value.category]) (Nat.le_of_ble_eq_true rfl) (Nat.le_refl _) hv4 (fun M4 hq => ?_)
          have h := h M4 hq
          refine V.run 1 (pc' := 109) (ls' := [.ref 27, .int a, .int b, .int c]) (st' := []) (S' := (M4, L)) rfl ?_
          exact V.vret rfl rfl ⟨_, rfl, rfl, h⟩
        · have h := h.2 hc
          refine q_swP.c (fun hc => ?_) (fun hc => ?_)
          · have h := h.1 hc
            refine V.run 3 (pc' := 81) (ls' := [.ref 27, .int a, .int b, .int c]) (st' := [.int c, .int b, .ref 27]) (S' := (M, L)) rfl ?_
            obtain ⟨P5, hv5, h⟩ := h
            refine V.callVv (T2 := T_TapedLinesModel_doFor) (As := [.int b, .int c]) (rest := []) rfl rfl g_TapedLinesModel_doFor rfl rfl rfl rfl (Nat.le_of_ble_eq_true rfl) (by simp [Value.category]) (by simp [Value.category]) (Nat.le_of_ble_eq_true rfl) (Nat.le_refl _) hv5 (fun M5 hq => ?_)
            have h := h M5 hq
            refine V.run 1 (pc' := 109) (ls' := [.ref 27, .int a, .int b, .int c]) (st' := []) (S' := (M5, L)) rfl ?_
            exact V.vret rfl rfl ⟨_, rfl, rfl, h⟩
          · have h := h.2 hc
            refine q_swP.c (fun hc => ?_) (fun hc => ?_)
            · have h := h.1 hc
              refine V.run 4 (pc' := 93) (ls' := [.ref 27, .int a, .int b, .int c]) (st' := [.int b, .ref 30, .ref 27]) (S' := (M, L)) rfl ?_
              refine V.iald rfl rfl h.1 ?_
              have h := h.2
              refine V.run 3 (pc' := 98) (ls' := [.ref 27, .int a, .int b, .int c]) (st' := [.int c, .int ((M 30 (b).toNatClampNeg) - (iI 97)), .ref 27]) (S' := (M, L)) rfl ?_
              obtain ⟨P6, hv6, h⟩ := h
              refine V.callVv (T2 := T_TapedLinesModel_doNext) (As := [.int ((M 30 (b).toNatClampNeg) - (iI 97)), .int c]) (rest := []) rfl rfl g_TapedLinesModel_doNext rfl rfl rfl rfl (Nat.le_of_ble_eq_true rfl) (by simp [Value.category]) (by simp [Value.category]) (Nat.le_of_ble_eq_true rfl) (Nat.le_refl _) hv6 (fun M6 hq => ?_)
              have h := h M6 hq
              refine V.run 1 (pc' := 109) (ls' := [.ref 27, .int a, .int b, .int c]) (st' := []) (S' := (M6, L)) rfl ?_
              exact V.vret rfl rfl ⟨_, rfl, rfl, h⟩
            · have h := h.2 hc
              refine q_swP.e ?_
              refine V.run 3 (pc' := 109) (ls' := [.ref 27, .int a, .int b, .int c]) (st' := []) (S' := ((q_up M 27 14 (iI 2)), L)) rfl ?_
              exact V.vret rfl rfl ⟨_, rfl, rfl, h⟩
set_option maxRecDepth 100000 in
set_option maxHeartbeats 4000000 in
theorem s_TapedLinesModel_doCell_0 {l : Launch} {Γ : qG} {d r : Nat} {M : qM} {L : Nat → Int64} {P : qM → Prop} (a b : Int32) (h : ∃ P1 : qM → Prop, V l Γ T_TapedLinesModel_work d 0 0 [.ref 27, .int a, .int b, .null, .null, .null, .null] [] (M, L) (q_n L P1) ∧ ∀ (M1 : qM), P1 M1 → (¬ (M1 27 26) = 0 → V l Γ T_TapedLinesModel_doCell (d + 1) r 29 [.ref 27, .null, .null, .int (M1 27 27)] [] (M1, L) (q_n L P)) ∧ (¬ (¬ (M1 27 26) = 0) → ∃ P2 : qM → Prop, V l Γ T_TapedLinesModel_work d 0 0 [.ref 27, .int ((M1 27 28) + (iI 2)), .int b, .null, .null, .null, .null] [] (M1, L) (q_n L P2) ∧ ∀ (M2 : qM), P2 M2 → V l Γ T_TapedLinesModel_doCell (d + 1) r 29 [.ref 27, .null, .null, .int (M1 27 27)] [] (M2, L) (q_n L P))) : V l Γ T_TapedLinesModel_doCell (d + 1) r 0 [.ref 27, .int a, .int b, .null] [] (M, L) (q_n L P) := by
  refine V.run 3 (pc' := 3) (ls' := [.ref 27, .int a, .int b, .null]) (st' := [.int b, .int a, .ref 27]) (S' := (M, L)) rfl ?_
  obtain ⟨P1, hv1, h⟩ := h
  refine V.callVv (T2 := T_TapedLinesModel_work) (As := [.int a, .int b]) (rest := []) rfl rfl g_TapedLinesModel_work rfl rfl rfl rfl (Nat.le_of_ble_eq_true rfl) (by simp [Value.category]) (by simp [Value.category]) (Nat.le_of_ble_eq_true rfl) (Nat.le_refl _) hv1 (fun M1 hq => ?_)
  have h := h M1 hq
  refine V.run 5 (pc' := 15) (ls' := [.ref 27, .int a, .int b, .int (M1 27 27)]) (st' := [.int (M1 27 26)]) (S' := (M1, L)) rfl ?_
  refine V.ifc (cd := .ne) rfl (fun hc => ?_) (fun hc => ?_)
  · have h := h.1 hc
    refine V.forget (ls' := [.ref 27, .null, .null, .int (M1 27 27)]) ⟨Or.inr rfl, Or.inl rfl, Or.inl rfl, Or.inr rfl, trivial⟩ ?_
    exact h
  · have h := h.2 hc
    refine V.run 6 (pc' := 26) (ls' := [.ref 27, .int a, .int b, .int (M1 27 27)]) (st' := [.int b, .int ((M1 27 28) + (iI 2)), .ref 27]) (S' := (M1, L)) rfl ?_
    obtain ⟨P2, hv2, h⟩ := h
    refine V.callVv (T2 := T_TapedLinesModel_work) (As := [.int ((M1 27 28) + (iI 2)), .int b]) (rest := []) rfl rfl g_TapedLinesModel_work rfl rfl rfl rfl (Nat.le_of_ble_eq_true rfl) (by simp [Value.category]) (by simp [Value.category]) (Nat.le_of_ble_eq_true rfl) (Nat.le_refl _) hv2 (fun M2 hq => ?_)
    have h := h M2 hq
    refine V.forget (ls' := [.ref 27, .null, .null, .int (M1 27 27)]) ⟨Or.inr rfl, Or.inl rfl, Or.inl rfl, Or.inr rfl, trivial⟩ ?_
    exact h
set_option maxRecDepth 100000 in
set_option maxHeartbeats 4000000 in
theorem s_TapedLinesModel_doCell_29 {l : Launch} {Γ : qG} {d r : Nat} {M : qM} {L : Nat → Int64} {P : qM → Prop} (v3 : Int32) (h : (¬ (M 27 26) = 0 → V l Γ T_TapedLinesModel_doCell (d + 1) r 56 [.ref 27, .null, .null, .int v3] [.int (M 27 26), .ref 27] (M, L) (q_n L P)) ∧ (¬ (¬ (M 27 26) = 0) → (v3 < 0 → V l Γ T_TapedLinesModel_doCell (d + 1) r 56 [.ref 27, .null, .null, .int v3] [.int (iI 6), .ref 27] (M, L) (q_n L P)) ∧ (¬ v3 < 0 → (v3 ≤ (iI 15) → V l Γ T_TapedLinesModel_doCell (d + 1) r 56 [.ref 27, .null, .null, .int v3] [.int (M 27 26), .ref 27] (M, L) (q_n L P)) ∧ (¬ v3 ≤ (iI 15) → V l Γ T_TapedLinesModel_doCell (d + 1) r 56 [.ref 27, .null, .null, .int v3] [.int (iI 6), .ref 27] (M, L) (q_n L P))))) : V l Γ T_TapedLinesModel_doCell (d + 1) r 29 [.ref 27, .null, .null, .int v3] [] (M, L) (q_n L P) := by
  refine V.run 3 (pc' := 34) (ls' := [.ref 27, .null, .null, .int v3]) (st' := [.int (M 27 26), .ref 27]) (S' := (M, L)) rfl ?_
  refine V.ifc (cd := .ne) rfl (fun hc => ?_) (fun hc => ?_)
  · have h := h.1 hc
    refine V.run 2 (pc' := 56) (ls' := [.ref 27, .null, .null, .int v3]) (st' := [.int (M 27 26), .ref 27]) (S' := (M, L)) rfl ?_
    exact h
  · have h := h.2 hc
    refine V.run 1 (pc' := 38) (ls' := [.ref 27, .null, .null, .int v3]) (st' := [.int v3, .ref 27]) (S' := (M, L)) rfl ?_
    refine V.ifc (cd := .lt) rfl (fun hc => ?_) (fun hc => ?_)
    · have h := h.1 hc
      refine V.run 2 (pc' := 56) (ls' := [.ref 27, .null, .null, .int v3]) (st' := [.int (iI 6), .ref 27]) (S' := (M, L)) rfl ?_
      exact h
    · have h := h.2 hc
      refine V.run 2 (pc' := 44) (ls' := [.ref 27, .null, .null, .int v3]) (st' := [.int (iI 15), .int v3, .ref 27]) (S' := (M, L)) rfl ?_
      refine V.icmp (cd := .le) rfl (fun hc => ?_) (fun hc => ?_)
      · have h := h.1 hc
        refine V.run 2 (pc' := 56) (ls' := [.ref 27, .null, .null, .int v3]) (st' := [.int (M 27 26), .ref 27]) (S' := (M, L)) rfl ?_
        exact h
      · have h := h.2 hc
        refine V.run 2 (pc' := 56) (ls' := [.ref 27, .null, .null, .int v3]) (st' := [.int (iI 6), .ref 27]) (S' := (M, L)) rfl ?_
        exact h
set_option maxRecDepth 100000 in
set_option maxHeartbeats 4000000 in
theorem s_TapedLinesModel_doCell_56 {l : Launch} {Γ : qG} {d r : Nat} {M : qM} {L : Nat → Int64} {P : qM → Prop} (v3 w0 : Int32) (h : (¬ w0 = 0 → P (q_up M 27 26 w0)) ∧ (¬ (¬ w0 = 0) → vp_in v3 16 ∧ P (q_up (q_up M 27 26 w0) 32 (v3).toNatClampNeg (M 27 27)))) : V l Γ T_TapedLinesModel_doCell (d + 1) r 56 [.ref 27, .null, .null, .int v3] [.int w0, .ref 27] (M, L) (q_n L P) := by
  refine V.run 3 (pc' := 63) (ls' := [.ref 27, .null, .null, .int v3]) (st' := [.int w0]) (S' := ((q_up M 27 26 w0), L)) rfl ?_
  refine V.ifc (cd := .ne) rfl (fun hc => ?_) (fun hc => ?_)
  · have h := h.1 hc
    exact V.vret rfl rfl ⟨_, rfl, rfl, h⟩
  · have h := h.2 hc
    refine V.run 5 (pc' := 75) (ls' := [.ref 27, .null, .null, .int v3]) (st' := [.int (M 27 27), .int v3, .ref 32]) (S' := ((q_up M 27 26 w0), L)) rfl ?_
    refine V.iast rfl rfl h.1 ?_
    have h := h.2
    exact V.vret rfl rfl ⟨_, rfl, rfl, h⟩
set_option maxRecDepth 100000 in
set_option maxHeartbeats 4000000 in
theorem s_TapedLinesModel_step_0 {l : Launch} {Γ : qG} {d r : Nat} {M : qM} {L : Nat → Int64} {P : Int32 → qM → Prop} (h : vp_in ((M 27 15) + (iI 1)) 260 ∧ vp_in ((M 27 15) + (iI 2)) 260 ∧ ((M 30 (((M 27 15) + (iI 2))).toNatClampNeg) < (iI 128) → (¬ (M 30 (((M 27 15) + (iI 2))).toNatClampNeg) = (iI 63) → (¬ (M 30 (((M 27 15) + (iI 2))).toNatClampNeg) = (iI 64) → ∃ P1 : qM → Prop, V l Γ T_TapedLinesModel_work d 0 0 [.ref 27, .int (((M 27 15) + (iI 2)) + (iI 2)), .int (((M 27 15) + (iI 2)) + (M 30 (((M 27 15) + (iI 1))).toNatClampNeg)), .null, .null, .null, .null] [] ((q_up M 27 26 (iI 0)), L) (q_n L P1) ∧ ∀ (M1 : qM), P1 M1 → (¬ (M1 27 26) = 0 → vp_in ((M 30 (((M 27 15) + (iI 2))).toNatClampNeg) - (iI 97)) 8 ∧ vp_in ((M 30 (((M 27 15) + (iI 2))).toNatClampNeg) - (iI 97)) 8 ∧ V l Γ T_TapedLinesModel_step (d + 1) r 147 [.ref 27, .int (M 27 15), .null, .null, .null] [] ((q_up (q_up M1 31 (((M 30 (((M 27 15) + (iI 2))).toNatClampNeg) - (iI 97))).toNatClampNeg (M1 31 (((M 30 (((M 27 15) + (iI 2))).toNatClampNeg) - (iI 97))).toNatClampNeg)) 27 15 (((M 27 15) + (iI 2)) + (M 30 (((M 27 15) + (iI 1))).toNatClampNeg))), L) (q_i L P)) ∧ (¬ (¬ (M1 27 26) = 0) → vp_in ((M 30 (((M 27 15) + (iI 2))).toNatClampNeg) - (iI 97)) 8 ∧ V l Γ T_TapedLinesModel_step (d + 1) r 147 [.ref 27, .int (M 27 15), .null, .null, .null] [] ((q_up (q_up M1 31 (((M 30 (((M 27 15) + (iI 2))).toNatClampNeg) - (iI 97))).toNatClampNeg (M1 27 27)) 27 15 (((M 27 15) + (iI 2)) + (M 30 (((M 27 15) + (iI 1))).toNatClampNeg))), L) (q_i L P))) ∧ (¬ (¬ (M 30 (((M 27 15) + (iI 2))).toNatClampNeg) = (iI 64)) → ∃ P2 : qM → Prop, V l Γ T_TapedLinesModel_doCell d 0 0 [.ref 27, .int (((M 27 15) + (iI 2)) + (iI 2)), .int (((M 27 15) + (iI 2)) + (M 30 (((M 27 15) + (iI 1))).toNatClampNeg)), .null] [] ((q_up M 27 26 (iI 0)), L) (q_n L P2) ∧ ∀ (M2 : qM), P2 M2 → V l Γ T_TapedLinesModel_step (d + 1) r 147 [.ref 27, .int (M 27 15), .null, .null, .null] [] ((q_up M2 27 15 (((M 27 15) + (iI 2)) + (M 30 (((M 27 15) + (iI 1))).toNatClampNeg))), L) (q_i L P))) ∧ (¬ (¬ (M 30 (((M 27 15) + (iI 2))).toNatClampNeg) = (iI 63)) → ∃ P3 : qM → Prop, V l Γ T_TapedLinesModel_doPrint d 0 0 [.ref 27, .int (((M 27 15) + (iI 2)) + (iI 1)), .int (((M 27 15) + (iI 2)) + (M 30 (((M 27 15) + (iI 1))).toNatClampNeg)), .null, .null, .null] [] ((q_up M 27 26 (iI 0)), L) (q_n L P3) ∧ ∀ (M3 : qM), P3 M3 → V l Γ T_TapedLinesModel_step (d + 1) r 147 [.ref 27, .int (M 27 15), .null, .null, .null] [] ((q_up M3 27 15 (((M 27 15) + (iI 2)) + (M 30 (((M 27 15) + (iI 1))).toNatClampNeg))), L) (q_i L P))) ∧ (¬ (M 30 (((M 27 15) + (iI 2))).toNatClampNeg) < (iI 128) → ∃ P4 : qM → Prop, V l Γ T_TapedLinesModel_doWord d 0 0 [.ref 27, .int ((M 30 (((M 27 15) + (iI 2))).toNatClampNeg) - (iI 128)), .int (((M 27 15) + (iI 2)) + (iI 1)), .int (((M 27 15) + (iI 2)) + (M 30 (((M 27 15) + (iI 1))).toNatClampNeg))] [] ((q_up M 27 26 (iI 0)), L) (q_n L P4) ∧ ∀ (M4 : qM), P4 M4 → V l Γ T_TapedLinesModel_step (d + 1) r 147 [.ref 27, .int (M 27 15), .null, .null, .null] [] (M4, L) (q_i L P))) : V l Γ T_TapedLinesModel_step (d + 1) r 0 [.ref 27, .null, .null, .null, .null] [] (M, L) (q_i L P) := by
  refine V.run 15 (pc' := 23) (ls' := [.ref 27, .int (M 27 15), .int ((M 27 15) + (iI 2)), .null, .null]) (st' := [.int ((M 27 15) + (iI 1)), .ref 30, .int ((M 27 15) + (iI 2))]) (S' := (M, L)) rfl ?_
  refine V.iald rfl rfl h.1 ?_
  have h := h.2
  refine V.run 5 (pc' := 31) (ls' := [.ref 27, .int (M 27 15), .int ((M 27 15) + (iI 2)), .int (((M 27 15) + (iI 2)) + (M 30 (((M 27 15) + (iI 1))).toNatClampNeg)), .null]) (st' := [.int ((M 27 15) + (iI 2)), .ref 30]) (S' := (M, L)) rfl ?_
  refine V.iald rfl rfl h.1 ?_
  have h := h.2
  refine V.run 6 (pc' := 44) (ls' := [.ref 27, .int (M 27 15), .int ((M 27 15) + (iI 2)), .int (((M 27 15) + (iI 2)) + (M 30 (((M 27 15) + (iI 1))).toNatClampNeg)), .int (M 30 (((M 27 15) + (iI 2))).toNatClampNeg)]) (st' := [.int (iI 128), .int (M 30 (((M 27 15) + (iI 2))).toNatClampNeg)]) (S' := ((q_up M 27 26 (iI 0)), L)) rfl ?_
  refine V.icmp (cd := .lt) rfl (fun hc => ?_) (fun hc => ?_)
  · have h := h.1 hc
    refine V.run 2 (pc' := 68) (ls' := [.ref 27, .int (M 27 15), .int ((M 27 15) + (iI 2)), .int (((M 27 15) + (iI 2)) + (M 30 (((M 27 15) + (iI 1))).toNatClampNeg)), .int (M 30 (((M 27 15) + (iI 2))).toNatClampNeg)]) (st' := [.int (iI 63), .int (M 30 (((M 27 15) + (iI 2))).toNatClampNeg)]) (S' := ((q_up M 27 26 (iI 0)), L)) rfl ?_
    refine V.icmp (cd := .ne) rfl (fun hc => ?_) (fun hc => ?_)
    · have h := h.1 hc
      refine V.run 2 (pc' := 86) (ls' := [.ref 27, .int (M 27 15), .int ((M 27 15) + (iI 2)), .int (((M 27 15) + (iI 2)) + (M 30 (((M 27 15) + (iI 1))).toNatClampNeg)), .int (M 30 (((M 27 15) + (iI 2))).toNatClampNeg)]) (st' := [.int (iI 64), .int (M 30 (((M 27 15) + (iI 2))).toNatClampNeg)]) (S' := ((q_up M 27 26 (iI 0)), L)) rfl ?_
      refine V.icmp (cd := .ne) rfl (fun hc => ?_) (fun hc => ?_)
      · have h := h.1 hc
        refine V.run 5 (pc' := 105) (ls' := [.ref 27, .int (M 27 15), .int ((M 27 15) + (iI 2)), .int (((M 27 15) + (iI 2)) + (M 30 (((M 27 15) + (iI 1))).toNatClampNeg)), .int (M 30 (((M 27 15) + (iI 2))).toNatClampNeg)]) (st' := [.int (((M 27 15) + (iI 2)) + (M 30 (((M 27 15) + (iI 1))).toNatClampNeg)), .int (((M 27 15) + (iI 2)) + (iI 2)), .ref 27]) (S' := ((q_up M 27 26 (iI 0)), L)) rfl ?_
        obtain ⟨P1, hv1, h⟩ := h
        refine V.callVv (T2 := T_TapedLinesModel_work) (As := [.int (((M 27 15) + (iI 2)) + (iI 2)), .int (((M 27 15) + (iI 2)) + (M 30 (((M 27 15) + (iI 1))).toNatClampNeg))]) (rest := []) rfl rfl g_TapedLinesModel_work rfl rfl rfl rfl (Nat.le_of_ble_eq_true rfl) (by simp [Value.category]) (by simp [Value.category]) (Nat.le_of_ble_eq_true rfl) (Nat.le_refl _) hv1 (fun M1 hq => ?_)
        have h := h M1 hq
        refine V.run 7 (pc' := 121) (ls' := [.ref 27, .int (M 27 15), .int ((M 27 15) + (iI 2)), .int (((M 27 15) + (iI 2)) + (M 30 (((M 27 15) + (iI 1))).toNatClampNeg)), .int (M 30 (((M 27 15) + (iI 2))).toNatClampNeg)]) (st' := [.int (M1 27 26), .int ((M 30 (((M 27 15) + (iI 2))).toNatClampNeg) - (iI 97)), .ref 31]) (S' := (M1, L)) rfl ?_
        refine V.ifc (cd := .ne) rfl (fun hc => ?_) (fun hc => ?_)
        · have h := h.1 hc
          refine V.run 5 (pc' := 140) (ls' := [.ref 27, .int (M 27 15), .int ((M 27 15) + (iI 2)), .int (((M 27 15) + (iI 2)) + (M 30 (((M 27 15) + (iI 1))).toNatClampNeg)), .int (M 30 (((M 27 15) + (iI 2))).toNatClampNeg)]) (st' := [.int ((M 30 (((M 27 15) + (iI 2))).toNatClampNeg) - (iI 97)), .ref 31, .int ((M 30 (((M 27 15) + (iI 2))).toNatClampNeg) - (iI 97)), .ref 31]) (S' := (M1, L)) rfl ?_
          refine V.iald rfl rfl h.1 ?_
          have h := h.2
          refine V.iast rfl rfl h.1 ?_
          have h := h.2
          refine V.run 3 (pc' := 147) (ls' := [.ref 27, .int (M 27 15), .int ((M 27 15) + (iI 2)), .int (((M 27 15) + (iI 2)) + (M 30 (((M 27 15) + (iI 1))).toNatClampNeg)), .int (M 30 (((M 27 15) + (iI 2))).toNatClampNeg)]) (st' := []) (S' := ((q_up (q_up M1 31 (((M 30 (((M 27 15) + (iI 2))).toNatClampNeg) - (iI 97))).toNatClampNeg (M1 31 (((M 30 (((M 27 15) + (iI 2))).toNatClampNeg) - (iI 97))).toNatClampNeg)) 27 15 (((M 27 15) + (iI 2)) + (M 30 (((M 27 15) + (iI 1))).toNatClampNeg))), L)) rfl ?_
          refine V.forget (ls' := [.ref 27, .int (M 27 15), .null, .null, .null]) ⟨Or.inr rfl, Or.inr rfl, Or.inl rfl, Or.inl rfl, Or.inl rfl, trivial⟩ ?_
          exact h
        · have h := h.2 hc
          refine V.run 3 (pc' := 141) (ls' := [.ref 27, .int (M 27 15), .int ((M 27 15) + (iI 2)), .int (((M 27 15) + (iI 2)) + (M 30 (((M 27 15) + (iI 1))).toNatClampNeg)), .int (M 30 (((M 27 15) + (iI 2))).toNatClampNeg)]) (st' := [.int (M1 27 27), .int ((M 30 (((M 27 15) + (iI 2))).toNatClampNeg) - (iI 97)), .ref 31]) (S' := (M1, L)) rfl ?_
          refine V.iast rfl rfl h.1 ?_
          have h := h.2
          refine V.run 3 (pc' := 147) (ls' := [.ref 27, .int (M 27 15), .int ((M 27 15) + (iI 2)), .int (((M 27 15) + (iI 2)) + (M 30 (((M 27 15) + (iI 1))).toNatClampNeg)), .int (M 30 (((M 27 15) + (iI 2))).toNatClampNeg)]) (st' := []) (S' := ((q_up (q_up M1 31 (((M 30 (((M 27 15) + (iI 2))).toNatClampNeg) - (iI 97))).toNatClampNeg (M1 27 27)) 27 15 (((M 27 15) + (iI 2)) + (M 30 (((M 27 15) + (iI 1))).toNatClampNeg))), L)) rfl ?_
          refine V.forget (ls' := [.ref 27, .int (M 27 15), .null, .null, .null]) ⟨Or.inr rfl, Or.inr rfl, Or.inl rfl, Or.inl rfl, Or.inl rfl, trivial⟩ ?_
          exact h
      · have h := h.2 hc
        refine V.run 5 (pc' := 94) (ls' := [.ref 27, .int (M 27 15), .int ((M 27 15) + (iI 2)), .int (((M 27 15) + (iI 2)) + (M 30 (((M 27 15) + (iI 1))).toNatClampNeg)), .int (M 30 (((M 27 15) + (iI 2))).toNatClampNeg)]) (st' := [.int (((M 27 15) + (iI 2)) + (M 30 (((M 27 15) + (iI 1))).toNatClampNeg)), .int (((M 27 15) + (iI 2)) + (iI 2)), .ref 27]) (S' := ((q_up M 27 26 (iI 0)), L)) rfl ?_
        obtain ⟨P2, hv2, h⟩ := h
        refine V.callVv (T2 := T_TapedLinesModel_doCell) (As := [.int (((M 27 15) + (iI 2)) + (iI 2)), .int (((M 27 15) + (iI 2)) + (M 30 (((M 27 15) + (iI 1))).toNatClampNeg))]) (rest := []) rfl rfl g_TapedLinesModel_doCell rfl rfl rfl rfl (Nat.le_of_ble_eq_true rfl) (by simp [Value.category]) (by simp [Value.category]) (Nat.le_of_ble_eq_true rfl) (Nat.le_refl _) hv2 (fun M2 hq => ?_)
        have h := h M2 hq
        refine V.run 4 (pc' := 147) (ls' := [.ref 27, .int (M 27 15), .int ((M 27 15) + (iI 2)), .int (((M 27 15) + (iI 2)) + (M 30 (((M 27 15) + (iI 1))).toNatClampNeg)), .int (M 30 (((M 27 15) + (iI 2))).toNatClampNeg)]) (st' := []) (S' := ((q_up M2 27 15 (((M 27 15) + (iI 2)) + (M 30 (((M 27 15) + (iI 1))).toNatClampNeg))), L)) rfl ?_
        refine V.forget (ls' := [.ref 27, .int (M 27 15), .null, .null, .null]) ⟨Or.inr rfl, Or.inr rfl, Or.inl rfl, Or.inl rfl, Or.inl rfl, trivial⟩ ?_
        exact h
    · have h := h.2 hc
      refine V.run 5 (pc' := 76) (ls' := [.ref 27, .int (M 27 15), .int ((M 27 15) + (iI 2)), .int (((M 27 15) + (iI 2)) + (M 30 (((M 27 15) + (iI 1))).toNatClampNeg)), .int (M 30 (((M 27 15) + (iI 2))).toNatClampNeg)]) (st' := [.int (((M 27 15) + (iI 2)) + (M 30 (((M 27 15) + (iI 1))).toNatClampNeg)), .int (((M 27 15) + (iI 2)) + (iI 1)), .ref 27]) (S' := ((q_up M 27 26 (iI 0)), L)) rfl ?_
      obtain ⟨P3, hv3, h⟩ := h
      refine V.callVv (T2 := T_TapedLinesModel_doPrint) (As := [.int (((M 27 15) + (iI 2)) + (iI 1)), .int (((M 27 15) + (iI 2)) + (M 30 (((M 27 15) + (iI 1))).toNatClampNeg))]) (rest := []) rfl rfl g_TapedLinesModel_doPrint rfl rfl rfl rfl (Nat.le_of_ble_eq_true rfl) (by simp [Value.category]) (by simp [Value.category]) (Nat.le_of_ble_eq_true rfl) (Nat.le_refl _) hv3 (fun M3 hq => ?_)
      have h := h M3 hq
      refine V.run 4 (pc' := 147) (ls' := [.ref 27, .int (M 27 15), .int ((M 27 15) + (iI 2)), .int (((M 27 15) + (iI 2)) + (M 30 (((M 27 15) + (iI 1))).toNatClampNeg)), .int (M 30 (((M 27 15) + (iI 2))).toNatClampNeg)]) (st' := []) (S' := ((q_up M3 27 15 (((M 27 15) + (iI 2)) + (M 30 (((M 27 15) + (iI 1))).toNatClampNeg))), L)) rfl ?_
      refine V.forget (ls' := [.ref 27, .int (M 27 15), .null, .null, .null]) ⟨Or.inr rfl, Or.inr rfl, Or.inl rfl, Or.inl rfl, Or.inl rfl, trivial⟩ ?_
      exact h
  · have h := h.2 hc
    refine V.run 8 (pc' := 58) (ls' := [.ref 27, .int (M 27 15), .int ((M 27 15) + (iI 2)), .int (((M 27 15) + (iI 2)) + (M 30 (((M 27 15) + (iI 1))).toNatClampNeg)), .int (M 30 (((M 27 15) + (iI 2))).toNatClampNeg)]) (st' := [.int (((M 27 15) + (iI 2)) + (M 30 (((M 27 15) + (iI 1))).toNatClampNeg)), .int (((M 27 15) + (iI 2)) + (iI 1)), .int ((M 30 (((M 27 15) + (iI 2))).toNatClampNeg) - (iI 128)), .ref 27]) (S' := ((q_up M 27 26 (iI 0)), L)) rfl ?_
    obtain ⟨P4, hv4, h⟩ := h
    refine V.callVv (T2 := T_TapedLinesModel_doWord) (As := [.int ((M 30 (((M 27 15) + (iI 2))).toNatClampNeg) - (iI 128)), .int (((M 27 15) + (iI 2)) + (iI 1)), .int (((M 27 15) + (iI 2)) + (M 30 (((M 27 15) + (iI 1))).toNatClampNeg))]) (rest := []) rfl rfl g_TapedLinesModel_doWord rfl rfl rfl rfl (Nat.le_of_ble_eq_true rfl) (by simp [Value.category]) (by simp [Value.category]) (Nat.le_of_ble_eq_true rfl) (Nat.le_refl _) hv4 (fun M4 hq => ?_)
    have h := h M4 hq
    refine V.run 1 (pc' := 147) (ls' := [.ref 27, .int (M 27 15), .int ((M 27 15) + (iI 2)), .int (((M 27 15) + (iI 2)) + (M 30 (((M 27 15) + (iI 1))).toNatClampNeg)), .int (M 30 (((M 27 15) + (iI 2))).toNatClampNeg)]) (st' := []) (S' := (M4, L)) rfl ?_
    refine V.forget (ls' := [.ref 27, .int (M 27 15), .null, .null, .null]) ⟨Or.inr rfl, Or.inr rfl, Or.inl rfl, Or.inl rfl, Or.inl rfl, trivial⟩ ?_
    exact h
set_option maxRecDepth 100000 in
set_option maxHeartbeats 4000000 in
theorem s_TapedLinesModel_step_147 {l : Launch} {Γ : qG} {d r : Nat} {M : qM} {L : Nat → Int64} {P : Int32 → qM → Prop} (v1 : Int32) (h : ((M 27 26) ≤ 0 → ((M 27 15) < (M 27 12) → V l Γ T_TapedLinesModel_step (d + 1) r 189 [.ref 27, .null, .null, .null, .null] [] (M, L) (q_i L P)) ∧ (¬ (M 27 15) < (M 27 12) → V l Γ T_TapedLinesModel_step (d + 1) r 189 [.ref 27, .null, .null, .null, .null] [] ((q_up M 27 14 (iI 2)), L) (q_i L P))) ∧ (¬ (M 27 26) ≤ 0 → V l Γ T_TapedLinesModel_step (d + 1) r 189 [.ref 27, .null, .null, .null, .null] [] ((q_up (q_up M 27 15 v1) 27 14 ((iI 10) + (M 27 26))), L) (q_i L P))) : V l Γ T_TapedLinesModel_step (d + 1) r 147 [.ref 27, .int v1, .null, .null, .null] [] (M, L) (q_i L P) := by
  refine V.run 2 (pc' := 151) (ls' := [.ref 27, .int v1, .null, .null, .null]) (st' := [.int (M 27 26)]) (S' := (M, L)) rfl ?_
  refine V.ifc (cd := .le) rfl (fun hc => ?_) (fun hc => ?_)
  · have h := h.1 hc
    refine V.run 4 (pc' := 181) (ls' := [.ref 27, .int v1, .null, .null, .null]) (st' := [.int (M 27 12), .int (M 27 15)]) (S' := (M, L)) rfl ?_
    refine V.icmp (cd := .lt) rfl (fun hc => ?_) (fun hc => ?_)
    · have h := h.1 hc
      refine V.forget (ls' := [.ref 27, .null, .null, .null, .null]) ⟨Or.inr rfl, Or.inl rfl, Or.inl rfl, Or.inl rfl, Or.inl rfl, trivial⟩ ?_
      exact h
    · have h := h.2 hc
      refine V.run 3 (pc' := 189) (ls' := [.ref 27, .int v1, .null, .null, .null]) (st' := []) (S' := ((q_up M 27 14 (iI 2)), L)) rfl ?_
      refine V.forget (ls' := [.ref 27, .null, .null, .null, .null]) ⟨Or.inr rfl, Or.inl rfl, Or.inl rfl, Or.inl rfl, Or.inl rfl, trivial⟩ ?_
      exact h
  · have h := h.2 hc
    refine V.run 10 (pc' := 189) (ls' := [.ref 27, .int v1, .null, .null, .null]) (st' := []) (S' := ((q_up (q_up M 27 15 v1) 27 14 ((iI 10) + (M 27 26))), L)) rfl ?_
    refine V.forget (ls' := [.ref 27, .null, .null, .null, .null]) ⟨Or.inr rfl, Or.inl rfl, Or.inl rfl, Or.inl rfl, Or.inl rfl, trivial⟩ ?_
    exact h
set_option maxRecDepth 100000 in
set_option maxHeartbeats 4000000 in
theorem s_TapedLinesModel_step_189 {l : Launch} {Γ : qG} {d r : Nat} {M : qM} {L : Nat → Int64} {P : Int32 → qM → Prop} (h : (¬ (M 27 26) = 0 → P (iI 0) M) ∧ (¬ (¬ (M 27 26) = 0) → P (iI 1) M)) : V l Γ T_TapedLinesModel_step (d + 1) r 189 [.ref 27, .null, .null, .null, .null] [] (M, L) (q_i L P) := by
  refine V.run 2 (pc' := 193) (ls' := [.ref 27, .null, .null, .null, .null]) (st' := [.int (M 27 26)]) (S' := (M, L)) rfl ?_
  refine V.ifc (cd := .ne) rfl (fun hc => ?_) (fun hc => ?_)
  · have h := h.1 hc
    refine V.run 1 (pc' := 201) (ls' := [.ref 27, .null, .null, .null, .null]) (st' := [.int (iI 0)]) (S' := (M, L)) rfl ?_
    exact V.zret rfl rfl (by decide) ⟨_, _, rfl, rfl, h⟩
  · have h := h.2 hc
    refine V.run 2 (pc' := 201) (ls' := [.ref 27, .null, .null, .null, .null]) (st' := [.int (iI 1)]) (S' := (M, L)) rfl ?_
    exact V.zret rfl rfl (by decide) ⟨_, _, rfl, rfl, h⟩
set_option maxRecDepth 100000 in
set_option maxHeartbeats 4000000 in
theorem s_TapedLinesModel_run_0 {l : Launch} {Γ : qG} {d r : Nat} {M : qM} {L : Nat → Int64} {P : Int32 → qM → Prop} (a : Int32) (h : (a < (iI 1) → V l Γ T_TapedLinesModel_run (d + 1) r 18 [.ref 27, .int a, .null] [.int (iI 1), .ref 27] (M, L) (q_i L P)) ∧ (¬ a < (iI 1) → (a ≤ (iI 1000) → V l Γ T_TapedLinesModel_run (d + 1) r 18 [.ref 27, .int a, .null] [.int (iI 0), .ref 27] (M, L) (q_i L P)) ∧ (¬ a ≤ (iI 1000) → V l Γ T_TapedLinesModel_run (d + 1) r 18 [.ref 27, .int a, .null] [.int (iI 1), .ref 27] (M, L) (q_i L P)))) : V l Γ T_TapedLinesModel_run (d + 1) r 0 [.ref 27, .int a, .null] [] (M, L) (q_i L P) := by
  refine V.run 3 (pc' := 3) (ls' := [.ref 27, .int a, .null]) (st' := [.int (iI 1), .int a, .ref 27]) (S' := (M, L)) rfl ?_
  refine V.icmp (cd := .lt) rfl (fun hc => ?_) (fun hc => ?_)
  · have h := h.1 hc
    refine V.run 2 (pc' := 18) (ls' := [.ref 27, .int a, .null]) (st' := [.int (iI 1), .ref 27]) (S' := (M, L)) rfl ?_
    exact h
  · have h := h.2 hc
    refine V.run 2 (pc' := 10) (ls' := [.ref 27, .int a, .null]) (st' := [.int (iI 1000), .int a, .ref 27]) (S' := (M, L)) rfl ?_
    refine V.icmp (cd := .le) rfl (fun hc => ?_) (fun hc => ?_)
    · have h := h.1 hc
      refine V.run 1 (pc' := 18) (ls' := [.ref 27, .int a, .null]) (st' := [.int (iI 0), .ref 27]) (S' := (M, L)) rfl ?_
      exact h
    · have h := h.2 hc
      refine V.run 2 (pc' := 18) (ls' := [.ref 27, .int a, .null]) (st' := [.int (iI 1), .ref 27]) (S' := (M, L)) rfl ?_
      exact h
set_option maxRecDepth 100000 in
set_option maxHeartbeats 4000000 in
theorem s_TapedLinesModel_run_18 {l : Launch} {Γ : qG} {d r : Nat} {M : qM} {L : Nat → Int64} {P : Int32 → qM → Prop} (v1 w0 : Int32) (h : ((M 27 14) = (iI 1) → V l Γ T_TapedLinesModel_run (d + 1) r 31 [.ref 27, .int v1, .null] [.int (iI 0), .int w0, .ref 27] (M, L) (q_i L P)) ∧ (¬ (M 27 14) = (iI 1) → V l Γ T_TapedLinesModel_run (d + 1) r 31 [.ref 27, .int v1, .null] [.int (iI 1), .int w0, .ref 27] (M, L) (q_i L P))) : V l Γ T_TapedLinesModel_run (d + 1) r 18 [.ref 27, .int v1, .null] [.int w0, .ref 27] (M, L) (q_i L P) := by
  refine V.run 3 (pc' := 23) (ls' := [.ref 27, .int v1, .null]) (st' := [.int (iI 1), .int (M 27 14), .int w0, .ref 27]) (S' := (M, L)) rfl ?_
  refine V.icmp (cd := .eq) rfl (fun hc => ?_) (fun hc => ?_)
  · have h := h.1 hc
    refine V.run 1 (pc' := 31) (ls' := [.ref 27, .int v1, .null]) (st' := [.int (iI 0), .int w0, .ref 27]) (S' := (M, L)) rfl ?_
    exact h
  · have h := h.2 hc
    refine V.run 2 (pc' := 31) (ls' := [.ref 27, .int v1, .null]) (st' := [.int (iI 1), .int w0, .ref 27]) (S' := (M, L)) rfl ?_
    exact h
set_option maxRecDepth 100000 in
set_option maxHeartbeats 4000000 in
theorem s_TapedLinesModel_run_31 {l : Launch} {Γ : qG} {d r : Nat} {M : qM} {L : Nat → Int64} {P : Int32 → qM → Prop} (v1 w0 w1 : Int32) (h : ∃ P1 : Int32 → qM → Prop, V l Γ T_TapedLinesModel_refused d 0 0 [.ref 27, .int w1, .int w0] [] (M, L) (q_i L P1) ∧ ∀ (x1 : Int32) (M1 : qM), P1 x1 M1 → (x1 = 0 → V l Γ T_TapedLinesModel_run (d + 1) r 41 [.ref 27, .int v1, .int (iI 0)] [] (M1, L) (q_i L P)) ∧ (¬ x1 = 0 → P (iI 0) M1)) : V l Γ T_TapedLinesModel_run (d + 1) r 31 [.ref 27, .int v1, .null] [.int w0, .int w1, .ref 27] (M, L) (q_i L P) := by
  obtain ⟨P1, hv1, h⟩ := h
  refine V.callVi (T2 := T_TapedLinesModel_refused) (As := [.int w1, .int w0]) (rest := []) rfl rfl g_TapedLinesModel_refused rfl rfl rfl rfl (Nat.le_of_ble_eq_true rfl) (by simp [Value.category]) (by simp [Value.category]) (Nat.le_of_ble_eq_true rfl) (Nat.le_refl _) hv1 (fun x1 M1 hq => ?_)
  have h := h x1 M1 hq
  refine V.ifc (cd := .eq) rfl (fun hc => ?_) (fun hc => ?_)
  · have h := h.1 hc
    refine V.run 2 (pc' := 41) (ls' := [.ref 27, .int v1, .int (iI 0)]) (st' := []) (S' := (M1, L)) rfl ?_
    exact h
  · have h := h.2 hc
    refine V.run 1 (pc' := 38) (ls' := [.ref 27, .int v1, .null]) (st' := [.int (iI 0)]) (S' := (M1, L)) rfl ?_
    exact V.iret rfl rfl ⟨_, _, rfl, rfl, h⟩
set_option maxRecDepth 100000 in
set_option maxHeartbeats 4000000 in
theorem s_TapedLinesModel_run_41 {l : Launch} {Γ : qG} {d r : Nat} {M : qM} {L : Nat → Int64} {P : Int32 → qM → Prop} (v1 v2 : Int32) (h : (v1 ≤ v2 → P v2 M) ∧ (¬ v1 ≤ v2 → (¬ (M 27 14) = (iI 1) → P v2 M) ∧ (¬ (¬ (M 27 14) = (iI 1)) → ∃ P1 : Int32 → qM → Prop, V l Γ T_TapedLinesModel_step d 0 0 [.ref 27, .null, .null, .null, .null] [] (M, L) (q_i L P1) ∧ ∀ (x1 : Int32) (M1 : qM), P1 x1 M1 → (x1 = 0 → P v2 M1) ∧ (¬ x1 = 0 → V l Γ T_TapedLinesModel_run (d + 1) r 41 [.ref 27, .int v1, .int (v2 + (iI 1))] [] (M1, L) (q_i L P))))) : V l Γ T_TapedLinesModel_run (d + 1) r 41 [.ref 27, .int v1, .int v2] [] (M, L) (q_i L P) := by
  refine V.run 2 (pc' := 43) (ls' := [.ref 27, .int v1, .int v2]) (st' := [.int v1, .int v2]) (S' := (M, L)) rfl ?_
  refine V.icmp (cd := .ge) rfl (fun hc => ?_) (fun hc => ?_)
  · have h := h.1 hc
    refine V.run 1 (pc' := 68) (ls' := [.ref 27, .int v1, .int v2]) (st' := [.int v2]) (S' := (M, L)) rfl ?_
    exact V.iret rfl rfl ⟨_, _, rfl, rfl, h⟩
  · have h := h.2 hc
    refine V.run 3 (pc' := 51) (ls' := [.ref 27, .int v1, .int v2]) (st' := [.int (iI 1), .int (M 27 14)]) (S' := (M, L)) rfl ?_
    refine V.icmp (cd := .ne) rfl (fun hc => ?_) (fun hc => ?_)
    · have h := h.1 hc
      refine V.run 1 (pc' := 68) (ls' := [.ref 27, .int v1, .int v2]) (st' := [.int v2]) (S' := (M, L)) rfl ?_
      exact V.iret rfl rfl ⟨_, _, rfl, rfl, h⟩
    · have h := h.2 hc
      refine V.run 1 (pc' := 55) (ls' := [.ref 27, .int v1, .int v2]) (st' := [.ref 27]) (S' := (M, L)) rfl ?_
      obtain ⟨P1, hv1, h⟩ := h
      refine V.callVi (T2 := T_TapedLinesModel_step) (As := []) (rest := []) rfl rfl g_TapedLinesModel_step rfl rfl rfl rfl (Nat.le_of_ble_eq_true rfl) (by simp [Value.category]) (by simp [Value.category]) (Nat.le_of_ble_eq_true rfl) (Nat.le_refl _) hv1 (fun x1 M1 hq => ?_)
      have h := h x1 M1 hq
      refine V.ifc (cd := .eq) rfl (fun hc => ?_) (fun hc => ?_)
      · have h := h.1 hc
        refine V.run 1 (pc' := 68) (ls' := [.ref 27, .int v1, .int v2]) (st' := [.int v2]) (S' := (M1, L)) rfl ?_
        exact V.iret rfl rfl ⟨_, _, rfl, rfl, h⟩
      · have h := h.2 hc
        refine V.run 2 (pc' := 41) (ls' := [.ref 27, .int v1, .int (v2 + (iI 1))]) (st' := []) (S' := (M1, L)) rfl ?_
        exact h
set_option maxRecDepth 100000 in
set_option maxHeartbeats 4000000 in
theorem s_TapedLinesModel_state_0 {l : Launch} {Γ : qG} {d r : Nat} {M : qM} {L : Nat → Int64} {P : Int32 → qM → Prop} (h : P (M 27 14) (q_up M 27 0 (iI 0))) : V l Γ T_TapedLinesModel_state d r 0 [.ref 27] [] (M, L) (q_i L P) := by
  refine V.run 5 (pc' := 9) (ls' := [.ref 27]) (st' := [.int (M 27 14)]) (S' := ((q_up M 27 0 (iI 0)), L)) rfl ?_
  exact V.iret rfl rfl ⟨_, _, rfl, rfl, h⟩
set_option maxRecDepth 100000 in
set_option maxHeartbeats 4000000 in
theorem s_TapedLinesModel_place_0 {l : Launch} {Γ : qG} {d r : Nat} {M : qM} {L : Nat → Int64} {P : Int32 → qM → Prop} (h : ((M 27 14) = 0 → P (iI (-1)) (q_up M 27 0 (iI 0))) ∧ (¬ (M 27 14) = 0 → (¬ (M 27 14) = (iI 2) → vp_in (M 27 15) 260 ∧ P (M 30 ((M 27 15)).toNatClampNeg) (q_up M 27 0 (iI 0))) ∧ (¬ (¬ (M 27 14) = (iI 2)) → P (iI (-1)) (q_up M 27 0 (iI 0))))) : V l Γ T_TapedLinesModel_place d r 0 [.ref 27] [] (M, L) (q_i L P) := by
  refine V.run 5 (pc' := 9) (ls' := [.ref 27]) (st' := [.int (M 27 14)]) (S' := ((q_up M 27 0 (iI 0)), L)) rfl ?_
  refine V.ifc (cd := .eq) rfl (fun hc => ?_) (fun hc => ?_)
  · have h := h.1 hc
    refine V.run 2 (pc' := 33) (ls' := [.ref 27]) (st' := [.int (iI (-1))]) (S' := ((q_up M 27 0 (iI 0)), L)) rfl ?_
    exact V.iret rfl rfl ⟨_, _, rfl, rfl, h⟩
  · have h := h.2 hc
    refine V.run 3 (pc' := 17) (ls' := [.ref 27]) (st' := [.int (iI 2), .int (M 27 14)]) (S' := ((q_up M 27 0 (iI 0)), L)) rfl ?_
    refine V.icmp (cd := .ne) rfl (fun hc => ?_) (fun hc => ?_)
    · have h := h.1 hc
      refine V.run 4 (pc' := 32) (ls' := [.ref 27]) (st' := [.int (M 27 15), .ref 30]) (S' := ((q_up M 27 0 (iI 0)), L)) rfl ?_
      refine V.iald rfl rfl h.1 ?_
      have h := h.2
      exact V.iret rfl rfl ⟨_, _, rfl, rfl, h⟩
    · have h := h.2 hc
      refine V.run 2 (pc' := 33) (ls' := [.ref 27]) (st' := [.int (iI (-1))]) (S' := ((q_up M 27 0 (iI 0)), L)) rfl ?_
      exact V.iret rfl rfl ⟨_, _, rfl, rfl, h⟩
set_option maxRecDepth 100000 in
set_option maxHeartbeats 4000000 in
theorem s_TapedLinesModel_variable_0 {l : Launch} {Γ : qG} {d r : Nat} {M : qM} {L : Nat → Int64} {P : Int32 → qM → Prop} (a : Int32) (h : (a < 0 → V l Γ T_TapedLinesModel_variable (d + 1) r 16 [.ref 27, .int a] [.int (iI 1), .ref 27] (M, L) (q_i L P)) ∧ (¬ a < 0 → (a ≤ (iI 7) → V l Γ T_TapedLinesModel_variable (d + 1) r 16 [.ref 27, .int a] [.int (iI 0), .ref 27] (M, L) (q_i L P)) ∧ (¬ a ≤ (iI 7) → V l Γ T_TapedLinesModel_variable (d + 1) r 16 [.ref 27, .int a] [.int (iI 1), .ref 27] (M, L) (q_i L P)))) : V l Γ T_TapedLinesModel_variable (d + 1) r 0 [.ref 27, .int a] [] (M, L) (q_i L P) := by
  refine V.run 2 (pc' := 2) (ls' := [.ref 27, .int a]) (st' := [.int a, .ref 27]) (S' := (M, L)) rfl ?_
  refine V.ifc (cd := .lt) rfl (fun hc => ?_) (fun hc => ?_)
  · have h := h.1 hc
    refine V.run 2 (pc' := 16) (ls' := [.ref 27, .int a]) (st' := [.int (iI 1), .ref 27]) (S' := (M, L)) rfl ?_
    exact h
  · have h := h.2 hc
    refine V.run 2 (pc' := 8) (ls' := [.ref 27, .int a]) (st' := [.int (iI 7), .int a, .ref 27]) (S' := (M, L)) rfl ?_
    refine V.icmp (cd := .le) rfl (fun hc => ?_) (fun hc => ?_)
    · have h := h.1 hc
      refine V.run 1 (pc' := 16) (ls' := [.ref 27, .int a]) (st' := [.int (iI 0), .ref 27]) (S' := (M, L)) rfl ?_
      exact h
    · have h := h.2 hc
      refine V.run 2 (pc' := 16) (ls' := [.ref 27, .int a]) (st' := [.int (iI 1), .ref 27]) (S' := (M, L)) rfl ?_
      exact h
set_option maxRecDepth 100000 in
set_option maxHeartbeats 4000000 in
theorem s_TapedLinesModel_variable_16 {l : Launch} {Γ : qG} {d r : Nat} {M : qM} {L : Nat → Int64} {P : Int32 → qM → Prop} (v1 w0 : Int32) (h : ∃ P1 : Int32 → qM → Prop, V l Γ T_TapedLinesModel_refused d 0 0 [.ref 27, .int w0, .int (iI 0)] [] (M, L) (q_i L P1) ∧ ∀ (x1 : Int32) (M1 : qM), P1 x1 M1 → (x1 = 0 → vp_in v1 8 ∧ P (M1 31 (v1).toNatClampNeg) M1) ∧ (¬ x1 = 0 → P (iI 0) M1)) : V l Γ T_TapedLinesModel_variable (d + 1) r 16 [.ref 27, .int v1] [.int w0, .ref 27] (M, L) (q_i L P) := by
  refine V.run 1 (pc' := 17) (ls' := [.ref 27, .int v1]) (st' := [.int (iI 0), .int w0, .ref 27]) (S' := (M, L)) rfl ?_
  obtain ⟨P1, hv1, h⟩ := h
  refine V.callVi (T2 := T_TapedLinesModel_refused) (As := [.int w0, .int (iI 0)]) (rest := []) rfl rfl g_TapedLinesModel_refused rfl rfl rfl rfl (Nat.le_of_ble_eq_true rfl) (by simp [Value.category]) (by simp [Value.category]) (Nat.le_of_ble_eq_true rfl) (Nat.le_refl _) hv1 (fun x1 M1 hq => ?_)
  have h := h x1 M1 hq
  refine V.ifc (cd := .eq) rfl (fun hc => ?_) (fun hc => ?_)
  · have h := h.1 hc
    refine V.run 3 (pc' := 32) (ls' := [.ref 27, .int v1]) (st' := [.int v1, .ref 31]) (S' := (M1, L)) rfl ?_
    refine V.iald rfl rfl h.1 ?_
    have h := h.2
    exact V.iret rfl rfl ⟨_, _, rfl, rfl, h⟩
  · have h := h.2 hc
    refine V.run 2 (pc' := 33) (ls' := [.ref 27, .int v1]) (st' := [.int (iI 0)]) (S' := (M1, L)) rfl ?_
    exact V.iret rfl rfl ⟨_, _, rfl, rfl, h⟩
set_option maxRecDepth 100000 in
set_option maxHeartbeats 4000000 in
theorem s_TapedLinesModel_cell_0 {l : Launch} {Γ : qG} {d r : Nat} {M : qM} {L : Nat → Int64} {P : Int32 → qM → Prop} (a : Int32) (h : (a < 0 → V l Γ T_TapedLinesModel_cell (d + 1) r 16 [.ref 27, .int a] [.int (iI 1), .ref 27] (M, L) (q_i L P)) ∧ (¬ a < 0 → (a ≤ (iI 15) → V l Γ T_TapedLinesModel_cell (d + 1) r 16 [.ref 27, .int a] [.int (iI 0), .ref 27] (M, L) (q_i L P)) ∧ (¬ a ≤ (iI 15) → V l Γ T_TapedLinesModel_cell (d + 1) r 16 [.ref 27, .int a] [.int (iI 1), .ref 27] (M, L) (q_i L P)))) : V l Γ T_TapedLinesModel_cell (d + 1) r 0 [.ref 27, .int a] [] (M, L) (q_i L P) := by
  refine V.run 2 (pc' := 2) (ls' := [.ref 27, .int a]) (st' := [.int a, .ref 27]) (S' := (M, L)) rfl ?_
  refine V.ifc (cd := .lt) rfl (fun hc => ?_) (fun hc => ?_)
  · have h := h.1 hc
    refine V.run 2 (pc' := 16) (ls' := [.ref 27, .int a]) (st' := [.int (iI 1), .ref 27]) (S' := (M, L)) rfl ?_
    exact h
  · have h := h.2 hc
    refine V.run 2 (pc' := 8) (ls' := [.ref 27, .int a]) (st' := [.int (iI 15), .int a, .ref 27]) (S' := (M, L)) rfl ?_
    refine V.icmp (cd := .le) rfl (fun hc => ?_) (fun hc => ?_)
    · have h := h.1 hc
      refine V.run 1 (pc' := 16) (ls' := [.ref 27, .int a]) (st' := [.int (iI 0), .ref 27]) (S' := (M, L)) rfl ?_
      exact h
    · have h := h.2 hc
      refine V.run 2 (pc' := 16) (ls' := [.ref 27, .int a]) (st' := [.int (iI 1), .ref 27]) (S' := (M, L)) rfl ?_
      exact h
set_option maxRecDepth 100000 in
set_option maxHeartbeats 4000000 in
theorem s_TapedLinesModel_cell_16 {l : Launch} {Γ : qG} {d r : Nat} {M : qM} {L : Nat → Int64} {P : Int32 → qM → Prop} (v1 w0 : Int32) (h : ∃ P1 : Int32 → qM → Prop, V l Γ T_TapedLinesModel_refused d 0 0 [.ref 27, .int w0, .int (iI 0)] [] (M, L) (q_i L P1) ∧ ∀ (x1 : Int32) (M1 : qM), P1 x1 M1 → (x1 = 0 → vp_in v1 16 ∧ P (M1 32 (v1).toNatClampNeg) M1) ∧ (¬ x1 = 0 → P (iI 0) M1)) : V l Γ T_TapedLinesModel_cell (d + 1) r 16 [.ref 27, .int v1] [.int w0, .ref 27] (M, L) (q_i L P) := by
  refine V.run 1 (pc' := 17) (ls' := [.ref 27, .int v1]) (st' := [.int (iI 0), .int w0, .ref 27]) (S' := (M, L)) rfl ?_
  obtain ⟨P1, hv1, h⟩ := h
  refine V.callVi (T2 := T_TapedLinesModel_refused) (As := [.int w0, .int (iI 0)]) (rest := []) rfl rfl g_TapedLinesModel_refused rfl rfl rfl rfl (Nat.le_of_ble_eq_true rfl) (by simp [Value.category]) (by simp [Value.category]) (Nat.le_of_ble_eq_true rfl) (Nat.le_refl _) hv1 (fun x1 M1 hq => ?_)
  have h := h x1 M1 hq
  refine V.ifc (cd := .eq) rfl (fun hc => ?_) (fun hc => ?_)
  · have h := h.1 hc
    refine V.run 3 (pc' := 32) (ls' := [.ref 27, .int v1]) (st' := [.int v1, .ref 32]) (S' := (M1, L)) rfl ?_
    refine V.iald rfl rfl h.1 ?_
    have h := h.2
    exact V.iret rfl rfl ⟨_, _, rfl, rfl, h⟩
  · have h := h.2 hc
    refine V.run 2 (pc' := 33) (ls' := [.ref 27, .int v1]) (st' := [.int (iI 0)]) (S' := (M1, L)) rfl ?_
    exact V.iret rfl rfl ⟨_, _, rfl, rfl, h⟩
set_option maxRecDepth 100000 in
set_option maxHeartbeats 4000000 in
theorem s_TapedLinesModel_output_0 {l : Launch} {Γ : qG} {d r : Nat} {M : qM} {L : Nat → Int64} {P : Int32 → qM → Prop} (h : V l Γ T_TapedLinesModel_output (d + 1) r 12 [.ref 27, .int (iI 0)] [] ((q_up (q_up M 27 0 (iI 0)) 27 37 (iI 0)), L) (q_i L P)) : V l Γ T_TapedLinesModel_output (d + 1) r 0 [.ref 27, .null] [] (M, L) (q_i L P) := by
  refine V.run 8 (pc' := 12) (ls' := [.ref 27, .int (iI 0)]) (st' := []) (S' := ((q_up (q_up M 27 0 (iI 0)) 27 37 (iI 0)), L)) rfl ?_
  exact h
set_option maxRecDepth 100000 in
set_option maxHeartbeats 4000000 in
theorem s_TapedLinesModel_output_12 {l : Launch} {Γ : qG} {d r : Nat} {M : qM} {L : Nat → Int64} {P : Int32 → qM → Prop} (v1 : Int32) (h : ((M 27 24) ≤ v1 → P (M 27 37) M) ∧ (¬ (M 27 24) ≤ v1 → vp_in v1 100 ∧ ∃ P1 : qM → Prop, V l Γ T_TapedLinesModel_put d 0 0 [.ref 27, .int (M 37 (v1).toNatClampNeg)] [] (M, L) (q_n L P1) ∧ ∀ (M1 : qM), P1 M1 → V l Γ T_TapedLinesModel_output (d + 1) r 12 [.ref 27, .int (v1 + (iI 1))] [] (M1, L) (q_i L P))) : V l Γ T_TapedLinesModel_output (d + 1) r 12 [.ref 27, .int v1] [] (M, L) (q_i L P) := by
  refine V.run 3 (pc' := 17) (ls' := [.ref 27, .int v1]) (st' := [.int (M 27 24), .int v1]) (S' := (M, L)) rfl ?_
  refine V.icmp (cd := .ge) rfl (fun hc => ?_) (fun hc => ?_)
  · have h := h.1 hc
    refine V.run 2 (pc' := 40) (ls' := [.ref 27, .int v1]) (st' := [.int (M 27 37)]) (S' := (M, L)) rfl ?_
    exact V.iret rfl rfl ⟨_, _, rfl, rfl, h⟩
  · have h := h.2 hc
    refine V.run 4 (pc' := 26) (ls' := [.ref 27, .int v1]) (st' := [.int v1, .ref 37, .ref 27]) (S' := (M, L)) rfl ?_
    refine V.iald rfl rfl h.1 ?_
    have h := h.2
    obtain ⟨P1, hv1, h⟩ := h
    refine V.callVv (T2 := T_TapedLinesModel_put) (As := [.int (M 37 (v1).toNatClampNeg)]) (rest := []) rfl rfl g_TapedLinesModel_put rfl rfl rfl rfl (Nat.le_of_ble_eq_true rfl) (by simp [Value.category]) (by simp [Value.category]) (Nat.le_of_ble_eq_true rfl) (Nat.le_refl _) hv1 (fun M1 hq => ?_)
    have h := h M1 hq
    refine V.run 2 (pc' := 12) (ls' := [.ref 27, .int (v1 + (iI 1))]) (st' := []) (S' := (M1, L)) rfl ?_
    exact h
set_option maxRecDepth 100000 in
set_option maxHeartbeats 4000000 in
theorem s_TapedLinesModel_writeBit_0 {l : Launch} {Γ : qG} {d r : Nat} {M : qM} {L : Nat → Int64} {P : qM → Prop} (a : Int32) (h : (¬ a = (iI 1) → V l Γ T_TapedLinesModel_writeBit d r 13 [.ref 27, .int a, .int (iI 2), .int (iI 0)] [] (M, L) (q_n L P)) ∧ (¬ (¬ a = (iI 1)) → V l Γ T_TapedLinesModel_writeBit d r 13 [.ref 27, .int a, .int (iI 4), .int (iI 0)] [] (M, L) (q_n L P))) : V l Γ T_TapedLinesModel_writeBit d r 0 [.ref 27, .int a, .null, .null] [] (M, L) (q_n L P) := by
  refine V.run 2 (pc' := 2) (ls' := [.ref 27, .int a, .null, .null]) (st' := [.int (iI 1), .int a]) (S' := (M, L)) rfl ?_
  refine V.icmp (cd := .ne) rfl (fun hc => ?_) (fun hc => ?_)
  · have h := h.1 hc
    refine V.run 4 (pc' := 13) (ls' := [.ref 27, .int a, .int (iI 2), .int (iI 0)]) (st' := []) (S' := (M, L)) rfl ?_
    exact h
  · have h := h.2 hc
    refine V.run 5 (pc' := 13) (ls' := [.ref 27, .int a, .int (iI 4), .int (iI 0)]) (st' := []) (S' := (M, L)) rfl ?_
    exact h
set_option maxRecDepth 100000 in
set_option maxHeartbeats 4000000 in
theorem s_TapedLinesModel_writeBit_13 {l : Launch} {Γ : qG} {d r : Nat} {M : qM} {L : Nat → Int64} {P : qM → Prop} (v1 v2 v3 : Int32) (h : (v2 ≤ v3 → P M) ∧ (¬ v2 ≤ v3 → (¬ v1 = (iI 1) → vp_in (M 27 33) 8200 ∧ V l Γ T_TapedLinesModel_writeBit d r 13 [.ref 27, .int v1, .int v2, .int (v3 + (iI 1))] [] ((q_up (q_up M 40 ((M 27 33)).toNatClampNeg (iI 12)) 27 33 ((M 27 33) + (iI 1))), L) (q_n L P)) ∧ (¬ (¬ v1 = (iI 1)) → vp_in (M 27 33) 8200 ∧ V l Γ T_TapedLinesModel_writeBit d r 13 [.ref 27, .int v1, .int v2, .int (v3 + (iI 1))] [] ((q_up (q_up M 40 ((M 27 33)).toNatClampNeg (iI 6)) 27 33 ((M 27 33) + (iI 1))), L) (q_n L P)))) : V l Γ T_TapedLinesModel_writeBit d r 13 [.ref 27, .int v1, .int v2, .int v3] [] (M, L) (q_n L P) := by
  refine V.run 2 (pc' := 15) (ls' := [.ref 27, .int v1, .int v2, .int v3]) (st' := [.int v2, .int v3]) (S' := (M, L)) rfl ?_
  refine V.icmp (cd := .ge) rfl (fun hc => ?_) (fun hc => ?_)
  · have h := h.1 hc
    exact V.vret rfl rfl ⟨_, rfl, rfl, h⟩
  · have h := h.2 hc
    refine V.run 6 (pc' := 28) (ls' := [.ref 27, .int v1, .int v2, .int v3]) (st' := [.int (iI 1), .int v1, .int (M 27 33), .ref 40]) (S' := (M, L)) rfl ?_
    refine V.icmp (cd := .ne) rfl (fun hc => ?_) (fun hc => ?_)
    · have h := h.1 hc
      refine V.run 1 (pc' := 38) (ls' := [.ref 27, .int v1, .int v2, .int v3]) (st' := [.int (iI 12), .int (M 27 33), .ref 40]) (S' := (M, L)) rfl ?_
      refine V.iast rfl rfl h.1 ?_
      have h := h.2
      refine V.run 8 (pc' := 13) (ls' := [.ref 27, .int v1, .int v2, .int (v3 + (iI 1))]) (st' := []) (S' := ((q_up (q_up M 40 ((M 27 33)).toNatClampNeg (iI 12)) 27 33 ((M 27 33) + (iI 1))), L)) rfl ?_
      exact h
    · have h := h.2 hc
      refine V.run 2 (pc' := 38) (ls' := [.ref 27, .int v1, .int v2, .int v3]) (st' := [.int (iI 6), .int (M 27 33), .ref 40]) (S' := (M, L)) rfl ?_
      refine V.iast rfl rfl h.1 ?_
      have h := h.2
      refine V.run 8 (pc' := 13) (ls' := [.ref 27, .int v1, .int v2, .int (v3 + (iI 1))]) (st' := []) (S' := ((q_up (q_up M 40 ((M 27 33)).toNatClampNeg (iI 6)) 27 33 ((M 27 33) + (iI 1))), L)) rfl ?_
      exact h
set_option maxRecDepth 100000 in
set_option maxHeartbeats 4000000 in
theorem s_TapedLinesModel_writeByte_0 {l : Launch} {Γ : qG} {d r : Nat} {M : qM} {L : Nat → Int64} {P : qM → Prop} (a : Int32) (h : ∃ P1 : qM → Prop, V l Γ T_TapedLinesModel_writeBit d 0 0 [.ref 27, .int (iI 0), .null, .null] [] (M, L) (q_n L P1) ∧ ∀ (M1 : qM), P1 M1 → V l Γ T_TapedLinesModel_writeByte (d + 1) r 7 [.ref 27, .int a, .int (iI 0)] [] (M1, L) (q_n L P)) : V l Γ T_TapedLinesModel_writeByte (d + 1) r 0 [.ref 27, .int a, .null] [] (M, L) (q_n L P) := by
  refine V.run 2 (pc' := 2) (ls' := [.ref 27, .int a, .null]) (st' := [.int (iI 0), .ref 27]) (S' := (M, L)) rfl ?_
  obtain ⟨P1, hv1, h⟩ := h
  refine V.callVv (T2 := T_TapedLinesModel_writeBit) (As := [.int (iI 0)]) (rest := []) rfl rfl g_TapedLinesModel_writeBit rfl rfl rfl rfl (Nat.le_of_ble_eq_true rfl) (by simp [Value.category]) (by simp [Value.category]) (Nat.le_of_ble_eq_true rfl) (Nat.le_refl _) hv1 (fun M1 hq => ?_)
  have h := h M1 hq
  refine V.run 2 (pc' := 7) (ls' := [.ref 27, .int a, .int (iI 0)]) (st' := []) (S' := (M1, L)) rfl ?_
  exact h
set_option maxRecDepth 100000 in
set_option maxHeartbeats 4000000 in
theorem s_TapedLinesModel_writeByte_7 {l : Launch} {Γ : qG} {d r : Nat} {M : qM} {L : Nat → Int64} {P : qM → Prop} (v1 v2 : Int32) (h : ((iI 8) ≤ v2 → ∃ P1 : qM → Prop, V l Γ T_TapedLinesModel_writeBit d 0 0 [.ref 27, .int (iI 1), .null, .null] [] (M, L) (q_n L P1) ∧ ∀ (M1 : qM), P1 M1 → P M1) ∧ (¬ (iI 8) ≤ v2 → ∃ P2 : qM → Prop, V l Γ T_TapedLinesModel_writeBit d 0 0 [.ref 27, .int ((v1 >>> (v2 &&& 31)) &&& (iI 1)), .null, .null] [] (M, L) (q_n L P2) ∧ ∀ (M2 : qM), P2 M2 → V l Γ T_TapedLinesModel_writeByte (d + 1) r 7 [.ref 27, .int v1, .int (v2 + (iI 1))] [] (M2, L) (q_n L P))) : V l Γ T_TapedLinesModel_writeByte (d + 1) r 7 [.ref 27, .int v1, .int v2] [] (M, L) (q_n L P) := by
  refine V.run 2 (pc' := 10) (ls' := [.ref 27, .int v1, .int v2]) (st' := [.int (iI 8), .int v2]) (S' := (M, L)) rfl ?_
  refine V.icmp (cd := .ge) rfl (fun hc => ?_) (fun hc => ?_)
  · have h := h.1 hc
    refine V.run 2 (pc' := 30) (ls' := [.ref 27, .int v1, .int v2]) (st' := [.int (iI 1), .ref 27]) (S' := (M, L)) rfl ?_
    obtain ⟨P1, hv1, h⟩ := h
    refine V.callVv (T2 := T_TapedLinesModel_writeBit) (As := [.int (iI 1)]) (rest := []) rfl rfl g_TapedLinesModel_writeBit rfl rfl rfl rfl (Nat.le_of_ble_eq_true rfl) (by simp [Value.category]) (by simp [Value.category]) (Nat.le_of_ble_eq_true rfl) (Nat.le_refl _) hv1 (fun M1 hq => ?_)
    have h := h M1 hq
    exact V.vret rfl rfl ⟨_, rfl, rfl, h⟩
  · have h := h.2 hc
    refine V.run 6 (pc' := 19) (ls' := [.ref 27, .int v1, .int v2]) (st' := [.int ((v1 >>> (v2 &&& 31)) &&& (iI 1)), .ref 27]) (S' := (M, L)) rfl ?_
    obtain ⟨P2, hv2, h⟩ := h
    refine V.callVv (T2 := T_TapedLinesModel_writeBit) (As := [.int ((v1 >>> (v2 &&& 31)) &&& (iI 1))]) (rest := []) rfl rfl g_TapedLinesModel_writeBit rfl rfl rfl rfl (Nat.le_of_ble_eq_true rfl) (by simp [Value.category]) (by simp [Value.category]) (Nat.le_of_ble_eq_true rfl) (Nat.le_refl _) hv2 (fun M2 hq => ?_)
    have h := h M2 hq
    refine V.run 2 (pc' := 7) (ls' := [.ref 27, .int v1, .int (v2 + (iI 1))]) (st' := []) (S' := (M2, L)) rfl ?_
    exact h
set_option maxRecDepth 100000 in
set_option maxHeartbeats 4000000 in
theorem s_TapedLinesModel_sumWith_0 {l : Launch} {Γ : qG} {d r : Nat} {M : qM} {L : Nat → Int64} {P : Int32 → qM → Prop} (a b c : Int32) (h : P ((a + (b * c)) &&& (iI 65535)) M) : V l Γ T_TapedLinesModel_sumWith d r 0 [.int a, .int b, .int c] [] (M, L) (q_i L P) := by
  refine V.run 7 (pc' := 9) (ls' := [.int a, .int b, .int c]) (st' := [.int ((a + (b * c)) &&& (iI 65535))]) (S' := (M, L)) rfl ?_
  exact V.iret rfl rfl ⟨_, _, rfl, rfl, h⟩
set_option maxRecDepth 100000 in
set_option maxHeartbeats 4000000 in
theorem s_TapedLinesModel_save_0 {l : Launch} {Γ : qG} {d r : Nat} {M : qM} {L : Nat → Int64} {P : Int32 → qM → Prop} (h : V l Γ T_TapedLinesModel_save (d + 1) r 12 [.ref 27, .int (iI 0), .null] [] ((q_up (q_up M 27 0 (iI 0)) 27 33 (iI 0)), L) (q_i L P)) : V l Γ T_TapedLinesModel_save (d + 1) r 0 [.ref 27, .null, .null] [] (M, L) (q_i L P) := by
  refine V.run 8 (pc' := 12) (ls' := [.ref 27, .int (iI 0), .null]) (st' := []) (S' := ((q_up (q_up M 27 0 (iI 0)) 27 33 (iI 0)), L)) rfl ?_
  exact h
set_option maxRecDepth 100000 in
set_option maxHeartbeats 4000000 in
theorem s_TapedLinesModel_save_12 {l : Launch} {Γ : qG} {d r : Nat} {M : qM} {L : Nat → Int64} {P : Int32 → qM → Prop} (v1 : Int32) (h : ((iI 10) ≤ v1 → ∃ P1 : qM → Prop, V l Γ T_TapedLinesModel_writeByte d 0 0 [.ref 27, .int (M 27 12), .null] [] (M, L) (q_n L P1) ∧ ∀ (M1 : qM), P1 M1 → V l Γ T_TapedLinesModel_save (d + 1) r 41 [.ref 27, .int (iI 0), .int (iI 0)] [] (M1, L) (q_i L P)) ∧ (¬ (iI 10) ≤ v1 → ∃ P2 : qM → Prop, V l Γ T_TapedLinesModel_writeBit d 0 0 [.ref 27, .int (iI 1), .null, .null] [] (M, L) (q_n L P2) ∧ ∀ (M2 : qM), P2 M2 → V l Γ T_TapedLinesModel_save (d + 1) r 12 [.ref 27, .int (v1 + (iI 1)), .null] [] (M2, L) (q_i L P))) : V l Γ T_TapedLinesModel_save (d + 1) r 12 [.ref 27, .int v1, .null] [] (M, L) (q_i L P) := by
  refine V.run 2 (pc' := 15) (ls' := [.ref 27, .int v1, .null]) (st' := [.int (iI 10), .int v1]) (S' := (M, L)) rfl ?_
  refine V.icmp (cd := .ge) rfl (fun hc => ?_) (fun hc => ?_)
  · have h := h.1 hc
    refine V.run 3 (pc' := 34) (ls' := [.ref 27, .int v1, .null]) (st' := [.int (M 27 12), .ref 27]) (S' := (M, L)) rfl ?_
    obtain ⟨P1, hv1, h⟩ := h
    refine V.callVv (T2 := T_TapedLinesModel_writeByte) (As := [.int (M 27 12)]) (rest := []) rfl rfl g_TapedLinesModel_writeByte rfl rfl rfl rfl (Nat.le_of_ble_eq_true rfl) (by simp [Value.category]) (by simp [Value.category]) (Nat.le_of_ble_eq_true rfl) (Nat.le_refl _) hv1 (fun M1 hq => ?_)
    have h := h M1 hq
    refine V.run 4 (pc' := 41) (ls' := [.ref 27, .int (iI 0), .int (iI 0)]) (st' := []) (S' := (M1, L)) rfl ?_
    exact h
  · have h := h.2 hc
    refine V.run 2 (pc' := 20) (ls' := [.ref 27, .int v1, .null]) (st' := [.int (iI 1), .ref 27]) (S' := (M, L)) rfl ?_
    obtain ⟨P2, hv2, h⟩ := h
    refine V.callVv (T2 := T_TapedLinesModel_writeBit) (As := [.int (iI 1)]) (rest := []) rfl rfl g_TapedLinesModel_writeBit rfl rfl rfl rfl (Nat.le_of_ble_eq_true rfl) (by simp [Value.category]) (by simp [Value.category]) (Nat.le_of_ble_eq_true rfl) (Nat.le_refl _) hv2 (fun M2 hq => ?_)
    have h := h M2 hq
    refine V.run 2 (pc' := 12) (ls' := [.ref 27, .int (v1 + (iI 1)), .null]) (st' := []) (S' := (M2, L)) rfl ?_
    exact h
set_option maxRecDepth 100000 in
set_option maxHeartbeats 4000000 in
theorem s_TapedLinesModel_save_41 {l : Launch} {Γ : qG} {d r : Nat} {M : qM} {L : Nat → Int64} {P : Int32 → qM → Prop} (v1 v2 : Int32) (h : ((M 27 12) ≤ v2 → ∃ P1 : qM → Prop, V l Γ T_TapedLinesModel_writeByte d 0 0 [.ref 27, .int (v1 >>> ((iI 8) &&& 31)), .null] [] (M, L) (q_n L P1) ∧ ∀ (M1 : qM), P1 M1 → ∃ P2 : qM → Prop, V l Γ T_TapedLinesModel_writeByte d 0 0 [.ref 27, .int (v1 &&& (iI 255)), .null] [] (M1, L) (q_n L P2) ∧ ∀ (M2 : qM), P2 M2 → P (M2 27 33) M2) ∧ (¬ (M 27 12) ≤ v2 → vp_in v2 260 ∧ ∃ P3 : qM → Prop, V l Γ T_TapedLinesModel_writeByte d 0 0 [.ref 27, .int (M 30 (v2).toNatClampNeg), .null] [] (M, L) (q_n L P3) ∧ ∀ (M3 : qM), P3 M3 → vp_in v2 260 ∧ ∃ P4 : Int32 → qM → Prop, V l Γ T_TapedLinesModel_sumWith d 0 0 [.int v1, .int (v2 + (iI 1)), .int (M3 30 (v2).toNatClampNeg)] [] (M3, L) (q_i L P4) ∧ ∀ (x4 : Int32) (M4 : qM), P4 x4 M4 → V l Γ T_TapedLinesModel_save (d + 1) r 41 [.ref 27, .int x4, .int (v2 + (iI 1))] [] (M4, L) (q_i L P))) : V l Γ T_TapedLinesModel_save (d + 1) r 41 [.ref 27, .int v1, .int v2] [] (M, L) (q_i L P) := by
  refine V.run 3 (pc' := 46) (ls' := [.ref 27, .int v1, .int v2]) (st' := [.int (M 27 12), .int v2]) (S' := (M, L)) rfl ?_
  refine V.icmp (cd := .ge) rfl (fun hc => ?_) (fun hc => ?_)
  · have h := h.1 hc
    refine V.run 4 (pc' := 84) (ls' := [.ref 27, .int v1, .int v2]) (st' := [.int (v1 >>> ((iI 8) &&& 31)), .ref 27]) (S' := (M, L)) rfl ?_
    obtain ⟨P1, hv1, h⟩ := h
    refine V.callVv (T2 := T_TapedLinesModel_writeByte) (As := [.int (v1 >>> ((iI 8) &&& 31))]) (rest := []) rfl rfl g_TapedLinesModel_writeByte rfl rfl rfl rfl (Nat.le_of_ble_eq_true rfl) (by simp [Value.category]) (by simp [Value.category]) (Nat.le_of_ble_eq_true rfl) (Nat.le_refl _) hv1 (fun M1 hq => ?_)
    have h := h M1 hq
    refine V.run 4 (pc' := 93) (ls' := [.ref 27, .int v1, .int v2]) (st' := [.int (v1 &&& (iI 255)), .ref 27]) (S' := (M1, L)) rfl ?_
    obtain ⟨P2, hv2, h⟩ := h
    refine V.callVv (T2 := T_TapedLinesModel_writeByte) (As := [.int (v1 &&& (iI 255))]) (rest := []) rfl rfl g_TapedLinesModel_writeByte rfl rfl rfl rfl (Nat.le_of_ble_eq_true rfl) (by simp [Value.category]) (by simp [Value.category]) (Nat.le_of_ble_eq_true rfl) (Nat.le_refl _) hv2 (fun M2 hq => ?_)
    have h := h M2 hq
    refine V.run 2 (pc' := 100) (ls' := [.ref 27, .int v1, .int v2]) (st' := [.int (M2 27 33)]) (S' := (M2, L)) rfl ?_
    exact V.iret rfl rfl ⟨_, _, rfl, rfl, h⟩
  · have h := h.2 hc
    refine V.run 4 (pc' := 55) (ls' := [.ref 27, .int v1, .int v2]) (st' := [.int v2, .ref 30, .ref 27]) (S' := (M, L)) rfl ?_
    refine V.iald rfl rfl h.1 ?_
    have h := h.2
    obtain ⟨P3, hv3, h⟩ := h
    refine V.callVv (T2 := T_TapedLinesModel_writeByte) (As := [.int (M 30 (v2).toNatClampNeg)]) (rest := []) rfl rfl g_TapedLinesModel_writeByte rfl rfl rfl rfl (Nat.le_of_ble_eq_true rfl) (by simp [Value.category]) (by simp [Value.category]) (Nat.le_of_ble_eq_true rfl) (Nat.le_refl _) hv3 (fun M3 hq => ?_)
    have h := h M3 hq
    refine V.run 7 (pc' := 68) (ls' := [.ref 27, .int v1, .int v2]) (st' := [.int v2, .ref 30, .int (v2 + (iI 1)), .int v1]) (S' := (M3, L)) rfl ?_
    refine V.iald rfl rfl h.1 ?_
    have h := h.2
    obtain ⟨P4, hv4, h⟩ := h
    refine V.callSi (T2 := T_TapedLinesModel_sumWith) (As := [.int v1, .int (v2 + (iI 1)), .int (M3 30 (v2).toNatClampNeg)]) (rest := []) rfl rfl g_TapedLinesModel_sumWith rfl (Nat.le_of_ble_eq_true rfl) (by simp [Value.category]) (by simp [Value.category]) (Nat.le_of_ble_eq_true rfl) (Nat.le_refl _) hv4 (fun x4 M4 hq => ?_)
    have h := h x4 M4 hq
    refine V.run 3 (pc' := 41) (ls' := [.ref 27, .int x4, .int (v2 + (iI 1))]) (st' := []) (S' := (M4, L)) rfl ?_
    exact h
set_option maxRecDepth 100000 in
set_option maxHeartbeats 4000000 in
theorem s_TapedLinesModel_readBit_0 {l : Launch} {Γ : qG} {d r : Nat} {M : qM} {L : Nat → Int64} {P : Int32 → qM → Prop} (h : ((M 27 33) ≤ (M 27 35) → V l Γ T_TapedLinesModel_readBit d r 30 [.ref 27, .null, .null, .null] [.int (iI 0)] (M, L) (q_i L P)) ∧ (¬ (M 27 33) ≤ (M 27 35) → vp_in (M 27 35) 8200 ∧ ((M 40 ((M 27 35)).toNatClampNeg) ≤ (iI 8) → V l Γ T_TapedLinesModel_readBit d r 30 [.ref 27, .null, .null, .null] [.int (iI 0)] (M, L) (q_i L P)) ∧ (¬ (M 40 ((M 27 35)).toNatClampNeg) ≤ (iI 8) → V l Γ T_TapedLinesModel_readBit d r 30 [.ref 27, .null, .null, .null] [.int (iI 1)] (M, L) (q_i L P)))) : V l Γ T_TapedLinesModel_readBit d r 0 [.ref 27, .null, .null, .null] [] (M, L) (q_i L P) := by
  refine V.run 4 (pc' := 8) (ls' := [.ref 27, .null, .null, .null]) (st' := [.int (M 27 33), .int (M 27 35)]) (S' := (M, L)) rfl ?_
  refine V.icmp (cd := .ge) rfl (fun hc => ?_) (fun hc => ?_)
  · have h := h.1 hc
    refine V.run 1 (pc' := 30) (ls' := [.ref 27, .null, .null, .null]) (st' := [.int (iI 0)]) (S' := (M, L)) rfl ?_
    exact h
  · have h := h.2 hc
    refine V.run 4 (pc' := 19) (ls' := [.ref 27, .null, .null, .null]) (st' := [.int (M 27 35), .ref 40]) (S' := (M, L)) rfl ?_
    refine V.iald rfl rfl h.1 ?_
    have h := h.2
    refine V.run 1 (pc' := 22) (ls' := [.ref 27, .null, .null, .null]) (st' := [.int (iI 8), .int (M 40 ((M 27 35)).toNatClampNeg)]) (S' := (M, L)) rfl ?_
    refine V.icmp (cd := .le) rfl (fun hc => ?_) (fun hc => ?_)
    · have h := h.1 hc
      refine V.run 1 (pc' := 30) (ls' := [.ref 27, .null, .null, .null]) (st' := [.int (iI 0)]) (S' := (M, L)) rfl ?_
      exact h
    · have h := h.2 hc
      refine V.run 2 (pc' := 30) (ls' := [.ref 27, .null, .null, .null]) (st' := [.int (iI 1)]) (S' := (M, L)) rfl ?_
      exact h
set_option maxRecDepth 100000 in
set_option maxHeartbeats 4000000 in
theorem s_TapedLinesModel_readBit_30 {l : Launch} {Γ : qG} {d r : Nat} {M : qM} {L : Nat → Int64} {P : Int32 → qM → Prop} (w0 : Int32) (h : (w0 = 0 → V l Γ T_TapedLinesModel_readBit d r 43 [.ref 27, .int w0, .int (iI 4), .int (iI 0)] [] (M, L) (q_i L P)) ∧ (¬ w0 = 0 → V l Γ T_TapedLinesModel_readBit d r 43 [.ref 27, .int w0, .int (iI 2), .int (iI 0)] [] (M, L) (q_i L P))) : V l Γ T_TapedLinesModel_readBit d r 30 [.ref 27, .null, .null, .null] [.int w0] (M, L) (q_i L P) := by
  refine V.run 2 (pc' := 32) (ls' := [.ref 27, .int w0, .null, .null]) (st' := [.int w0]) (S' := (M, L)) rfl ?_
  refine V.ifc (cd := .eq) rfl (fun hc => ?_) (fun hc => ?_)
  · have h := h.1 hc
    refine V.run 4 (pc' := 43) (ls' := [.ref 27, .int w0, .int (iI 4), .int (iI 0)]) (st' := []) (S' := (M, L)) rfl ?_
    exact h
  · have h := h.2 hc
    refine V.run 5 (pc' := 43) (ls' := [.ref 27, .int w0, .int (iI 2), .int (iI 0)]) (st' := []) (S' := (M, L)) rfl ?_
    exact h
set_option maxRecDepth 100000 in
set_option maxHeartbeats 4000000 in
theorem s_TapedLinesModel_readBit_43 {l : Launch} {Γ : qG} {d r : Nat} {M : qM} {L : Nat → Int64} {P : Int32 → qM → Prop} (v1 v2 v3 : Int32) (h : (v2 ≤ v3 → V l Γ T_TapedLinesModel_readBit d r 114 [.null, .int v1, .null, .null] [] (M, L) (q_i L P)) ∧ (¬ v2 ≤ v3 → (¬ (M 27 36) = 0 → V l Γ T_TapedLinesModel_readBit d r 114 [.null, .int v1, .null, .null] [] (M, L) (q_i L P)) ∧ (¬ (¬ (M 27 36) = 0) → ((M 27 33) ≤ (M 27 35) → V l Γ T_TapedLinesModel_readBit d r 43 [.ref 27, .int v1, .int v2, .int (v3 + (iI 1))] [] ((q_up (q_up M 27 36 (iI 1)) 27 35 ((M 27 35) + (iI 1))), L) (q_i L P)) ∧ (¬ (M 27 33) ≤ (M 27 35) → vp_in (M 27 35) 8200 ∧ ((M 40 ((M 27 35)).toNatClampNeg) ≤ (iI 8) → V l Γ T_TapedLinesModel_readBit d r 86 [.ref 27, .int v1, .int v2, .int v3] [.int (iI 0), .ref 27] (M, L) (q_i L P)) ∧ (¬ (M 40 ((M 27 35)).toNatClampNeg) ≤ (iI 8) → V l Γ T_TapedLinesModel_readBit d r 86 [.ref 27, .int v1, .int v2, .int v3] [.int (iI 1), .ref 27] (M, L) (q_i L P)))))) : V l Γ T_TapedLinesModel_readBit d r 43 [.ref 27, .int v1, .int v2, .int v3] [] (M, L) (q_i L P) := by
  refine V.run 2 (pc' := 45) (ls' := [.ref 27, .int v1, .int v2, .int v3]) (st' := [.int v2, .int v3]) (S' := (M, L)) rfl ?_
  refine V.icmp (cd := .ge) rfl (fun hc => ?_) (fun hc => ?_)
  · have h := h.1 hc
    refine V.forget (ls' := [.null, .int v1, .null, .null]) ⟨Or.inl rfl, Or.inr rfl, Or.inl rfl, Or.inl rfl, trivial⟩ ?_
    exact h
  · have h := h.2 hc
    refine V.run 2 (pc' := 52) (ls' := [.ref 27, .int v1, .int v2, .int v3]) (st' := [.int (M 27 36)]) (S' := (M, L)) rfl ?_
    refine V.ifc (cd := .ne) rfl (fun hc => ?_) (fun hc => ?_)
    · have h := h.1 hc
      refine V.forget (ls' := [.null, .int v1, .null, .null]) ⟨Or.inl rfl, Or.inr rfl, Or.inl rfl, Or.inl rfl, trivial⟩ ?_
      exact h
    · have h := h.2 hc
      refine V.run 5 (pc' := 64) (ls' := [.ref 27, .int v1, .int v2, .int v3]) (st' := [.int (M 27 33), .int (M 27 35), .ref 27]) (S' := (M, L)) rfl ?_
      refine V.icmp (cd := .ge) rfl (fun hc => ?_) (fun hc => ?_)
      · have h := h.1 hc
        refine V.run 2 (pc' := 95) (ls' := [.ref 27, .int v1, .int v2, .int v3]) (st' := [.int (iI 1), .ref 27]) (S' := (M, L)) rfl ?_
        refine V.pfz rfl rfl rfl (by decide) ?_
        refine V.run 8 (pc' := 43) (ls' := [.ref 27, .int v1, .int v2, .int (v3 + (iI 1))]) (st' := []) (S' := ((q_up (q_up M 27 36 (iI 1)) 27 35 ((M 27 35) + (iI 1))), L)) rfl ?_
        exact h
      · have h := h.2 hc
        refine V.run 4 (pc' := 75) (ls' := [.ref 27, .int v1, .int v2, .int v3]) (st' := [.int (M 27 35), .ref 40, .ref 27]) (S' := (M, L)) rfl ?_
        refine V.iald rfl rfl h.1 ?_
        have h := h.2
        refine V.run 1 (pc' := 78) (ls' := [.ref 27, .int v1, .int v2, .int v3]) (st' := [.int (iI 8), .int (M 40 ((M 27 35)).toNatClampNeg), .ref 27]) (S' := (M, L)) rfl ?_
        refine V.icmp (cd := .le) rfl (fun hc => ?_) (fun hc => ?_)
        · have h := h.1 hc
          refine V.run 1 (pc' := 86) (ls' := [.ref 27, .int v1, .int v2, .int v3]) (st' := [.int (iI 0), .ref 27]) (S' := (M, L)) rfl ?_
          exact h
        · have h := h.2 hc
          refine V.run 2 (pc' := 86) (ls' := [.ref 27, .int v1, .int v2, .int v3]) (st' := [.int (iI 1), .ref 27]) (S' := (M, L)) rfl ?_
          exact h
set_option maxRecDepth 100000 in
set_option maxHeartbeats 4000000 in
theorem s_TapedLinesModel_readBit_86 {l : Launch} {Γ : qG} {d r : Nat} {M : qM} {L : Nat → Int64} {P : Int32 → qM → Prop} (v1 v2 v3 w0 : Int32) (h : (w0 = v1 → V l Γ T_TapedLinesModel_readBit d r 43 [.ref 27, .int v1, .int v2, .int (v3 + (iI 1))] [] ((q_up (q_up M 27 36 (iI 0)) 27 35 ((M 27 35) + (iI 1))), L) (q_i L P)) ∧ (¬ w0 = v1 → V l Γ T_TapedLinesModel_readBit d r 43 [.ref 27, .int v1, .int v2, .int (v3 + (iI 1))] [] ((q_up (q_up M 27 36 (iI 1)) 27 35 ((M 27 35) + (iI 1))), L) (q_i L P))) : V l Γ T_TapedLinesModel_readBit d r 86 [.ref 27, .int v1, .int v2, .int v3] [.int w0, .ref 27] (M, L) (q_i L P) := by
  refine V.run 1 (pc' := 87) (ls' := [.ref 27, .int v1, .int v2, .int v3]) (st' := [.int v1, .int w0, .ref 27]) (S' := (M, L)) rfl ?_
  refine V.icmp (cd := .eq) rfl (fun hc => ?_) (fun hc => ?_)
  · have h := h.1 hc
    refine V.run 1 (pc' := 95) (ls' := [.ref 27, .int v1, .int v2, .int v3]) (st' := [.int (iI 0), .ref 27]) (S' := (M, L)) rfl ?_
    refine V.pfz rfl rfl rfl (by decide) ?_
    refine V.run 8 (pc' := 43) (ls' := [.ref 27, .int v1, .int v2, .int (v3 + (iI 1))]) (st' := []) (S' := ((q_up (q_up M 27 36 (iI 0)) 27 35 ((M 27 35) + (iI 1))), L)) rfl ?_
    exact h
  · have h := h.2 hc
    refine V.run 2 (pc' := 95) (ls' := [.ref 27, .int v1, .int v2, .int v3]) (st' := [.int (iI 1), .ref 27]) (S' := (M, L)) rfl ?_
    refine V.pfz rfl rfl rfl (by decide) ?_
    refine V.run 8 (pc' := 43) (ls' := [.ref 27, .int v1, .int v2, .int (v3 + (iI 1))]) (st' := []) (S' := ((q_up (q_up M 27 36 (iI 1)) 27 35 ((M 27 35) + (iI 1))), L)) rfl ?_
    exact h
set_option maxRecDepth 100000 in
set_option maxHeartbeats 4000000 in
theorem s_TapedLinesModel_readBit_114 {l : Launch} {Γ : qG} {d r : Nat} {M : qM} {L : Nat → Int64} {P : Int32 → qM → Prop} (v1 : Int32) (h : (v1 = 0 → P (iI 1) M) ∧ (¬ v1 = 0 → P (iI 0) M)) : V l Γ T_TapedLinesModel_readBit d r 114 [.null, .int v1, .null, .null] [] (M, L) (q_i L P) := by
  refine V.run 1 (pc' := 115) (ls' := [.null, .int v1, .null, .null]) (st' := [.int v1]) (S' := (M, L)) rfl ?_
  refine V.ifc (cd := .eq) rfl (fun hc => ?_) (fun hc => ?_)
  · have h := h.1 hc
    refine V.run 1 (pc' := 123) (ls' := [.null, .int v1, .null, .null]) (st' := [.int (iI 1)]) (S' := (M, L)) rfl ?_
    exact V.iret rfl rfl ⟨_, _, rfl, rfl, h⟩
  · have h := h.2 hc
    refine V.run 2 (pc' := 123) (ls' := [.null, .int v1, .null, .null]) (st' := [.int (iI 0)]) (S' := (M, L)) rfl ?_
    exact V.iret rfl rfl ⟨_, _, rfl, rfl, h⟩
set_option maxRecDepth 100000 in
set_option maxHeartbeats 4000000 in
theorem s_TapedLinesModel_readByte_0 {l : Launch} {Γ : qG} {d r : Nat} {M : qM} {L : Nat → Int64} {P : Int32 → qM → Prop} (h : V l Γ T_TapedLinesModel_readByte (d + 1) r 2 [.ref 27, .int (iI 1), .null, .null] [] (M, L) (q_i L P)) : V l Γ T_TapedLinesModel_readByte (d + 1) r 0 [.ref 27, .null, .null, .null] [] (M, L) (q_i L P) := by
  refine V.run 2 (pc' := 2) (ls' := [.ref 27, .int (iI 1), .null, .null]) (st' := []) (S' := (M, L)) rfl ?_
  exact h
set_option maxRecDepth 100000 in
set_option maxHeartbeats 4000000 in
theorem s_TapedLinesModel_readByte_2 {l : Launch} {Γ : qG} {d r : Nat} {M : qM} {L : Nat → Int64} {P : Int32 → qM → Prop} (v1 : Int32) (h : (v1 = 0 → V l Γ T_TapedLinesModel_readByte (d + 1) r 34 [.ref 27, .null, .int (iI 0), .int (iI 0)] [] (M, L) (q_i L P)) ∧ (¬ v1 = 0 → (¬ (M 27 36) = 0 → V l Γ T_TapedLinesModel_readByte (d + 1) r 34 [.ref 27, .null, .int (iI 0), .int (iI 0)] [] (M, L) (q_i L P)) ∧ (¬ (¬ (M 27 36) = 0) → ∃ P1 : Int32 → qM → Prop, V l Γ T_TapedLinesModel_readBit d 0 0 [.ref 27, .null, .null, .null] [] (M, L) (q_i L P1) ∧ ∀ (x1 : Int32) (M1 : qM), P1 x1 M1 → (¬ x1 = (iI 1) → V l Γ T_TapedLinesModel_readByte (d + 1) r 2 [.ref 27, .int (iI 0), .null, .null] [] (M1, L) (q_i L P)) ∧ (¬ (¬ x1 = (iI 1)) → V l Γ T_TapedLinesModel_readByte (d + 1) r 2 [.ref 27, .int (iI 1), .null, .null] [] (M1, L) (q_i L P))))) : V l Γ T_TapedLinesModel_readByte (d + 1) r 2 [.ref 27, .int v1, .null, .null] [] (M, L) (q_i L P) := by
  refine V.run 1 (pc' := 3) (ls' := [.ref 27, .int v1, .null, .null]) (st' := [.int v1]) (S' := (M, L)) rfl ?_
  refine V.ifc (cd := .eq) rfl (fun hc => ?_) (fun hc => ?_)
  · have h := h.1 hc
    refine V.run 4 (pc' := 34) (ls' := [.ref 27, .int v1, .int (iI 0), .int (iI 0)]) (st' := []) (S' := (M, L)) rfl ?_
    refine V.forget (ls' := [.ref 27, .null, .int (iI 0), .int (iI 0)]) ⟨Or.inr rfl, Or.inl rfl, Or.inr rfl, Or.inr rfl, trivial⟩ ?_
    exact h
  · have h := h.2 hc
    refine V.run 2 (pc' := 10) (ls' := [.ref 27, .int v1, .null, .null]) (st' := [.int (M 27 36)]) (S' := (M, L)) rfl ?_
    refine V.ifc (cd := .ne) rfl (fun hc => ?_) (fun hc => ?_)
    · have h := h.1 hc
      refine V.run 4 (pc' := 34) (ls' := [.ref 27, .int v1, .int (iI 0), .int (iI 0)]) (st' := []) (S' := (M, L)) rfl ?_
      refine V.forget (ls' := [.ref 27, .null, .int (iI 0), .int (iI 0)]) ⟨Or.inr rfl, Or.inl rfl, Or.inr rfl, Or.inr rfl, trivial⟩ ?_
      exact h
    · have h := h.2 hc
      refine V.run 1 (pc' := 14) (ls' := [.ref 27, .int v1, .null, .null]) (st' := [.ref 27]) (S' := (M, L)) rfl ?_
      obtain ⟨P1, hv1, h⟩ := h
      refine V.callVi (T2 := T_TapedLinesModel_readBit) (As := []) (rest := []) rfl rfl g_TapedLinesModel_readBit rfl rfl rfl rfl (Nat.le_of_ble_eq_true rfl) (by simp [Value.category]) (by simp [Value.category]) (Nat.le_of_ble_eq_true rfl) (Nat.le_refl _) hv1 (fun x1 M1 hq => ?_)
      have h := h x1 M1 hq
      refine V.run 1 (pc' := 18) (ls' := [.ref 27, .int v1, .null, .null]) (st' := [.int (iI 1), .int x1]) (S' := (M1, L)) rfl ?_
      refine V.icmp (cd := .ne) rfl (fun hc => ?_) (fun hc => ?_)
      · have h := h.1 hc
        refine V.run 3 (pc' := 2) (ls' := [.ref 27, .int (iI 0), .null, .null]) (st' := []) (S' := (M1, L)) rfl ?_
        exact h
      · have h := h.2 hc
        refine V.run 4 (pc' := 2) (ls' := [.ref 27, .int (iI 1), .null, .null]) (st' := []) (S' := (M1, L)) rfl ?_
        exact h
set_option maxRecDepth 100000 in
set_option maxHeartbeats 4000000 in
theorem s_TapedLinesModel_readByte_34 {l : Launch} {Γ : qG} {d r : Nat} {M : qM} {L : Nat → Int64} {P : Int32 → qM → Prop} (v2 v3 : Int32) (h : ((iI 8) ≤ v3 → V l Γ T_TapedLinesModel_readByte (d + 1) r 62 [.ref 27, .null, .int v2, .null] [] (M, L) (q_i L P)) ∧ (¬ (iI 8) ≤ v3 → (¬ (M 27 36) = 0 → V l Γ T_TapedLinesModel_readByte (d + 1) r 62 [.ref 27, .null, .int v2, .null] [] (M, L) (q_i L P)) ∧ (¬ (¬ (M 27 36) = 0) → ∃ P1 : Int32 → qM → Prop, V l Γ T_TapedLinesModel_readBit d 0 0 [.ref 27, .null, .null, .null] [] (M, L) (q_i L P1) ∧ ∀ (x1 : Int32) (M1 : qM), P1 x1 M1 → V l Γ T_TapedLinesModel_readByte (d + 1) r 34 [.ref 27, .null, .int (v2 ||| (x1 <<< (v3 &&& 31))), .int (v3 + (iI 1))] [] (M1, L) (q_i L P)))) : V l Γ T_TapedLinesModel_readByte (d + 1) r 34 [.ref 27, .null, .int v2, .int v3] [] (M, L) (q_i L P) := by
  refine V.run 2 (pc' := 37) (ls' := [.ref 27, .null, .int v2, .int v3]) (st' := [.int (iI 8), .int v3]) (S' := (M, L)) rfl ?_
  refine V.icmp (cd := .ge) rfl (fun hc => ?_) (fun hc => ?_)
  · have h := h.1 hc
    refine V.forget (ls' := [.ref 27, .null, .int v2, .null]) ⟨Or.inr rfl, Or.inl rfl, Or.inr rfl, Or.inl rfl, trivial⟩ ?_
    exact h
  · have h := h.2 hc
    refine V.run 2 (pc' := 44) (ls' := [.ref 27, .null, .int v2, .int v3]) (st' := [.int (M 27 36)]) (S' := (M, L)) rfl ?_
    refine V.ifc (cd := .ne) rfl (fun hc => ?_) (fun hc => ?_)
    · have h := h.1 hc
      refine V.forget (ls' := [.ref 27, .null, .int v2, .null]) ⟨Or.inr rfl, Or.inl rfl, Or.inr rfl, Or.inl rfl, trivial⟩ ?_
      exact h
    · have h := h.2 hc
      refine V.run 2 (pc' := 49) (ls' := [.ref 27, .null, .int v2, .int v3]) (st' := [.ref 27, .int v2]) (S' := (M, L)) rfl ?_
      obtain ⟨P1, hv1, h⟩ := h
      refine V.callVi (T2 := T_TapedLinesModel_readBit) (As := []) (rest := [.int v2]) rfl rfl g_TapedLinesModel_readBit rfl rfl rfl rfl (Nat.le_of_ble_eq_true rfl) (by simp [Value.category]) (by simp [Value.category]) (Nat.le_of_ble_eq_true rfl) (Nat.le_refl _) hv1 (fun x1 M1 hq => ?_)
      have h := h x1 M1 hq
      refine V.run 6 (pc' := 34) (ls' := [.ref 27, .null, .int (v2 ||| (x1 <<< (v3 &&& 31))), .int (v3 + (iI 1))]) (st' := []) (S' := (M1, L)) rfl ?_
      exact h
set_option maxRecDepth 100000 in
set_option maxHeartbeats 4000000 in
theorem s_TapedLinesModel_readByte_62 {l : Launch} {Γ : qG} {d r : Nat} {M : qM} {L : Nat → Int64} {P : Int32 → qM → Prop} (v2 : Int32) (h : (¬ (M 27 36) = 0 → P v2 (q_up M 27 36 (iI 1))) ∧ (¬ (¬ (M 27 36) = 0) → ∃ P1 : Int32 → qM → Prop, V l Γ T_TapedLinesModel_readBit d 0 0 [.ref 27, .null, .null, .null] [] (M, L) (q_i L P1) ∧ ∀ (x1 : Int32) (M1 : qM), P1 x1 M1 → (x1 = 0 → P v2 (q_up M1 27 36 (iI 1))) ∧ (¬ x1 = 0 → ((M1 27 36) = 0 → P v2 (q_up M1 27 36 (iI 0))) ∧ (¬ (M1 27 36) = 0 → P v2 (q_up M1 27 36 (iI 1)))))) : V l Γ T_TapedLinesModel_readByte (d + 1) r 62 [.ref 27, .null, .int v2, .null] [] (M, L) (q_i L P) := by
  refine V.run 3 (pc' := 67) (ls' := [.ref 27, .null, .int v2, .null]) (st' := [.int (M 27 36), .ref 27]) (S' := (M, L)) rfl ?_
  refine V.ifc (cd := .ne) rfl (fun hc => ?_) (fun hc => ?_)
  · have h := h.1 hc
    refine V.run 2 (pc' := 89) (ls' := [.ref 27, .null, .int v2, .null]) (st' := [.int (iI 1), .ref 27]) (S' := (M, L)) rfl ?_
    refine V.pfz rfl rfl rfl (by decide) ?_
    refine V.run 1 (pc' := 93) (ls' := [.ref 27, .null, .int v2, .null]) (st' := [.int v2]) (S' := ((q_up M 27 36 (iI 1)), L)) rfl ?_
    exact V.iret rfl rfl ⟨_, _, rfl, rfl, h⟩
  · have h := h.2 hc
    refine V.run 1 (pc' := 71) (ls' := [.ref 27, .null, .int v2, .null]) (st' := [.ref 27, .ref 27]) (S' := (M, L)) rfl ?_
    obtain ⟨P1, hv1, h⟩ := h
    refine V.callVi (T2 := T_TapedLinesModel_readBit) (As := []) (rest := [.ref 27]) rfl rfl g_TapedLinesModel_readBit rfl rfl rfl rfl (Nat.le_of_ble_eq_true rfl) (by simp [Value.category]) (by simp [Value.category]) (Nat.le_of_ble_eq_true rfl) (Nat.le_refl _) hv1 (fun x1 M1 hq => ?_)
    have h := h x1 M1 hq
    refine V.ifc (cd := .eq) rfl (fun hc => ?_) (fun hc => ?_)
    · have h := h.1 hc
      refine V.run 2 (pc' := 89) (ls' := [.ref 27, .null, .int v2, .null]) (st' := [.int (iI 1), .ref 27]) (S' := (M1, L)) rfl ?_
      refine V.pfz rfl rfl rfl (by decide) ?_
      refine V.run 1 (pc' := 93) (ls' := [.ref 27, .null, .int v2, .null]) (st' := [.int v2]) (S' := ((q_up M1 27 36 (iI 1)), L)) rfl ?_
      exact V.iret rfl rfl ⟨_, _, rfl, rfl, h⟩
    · have h := h.2 hc
      refine V.run 2 (pc' := 81) (ls' := [.ref 27, .null, .int v2, .null]) (st' := [.int (M1 27 36), .ref 27]) (S' := (M1, L)) rfl ?_
      refine V.ifc (cd := .eq) rfl (fun hc => ?_) (fun hc => ?_)
      · have h := h.1 hc
        refine V.run 1 (pc' := 89) (ls' := [.ref 27, .null, .int v2, .null]) (st' := [.int (iI 0), .ref 27]) (S' := (M1, L)) rfl ?_
        refine V.pfz rfl rfl rfl (by decide) ?_
        refine V.run 1 (pc' := 93) (ls' := [.ref 27, .null, .int v2, .null]) (st' := [.int v2]) (S' := ((q_up M1 27 36 (iI 0)), L)) rfl ?_
        exact V.iret rfl rfl ⟨_, _, rfl, rfl, h⟩
      · have h := h.2 hc
        refine V.run 2 (pc' := 89) (ls' := [.ref 27, .null, .int v2, .null]) (st' := [.int (iI 1), .ref 27]) (S' := (M1, L)) rfl ?_
        refine V.pfz rfl rfl rfl (by decide) ?_
        refine V.run 1 (pc' := 93) (ls' := [.ref 27, .null, .int v2, .null]) (st' := [.int v2]) (S' := ((q_up M1 27 36 (iI 1)), L)) rfl ?_
        exact V.iret rfl rfl ⟨_, _, rfl, rfl, h⟩
set_option maxRecDepth 100000 in
set_option maxHeartbeats 4000000 in
theorem s_TapedLinesModel_isProgram_0 {l : Launch} {Γ : qG} {d r : Nat} {M : qM} {L : Nat → Int64} {P : Int32 → qM → Prop} (a : Int32) (h : V l Γ T_TapedLinesModel_isProgram (d + 1) r 7 [.ref 27, .int a, .int (iI 0), .int (iI 0), .int (iI 1)] [] (M, L) (q_i L P)) : V l Γ T_TapedLinesModel_isProgram (d + 1) r 0 [.ref 27, .int a, .null, .null, .null] [] (M, L) (q_i L P) := by
  refine V.run 6 (pc' := 7) (ls' := [.ref 27, .int a, .int (iI 0), .int (iI 0), .int (iI 1)]) (st' := []) (S' := (M, L)) rfl ?_
  exact h
set_option maxRecDepth 100000 in
set_option maxHeartbeats 4000000 in
theorem s_TapedLinesModel_isProgram_7 {l : Launch} {Γ : qG} {d r : Nat} {M : qM} {L : Nat → Int64} {P : Int32 → qM → Prop} (v1 v2 v3 v4 : Int32) (h : (v4 = 0 → V l Γ T_TapedLinesModel_isProgram (d + 1) r 133 [.null, .int v1, .null, .null, .int v4] [] (M, L) (q_i L P)) ∧ (¬ v4 = 0 → (v1 ≤ v2 → V l Γ T_TapedLinesModel_isProgram (d + 1) r 133 [.null, .int v1, .null, .null, .int v4] [] (M, L) (q_i L P)) ∧ (¬ v1 ≤ v2 → vp_in v2 260 ∧ ((M 29 (v2).toNatClampNeg) ≤ v3 → V l Γ T_TapedLinesModel_isProgram (d + 1) r 99 [.ref 27, .int v1, .int v2, .null, .null] [.int (iI 0)] (M, L) (q_i L P)) ∧ (¬ (M 29 (v2).toNatClampNeg) ≤ v3 → vp_in v2 260 ∧ ((iI 100) ≤ (M 29 (v2).toNatClampNeg) → V l Γ T_TapedLinesModel_isProgram (d + 1) r 99 [.ref 27, .int v1, .int v2, .null, .null] [.int (iI 0)] (M, L) (q_i L P)) ∧ (¬ (iI 100) ≤ (M 29 (v2).toNatClampNeg) → (v1 ≤ (v2 + (iI 1)) → V l Γ T_TapedLinesModel_isProgram (d + 1) r 99 [.ref 27, .int v1, .int v2, .null, .null] [.int (iI 0)] (M, L) (q_i L P)) ∧ (¬ v1 ≤ (v2 + (iI 1)) → vp_in (v2 + (iI 1)) 260 ∧ ((M 29 ((v2 + (iI 1))).toNatClampNeg) ≤ 0 → V l Γ T_TapedLinesModel_isProgram (d + 1) r 99 [.ref 27, .int v1, .int v2, .null, .null] [.int (iI 0)] (M, L) (q_i L P)) ∧ (¬ (M 29 ((v2 + (iI 1))).toNatClampNeg) ≤ 0 → vp_in (v2 + (iI 1)) 260 ∧ (v1 < ((v2 + (iI 2)) + (M 29 ((v2 + (iI 1))).toNatClampNeg)) → V l Γ T_TapedLinesModel_isProgram (d + 1) r 99 [.ref 27, .int v1, .int v2, .null, .null] [.int (iI 0)] (M, L) (q_i L P)) ∧ (¬ v1 < ((v2 + (iI 2)) + (M 29 ((v2 + (iI 1))).toNatClampNeg)) → vp_in (v2 + (iI 1)) 260 ∧ ∃ P1 : Int32 → qM → Prop, V l Γ T_TapedLinesModel_isStatement d 0 0 [.ref 27, .int (v2 + (iI 2)), .int ((v2 + (iI 2)) + (M 29 ((v2 + (iI 1))).toNatClampNeg)), .null, .null, .null] [] (M, L) (q_i L P1) ∧ ∀ (x1 : Int32) (M1 : qM), P1 x1 M1 → (x1 = 0 → V l Γ T_TapedLinesModel_isProgram (d + 1) r 99 [.ref 27, .int v1, .int v2, .null, .null] [.int (iI 0)] (M1, L) (q_i L P)) ∧ (¬ x1 = 0 → V l Γ T_TapedLinesModel_isProgram (d + 1) r 99 [.ref 27, .int v1, .int v2, .null, .null] [.int (iI 1)] (M1, L) (q_i L P)))))))))) : V l Γ T_TapedLinesModel_isProgram (d + 1) r 7 [.ref 27, .int v1, .int v2, .int v3, .int v4] [] (M, L) (q_i L P) := by
  refine V.run 1 (pc' := 9) (ls' := [.ref 27, .int v1, .int v2, .int v3, .int v4]) (st' := [.int v4]) (S' := (M, L)) rfl ?_
  refine V.ifc (cd := .eq) rfl (fun hc => ?_) (fun hc => ?_)
  · have h := h.1 hc
    refine V.forget (ls' := [.null, .int v1, .null, .null, .int v4]) ⟨Or.inl rfl, Or.inr rfl, Or.inl rfl, Or.inl rfl, Or.inr rfl, trivial⟩ ?_
    exact h
  · have h := h.2 hc
    refine V.run 2 (pc' := 14) (ls' := [.ref 27, .int v1, .int v2, .int v3, .int v4]) (st' := [.int v1, .int v2]) (S' := (M, L)) rfl ?_
    refine V.icmp (cd := .ge) rfl (fun hc => ?_) (fun hc => ?_)
    · have h := h.1 hc
      refine V.forget (ls' := [.null, .int v1, .null, .null, .int v4]) ⟨Or.inl rfl, Or.inr rfl, Or.inl rfl, Or.inl rfl, Or.inr rfl, trivial⟩ ?_
      exact h
    · have h := h.2 hc
      refine V.run 3 (pc' := 22) (ls' := [.ref 27, .int v1, .int v2, .int v3, .int v4]) (st' := [.int v2, .ref 29]) (S' := (M, L)) rfl ?_
      refine V.iald rfl rfl h.1 ?_
      have h := h.2
      refine V.run 1 (pc' := 24) (ls' := [.ref 27, .int v1, .int v2, .int v3, .int v4]) (st' := [.int v3, .int (M 29 (v2).toNatClampNeg)]) (S' := (M, L)) rfl ?_
      refine V.icmp (cd := .le) rfl (fun hc => ?_) (fun hc => ?_)
      · have h := h.1 hc
        refine V.run 1 (pc' := 99) (ls' := [.ref 27, .int v1, .int v2, .int v3, .int v4]) (st' := [.int (iI 0)]) (S' := (M, L)) rfl ?_
        refine V.forget (ls' := [.ref 27, .int v1, .int v2, .null, .null]) ⟨Or.inr rfl, Or.inr rfl, Or.inr rfl, Or.inl rfl, Or.inl rfl, trivial⟩ ?_
        exact h
      · have h := h.2 hc
        refine V.run 3 (pc' := 32) (ls' := [.ref 27, .int v1, .int v2, .int v3, .int v4]) (st' := [.int v2, .ref 29]) (S' := (M, L)) rfl ?_
        refine V.iald rfl rfl h.1 ?_
        have h := h.2
        refine V.run 1 (pc' := 35) (ls' := [.ref 27, .int v1, .int v2, .int v3, .int v4]) (st' := [.int (iI 100), .int (M 29 (v2).toNatClampNeg)]) (S' := (M, L)) rfl ?_
        refine V.icmp (cd := .ge) rfl (fun hc => ?_) (fun hc => ?_)
        · have h := h.1 hc
          refine V.run 1 (pc' := 99) (ls' := [.ref 27, .int v1, .int v2, .int v3, .int v4]) (st' := [.int (iI 0)]) (S' := (M, L)) rfl ?_
          refine V.forget (ls' := [.ref 27, .int v1, .int v2, .null, .null]) ⟨Or.inr rfl, Or.inr rfl, Or.inr rfl, Or.inl rfl, Or.inl rfl, trivial⟩ ?_
          exact h
        · have h := h.2 hc
          refine V.run 4 (pc' := 42) (ls' := [.ref 27, .int v1, .int v2, .int v3, .int v4]) (st' := [.int v1, .int (v2 + (iI 1))]) (S' := (M, L)) rfl ?_
          refine V.icmp (cd := .ge) rfl (fun hc => ?_) (fun hc => ?_)
          · have h := h.1 hc
            refine V.run 1 (pc' := 99) (ls' := [.ref 27, .int v1, .int v2, .int v3, .int v4]) (st' := [.int (iI 0)]) (S' := (M, L)) rfl ?_
            refine V.forget (ls' := [.ref 27, .int v1, .int v2, .null, .null]) ⟨Or.inr rfl, Or.inr rfl, Or.inr rfl, Or.inl rfl, Or.inl rfl, trivial⟩ ?_
            exact h
          · have h := h.2 hc
            refine V.run 5 (pc' := 52) (ls' := [.ref 27, .int v1, .int v2, .int v3, .int v4]) (st' := [.int (v2 + (iI 1)), .ref 29]) (S' := (M, L)) rfl ?_
            refine V.iald rfl rfl h.1 ?_
            have h := h.2
            refine V.ifc (cd := .le) rfl (fun hc => ?_) (fun hc => ?_)
            · have h := h.1 hc
              refine V.run 1 (pc' := 99) (ls' := [.ref 27, .int v1, .int v2, .int v3, .int v4]) (st' := [.int (iI 0)]) (S' := (M, L)) rfl ?_
              refine V.forget (ls' := [.ref 27, .int v1, .int v2, .null, .null]) ⟨Or.inr rfl, Or.inr rfl, Or.inr rfl, Or.inl rfl, Or.inl rfl, trivial⟩ ?_
              exact h
            · have h := h.2 hc
              refine V.run 8 (pc' := 66) (ls' := [.ref 27, .int v1, .int v2, .int v3, .int v4]) (st' := [.int (v2 + (iI 1)), .ref 29, .int (v2 + (iI 2))]) (S' := (M, L)) rfl ?_
              refine V.iald rfl rfl h.1 ?_
              have h := h.2
              refine V.run 2 (pc' := 69) (ls' := [.ref 27, .int v1, .int v2, .int v3, .int v4]) (st' := [.int v1, .int ((v2 + (iI 2)) + (M 29 ((v2 + (iI 1))).toNatClampNeg))]) (S' := (M, L)) rfl ?_
              refine V.icmp (cd := .gt) rfl (fun hc => ?_) (fun hc => ?_)
              · have h := h.1 hc
                refine V.run 1 (pc' := 99) (ls' := [.ref 27, .int v1, .int v2, .int v3, .int v4]) (st' := [.int (iI 0)]) (S' := (M, L)) rfl ?_
                refine V.forget (ls' := [.ref 27, .int v1, .int v2, .null, .null]) ⟨Or.inr rfl, Or.inr rfl, Or.inr rfl, Or.inl rfl, Or.inl rfl, trivial⟩ ?_
                exact h
              · have h := h.2 hc
                refine V.run 12 (pc' := 86) (ls' := [.ref 27, .int v1, .int v2, .int v3, .int v4]) (st' := [.int (v2 + (iI 1)), .ref 29, .int (v2 + (iI 2)), .int (v2 + (iI 2)), .ref 27]) (S' := (M, L)) rfl ?_
                refine V.iald rfl rfl h.1 ?_
                have h := h.2
                refine V.run 1 (pc' := 88) (ls' := [.ref 27, .int v1, .int v2, .int v3, .int v4]) (st' := [.int ((v2 + (iI 2)) + (M 29 ((v2 + (iI 1))).toNatClampNeg)), .int (v2 + (iI 2)), .ref 27]) (S' := (M, L)) rfl ?_
                obtain ⟨P1, hv1, h⟩ := h
                refine V.callVi (T2 := T_TapedLinesModel_isStatement) (As := [.int (v2 + (iI 2)), .int ((v2 + (iI 2)) + (M 29 ((v2 + (iI 1))).toNatClampNeg))]) (rest := []) rfl rfl g_TapedLinesModel_isStatement rfl rfl rfl rfl (Nat.le_of_ble_eq_true rfl) (by simp [Value.category]) (by simp [Value.category]) (Nat.le_of_ble_eq_true rfl) (Nat.le_refl _) hv1 (fun x1 M1 hq => ?_)
                have h := h x1 M1 hq
                refine V.ifc (cd := .eq) rfl (fun hc => ?_) (fun hc => ?_)
                · have h := h.1 hc
                  refine V.run 1 (pc' := 99) (ls' := [.ref 27, .int v1, .int v2, .int v3, .int v4]) (st' := [.int (iI 0)]) (S' := (M1, L)) rfl ?_
                  refine V.forget (ls' := [.ref 27, .int v1, .int v2, .null, .null]) ⟨Or.inr rfl, Or.inr rfl, Or.inr rfl, Or.inl rfl, Or.inl rfl, trivial⟩ ?_
                  exact h
                · have h := h.2 hc
                  refine V.run 2 (pc' := 99) (ls' := [.ref 27, .int v1, .int v2, .int v3, .int v4]) (st' := [.int (iI 1)]) (S' := (M1, L)) rfl ?_
                  refine V.forget (ls' := [.ref 27, .int v1, .int v2, .null, .null]) ⟨Or.inr rfl, Or.inr rfl, Or.inr rfl, Or.inl rfl, Or.inl rfl, trivial⟩ ?_
                  exact h
set_option maxRecDepth 100000 in
set_option maxHeartbeats 4000000 in
theorem s_TapedLinesModel_isProgram_99 {l : Launch} {Γ : qG} {d r : Nat} {M : qM} {L : Nat → Int64} {P : Int32 → qM → Prop} (v1 v2 w0 : Int32) (h : vp_in v2 260 ∧ (w0 = 0 → V l Γ T_TapedLinesModel_isProgram (d + 1) r 7 [.ref 27, .int v1, .int v2, .int (M 29 (v2).toNatClampNeg), .int w0] [] (M, L) (q_i L P)) ∧ (¬ w0 = 0 → vp_in (v2 + (iI 1)) 260 ∧ V l Γ T_TapedLinesModel_isProgram (d + 1) r 7 [.ref 27, .int v1, .int ((v2 + (iI 2)) + (M 29 ((v2 + (iI 1))).toNatClampNeg)), .int (M 29 (v2).toNatClampNeg), .int w0] [] (M, L) (q_i L P))) : V l Γ T_TapedLinesModel_isProgram (d + 1) r 99 [.ref 27, .int v1, .int v2, .null, .null] [.int w0] (M, L) (q_i L P) := by
  refine V.run 4 (pc' := 106) (ls' := [.ref 27, .int v1, .int v2, .null, .int w0]) (st' := [.int v2, .ref 29]) (S' := (M, L)) rfl ?_
  refine V.iald rfl rfl h.1 ?_
  have h := h.2
  refine V.run 2 (pc' := 110) (ls' := [.ref 27, .int v1, .int v2, .int (M 29 (v2).toNatClampNeg), .int w0]) (st' := [.int w0]) (S' := (M, L)) rfl ?_
  refine V.ifc (cd := .eq) rfl (fun hc => ?_) (fun hc => ?_)
  · have h := h.1 hc
    refine V.run 3 (pc' := 7) (ls' := [.ref 27, .int v1, .int v2, .int (M 29 (v2).toNatClampNeg), .int w0]) (st' := []) (S' := (M, L)) rfl ?_
    exact h
  · have h := h.2 hc
    refine V.run 8 (pc' := 123) (ls' := [.ref 27, .int v1, .int v2, .int (M 29 (v2).toNatClampNeg), .int w0]) (st' := [.int (v2 + (iI 1)), .ref 29, .int (v2 + (iI 2))]) (S' := (M, L)) rfl ?_
    refine V.iald rfl rfl h.1 ?_
    have h := h.2
    refine V.run 4 (pc' := 7) (ls' := [.ref 27, .int v1, .int ((v2 + (iI 2)) + (M 29 ((v2 + (iI 1))).toNatClampNeg)), .int (M 29 (v2).toNatClampNeg), .int w0]) (st' := []) (S' := (M, L)) rfl ?_
    exact h
set_option maxRecDepth 100000 in
set_option maxHeartbeats 4000000 in
theorem s_TapedLinesModel_isProgram_133 {l : Launch} {Γ : qG} {d r : Nat} {M : qM} {L : Nat → Int64} {P : Int32 → qM → Prop} (v1 v4 : Int32) (h : (v4 = 0 → P (iI 0) M) ∧ (¬ v4 = 0 → ((iI 200) < v1 → P (iI 0) M) ∧ (¬ (iI 200) < v1 → P (iI 1) M))) : V l Γ T_TapedLinesModel_isProgram (d + 1) r 133 [.null, .int v1, .null, .null, .int v4] [] (M, L) (q_i L P) := by
  refine V.run 1 (pc' := 135) (ls' := [.null, .int v1, .null, .null, .int v4]) (st' := [.int v4]) (S' := (M, L)) rfl ?_
  refine V.ifc (cd := .eq) rfl (fun hc => ?_) (fun hc => ?_)
  · have h := h.1 hc
    refine V.run 1 (pc' := 150) (ls' := [.null, .int v1, .null, .null, .int v4]) (st' := [.int (iI 0)]) (S' := (M, L)) rfl ?_
    exact V.zret rfl rfl (by decide) ⟨_, _, rfl, rfl, h⟩
  · have h := h.2 hc
    refine V.run 2 (pc' := 142) (ls' := [.null, .int v1, .null, .null, .int v4]) (st' := [.int (iI 200), .int v1]) (S' := (M, L)) rfl ?_
    refine V.icmp (cd := .gt) rfl (fun hc => ?_) (fun hc => ?_)
    · have h := h.1 hc
      refine V.run 1 (pc' := 150) (ls' := [.null, .int v1, .null, .null, .int v4]) (st' := [.int (iI 0)]) (S' := (M, L)) rfl ?_
      exact V.zret rfl rfl (by decide) ⟨_, _, rfl, rfl, h⟩
    · have h := h.2 hc
      refine V.run 2 (pc' := 150) (ls' := [.null, .int v1, .null, .null, .int v4]) (st' := [.int (iI 1)]) (S' := (M, L)) rfl ?_
      exact V.zret rfl rfl (by decide) ⟨_, _, rfl, rfl, h⟩
set_option maxRecDepth 100000 in
set_option maxHeartbeats 4000000 in
theorem s_TapedLinesModel_isStatement_0 {l : Launch} {Γ : qG} {d r : Nat} {M : qM} {L : Nat → Int64} {P : Int32 → qM → Prop} (a b : Int32) (h : V l Γ T_TapedLinesModel_isStatement (d + 1) r 21 [.ref 27, .null, .int b, .int (M 27 10), .int (iI 1), .int a] [] ((q_up (q_up M 27 3 (iI 2)) 27 5 (iI 0)), L) (q_i L P)) : V l Γ T_TapedLinesModel_isStatement (d + 1) r 0 [.ref 27, .int a, .int b, .null, .null, .null] [] (M, L) (q_i L P) := by
  refine V.run 13 (pc' := 21) (ls' := [.ref 27, .int a, .int b, .int (M 27 10), .int (iI 1), .int a]) (st' := []) (S' := ((q_up (q_up M 27 3 (iI 2)) 27 5 (iI 0)), L)) rfl ?_
  refine V.forget (ls' := [.ref 27, .null, .int b, .int (M 27 10), .int (iI 1), .int a]) ⟨Or.inr rfl, Or.inl rfl, Or.inr rfl, Or.inr rfl, Or.inr rfl, Or.inr rfl, trivial⟩ ?_
  exact h
set_option maxRecDepth 100000 in
set_option maxHeartbeats 4000000 in
theorem s_TapedLinesModel_isStatement_21 {l : Launch} {Γ : qG} {d r : Nat} {M : qM} {L : Nat → Int64} {P : Int32 → qM → Prop} (v2 v3 v4 v5 : Int32) (h : (v2 ≤ v5 → V l Γ T_TapedLinesModel_isStatement (d + 1) r 58 [.ref 27, .null, .null, .int v3, .int v4, .null] [] (M, L) (q_i L P)) ∧ (¬ v2 ≤ v5 → (v4 = 0 → V l Γ T_TapedLinesModel_isStatement (d + 1) r 58 [.ref 27, .null, .null, .int v3, .int v4, .null] [] (M, L) (q_i L P)) ∧ (¬ v4 = 0 → vp_in v5 260 ∧ ∃ P1 : Int32 → qM → Prop, V l Γ T_TapedLinesModel_takeByte d 0 0 [.ref 27, .int (M 29 (v5).toNatClampNeg)] [] ((q_up M 27 10 (iI 258)), L) (q_i L P1) ∧ ∀ (x1 : Int32) (M1 : qM), P1 x1 M1 → V l Γ T_TapedLinesModel_isStatement (d + 1) r 21 [.ref 27, .null, .int v2, .int v3, .int x1, .int (v5 + (iI 1))] [] (M1, L) (q_i L P)))) : V l Γ T_TapedLinesModel_isStatement (d + 1) r 21 [.ref 27, .null, .int v2, .int v3, .int v4, .int v5] [] (M, L) (q_i L P) := by
  refine V.run 2 (pc' := 24) (ls' := [.ref 27, .null, .int v2, .int v3, .int v4, .int v5]) (st' := [.int v2, .int v5]) (S' := (M, L)) rfl ?_
  refine V.icmp (cd := .ge) rfl (fun hc => ?_) (fun hc => ?_)
  · have h := h.1 hc
    refine V.forget (ls' := [.ref 27, .null, .null, .int v3, .int v4, .null]) ⟨Or.inr rfl, Or.inl rfl, Or.inl rfl, Or.inr rfl, Or.inr rfl, Or.inl rfl, trivial⟩ ?_
    exact h
  · have h := h.2 hc
    refine V.run 1 (pc' := 29) (ls' := [.ref 27, .null, .int v2, .int v3, .int v4, .int v5]) (st' := [.int v4]) (S' := (M, L)) rfl ?_
    refine V.ifc (cd := .eq) rfl (fun hc => ?_) (fun hc => ?_)
    · have h := h.1 hc
      refine V.forget (ls' := [.ref 27, .null, .null, .int v3, .int v4, .null]) ⟨Or.inr rfl, Or.inl rfl, Or.inl rfl, Or.inr rfl, Or.inr rfl, Or.inl rfl, trivial⟩ ?_
      exact h
    · have h := h.2 hc
      refine V.run 7 (pc' := 46) (ls' := [.ref 27, .null, .int v2, .int v3, .int v4, .int v5]) (st' := [.int v5, .ref 29, .ref 27]) (S' := ((q_up M 27 10 (iI 258)), L)) rfl ?_
      refine V.iald rfl rfl h.1 ?_
      have h := h.2
      obtain ⟨P1, hv1, h⟩ := h
      refine V.callVi (T2 := T_TapedLinesModel_takeByte) (As := [.int (M 29 (v5).toNatClampNeg)]) (rest := []) rfl rfl g_TapedLinesModel_takeByte rfl rfl rfl rfl (Nat.le_of_ble_eq_true rfl) (by simp [Value.category]) (by simp [Value.category]) (Nat.le_of_ble_eq_true rfl) (Nat.le_refl _) hv1 (fun x1 M1 hq => ?_)
      have h := h x1 M1 hq
      refine V.run 3 (pc' := 21) (ls' := [.ref 27, .null, .int v2, .int v3, .int x1, .int (v5 + (iI 1))]) (st' := []) (S' := (M1, L)) rfl ?_
      exact h
set_option maxRecDepth 100000 in
set_option maxHeartbeats 4000000 in
theorem s_TapedLinesModel_isStatement_58 {l : Launch} {Γ : qG} {d r : Nat} {M : qM} {L : Nat → Int64} {P : Int32 → qM → Prop} (v3 v4 : Int32) (h : (v4 = 0 → P (iI 0) (q_up M 27 10 v3)) ∧ (¬ v4 = 0 → ((M 27 3) = (iI 2) → P (iI 0) (q_up M 27 10 v3)) ∧ (¬ (M 27 3) = (iI 2) → ∃ P1 : Int32 → qM → Prop, V l Γ T_TapedLinesModel_isWhole d 0 0 [.ref 27, .null] [] ((q_up M 27 10 v3), L) (q_i L P1) ∧ ∀ (x1 : Int32) (M1 : qM), P1 x1 M1 → (x1 = 0 → P (iI 0) M1) ∧ (¬ x1 = 0 → P (iI 1) M1)))) : V l Γ T_TapedLinesModel_isStatement (d + 1) r 58 [.ref 27, .null, .null, .int v3, .int v4, .null] [] (M, L) (q_i L P) := by
  refine V.run 4 (pc' := 65) (ls' := [.ref 27, .null, .null, .int v3, .int v4, .null]) (st' := [.int v4]) (S' := ((q_up M 27 10 v3), L)) rfl ?_
  refine V.ifc (cd := .eq) rfl (fun hc => ?_) (fun hc => ?_)
  · have h := h.1 hc
    refine V.run 1 (pc' := 88) (ls' := [.ref 27, .null, .null, .int v3, .int v4, .null]) (st' := [.int (iI 0)]) (S' := ((q_up M 27 10 v3), L)) rfl ?_
    exact V.zret rfl rfl (by decide) ⟨_, _, rfl, rfl, h⟩
  · have h := h.2 hc
    refine V.run 3 (pc' := 73) (ls' := [.ref 27, .null, .null, .int v3, .int v4, .null]) (st' := [.int (iI 2), .int (M 27 3)]) (S' := ((q_up M 27 10 v3), L)) rfl ?_
    refine V.icmp (cd := .eq) rfl (fun hc => ?_) (fun hc => ?_)
    · have h := h.1 hc
      refine V.run 1 (pc' := 88) (ls' := [.ref 27, .null, .null, .int v3, .int v4, .null]) (st' := [.int (iI 0)]) (S' := ((q_up M 27 10 v3), L)) rfl ?_
      exact V.zret rfl rfl (by decide) ⟨_, _, rfl, rfl, h⟩
    · have h := h.2 hc
      refine V.run 1 (pc' := 77) (ls' := [.ref 27, .null, .null, .int v3, .int v4, .null]) (st' := [.ref 27]) (S' := ((q_up M 27 10 v3), L)) rfl ?_
      obtain ⟨P1, hv1, h⟩ := h
      refine V.callVi (T2 := T_TapedLinesModel_isWhole) (As := []) (rest := []) rfl rfl g_TapedLinesModel_isWhole rfl rfl rfl rfl (Nat.le_of_ble_eq_true rfl) (by simp [Value.category]) (by simp [Value.category]) (Nat.le_of_ble_eq_true rfl) (Nat.le_refl _) hv1 (fun x1 M1 hq => ?_)
      have h := h x1 M1 hq
      refine V.ifc (cd := .eq) rfl (fun hc => ?_) (fun hc => ?_)
      · have h := h.1 hc
        refine V.run 1 (pc' := 88) (ls' := [.ref 27, .null, .null, .int v3, .int v4, .null]) (st' := [.int (iI 0)]) (S' := (M1, L)) rfl ?_
        exact V.zret rfl rfl (by decide) ⟨_, _, rfl, rfl, h⟩
      · have h := h.2 hc
        refine V.run 2 (pc' := 88) (ls' := [.ref 27, .null, .null, .int v3, .int v4, .null]) (st' := [.int (iI 1)]) (S' := (M1, L)) rfl ?_
        exact V.zret rfl rfl (by decide) ⟨_, _, rfl, rfl, h⟩
set_option maxRecDepth 100000 in
set_option maxHeartbeats 4000000 in
theorem s_TapedLinesModel_load_0 {l : Launch} {Γ : qG} {d r : Nat} {M : qM} {L : Nat → Int64} {P : Int32 → qM → Prop} (h : ∃ P1 : Int32 → qM → Prop, V l Γ T_TapedLinesModel_readByte d 0 0 [.ref 27, .null, .null, .null] [] ((q_up (q_up (q_up M 27 0 (iI 0)) 27 35 (iI 0)) 27 36 (iI 0)), L) (q_i L P1) ∧ ∀ (x1 : Int32) (M1 : qM), P1 x1 M1 → V l Γ T_TapedLinesModel_load (d + 1) r 24 [.ref 27, .int x1, .int (iI 0), .int (iI 0), .null] [] (M1, L) (q_i L P)) : V l Γ T_TapedLinesModel_load (d + 1) r 0 [.ref 27, .null, .null, .null, .null] [] (M, L) (q_i L P) := by
  refine V.run 8 (pc' := 12) (ls' := [.ref 27, .null, .null, .null, .null]) (st' := [.int (iI 0), .ref 27]) (S' := ((q_up (q_up M 27 0 (iI 0)) 27 35 (iI 0)), L)) rfl ?_
  refine V.pfz rfl rfl rfl (by decide) ?_
  refine V.run 1 (pc' := 16) (ls' := [.ref 27, .null, .null, .null, .null]) (st' := [.ref 27]) (S' := ((q_up (q_up (q_up M 27 0 (iI 0)) 27 35 (iI 0)) 27 36 (iI 0)), L)) rfl ?_
  obtain ⟨P1, hv1, h⟩ := h
  refine V.callVi (T2 := T_TapedLinesModel_readByte) (As := []) (rest := []) rfl rfl g_TapedLinesModel_readByte rfl rfl rfl rfl (Nat.le_of_ble_eq_true rfl) (by simp [Value.category]) (by simp [Value.category]) (Nat.le_of_ble_eq_true rfl) (Nat.le_refl _) hv1 (fun x1 M1 hq => ?_)
  have h := h x1 M1 hq
  refine V.run 5 (pc' := 24) (ls' := [.ref 27, .int x1, .int (iI 0), .int (iI 0), .null]) (st' := []) (S' := (M1, L)) rfl ?_
  exact h
set_option maxRecDepth 100000 in
set_option maxHeartbeats 4000000 in
theorem s_TapedLinesModel_load_24 {l : Launch} {Γ : qG} {d r : Nat} {M : qM} {L : Nat → Int64} {P : Int32 → qM → Prop} (v1 v2 v3 : Int32) (h : (v1 ≤ v3 → V l Γ T_TapedLinesModel_load (d + 1) r 66 [.ref 27, .int v1, .int v2, .null, .null] [] (M, L) (q_i L P)) ∧ (¬ v1 ≤ v3 → (¬ (M 27 36) = 0 → V l Γ T_TapedLinesModel_load (d + 1) r 66 [.ref 27, .int v1, .int v2, .null, .null] [] (M, L) (q_i L P)) ∧ (¬ (¬ (M 27 36) = 0) → ∃ P1 : Int32 → qM → Prop, V l Γ T_TapedLinesModel_readByte d 0 0 [.ref 27, .null, .null, .null] [] (M, L) (q_i L P1) ∧ ∀ (x1 : Int32) (M1 : qM), P1 x1 M1 → vp_in v3 260 ∧ vp_in v3 260 ∧ ∃ P2 : Int32 → qM → Prop, V l Γ T_TapedLinesModel_sumWith d 0 0 [.int v2, .int (v3 + (iI 1)), .int ((q_up M1 29 (v3).toNatClampNeg x1) 29 (v3).toNatClampNeg)] [] ((q_up M1 29 (v3).toNatClampNeg x1), L) (q_i L P2) ∧ ∀ (x2 : Int32) (M2 : qM), P2 x2 M2 → V l Γ T_TapedLinesModel_load (d + 1) r 24 [.ref 27, .int v1, .int x2, .int (v3 + (iI 1)), .null] [] (M2, L) (q_i L P)))) : V l Γ T_TapedLinesModel_load (d + 1) r 24 [.ref 27, .int v1, .int v2, .int v3, .null] [] (M, L) (q_i L P) := by
  refine V.run 2 (pc' := 26) (ls' := [.ref 27, .int v1, .int v2, .int v3, .null]) (st' := [.int v1, .int v3]) (S' := (M, L)) rfl ?_
  refine V.icmp (cd := .ge) rfl (fun hc => ?_) (fun hc => ?_)
  · have h := h.1 hc
    refine V.forget (ls' := [.ref 27, .int v1, .int v2, .null, .null]) ⟨Or.inr rfl, Or.inr rfl, Or.inr rfl, Or.inl rfl, Or.inl rfl, trivial⟩ ?_
    exact h
  · have h := h.2 hc
    refine V.run 2 (pc' := 33) (ls' := [.ref 27, .int v1, .int v2, .int v3, .null]) (st' := [.int (M 27 36)]) (S' := (M, L)) rfl ?_
    refine V.ifc (cd := .ne) rfl (fun hc => ?_) (fun hc => ?_)
    · have h := h.1 hc
      refine V.forget (ls' := [.ref 27, .int v1, .int v2, .null, .null]) ⟨Or.inr rfl, Or.inr rfl, Or.inr rfl, Or.inl rfl, Or.inl rfl, trivial⟩ ?_
      exact h
    · have h := h.2 hc
      refine V.run 4 (pc' := 42) (ls' := [.ref 27, .int v1, .int v2, .int v3, .null]) (st' := [.ref 27, .int v3, .ref 29]) (S' := (M, L)) rfl ?_
      obtain ⟨P1, hv1, h⟩ := h
      refine V.callVi (T2 := T_TapedLinesModel_readByte) (As := []) (rest := [.int v3, .ref 29]) rfl rfl g_TapedLinesModel_readByte rfl rfl rfl rfl (Nat.le_of_ble_eq_true rfl) (by simp [Value.category]) (by simp [Value.category]) (Nat.le_of_ble_eq_true rfl) (Nat.le_refl _) hv1 (fun x1 M1 hq => ?_)
      have h := h x1 M1 hq
      refine V.iast rfl rfl h.1 ?_
      have h := h.2
      refine V.run 7 (pc' := 55) (ls' := [.ref 27, .int v1, .int v2, .int v3, .null]) (st' := [.int v3, .ref 29, .int (v3 + (iI 1)), .int v2]) (S' := ((q_up M1 29 (v3).toNatClampNeg x1), L)) rfl ?_
      refine V.iald rfl rfl h.1 ?_
      have h := h.2
      obtain ⟨P2, hv2, h⟩ := h
      refine V.callSi (T2 := T_TapedLinesModel_sumWith) (As := [.int v2, .int (v3 + (iI 1)), .int ((q_up M1 29 (v3).toNatClampNeg x1) 29 (v3).toNatClampNeg)]) (rest := []) rfl rfl g_TapedLinesModel_sumWith rfl (Nat.le_of_ble_eq_true rfl) (by simp [Value.category]) (by simp [Value.category]) (Nat.le_of_ble_eq_true rfl) (Nat.le_refl _) hv2 (fun x2 M2 hq => ?_)
      have h := h x2 M2 hq
      refine V.run 3 (pc' := 24) (ls' := [.ref 27, .int v1, .int x2, .int (v3 + (iI 1)), .null]) (st' := []) (S' := (M2, L)) rfl ?_
      exact h
set_option maxRecDepth 100000 in
set_option maxHeartbeats 4000000 in
theorem s_TapedLinesModel_load_66 {l : Launch} {Γ : qG} {d r : Nat} {M : qM} {L : Nat → Int64} {P : Int32 → qM → Prop} (v1 v2 : Int32) (h : ∃ P1 : Int32 → qM → Prop, V l Γ T_TapedLinesModel_readByte d 0 0 [.ref 27, .null, .null, .null] [] (M, L) (q_i L P1) ∧ ∀ (x1 : Int32) (M1 : qM), P1 x1 M1 → ∃ P2 : Int32 → qM → Prop, V l Γ T_TapedLinesModel_readByte d 0 0 [.ref 27, .null, .null, .null] [] (M1, L) (q_i L P2) ∧ ∀ (x2 : Int32) (M2 : qM), P2 x2 M2 → ((M2 27 36) = 0 → (¬ ((x1 <<< ((iI 8) &&& 31)) ||| x2) = v2 → P (iI (-3)) M2) ∧ (¬ (¬ ((x1 <<< ((iI 8) &&& 31)) ||| x2) = v2) → ∃ P3 : Int32 → qM → Prop, V l Γ T_TapedLinesModel_isProgram d 0 0 [.ref 27, .int v1, .null, .null, .null] [] (M2, L) (q_i L P3) ∧ ∀ (x3 : Int32) (M3 : qM), P3 x3 M3 → (¬ x3 = 0 → V l Γ T_TapedLinesModel_load (d + 1) r 110 [.ref 27, .int v1, .null, .null, .int (iI 0)] [] (M3, L) (q_i L P)) ∧ (¬ (¬ x3 = 0) → P (iI (-3)) M3))) ∧ (¬ (M2 27 36) = 0 → P (iI (-2)) M2)) : V l Γ T_TapedLinesModel_load (d + 1) r 66 [.ref 27, .int v1, .int v2, .null, .null] [] (M, L) (q_i L P) := by
  refine V.run 1 (pc' := 67) (ls' := [.ref 27, .int v1, .int v2, .null, .null]) (st' := [.ref 27]) (S' := (M, L)) rfl ?_
  obtain ⟨P1, hv1, h⟩ := h
  refine V.callVi (T2 := T_TapedLinesModel_readByte) (As := []) (rest := []) rfl rfl g_TapedLinesModel_readByte rfl rfl rfl rfl (Nat.le_of_ble_eq_true rfl) (by simp [Value.category]) (by simp [Value.category]) (Nat.le_of_ble_eq_true rfl) (Nat.le_refl _) hv1 (fun x1 M1 hq => ?_)
  have h := h x1 M1 hq
  refine V.run 5 (pc' := 76) (ls' := [.ref 27, .int v1, .int v2, .int (x1 <<< ((iI 8) &&& 31)), .null]) (st' := [.ref 27, .int (x1 <<< ((iI 8) &&& 31))]) (S' := (M1, L)) rfl ?_
  obtain ⟨P2, hv2, h⟩ := h
  refine V.callVi (T2 := T_TapedLinesModel_readByte) (As := []) (rest := [.int (x1 <<< ((iI 8) &&& 31))]) rfl rfl g_TapedLinesModel_readByte rfl rfl rfl rfl (Nat.le_of_ble_eq_true rfl) (by simp [Value.category]) (by simp [Value.category]) (Nat.le_of_ble_eq_true rfl) (Nat.le_refl _) hv2 (fun x2 M2 hq => ?_)
  have h := h x2 M2 hq
  refine V.run 4 (pc' := 85) (ls' := [.ref 27, .int v1, .int v2, .int ((x1 <<< ((iI 8) &&& 31)) ||| x2), .null]) (st' := [.int (M2 27 36)]) (S' := (M2, L)) rfl ?_
  refine V.ifc (cd := .eq) rfl (fun hc => ?_) (fun hc => ?_)
  · have h := h.1 hc
    refine V.run 2 (pc' := 93) (ls' := [.ref 27, .int v1, .int v2, .int ((x1 <<< ((iI 8) &&& 31)) ||| x2), .null]) (st' := [.int v2, .int ((x1 <<< ((iI 8) &&& 31)) ||| x2)]) (S' := (M2, L)) rfl ?_
    refine V.icmp (cd := .ne) rfl (fun hc => ?_) (fun hc => ?_)
    · have h := h.1 hc
      refine V.run 1 (pc' := 106) (ls' := [.ref 27, .int v1, .int v2, .int ((x1 <<< ((iI 8) &&& 31)) ||| x2), .null]) (st' := [.int (iI (-3))]) (S' := (M2, L)) rfl ?_
      exact V.iret rfl rfl ⟨_, _, rfl, rfl, h⟩
    · have h := h.2 hc
      refine V.run 2 (pc' := 98) (ls' := [.ref 27, .int v1, .int v2, .int ((x1 <<< ((iI 8) &&& 31)) ||| x2), .null]) (st' := [.int v1, .ref 27]) (S' := (M2, L)) rfl ?_
      obtain ⟨P3, hv3, h⟩ := h
      refine V.callVi (T2 := T_TapedLinesModel_isProgram) (As := [.int v1]) (rest := []) rfl rfl g_TapedLinesModel_isProgram rfl rfl rfl rfl (Nat.le_of_ble_eq_true rfl) (by simp [Value.category]) (by simp [Value.category]) (Nat.le_of_ble_eq_true rfl) (Nat.le_refl _) hv3 (fun x3 M3 hq => ?_)
      have h := h x3 M3 hq
      refine V.ifc (cd := .ne) rfl (fun hc => ?_) (fun hc => ?_)
      · have h := h.1 hc
        refine V.run 2 (pc' := 110) (ls' := [.ref 27, .int v1, .int v2, .int ((x1 <<< ((iI 8) &&& 31)) ||| x2), .int (iI 0)]) (st' := []) (S' := (M3, L)) rfl ?_
        refine V.forget (ls' := [.ref 27, .int v1, .null, .null, .int (iI 0)]) ⟨Or.inr rfl, Or.inr rfl, Or.inl rfl, Or.inl rfl, Or.inr rfl, trivial⟩ ?_
        exact h
      · have h := h.2 hc
        refine V.run 1 (pc' := 106) (ls' := [.ref 27, .int v1, .int v2, .int ((x1 <<< ((iI 8) &&& 31)) ||| x2), .null]) (st' := [.int (iI (-3))]) (S' := (M3, L)) rfl ?_
        exact V.iret rfl rfl ⟨_, _, rfl, rfl, h⟩
  · have h := h.2 hc
    refine V.run 1 (pc' := 90) (ls' := [.ref 27, .int v1, .int v2, .int ((x1 <<< ((iI 8) &&& 31)) ||| x2), .null]) (st' := [.int (iI (-2))]) (S' := (M2, L)) rfl ?_
    exact V.iret rfl rfl ⟨_, _, rfl, rfl, h⟩
set_option maxRecDepth 100000 in
set_option maxHeartbeats 4000000 in
theorem s_TapedLinesModel_load_110 {l : Launch} {Γ : qG} {d r : Nat} {M : qM} {L : Nat → Int64} {P : Int32 → qM → Prop} (v1 v4 : Int32) (h : (v1 ≤ v4 → ∃ P1 : Int32 → qM → Prop, V l Γ T_TapedLinesModel_countLines d 0 0 [.ref 27, .null, .null] [] ((q_up (q_up M 27 12 v1) 27 14 (iI 0)), L) (q_i L P1) ∧ ∀ (x1 : Int32) (M1 : qM), P1 x1 M1 → P x1 M1) ∧ (¬ v1 ≤ v4 → vp_in v4 260 ∧ vp_in v4 260 ∧ V l Γ T_TapedLinesModel_load (d + 1) r 110 [.ref 27, .int v1, .null, .null, .int (v4 + (iI 1))] [] ((q_up M 30 (v4).toNatClampNeg (M 29 (v4).toNatClampNeg)), L) (q_i L P))) : V l Γ T_TapedLinesModel_load (d + 1) r 110 [.ref 27, .int v1, .null, .null, .int v4] [] (M, L) (q_i L P) := by
  refine V.run 2 (pc' := 113) (ls' := [.ref 27, .int v1, .null, .null, .int v4]) (st' := [.int v1, .int v4]) (S' := (M, L)) rfl ?_
  refine V.icmp (cd := .ge) rfl (fun hc => ?_) (fun hc => ?_)
  · have h := h.1 hc
    refine V.run 7 (pc' := 147) (ls' := [.ref 27, .int v1, .null, .null, .int v4]) (st' := [.ref 27]) (S' := ((q_up (q_up M 27 12 v1) 27 14 (iI 0)), L)) rfl ?_
    obtain ⟨P1, hv1, h⟩ := h
    refine V.callVi (T2 := T_TapedLinesModel_countLines) (As := []) (rest := []) rfl rfl g_TapedLinesModel_countLines rfl rfl rfl rfl (Nat.le_of_ble_eq_true rfl) (by simp [Value.category]) (by simp [Value.category]) (Nat.le_of_ble_eq_true rfl) (Nat.le_refl _) hv1 (fun x1 M1 hq => ?_)
    have h := h x1 M1 hq
    exact V.iret rfl rfl ⟨_, _, rfl, rfl, h⟩
  · have h := h.2 hc
    refine V.run 6 (pc' := 128) (ls' := [.ref 27, .int v1, .null, .null, .int v4]) (st' := [.int v4, .ref 29, .int v4, .ref 30]) (S' := (M, L)) rfl ?_
    refine V.iald rfl rfl h.1 ?_
    have h := h.2
    refine V.iast rfl rfl h.1 ?_
    have h := h.2
    refine V.run 2 (pc' := 110) (ls' := [.ref 27, .int v1, .null, .null, .int (v4 + (iI 1))]) (st' := []) (S' := ((q_up M 30 (v4).toNatClampNeg (M 29 (v4).toNatClampNeg)), L)) rfl ?_
    exact h
set_option maxRecDepth 100000 in
set_option maxHeartbeats 4000000 in
theorem s_TapedLinesModel_wobble_0 {l : Launch} {Γ : qG} {d r : Nat} {M : qM} {L : Nat → Int64} {P : qM → Prop} (a b : Int32) (h : (b < 0 → V l Γ T_TapedLinesModel_wobble (d + 1) r 16 [.ref 27, .int a, .int b, .null, .null, .null] [.int (iI 1), .ref 27] (M, L) (q_n L P)) ∧ (¬ b < 0 → (b ≤ (iI 50) → V l Γ T_TapedLinesModel_wobble (d + 1) r 16 [.ref 27, .int a, .int b, .null, .null, .null] [.int (iI 0), .ref 27] (M, L) (q_n L P)) ∧ (¬ b ≤ (iI 50) → V l Γ T_TapedLinesModel_wobble (d + 1) r 16 [.ref 27, .int a, .int b, .null, .null, .null] [.int (iI 1), .ref 27] (M, L) (q_n L P)))) : V l Γ T_TapedLinesModel_wobble (d + 1) r 0 [.ref 27, .int a, .int b, .null, .null, .null] [] (M, L) (q_n L P) := by
  refine V.run 2 (pc' := 2) (ls' := [.ref 27, .int a, .int b, .null, .null, .null]) (st' := [.int b, .ref 27]) (S' := (M, L)) rfl ?_
  refine V.ifc (cd := .lt) rfl (fun hc => ?_) (fun hc => ?_)
  · have h := h.1 hc
    refine V.run 2 (pc' := 16) (ls' := [.ref 27, .int a, .int b, .null, .null, .null]) (st' := [.int (iI 1), .ref 27]) (S' := (M, L)) rfl ?_
    exact h
  · have h := h.2 hc
    refine V.run 2 (pc' := 8) (ls' := [.ref 27, .int a, .int b, .null, .null, .null]) (st' := [.int (iI 50), .int b, .ref 27]) (S' := (M, L)) rfl ?_
    refine V.icmp (cd := .le) rfl (fun hc => ?_) (fun hc => ?_)
    · have h := h.1 hc
      refine V.run 1 (pc' := 16) (ls' := [.ref 27, .int a, .int b, .null, .null, .null]) (st' := [.int (iI 0), .ref 27]) (S' := (M, L)) rfl ?_
      exact h
    · have h := h.2 hc
      refine V.run 2 (pc' := 16) (ls' := [.ref 27, .int a, .int b, .null, .null, .null]) (st' := [.int (iI 1), .ref 27]) (S' := (M, L)) rfl ?_
      exact h
set_option maxRecDepth 100000 in
set_option maxHeartbeats 4000000 in
theorem s_TapedLinesModel_wobble_16 {l : Launch} {Γ : qG} {d r : Nat} {M : qM} {L : Nat → Int64} {P : qM → Prop} (v1 v2 w0 : Int32) (h : ∃ P1 : Int32 → qM → Prop, V l Γ T_TapedLinesModel_refused d 0 0 [.ref 27, .int w0, .int (iI 0)] [] (M, L) (q_i L P1) ∧ ∀ (x1 : Int32) (M1 : qM), P1 x1 M1 → (x1 = 0 → V l Γ T_TapedLinesModel_wobble (d + 1) r 29 [.ref 27, .null, .int v2, .int v1, .int (iI 0), .null] [] (M1, L) (q_n L P)) ∧ (¬ x1 = 0 → P M1)) : V l Γ T_TapedLinesModel_wobble (d + 1) r 16 [.ref 27, .int v1, .int v2, .null, .null, .null] [.int w0, .ref 27] (M, L) (q_n L P) := by
  refine V.run 1 (pc' := 17) (ls' := [.ref 27, .int v1, .int v2, .null, .null, .null]) (st' := [.int (iI 0), .int w0, .ref 27]) (S' := (M, L)) rfl ?_
  obtain ⟨P1, hv1, h⟩ := h
  refine V.callVi (T2 := T_TapedLinesModel_refused) (As := [.int w0, .int (iI 0)]) (rest := []) rfl rfl g_TapedLinesModel_refused rfl rfl rfl rfl (Nat.le_of_ble_eq_true rfl) (by simp [Value.category]) (by simp [Value.category]) (Nat.le_of_ble_eq_true rfl) (Nat.le_refl _) hv1 (fun x1 M1 hq => ?_)
  have h := h x1 M1 hq
  refine V.ifc (cd := .eq) rfl (fun hc => ?_) (fun hc => ?_)
  · have h := h.1 hc
    refine V.run 4 (pc' := 29) (ls' := [.ref 27, .int v1, .int v2, .int v1, .int (iI 0), .null]) (st' := []) (S' := (M1, L)) rfl ?_
    refine V.forget (ls' := [.ref 27, .null, .int v2, .int v1, .int (iI 0), .null]) ⟨Or.inr rfl, Or.inl rfl, Or.inr rfl, Or.inr rfl, Or.inr rfl, Or.inl rfl, trivial⟩ ?_
    exact h
  · have h := h.2 hc
    exact V.vret rfl rfl ⟨_, rfl, rfl, h⟩
set_option maxRecDepth 100000 in
set_option maxHeartbeats 4000000 in
theorem s_TapedLinesModel_wobble_29 {l : Launch} {Γ : qG} {d r : Nat} {M : qM} {L : Nat → Int64} {P : qM → Prop} (v2 v3 v4 : Int32) (h : ((M 27 33) ≤ v4 → P M) ∧ (¬ (M 27 33) ≤ v4 → vp_in v4 8200 ∧ ¬ (((iI 2) * v2) + (iI 1)) = 0 ∧ ((iI 1) ≤ (((M 40 (v4).toNatClampNeg) * (((iI 100) - v2) + (((((v3 * (iI 1103515245)) + (iI 12345))).toUInt32 >>> (((iI 16)).toUInt32 &&& Int32.toUInt32 31)).toInt32 - ((((v3 * (iI 1103515245)) + (iI 12345))).toUInt32 >>> (((iI 16)).toUInt32 &&& Int32.toUInt32 31)).toInt32 / (((iI 2) * v2) + (iI 1)) * (((iI 2) * v2) + (iI 1))))) / (iI 100)) → ((((M 40 (v4).toNatClampNeg) * (((iI 100) - v2) + (((((v3 * (iI 1103515245)) + (iI 12345))).toUInt32 >>> (((iI 16)).toUInt32 &&& Int32.toUInt32 31)).toInt32 - ((((v3 * (iI 1103515245)) + (iI 12345))).toUInt32 >>> (((iI 16)).toUInt32 &&& Int32.toUInt32 31)).toInt32 / (((iI 2) * v2) + (iI 1)) * (((iI 2) * v2) + (iI 1))))) / (iI 100)) ≤ (iI 100) → vp_in v4 8200 ∧ V l Γ T_TapedLinesModel_wobble (d + 1) r 29 [.ref 27, .null, .int v2, .int ((v3 * (iI 1103515245)) + (iI 12345)), .int (v4 + (iI 1)), .null] [] ((q_up M 40 (v4).toNatClampNeg (((M 40 (v4).toNatClampNeg) * (((iI 100) - v2) + (((((v3 * (iI 1103515245)) + (iI 12345))).toUInt32 >>> (((iI 16)).toUInt32 &&& Int32.toUInt32 31)).toInt32 - ((((v3 * (iI 1103515245)) + (iI 12345))).toUInt32 >>> (((iI 16)).toUInt32 &&& Int32.toUInt32 31)).toInt32 / (((iI 2) * v2) + (iI 1)) * (((iI 2) * v2) + (iI 1))))) / (iI 100))), L) (q_n L P)) ∧ (¬ (((M 40 (v4).toNatClampNeg) * (((iI 100) - v2) + (((((v3 * (iI 1103515245)) + (iI 12345))).toUInt32 >>> (((iI 16)).toUInt32 &&& Int32.toUInt32 31)).toInt32 - ((((v3 * (iI 1103515245)) + (iI 12345))).toUInt32 >>> (((iI 16)).toUInt32 &&& Int32.toUInt32 31)).toInt32 / (((iI 2) * v2) + (iI 1)) * (((iI 2) * v2) + (iI 1))))) / (iI 100)) ≤ (iI 100) → vp_in v4 8200 ∧ V l Γ T_TapedLinesModel_wobble (d + 1) r 29 [.ref 27, .null, .int v2, .int ((v3 * (iI 1103515245)) + (iI 12345)), .int (v4 + (iI 1)), .null] [] ((q_up M 40 (v4).toNatClampNeg (iI 100)), L) (q_n L P))) ∧ (¬ (iI 1) ≤ (((M 40 (v4).toNatClampNeg) * (((iI 100) - v2) + (((((v3 * (iI 1103515245)) + (iI 12345))).toUInt32 >>> (((iI 16)).toUInt32 &&& Int32.toUInt32 31)).toInt32 - ((((v3 * (iI 1103515245)) + (iI 12345))).toUInt32 >>> (((iI 16)).toUInt32 &&& Int32.toUInt32 31)).toInt32 / (((iI 2) * v2) + (iI 1)) * (((iI 2) * v2) + (iI 1))))) / (iI 100)) → vp_in v4 8200 ∧ V l Γ T_TapedLinesModel_wobble (d + 1) r 29 [.ref 27, .null, .int v2, .int ((v3 * (iI 1103515245)) + (iI 12345)), .int (v4 + (iI 1)), .null] [] ((q_up M 40 (v4).toNatClampNeg (iI 1)), L) (q_n L P)))) : V l Γ T_TapedLinesModel_wobble (d + 1) r 29 [.ref 27, .null, .int v2, .int v3, .int v4, .null] [] (M, L) (q_n L P) := by
  refine V.run 3 (pc' := 35) (ls' := [.ref 27, .null, .int v2, .int v3, .int v4, .null]) (st' := [.int (M 27 33), .int v4]) (S' := (M, L)) rfl ?_
  refine V.icmp (cd := .ge) rfl (fun hc => ?_) (fun hc => ?_)
  · have h := h.1 hc
    exact V.vret rfl rfl ⟨_, rfl, rfl, h⟩
  · have h := h.2 hc
    refine V.run 9 (pc' := 54) (ls' := [.ref 27, .null, .int v2, .int ((v3 * (iI 1103515245)) + (iI 12345)), .int v4, .null]) (st' := [.int v4, .ref 40]) (S' := (M, L)) rfl ?_
    refine V.iald rfl rfl h.1 ?_
    have h := h.2
    refine V.run 11 (pc' := 68) (ls' := [.ref 27, .null, .int v2, .int ((v3 * (iI 1103515245)) + (iI 12345)), .int v4, .null]) (st' := [.int (((iI 2) * v2) + (iI 1)), .int ((((v3 * (iI 1103515245)) + (iI 12345))).toUInt32 >>> (((iI 16)).toUInt32 &&& Int32.toUInt32 31)).toInt32, .int ((iI 100) - v2), .int (M 40 (v4).toNatClampNeg)]) (S' := (M, L)) rfl ?_
    refine V.irem rfl h.1 ?_
    have h := h.2
    refine V.run 3 (pc' := 73) (ls' := [.ref 27, .null, .int v2, .int ((v3 * (iI 1103515245)) + (iI 12345)), .int v4, .null]) (st' := [.int (iI 100), .int ((M 40 (v4).toNatClampNeg) * (((iI 100) - v2) + (((((v3 * (iI 1103515245)) + (iI 12345))).toUInt32 >>> (((iI 16)).toUInt32 &&& Int32.toUInt32 31)).toInt32 - ((((v3 * (iI 1103515245)) + (iI 12345))).toUInt32 >>> (((iI 16)).toUInt32 &&& Int32.toUInt32 31)).toInt32 / (((iI 2) * v2) + (iI 1)) * (((iI 2) * v2) + (iI 1)))))]) (S' := (M, L)) rfl ?_
    refine V.idiv rfl (by decide) ?_
    refine V.run 6 (pc' := 85) (ls' := [.ref 27, .null, .int v2, .int ((v3 * (iI 1103515245)) + (iI 12345)), .int v4, .int (((M 40 (v4).toNatClampNeg) * (((iI 100) - v2) + (((((v3 * (iI 1103515245)) + (iI 12345))).toUInt32 >>> (((iI 16)).toUInt32 &&& Int32.toUInt32 31)).toInt32 - ((((v3 * (iI 1103515245)) + (iI 12345))).toUInt32 >>> (((iI 16)).toUInt32 &&& Int32.toUInt32 31)).toInt32 / (((iI 2) * v2) + (iI 1)) * (((iI 2) * v2) + (iI 1))))) / (iI 100))]) (st' := [.int (iI 1), .int (((M 40 (v4).toNatClampNeg) * (((iI 100) - v2) + (((((v3 * (iI 1103515245)) + (iI 12345))).toUInt32 >>> (((iI 16)).toUInt32 &&& Int32.toUInt32 31)).toInt32 - ((((v3 * (iI 1103515245)) + (iI 12345))).toUInt32 >>> (((iI 16)).toUInt32 &&& Int32.toUInt32 31)).toInt32 / (((iI 2) * v2) + (iI 1)) * (((iI 2) * v2) + (iI 1))))) / (iI 100)), .int v4, .ref 40]) (S' := (M, L)) rfl ?_
    refine V.icmp (cd := .ge) rfl (fun hc => ?_) (fun hc => ?_)
    · have h := h.1 hc
      refine V.run 2 (pc' := 96) (ls' := [.ref 27, .null, .int v2, .int ((v3 * (iI 1103515245)) + (iI 12345)), .int v4, .int (((M 40 (v4).toNatClampNeg) * (((iI 100) - v2) + (((((v3 * (iI 1103515245)) + (iI 12345))).toUInt32 >>> (((iI 16)).toUInt32 &&& Int32.toUInt32 31)).toInt32 - ((((v3 * (iI 1103515245)) + (iI 12345))).toUInt32 >>> (((iI 16)).toUInt32 &&& Int32.toUInt32 31)).toInt32 / (((iI 2) * v2) + (iI 1)) * (((iI 2) * v2) + (iI 1))))) / (iI 100))]) (st' := [.int (iI 100), .int (((M 40 (v4).toNatClampNeg) * (((iI 100) - v2) + (((((v3 * (iI 1103515245)) + (iI 12345))).toUInt32 >>> (((iI 16)).toUInt32 &&& Int32.toUInt32 31)).toInt32 - ((((v3 * (iI 1103515245)) + (iI 12345))).toUInt32 >>> (((iI 16)).toUInt32 &&& Int32.toUInt32 31)).toInt32 / (((iI 2) * v2) + (iI 1)) * (((iI 2) * v2) + (iI 1))))) / (iI 100)), .int v4, .ref 40]) (S' := (M, L)) rfl ?_
      refine V.icmp (cd := .le) rfl (fun hc => ?_) (fun hc => ?_)
      · have h := h.1 hc
        refine V.run 1 (pc' := 106) (ls' := [.ref 27, .null, .int v2, .int ((v3 * (iI 1103515245)) + (iI 12345)), .int v4, .int (((M 40 (v4).toNatClampNeg) * (((iI 100) - v2) + (((((v3 * (iI 1103515245)) + (iI 12345))).toUInt32 >>> (((iI 16)).toUInt32 &&& Int32.toUInt32 31)).toInt32 - ((((v3 * (iI 1103515245)) + (iI 12345))).toUInt32 >>> (((iI 16)).toUInt32 &&& Int32.toUInt32 31)).toInt32 / (((iI 2) * v2) + (iI 1)) * (((iI 2) * v2) + (iI 1))))) / (iI 100))]) (st' := [.int (((M 40 (v4).toNatClampNeg) * (((iI 100) - v2) + (((((v3 * (iI 1103515245)) + (iI 12345))).toUInt32 >>> (((iI 16)).toUInt32 &&& Int32.toUInt32 31)).toInt32 - ((((v3 * (iI 1103515245)) + (iI 12345))).toUInt32 >>> (((iI 16)).toUInt32 &&& Int32.toUInt32 31)).toInt32 / (((iI 2) * v2) + (iI 1)) * (((iI 2) * v2) + (iI 1))))) / (iI 100)), .int v4, .ref 40]) (S' := (M, L)) rfl ?_
        refine V.iast rfl rfl h.1 ?_
        have h := h.2
        refine V.run 2 (pc' := 29) (ls' := [.ref 27, .null, .int v2, .int ((v3 * (iI 1103515245)) + (iI 12345)), .int (v4 + (iI 1)), .int (((M 40 (v4).toNatClampNeg) * (((iI 100) - v2) + (((((v3 * (iI 1103515245)) + (iI 12345))).toUInt32 >>> (((iI 16)).toUInt32 &&& Int32.toUInt32 31)).toInt32 - ((((v3 * (iI 1103515245)) + (iI 12345))).toUInt32 >>> (((iI 16)).toUInt32 &&& Int32.toUInt32 31)).toInt32 / (((iI 2) * v2) + (iI 1)) * (((iI 2) * v2) + (iI 1))))) / (iI 100))]) (st' := []) (S' := ((q_up M 40 (v4).toNatClampNeg (((M 40 (v4).toNatClampNeg) * (((iI 100) - v2) + (((((v3 * (iI 1103515245)) + (iI 12345))).toUInt32 >>> (((iI 16)).toUInt32 &&& Int32.toUInt32 31)).toInt32 - ((((v3 * (iI 1103515245)) + (iI 12345))).toUInt32 >>> (((iI 16)).toUInt32 &&& Int32.toUInt32 31)).toInt32 / (((iI 2) * v2) + (iI 1)) * (((iI 2) * v2) + (iI 1))))) / (iI 100))), L)) rfl ?_
        refine V.forget (ls' := [.ref 27, .null, .int v2, .int ((v3 * (iI 1103515245)) + (iI 12345)), .int (v4 + (iI 1)), .null]) ⟨Or.inr rfl, Or.inl rfl, Or.inr rfl, Or.inr rfl, Or.inr rfl, Or.inl rfl, trivial⟩ ?_
        exact h
      · have h := h.2 hc
        refine V.run 2 (pc' := 106) (ls' := [.ref 27, .null, .int v2, .int ((v3 * (iI 1103515245)) + (iI 12345)), .int v4, .int (((M 40 (v4).toNatClampNeg) * (((iI 100) - v2) + (((((v3 * (iI 1103515245)) + (iI 12345))).toUInt32 >>> (((iI 16)).toUInt32 &&& Int32.toUInt32 31)).toInt32 - ((((v3 * (iI 1103515245)) + (iI 12345))).toUInt32 >>> (((iI 16)).toUInt32 &&& Int32.toUInt32 31)).toInt32 / (((iI 2) * v2) + (iI 1)) * (((iI 2) * v2) + (iI 1))))) / (iI 100))]) (st' := [.int (iI 100), .int v4, .ref 40]) (S' := (M, L)) rfl ?_
        refine V.iast rfl rfl h.1 ?_
        have h := h.2
        refine V.run 2 (pc' := 29) (ls' := [.ref 27, .null, .int v2, .int ((v3 * (iI 1103515245)) + (iI 12345)), .int (v4 + (iI 1)), .int (((M 40 (v4).toNatClampNeg) * (((iI 100) - v2) + (((((v3 * (iI 1103515245)) + (iI 12345))).toUInt32 >>> (((iI 16)).toUInt32 &&& Int32.toUInt32 31)).toInt32 - ((((v3 * (iI 1103515245)) + (iI 12345))).toUInt32 >>> (((iI 16)).toUInt32 &&& Int32.toUInt32 31)).toInt32 / (((iI 2) * v2) + (iI 1)) * (((iI 2) * v2) + (iI 1))))) / (iI 100))]) (st' := []) (S' := ((q_up M 40 (v4).toNatClampNeg (iI 100)), L)) rfl ?_
        refine V.forget (ls' := [.ref 27, .null, .int v2, .int ((v3 * (iI 1103515245)) + (iI 12345)), .int (v4 + (iI 1)), .null]) ⟨Or.inr rfl, Or.inl rfl, Or.inr rfl, Or.inr rfl, Or.inr rfl, Or.inl rfl, trivial⟩ ?_
        exact h
    · have h := h.2 hc
      refine V.run 2 (pc' := 106) (ls' := [.ref 27, .null, .int v2, .int ((v3 * (iI 1103515245)) + (iI 12345)), .int v4, .int (((M 40 (v4).toNatClampNeg) * (((iI 100) - v2) + (((((v3 * (iI 1103515245)) + (iI 12345))).toUInt32 >>> (((iI 16)).toUInt32 &&& Int32.toUInt32 31)).toInt32 - ((((v3 * (iI 1103515245)) + (iI 12345))).toUInt32 >>> (((iI 16)).toUInt32 &&& Int32.toUInt32 31)).toInt32 / (((iI 2) * v2) + (iI 1)) * (((iI 2) * v2) + (iI 1))))) / (iI 100))]) (st' := [.int (iI 1), .int v4, .ref 40]) (S' := (M, L)) rfl ?_
      refine V.iast rfl rfl h.1 ?_
      have h := h.2
      refine V.run 2 (pc' := 29) (ls' := [.ref 27, .null, .int v2, .int ((v3 * (iI 1103515245)) + (iI 12345)), .int (v4 + (iI 1)), .int (((M 40 (v4).toNatClampNeg) * (((iI 100) - v2) + (((((v3 * (iI 1103515245)) + (iI 12345))).toUInt32 >>> (((iI 16)).toUInt32 &&& Int32.toUInt32 31)).toInt32 - ((((v3 * (iI 1103515245)) + (iI 12345))).toUInt32 >>> (((iI 16)).toUInt32 &&& Int32.toUInt32 31)).toInt32 / (((iI 2) * v2) + (iI 1)) * (((iI 2) * v2) + (iI 1))))) / (iI 100))]) (st' := []) (S' := ((q_up M 40 (v4).toNatClampNeg (iI 1)), L)) rfl ?_
      refine V.forget (ls' := [.ref 27, .null, .int v2, .int ((v3 * (iI 1103515245)) + (iI 12345)), .int (v4 + (iI 1)), .null]) ⟨Or.inr rfl, Or.inl rfl, Or.inr rfl, Or.inr rfl, Or.inr rfl, Or.inl rfl, trivial⟩ ?_
      exact h
set_option maxRecDepth 100000 in
set_option maxHeartbeats 4000000 in
theorem s_TapedLinesModel_waves_0 {l : Launch} {Γ : qG} {d r : Nat} {M : qM} {L : Nat → Int64} {P : Int32 → qM → Prop} (h : P (M 27 33) (q_up M 27 0 (iI 0))) : V l Γ T_TapedLinesModel_waves d r 0 [.ref 27] [] (M, L) (q_i L P) := by
  refine V.run 5 (pc' := 9) (ls' := [.ref 27]) (st' := [.int (M 27 33)]) (S' := ((q_up M 27 0 (iI 0)), L)) rfl ?_
  exact V.iret rfl rfl ⟨_, _, rfl, rfl, h⟩
set_option maxRecDepth 100000 in
set_option maxHeartbeats 4000000 in
theorem s_TapedLinesModel_wave_0 {l : Launch} {Γ : qG} {d r : Nat} {M : qM} {L : Nat → Int64} {P : Int32 → qM → Prop} (a : Int32) (h : (a < 0 → V l Γ T_TapedLinesModel_wave (d + 1) r 18 [.ref 27, .int a] [.int (iI 1), .ref 27] (M, L) (q_i L P)) ∧ (¬ a < 0 → (a < (M 27 33) → V l Γ T_TapedLinesModel_wave (d + 1) r 18 [.ref 27, .int a] [.int (iI 0), .ref 27] (M, L) (q_i L P)) ∧ (¬ a < (M 27 33) → V l Γ T_TapedLinesModel_wave (d + 1) r 18 [.ref 27, .int a] [.int (iI 1), .ref 27] (M, L) (q_i L P)))) : V l Γ T_TapedLinesModel_wave (d + 1) r 0 [.ref 27, .int a] [] (M, L) (q_i L P) := by
  refine V.run 2 (pc' := 2) (ls' := [.ref 27, .int a]) (st' := [.int a, .ref 27]) (S' := (M, L)) rfl ?_
  refine V.ifc (cd := .lt) rfl (fun hc => ?_) (fun hc => ?_)
  · have h := h.1 hc
    refine V.run 2 (pc' := 18) (ls' := [.ref 27, .int a]) (st' := [.int (iI 1), .ref 27]) (S' := (M, L)) rfl ?_
    exact h
  · have h := h.2 hc
    refine V.run 3 (pc' := 10) (ls' := [.ref 27, .int a]) (st' := [.int (M 27 33), .int a, .ref 27]) (S' := (M, L)) rfl ?_
    refine V.icmp (cd := .lt) rfl (fun hc => ?_) (fun hc => ?_)
    · have h := h.1 hc
      refine V.run 1 (pc' := 18) (ls' := [.ref 27, .int a]) (st' := [.int (iI 0), .ref 27]) (S' := (M, L)) rfl ?_
      exact h
    · have h := h.2 hc
      refine V.run 2 (pc' := 18) (ls' := [.ref 27, .int a]) (st' := [.int (iI 1), .ref 27]) (S' := (M, L)) rfl ?_
      exact h
set_option maxRecDepth 100000 in
set_option maxHeartbeats 4000000 in
theorem s_TapedLinesModel_wave_18 {l : Launch} {Γ : qG} {d r : Nat} {M : qM} {L : Nat → Int64} {P : Int32 → qM → Prop} (v1 w0 : Int32) (h : ∃ P1 : Int32 → qM → Prop, V l Γ T_TapedLinesModel_refused d 0 0 [.ref 27, .int w0, .int (iI 0)] [] (M, L) (q_i L P1) ∧ ∀ (x1 : Int32) (M1 : qM), P1 x1 M1 → (x1 = 0 → vp_in v1 8200 ∧ P (M1 40 (v1).toNatClampNeg) M1) ∧ (¬ x1 = 0 → P (iI 0) M1)) : V l Γ T_TapedLinesModel_wave (d + 1) r 18 [.ref 27, .int v1] [.int w0, .ref 27] (M, L) (q_i L P) := by
  refine V.run 1 (pc' := 19) (ls' := [.ref 27, .int v1]) (st' := [.int (iI 0), .int w0, .ref 27]) (S' := (M, L)) rfl ?_
  obtain ⟨P1, hv1, h⟩ := h
  refine V.callVi (T2 := T_TapedLinesModel_refused) (As := [.int w0, .int (iI 0)]) (rest := []) rfl rfl g_TapedLinesModel_refused rfl rfl rfl rfl (Nat.le_of_ble_eq_true rfl) (by simp [Value.category]) (by simp [Value.category]) (Nat.le_of_ble_eq_true rfl) (Nat.le_refl _) hv1 (fun x1 M1 hq => ?_)
  have h := h x1 M1 hq
  refine V.ifc (cd := .eq) rfl (fun hc => ?_) (fun hc => ?_)
  · have h := h.1 hc
    refine V.run 3 (pc' := 34) (ls' := [.ref 27, .int v1]) (st' := [.int v1, .ref 40]) (S' := (M1, L)) rfl ?_
    refine V.iald rfl rfl h.1 ?_
    have h := h.2
    exact V.iret rfl rfl ⟨_, _, rfl, rfl, h⟩
  · have h := h.2 hc
    refine V.run 2 (pc' := 35) (ls' := [.ref 27, .int v1]) (st' := [.int (iI 0)]) (S' := (M1, L)) rfl ?_
    exact V.iret rfl rfl ⟨_, _, rfl, rfl, h⟩
set_option maxRecDepth 100000 in
set_option maxHeartbeats 4000000 in
theorem s_TapedLinesModel_setWave_0 {l : Launch} {Γ : qG} {d r : Nat} {M : qM} {L : Nat → Int64} {P : Int32 → qM → Prop} (a b : Int32) (h : (a < 0 → V l Γ T_TapedLinesModel_setWave (d + 1) r 18 [.ref 27, .int a, .int b, .null] [.int (iI 1), .ref 27] (M, L) (q_i L P)) ∧ (¬ a < 0 → (a < (M 27 33) → V l Γ T_TapedLinesModel_setWave (d + 1) r 18 [.ref 27, .int a, .int b, .null] [.int (iI 0), .ref 27] (M, L) (q_i L P)) ∧ (¬ a < (M 27 33) → V l Γ T_TapedLinesModel_setWave (d + 1) r 18 [.ref 27, .int a, .int b, .null] [.int (iI 1), .ref 27] (M, L) (q_i L P)))) : V l Γ T_TapedLinesModel_setWave (d + 1) r 0 [.ref 27, .int a, .int b, .null] [] (M, L) (q_i L P) := by
  refine V.run 2 (pc' := 2) (ls' := [.ref 27, .int a, .int b, .null]) (st' := [.int a, .ref 27]) (S' := (M, L)) rfl ?_
  refine V.ifc (cd := .lt) rfl (fun hc => ?_) (fun hc => ?_)
  · have h := h.1 hc
    refine V.run 2 (pc' := 18) (ls' := [.ref 27, .int a, .int b, .null]) (st' := [.int (iI 1), .ref 27]) (S' := (M, L)) rfl ?_
    exact h
  · have h := h.2 hc
    refine V.run 3 (pc' := 10) (ls' := [.ref 27, .int a, .int b, .null]) (st' := [.int (M 27 33), .int a, .ref 27]) (S' := (M, L)) rfl ?_
    refine V.icmp (cd := .lt) rfl (fun hc => ?_) (fun hc => ?_)
    · have h := h.1 hc
      refine V.run 1 (pc' := 18) (ls' := [.ref 27, .int a, .int b, .null]) (st' := [.int (iI 0), .ref 27]) (S' := (M, L)) rfl ?_
      exact h
    · have h := h.2 hc
      refine V.run 2 (pc' := 18) (ls' := [.ref 27, .int a, .int b, .null]) (st' := [.int (iI 1), .ref 27]) (S' := (M, L)) rfl ?_
      exact h
set_option maxRecDepth 100000 in
set_option maxHeartbeats 4000000 in
theorem s_TapedLinesModel_setWave_18 {l : Launch} {Γ : qG} {d r : Nat} {M : qM} {L : Nat → Int64} {P : Int32 → qM → Prop} (v1 v2 w0 : Int32) (h : (v2 < (iI 1) → V l Γ T_TapedLinesModel_setWave (d + 1) r 34 [.ref 27, .int v1, .int v2, .null] [.int (iI 1), .int w0, .ref 27] (M, L) (q_i L P)) ∧ (¬ v2 < (iI 1) → (v2 ≤ (iI 100) → V l Γ T_TapedLinesModel_setWave (d + 1) r 34 [.ref 27, .int v1, .int v2, .null] [.int (iI 0), .int w0, .ref 27] (M, L) (q_i L P)) ∧ (¬ v2 ≤ (iI 100) → V l Γ T_TapedLinesModel_setWave (d + 1) r 34 [.ref 27, .int v1, .int v2, .null] [.int (iI 1), .int w0, .ref 27] (M, L) (q_i L P)))) : V l Γ T_TapedLinesModel_setWave (d + 1) r 18 [.ref 27, .int v1, .int v2, .null] [.int w0, .ref 27] (M, L) (q_i L P) := by
  refine V.run 2 (pc' := 20) (ls' := [.ref 27, .int v1, .int v2, .null]) (st' := [.int (iI 1), .int v2, .int w0, .ref 27]) (S' := (M, L)) rfl ?_
  refine V.icmp (cd := .lt) rfl (fun hc => ?_) (fun hc => ?_)
  · have h := h.1 hc
    refine V.run 2 (pc' := 34) (ls' := [.ref 27, .int v1, .int v2, .null]) (st' := [.int (iI 1), .int w0, .ref 27]) (S' := (M, L)) rfl ?_
    exact h
  · have h := h.2 hc
    refine V.run 2 (pc' := 26) (ls' := [.ref 27, .int v1, .int v2, .null]) (st' := [.int (iI 100), .int v2, .int w0, .ref 27]) (S' := (M, L)) rfl ?_
    refine V.icmp (cd := .le) rfl (fun hc => ?_) (fun hc => ?_)
    · have h := h.1 hc
      refine V.run 1 (pc' := 34) (ls' := [.ref 27, .int v1, .int v2, .null]) (st' := [.int (iI 0), .int w0, .ref 27]) (S' := (M, L)) rfl ?_
      exact h
    · have h := h.2 hc
      refine V.run 2 (pc' := 34) (ls' := [.ref 27, .int v1, .int v2, .null]) (st' := [.int (iI 1), .int w0, .ref 27]) (S' := (M, L)) rfl ?_
      exact h
set_option maxRecDepth 100000 in
set_option maxHeartbeats 4000000 in
theorem s_TapedLinesModel_setWave_34 {l : Launch} {Γ : qG} {d r : Nat} {M : qM} {L : Nat → Int64} {P : Int32 → qM → Prop} (v1 v2 w0 w1 : Int32) (h : ∃ P1 : Int32 → qM → Prop, V l Γ T_TapedLinesModel_refused d 0 0 [.ref 27, .int w1, .int w0] [] (M, L) (q_i L P1) ∧ ∀ (x1 : Int32) (M1 : qM), P1 x1 M1 → (x1 = 0 → vp_in v1 8200 ∧ vp_in v1 8200 ∧ P (M1 40 (v1).toNatClampNeg) (q_up M1 40 (v1).toNatClampNeg v2)) ∧ (¬ x1 = 0 → P (iI 0) M1)) : V l Γ T_TapedLinesModel_setWave (d + 1) r 34 [.ref 27, .int v1, .int v2, .null] [.int w0, .int w1, .ref 27] (M, L) (q_i L P) := by
  obtain ⟨P1, hv1, h⟩ := h
  refine V.callVi (T2 := T_TapedLinesModel_refused) (As := [.int w1, .int w0]) (rest := []) rfl rfl g_TapedLinesModel_refused rfl rfl rfl rfl (Nat.le_of_ble_eq_true rfl) (by simp [Value.category]) (by simp [Value.category]) (Nat.le_of_ble_eq_true rfl) (Nat.le_refl _) hv1 (fun x1 M1 hq => ?_)
  have h := h x1 M1 hq
  refine V.ifc (cd := .eq) rfl (fun hc => ?_) (fun hc => ?_)
  · have h := h.1 hc
    refine V.run 3 (pc' := 47) (ls' := [.ref 27, .int v1, .int v2, .null]) (st' := [.int v1, .ref 40]) (S' := (M1, L)) rfl ?_
    refine V.iald rfl rfl h.1 ?_
    have h := h.2
    refine V.run 5 (pc' := 55) (ls' := [.ref 27, .int v1, .int v2, .int (M1 40 (v1).toNatClampNeg)]) (st' := [.int v2, .int v1, .ref 40]) (S' := (M1, L)) rfl ?_
    refine V.iast rfl rfl h.1 ?_
    have h := h.2
    refine V.run 1 (pc' := 57) (ls' := [.ref 27, .int v1, .int v2, .int (M1 40 (v1).toNatClampNeg)]) (st' := [.int (M1 40 (v1).toNatClampNeg)]) (S' := ((q_up M1 40 (v1).toNatClampNeg v2), L)) rfl ?_
    exact V.iret rfl rfl ⟨_, _, rfl, rfl, h⟩
  · have h := h.2 hc
    refine V.run 1 (pc' := 41) (ls' := [.ref 27, .int v1, .int v2, .null]) (st' := [.int (iI 0)]) (S' := (M1, L)) rfl ?_
    exact V.iret rfl rfl ⟨_, _, rfl, rfl, h⟩
set_option maxRecDepth 100000 in
set_option maxHeartbeats 4000000 in
theorem s_TapedLinesModel_length_0 {l : Launch} {Γ : qG} {d r : Nat} {M : qM} {L : Nat → Int64} {P : Int32 → qM → Prop} (h : P (M 27 37) (q_up M 27 0 (iI 0))) : V l Γ T_TapedLinesModel_length d r 0 [.ref 27] [] (M, L) (q_i L P) := by
  refine V.run 5 (pc' := 9) (ls' := [.ref 27]) (st' := [.int (M 27 37)]) (S' := ((q_up M 27 0 (iI 0)), L)) rfl ?_
  exact V.iret rfl rfl ⟨_, _, rfl, rfl, h⟩
set_option maxRecDepth 100000 in
set_option maxHeartbeats 4000000 in
theorem s_TapedLinesModel_charAt_0 {l : Launch} {Γ : qG} {d r : Nat} {M : qM} {L : Nat → Int64} {P : Int32 → qM → Prop} (a : Int32) (h : (a < 0 → P (iI 32) (q_up M 27 0 (iI 0))) ∧ (¬ a < 0 → (a < (M 27 37) → vp_in a 400 ∧ narrow .char (.int (((M 41 (a).toNatClampNeg)).toUInt32 % 65536).toInt32) = .int (((M 41 (a).toNatClampNeg)).toUInt32 % 65536).toInt32 ∧ P (((M 41 (a).toNatClampNeg)).toUInt32 % 65536).toInt32 (q_up M 27 0 (iI 0))) ∧ (¬ a < (M 27 37) → P (iI 32) (q_up M 27 0 (iI 0))))) : V l Γ T_TapedLinesModel_charAt d r 0 [.ref 27, .int a] [] (M, L) (q_i L P) := by
  refine V.run 4 (pc' := 6) (ls' := [.ref 27, .int a]) (st' := [.int a]) (S' := ((q_up M 27 0 (iI 0)), L)) rfl ?_
  refine V.ifc (cd := .lt) rfl (fun hc => ?_) (fun hc => ?_)
  · have h := h.1 hc
    refine V.run 2 (pc' := 29) (ls' := [.ref 27, .int a]) (st' := [.int (iI 32)]) (S' := ((q_up M 27 0 (iI 0)), L)) rfl ?_
    exact V.zret rfl rfl (by decide) ⟨_, _, rfl, rfl, h⟩
  · have h := h.2 hc
    refine V.run 3 (pc' := 14) (ls' := [.ref 27, .int a]) (st' := [.int (M 27 37), .int a]) (S' := ((q_up M 27 0 (iI 0)), L)) rfl ?_
    refine V.icmp (cd := .lt) rfl (fun hc => ?_) (fun hc => ?_)
    · have h := h.1 hc
      refine V.run 3 (pc' := 27) (ls' := [.ref 27, .int a]) (st' := [.int a, .ref 41]) (S' := ((q_up M 27 0 (iI 0)), L)) rfl ?_
      refine V.iald rfl rfl h.1 ?_
      have h := h.2
      refine V.run 1 (pc' := 29) (ls' := [.ref 27, .int a]) (st' := [.int (((M 41 (a).toNatClampNeg)).toUInt32 % 65536).toInt32]) (S' := ((q_up M 27 0 (iI 0)), L)) rfl ?_
      exact V.zret rfl rfl h.1 ⟨_, _, rfl, rfl, h.2⟩
    · have h := h.2 hc
      refine V.run 2 (pc' := 29) (ls' := [.ref 27, .int a]) (st' := [.int (iI 32)]) (S' := ((q_up M 27 0 (iI 0)), L)) rfl ?_
      exact V.zret rfl rfl (by decide) ⟨_, _, rfl, rfl, h⟩
