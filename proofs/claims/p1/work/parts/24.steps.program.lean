set_option maxRecDepth 100000 in
set_option maxHeartbeats 4000000 in
theorem s_Program_countLines_0 {l : Launch} {Γ : qG} {d r : Nat} {M : qM} {L : Nat → Int64} {P : Int32 → qM → Prop} (h : V l Γ T_Program_countLines d r 4 [.ref 10, .int (iI 0), .int (iI 0)] [] (M, L) (q_i L P)) : V l Γ T_Program_countLines d r 0 [.ref 10, .null, .null] [] (M, L) (q_i L P) := by
  refine V.run 4 (pc' := 4) (ls' := [.ref 10, .int (iI 0), .int (iI 0)]) (st' := []) (S' := (M, L)) rfl ?_
  exact h
set_option maxRecDepth 100000 in
set_option maxHeartbeats 4000000 in
theorem s_Program_countLines_4 {l : Launch} {Γ : qG} {d r : Nat} {M : qM} {L : Nat → Int64} {P : Int32 → qM → Prop} (v1 v2 : Int32) (h : ((M 10 1) ≤ v2 → P v1 M) ∧ (¬ (M 10 1) ≤ v2 → vp_in (v2 + (iI 1)) 200 ∧ V l Γ T_Program_countLines d r 4 [.ref 10, .int (v1 + (iI 1)), .int (v2 + ((iI 2) + (M 11 ((v2 + (iI 1))).toNatClampNeg)))] [] (M, L) (q_i L P))) : V l Γ T_Program_countLines d r 4 [.ref 10, .int v1, .int v2] [] (M, L) (q_i L P) := by
  refine V.run 3 (pc' := 9) (ls' := [.ref 10, .int v1, .int v2]) (st' := [.int (M 10 1), .int v2]) (S' := (M, L)) rfl ?_
  refine V.icmp (cd := .ge) rfl (fun hc => ?_) (fun hc => ?_)
  · have h := h.1 hc
    refine V.run 1 (pc' := 32) (ls' := [.ref 10, .int v1, .int v2]) (st' := [.int v1]) (S' := (M, L)) rfl ?_
    exact V.iret rfl rfl ⟨_, _, rfl, rfl, h⟩
  · have h := h.2 hc
    refine V.run 8 (pc' := 24) (ls' := [.ref 10, .int (v1 + (iI 1)), .int v2]) (st' := [.int (v2 + (iI 1)), .ref 11, .int (iI 2), .int v2]) (S' := (M, L)) rfl ?_
    refine V.iald rfl rfl h.1 ?_
    have h := h.2
    refine V.run 4 (pc' := 4) (ls' := [.ref 10, .int (v1 + (iI 1)), .int (v2 + ((iI 2) + (M 11 ((v2 + (iI 1))).toNatClampNeg)))]) (st' := []) (S' := (M, L)) rfl ?_
    exact h
set_option maxRecDepth 100000 in
set_option maxHeartbeats 4000000 in
theorem s_Program_lineAt_0 {l : Launch} {Γ : qG} {d r : Nat} {M : qM} {L : Nat → Int64} {P : Int32 → qM → Prop} (a : Int32) (h : V l Γ T_Program_lineAt d r 4 [.ref 10, .int a, .int (iI 0), .int (iI 0)] [] (M, L) (q_i L P)) : V l Γ T_Program_lineAt d r 0 [.ref 10, .int a, .null, .null] [] (M, L) (q_i L P) := by
  refine V.run 4 (pc' := 4) (ls' := [.ref 10, .int a, .int (iI 0), .int (iI 0)]) (st' := []) (S' := (M, L)) rfl ?_
  exact h
set_option maxRecDepth 100000 in
set_option maxHeartbeats 4000000 in
theorem s_Program_lineAt_4 {l : Launch} {Γ : qG} {d r : Nat} {M : qM} {L : Nat → Int64} {P : Int32 → qM → Prop} (v1 v2 v3 : Int32) (h : ((M 10 1) ≤ v3 → P (iI (-1)) M) ∧ (¬ (M 10 1) ≤ v3 → (¬ v2 = v1 → vp_in (v3 + (iI 1)) 200 ∧ V l Γ T_Program_lineAt d r 4 [.ref 10, .int v1, .int (v2 + (iI 1)), .int (v3 + ((iI 2) + (M 11 ((v3 + (iI 1))).toNatClampNeg)))] [] (M, L) (q_i L P)) ∧ (¬ (¬ v2 = v1) → P v3 M))) : V l Γ T_Program_lineAt d r 4 [.ref 10, .int v1, .int v2, .int v3] [] (M, L) (q_i L P) := by
  refine V.run 3 (pc' := 9) (ls' := [.ref 10, .int v1, .int v2, .int v3]) (st' := [.int (M 10 1), .int v3]) (S' := (M, L)) rfl ?_
  refine V.icmp (cd := .ge) rfl (fun hc => ?_) (fun hc => ?_)
  · have h := h.1 hc
    refine V.run 1 (pc' := 39) (ls' := [.ref 10, .int v1, .int v2, .int v3]) (st' := [.int (iI (-1))]) (S' := (M, L)) rfl ?_
    exact V.iret rfl rfl ⟨_, _, rfl, rfl, h⟩
  · have h := h.2 hc
    refine V.run 2 (pc' := 14) (ls' := [.ref 10, .int v1, .int v2, .int v3]) (st' := [.int v1, .int v2]) (S' := (M, L)) rfl ?_
    refine V.icmp (cd := .ne) rfl (fun hc => ?_) (fun hc => ?_)
    · have h := h.1 hc
      refine V.run 8 (pc' := 31) (ls' := [.ref 10, .int v1, .int (v2 + (iI 1)), .int v3]) (st' := [.int (v3 + (iI 1)), .ref 11, .int (iI 2), .int v3]) (S' := (M, L)) rfl ?_
      refine V.iald rfl rfl h.1 ?_
      have h := h.2
      refine V.run 4 (pc' := 4) (ls' := [.ref 10, .int v1, .int (v2 + (iI 1)), .int (v3 + ((iI 2) + (M 11 ((v3 + (iI 1))).toNatClampNeg)))]) (st' := []) (S' := (M, L)) rfl ?_
      exact h
    · have h := h.2 hc
      refine V.run 1 (pc' := 18) (ls' := [.ref 10, .int v1, .int v2, .int v3]) (st' := [.int v3]) (S' := (M, L)) rfl ?_
      exact V.iret rfl rfl ⟨_, _, rfl, rfl, h⟩
set_option maxRecDepth 100000 in
set_option maxHeartbeats 4000000 in
theorem s_Program_lineNumbered_0 {l : Launch} {Γ : qG} {d r : Nat} {M : qM} {L : Nat → Int64} {P : Int32 → qM → Prop} (a : Int32) (h : ∃ P1 : Int32 → qM → Prop, V l Γ T_Program_firstFrom d 0 0 [.ref 10, .int a, .null] [] (M, L) (q_i L P1) ∧ ∀ (x1 : Int32) (M1 : qM), P1 x1 M1 → ((M1 10 1) ≤ x1 → P (iI (-1)) M1) ∧ (¬ (M1 10 1) ≤ x1 → vp_in x1 200 ∧ (¬ (M1 11 (x1).toNatClampNeg) = a → P (iI (-1)) M1) ∧ (¬ (¬ (M1 11 (x1).toNatClampNeg) = a) → P x1 M1))) : V l Γ T_Program_lineNumbered (d + 1) r 0 [.ref 10, .int a, .null] [] (M, L) (q_i L P) := by
  refine V.run 2 (pc' := 2) (ls' := [.ref 10, .int a, .null]) (st' := [.int a, .ref 10]) (S' := (M, L)) rfl ?_
  obtain ⟨P1, hv1, h⟩ := h
  refine V.callVi (T2 := T_Program_firstFrom) (As := [.int a]) (rest := []) rfl rfl g_Program_firstFrom rfl rfl rfl rfl (Nat.le_of_ble_eq_true rfl) (by simp [Value.category]) (by simp [Value.category]) (Nat.le_of_ble_eq_true rfl) (Nat.le_refl _) hv1 (fun x1 M1 hq => ?_)
  have h := h x1 M1 hq
  refine V.run 4 (pc' := 11) (ls' := [.ref 10, .int a, .int x1]) (st' := [.int (M1 10 1), .int x1]) (S' := (M1, L)) rfl ?_
  refine V.icmp (cd := .ge) rfl (fun hc => ?_) (fun hc => ?_)
  · have h := h.1 hc
    refine V.run 1 (pc' := 29) (ls' := [.ref 10, .int a, .int x1]) (st' := [.int (iI (-1))]) (S' := (M1, L)) rfl ?_
    exact V.iret rfl rfl ⟨_, _, rfl, rfl, h⟩
  · have h := h.2 hc
    refine V.run 3 (pc' := 19) (ls' := [.ref 10, .int a, .int x1]) (st' := [.int x1, .ref 11]) (S' := (M1, L)) rfl ?_
    refine V.iald rfl rfl h.1 ?_
    have h := h.2
    refine V.run 1 (pc' := 21) (ls' := [.ref 10, .int a, .int x1]) (st' := [.int a, .int (M1 11 (x1).toNatClampNeg)]) (S' := (M1, L)) rfl ?_
    refine V.icmp (cd := .ne) rfl (fun hc => ?_) (fun hc => ?_)
    · have h := h.1 hc
      refine V.run 1 (pc' := 29) (ls' := [.ref 10, .int a, .int x1]) (st' := [.int (iI (-1))]) (S' := (M1, L)) rfl ?_
      exact V.iret rfl rfl ⟨_, _, rfl, rfl, h⟩
    · have h := h.2 hc
      refine V.run 2 (pc' := 29) (ls' := [.ref 10, .int a, .int x1]) (st' := [.int x1]) (S' := (M1, L)) rfl ?_
      exact V.iret rfl rfl ⟨_, _, rfl, rfl, h⟩
set_option maxRecDepth 100000 in
set_option maxHeartbeats 4000000 in
theorem s_Program_behind_0 {l : Launch} {Γ : qG} {d r : Nat} {M : qM} {L : Nat → Int64} {P : Int32 → qM → Prop} (a : Int32) (h : vp_in (a + (iI 1)) 200 ∧ P ((a + (iI 2)) + (M 11 ((a + (iI 1))).toNatClampNeg)) M) : V l Γ T_Program_behind d r 0 [.ref 10, .int a] [] (M, L) (q_i L P) := by
  refine V.run 8 (pc' := 10) (ls' := [.ref 10, .int a]) (st' := [.int (a + (iI 1)), .ref 11, .int (a + (iI 2))]) (S' := (M, L)) rfl ?_
  refine V.iald rfl rfl h.1 ?_
  have h := h.2
  refine V.run 1 (pc' := 12) (ls' := [.ref 10, .int a]) (st' := [.int ((a + (iI 2)) + (M 11 ((a + (iI 1))).toNatClampNeg))]) (S' := (M, L)) rfl ?_
  exact V.iret rfl rfl ⟨_, _, rfl, rfl, h⟩
set_option maxRecDepth 100000 in
set_option maxHeartbeats 4000000 in
theorem s_Program_replace_0 {l : Launch} {Γ : qG} {d r : Nat} {M : qM} {L : Nat → Int64} {P : Int32 → qM → Prop} (a c : Int32) (h : ∃ P1 : Int32 → qM → Prop, V l Γ T_Program_firstFrom d 0 0 [.ref 10, .int a, .null] [] (M, L) (q_i L P1) ∧ ∀ (x1 : Int32) (M1 : qM), P1 x1 M1 → ∃ P2 : Int32 → qM → Prop, V l Γ T_Program_lineNumbered d 0 0 [.ref 10, .int a, .null] [] (M1, L) (q_i L P2) ∧ ∀ (x2 : Int32) (M2 : qM), P2 x2 M2 → (¬ x2 = (iI (-1)) → ∃ P3 : Int32 → qM → Prop, V l Γ T_Program_behind d 0 0 [.ref 10, .int x1] [] (M2, L) (q_i L P3) ∧ ∀ (x3 : Int32) (M3 : qM), P3 x3 M3 → V l Γ T_Program_replace (d + 1) r 27 [.ref 10, .int a, .ref 6, .int c, .int x1, .null, .null] [.int x3] (M3, L) (q_i L P)) ∧ (¬ (¬ x2 = (iI (-1))) → V l Γ T_Program_replace (d + 1) r 27 [.ref 10, .int a, .ref 6, .int c, .int x1, .null, .null] [.int x1] (M2, L) (q_i L P))) : V l Γ T_Program_replace (d + 1) r 0 [.ref 10, .int a, .ref 6, .int c, .null, .null, .null] [] (M, L) (q_i L P) := by
  refine V.run 2 (pc' := 2) (ls' := [.ref 10, .int a, .ref 6, .int c, .null, .null, .null]) (st' := [.int a, .ref 10]) (S' := (M, L)) rfl ?_
  obtain ⟨P1, hv1, h⟩ := h
  refine V.callVi (T2 := T_Program_firstFrom) (As := [.int a]) (rest := []) rfl rfl g_Program_firstFrom rfl rfl rfl rfl (Nat.le_of_ble_eq_true rfl) (by simp [Value.category]) (by simp [Value.category]) (Nat.le_of_ble_eq_true rfl) (Nat.le_refl _) hv1 (fun x1 M1 hq => ?_)
  have h := h x1 M1 hq
  refine V.run 3 (pc' := 9) (ls' := [.ref 10, .int a, .ref 6, .int c, .int x1, .null, .null]) (st' := [.int a, .ref 10]) (S' := (M1, L)) rfl ?_
  obtain ⟨P2, hv2, h⟩ := h
  refine V.callVi (T2 := T_Program_lineNumbered) (As := [.int a]) (rest := []) rfl rfl g_Program_lineNumbered rfl rfl rfl rfl (Nat.le_of_ble_eq_true rfl) (by simp [Value.category]) (by simp [Value.category]) (Nat.le_of_ble_eq_true rfl) (Nat.le_refl _) hv2 (fun x2 M2 hq => ?_)
  have h := h x2 M2 hq
  refine V.run 1 (pc' := 13) (ls' := [.ref 10, .int a, .ref 6, .int c, .int x1, .null, .null]) (st' := [.int (iI (-1)), .int x2]) (S' := (M2, L)) rfl ?_
  refine V.icmp (cd := .ne) rfl (fun hc => ?_) (fun hc => ?_)
  · have h := h.1 hc
    refine V.run 2 (pc' := 24) (ls' := [.ref 10, .int a, .ref 6, .int c, .int x1, .null, .null]) (st' := [.int x1, .ref 10]) (S' := (M2, L)) rfl ?_
    obtain ⟨P3, hv3, h⟩ := h
    refine V.callVi (T2 := T_Program_behind) (As := [.int x1]) (rest := []) rfl rfl g_Program_behind rfl rfl rfl rfl (Nat.le_of_ble_eq_true rfl) (by simp [Value.category]) (by simp [Value.category]) (Nat.le_of_ble_eq_true rfl) (Nat.le_refl _) hv3 (fun x3 M3 hq => ?_)
    have h := h x3 M3 hq
    exact h
  · have h := h.2 hc
    refine V.run 2 (pc' := 27) (ls' := [.ref 10, .int a, .ref 6, .int c, .int x1, .null, .null]) (st' := [.int x1]) (S' := (M2, L)) rfl ?_
    exact h
set_option maxRecDepth 100000 in
set_option maxHeartbeats 4000000 in
theorem s_Program_replace_27 {l : Launch} {Γ : qG} {d r : Nat} {M : qM} {L : Nat → Int64} {P : Int32 → qM → Prop} (v1 v3 v4 w0 : Int32) (h : (¬ v3 = 0 → V l Γ T_Program_replace (d + 1) r 44 [.ref 10, .int v1, .ref 6, .int v3, .int v4, .int w0, .null] [.int ((v4 + (iI 2)) + v3)] (M, L) (q_i L P)) ∧ (¬ (¬ v3 = 0) → V l Γ T_Program_replace (d + 1) r 44 [.ref 10, .int v1, .ref 6, .int v3, .int v4, .int w0, .null] [.int v4] (M, L) (q_i L P))) : V l Γ T_Program_replace (d + 1) r 27 [.ref 10, .int v1, .ref 6, .int v3, .int v4, .null, .null] [.int w0] (M, L) (q_i L P) := by
  refine V.run 2 (pc' := 30) (ls' := [.ref 10, .int v1, .ref 6, .int v3, .int v4, .int w0, .null]) (st' := [.int v3]) (S' := (M, L)) rfl ?_
  refine V.ifc (cd := .ne) rfl (fun hc => ?_) (fun hc => ?_)
  · have h := h.1 hc
    refine V.run 5 (pc' := 44) (ls' := [.ref 10, .int v1, .ref 6, .int v3, .int v4, .int w0, .null]) (st' := [.int ((v4 + (iI 2)) + v3)]) (S' := (M, L)) rfl ?_
    exact h
  · have h := h.2 hc
    refine V.run 2 (pc' := 44) (ls' := [.ref 10, .int v1, .ref 6, .int v3, .int v4, .int w0, .null]) (st' := [.int v4]) (S' := (M, L)) rfl ?_
    exact h
set_option maxRecDepth 100000 in
set_option maxHeartbeats 4000000 in
theorem s_Program_replace_44 {l : Launch} {Γ : qG} {d r : Nat} {M : qM} {L : Nat → Int64} {P : Int32 → qM → Prop} (v1 v3 v4 v5 w0 : Int32) (h : ((((M 10 1) - v5) + w0) ≤ (iI 200) → (¬ v5 < 0 ∧ ¬ w0 < 0 ∧ ¬ ((M 10 1) - v5) < 0 ∧ (v5).toNatClampNeg + (((M 10 1) - v5)).toNatClampNeg ≤ 200 ∧ (w0).toNatClampNeg + (((M 10 1) - v5)).toNatClampNeg ≤ 200) ∧ (v3 ≤ 0 → P (iI 1) (q_up (q_cp M 11 11 v5 w0 ((M 10 1) - v5)) 10 1 ((M 10 1) + (w0 - v5)))) ∧ (¬ v3 ≤ 0 → vp_in v4 200 ∧ vp_in (v4 + (iI 1)) 200 ∧ (¬ (iI 0) < 0 ∧ ¬ (v4 + (iI 2)) < 0 ∧ ¬ v3 < 0 ∧ ((iI 0)).toNatClampNeg + (v3).toNatClampNeg ≤ 256 ∧ ((v4 + (iI 2))).toNatClampNeg + (v3).toNatClampNeg ≤ 200) ∧ P (iI 1) (q_cp (q_up (q_up (q_up (q_cp M 11 11 v5 w0 ((M 10 1) - v5)) 10 1 ((M 10 1) + (w0 - v5))) 11 (v4).toNatClampNeg v1) 11 ((v4 + (iI 1))).toNatClampNeg v3) 6 11 (iI 0) (v4 + (iI 2)) v3))) ∧ (¬ (((M 10 1) - v5) + w0) ≤ (iI 200) → P (iI 0) M)) : V l Γ T_Program_replace (d + 1) r 44 [.ref 10, .int v1, .ref 6, .int v3, .int v4, .int v5, .null] [.int w0] (M, L) (q_i L P) := by
  refine V.run 8 (pc' := 59) (ls' := [.ref 10, .int v1, .ref 6, .int v3, .int v4, .int v5, .int w0]) (st' := [.int (iI 200), .int (((M 10 1) - v5) + w0)]) (S' := (M, L)) rfl ?_
  refine V.icmp (cd := .le) rfl (fun hc => ?_) (fun hc => ?_)
  · have h := h.1 hc
    refine V.run 10 (pc' := 83) (ls' := [.ref 10, .int v1, .ref 6, .int v3, .int v4, .int v5, .int w0]) (st' := [.int ((M 10 1) - v5), .int w0, .ref 11, .int v5, .ref 11]) (S' := (M, L)) rfl ?_
    refine V.copy rfl rfl rfl (q_mwi (by decide +kernel)) (by omega) (by simp [Value.category]) (Nat.le_of_ble_eq_true rfl) h.1 ?_
    have h := h.2
    refine V.run 9 (pc' := 101) (ls' := [.ref 10, .int v1, .ref 6, .int v3, .int v4, .int v5, .int w0]) (st' := [.int v3]) (S' := ((q_up (q_cp M 11 11 v5 w0 ((M 10 1) - v5)) 10 1 ((M 10 1) + (w0 - v5))), L)) rfl ?_
    refine V.ifc (cd := .le) rfl (fun hc => ?_) (fun hc => ?_)
    · have h := h.1 hc
      refine V.run 1 (pc' := 137) (ls' := [.ref 10, .int v1, .ref 6, .int v3, .int v4, .int v5, .int w0]) (st' := [.int (iI 1)]) (S' := ((q_up (q_cp M 11 11 v5 w0 ((M 10 1) - v5)) 10 1 ((M 10 1) + (w0 - v5))), L)) rfl ?_
      exact V.zret rfl rfl (by decide) ⟨_, _, rfl, rfl, h⟩
    · have h := h.2 hc
      refine V.run 4 (pc' := 111) (ls' := [.ref 10, .int v1, .ref 6, .int v3, .int v4, .int v5, .int w0]) (st' := [.int v1, .int v4, .ref 11]) (S' := ((q_up (q_cp M 11 11 v5 w0 ((M 10 1) - v5)) 10 1 ((M 10 1) + (w0 - v5))), L)) rfl ?_
      refine V.iast rfl rfl h.1 ?_
      have h := h.2
      refine V.run 6 (pc' := 121) (ls' := [.ref 10, .int v1, .ref 6, .int v3, .int v4, .int v5, .int w0]) (st' := [.int v3, .int (v4 + (iI 1)), .ref 11]) (S' := ((q_up (q_up (q_cp M 11 11 v5 w0 ((M 10 1) - v5)) 10 1 ((M 10 1) + (w0 - v5))) 11 (v4).toNatClampNeg v1), L)) rfl ?_
      refine V.iast rfl rfl h.1 ?_
      have h := h.2
      refine V.run 8 (pc' := 133) (ls' := [.ref 10, .int v1, .ref 6, .int v3, .int v4, .int v5, .int w0]) (st' := [.int v3, .int (v4 + (iI 2)), .ref 11, .int (iI 0), .ref 6]) (S' := ((q_up (q_up (q_up (q_cp M 11 11 v5 w0 ((M 10 1) - v5)) 10 1 ((M 10 1) + (w0 - v5))) 11 (v4).toNatClampNeg v1) 11 ((v4 + (iI 1))).toNatClampNeg v3), L)) rfl ?_
      refine V.copy rfl rfl rfl (q_mwi (by decide +kernel)) (by omega) (by simp [Value.category]) (Nat.le_of_ble_eq_true rfl) h.1 ?_
      have h := h.2
      refine V.run 1 (pc' := 137) (ls' := [.ref 10, .int v1, .ref 6, .int v3, .int v4, .int v5, .int w0]) (st' := [.int (iI 1)]) (S' := ((q_cp (q_up (q_up (q_up (q_cp M 11 11 v5 w0 ((M 10 1) - v5)) 10 1 ((M 10 1) + (w0 - v5))) 11 (v4).toNatClampNeg v1) 11 ((v4 + (iI 1))).toNatClampNeg v3) 6 11 (iI 0) (v4 + (iI 2)) v3), L)) rfl ?_
      exact V.zret rfl rfl (by decide) ⟨_, _, rfl, rfl, h⟩
  · have h := h.2 hc
    refine V.run 1 (pc' := 63) (ls' := [.ref 10, .int v1, .ref 6, .int v3, .int v4, .int v5, .int w0]) (st' := [.int (iI 0)]) (S' := (M, L)) rfl ?_
    exact V.zret rfl rfl (by decide) ⟨_, _, rfl, rfl, h⟩
set_option maxRecDepth 100000 in
set_option maxHeartbeats 4000000 in
theorem s_Program_become_0 {l : Launch} {Γ : qG} {d r : Nat} {M : qM} {L : Nat → Int64} {P : qM → Prop} (b : Int32) (h : (¬ (iI 0) < 0 ∧ ¬ (iI 0) < 0 ∧ ¬ b < 0 ∧ ((iI 0)).toNatClampNeg + (b).toNatClampNeg ≤ 257 ∧ ((iI 0)).toNatClampNeg + (b).toNatClampNeg ≤ 200) ∧ P (q_up (q_cp M 26 11 (iI 0) (iI 0) b) 10 1 b)) : V l Γ T_Program_become (d + 1) r 0 [.ref 10, .ref 26, .int b] [] (M, L) (q_n L P) := by
  refine V.run 6 (pc' := 8) (ls' := [.ref 10, .ref 26, .int b]) (st' := [.int b, .int (iI 0), .ref 11, .int (iI 0), .ref 26]) (S' := (M, L)) rfl ?_
  refine V.copy rfl rfl rfl (q_mwi (by decide +kernel)) (by omega) (by simp [Value.category]) (Nat.le_of_ble_eq_true rfl) h.1 ?_
  have h := h.2
  refine V.run 3 (pc' := 16) (ls' := [.ref 10, .ref 26, .int b]) (st' := []) (S' := ((q_up (q_cp M 26 11 (iI 0) (iI 0) b) 10 1 b), L)) rfl ?_
  exact V.vret rfl rfl ⟨_, rfl, rfl, h⟩
set_option maxRecDepth 100000 in
set_option maxHeartbeats 4000000 in
theorem s_Program_firstFrom_0 {l : Launch} {Γ : qG} {d r : Nat} {M : qM} {L : Nat → Int64} {P : Int32 → qM → Prop} (a : Int32) (h : V l Γ T_Program_firstFrom d r 2 [.ref 10, .int a, .int (iI 0)] [] (M, L) (q_i L P)) : V l Γ T_Program_firstFrom d r 0 [.ref 10, .int a, .null] [] (M, L) (q_i L P) := by
  refine V.run 2 (pc' := 2) (ls' := [.ref 10, .int a, .int (iI 0)]) (st' := []) (S' := (M, L)) rfl ?_
  exact h
set_option maxRecDepth 100000 in
set_option maxHeartbeats 4000000 in
theorem s_Program_firstFrom_2 {l : Launch} {Γ : qG} {d r : Nat} {M : qM} {L : Nat → Int64} {P : Int32 → qM → Prop} (v1 v2 : Int32) (h : ((M 10 1) ≤ v2 → P v2 M) ∧ (¬ (M 10 1) ≤ v2 → vp_in v2 200 ∧ (v1 ≤ (M 11 (v2).toNatClampNeg) → P v2 M) ∧ (¬ v1 ≤ (M 11 (v2).toNatClampNeg) → vp_in (v2 + (iI 1)) 200 ∧ V l Γ T_Program_firstFrom d r 2 [.ref 10, .int v1, .int (v2 + ((iI 2) + (M 11 ((v2 + (iI 1))).toNatClampNeg)))] [] (M, L) (q_i L P)))) : V l Γ T_Program_firstFrom d r 2 [.ref 10, .int v1, .int v2] [] (M, L) (q_i L P) := by
  refine V.run 3 (pc' := 7) (ls' := [.ref 10, .int v1, .int v2]) (st' := [.int (M 10 1), .int v2]) (S' := (M, L)) rfl ?_
  refine V.icmp (cd := .ge) rfl (fun hc => ?_) (fun hc => ?_)
  · have h := h.1 hc
    refine V.run 1 (pc' := 37) (ls' := [.ref 10, .int v1, .int v2]) (st' := [.int v2]) (S' := (M, L)) rfl ?_
    exact V.iret rfl rfl ⟨_, _, rfl, rfl, h⟩
  · have h := h.2 hc
    refine V.run 3 (pc' := 15) (ls' := [.ref 10, .int v1, .int v2]) (st' := [.int v2, .ref 11]) (S' := (M, L)) rfl ?_
    refine V.iald rfl rfl h.1 ?_
    have h := h.2
    refine V.run 1 (pc' := 17) (ls' := [.ref 10, .int v1, .int v2]) (st' := [.int v1, .int (M 11 (v2).toNatClampNeg)]) (S' := (M, L)) rfl ?_
    refine V.icmp (cd := .ge) rfl (fun hc => ?_) (fun hc => ?_)
    · have h := h.1 hc
      refine V.run 1 (pc' := 37) (ls' := [.ref 10, .int v1, .int v2]) (st' := [.int v2]) (S' := (M, L)) rfl ?_
      exact V.iret rfl rfl ⟨_, _, rfl, rfl, h⟩
    · have h := h.2 hc
      refine V.run 7 (pc' := 29) (ls' := [.ref 10, .int v1, .int v2]) (st' := [.int (v2 + (iI 1)), .ref 11, .int (iI 2), .int v2]) (S' := (M, L)) rfl ?_
      refine V.iald rfl rfl h.1 ?_
      have h := h.2
      refine V.run 4 (pc' := 2) (ls' := [.ref 10, .int v1, .int (v2 + ((iI 2) + (M 11 ((v2 + (iI 1))).toNatClampNeg)))]) (st' := []) (S' := (M, L)) rfl ?_
      exact h
set_option maxRecDepth 100000 in
set_option maxHeartbeats 4000000 in
theorem s_Sheet_append_0 {l : Launch} {Γ : qG} {d r : Nat} {M : qM} {L : Nat → Int64} {P : Int32 → qM → Prop} (o : Nat) (ho : (o = 1) ∨ (o = 3) ∨ (o = 7) ∨ (o = 16) ∨ (o = 18)) (a : Int32) (h : ((M o 1) < (nI (cp (o + 1))) → vp_in (M o 1) (cp (o + 1)) ∧ P (iI 1) (q_up (q_up M (o + 1) ((M o 1)).toNatClampNeg (vp_nar .char a)) o 1 ((M o 1) + (iI 1)))) ∧ (¬ (M o 1) < (nI (cp (o + 1))) → P (iI 0) M)) : V l Γ T_Sheet_append d r 0 [.ref o, .int a] [] (M, L) (q_i L P) := by
  rcases ho with rfl | rfl | rfl | rfl | rfl
  · refine V.run 4 (pc' := 8) (ls' := [.ref 1, .int a]) (st' := [.ref 2, .int (M 1 1)]) (S' := (M, L)) rfl ?_
    refine V.alen rfl rfl (by decide) ?_
    refine V.icmp (cd := .lt) rfl (fun hc => ?_) (fun hc => ?_)
    · have h := h.1 hc
      refine V.run 5 (pc' := 23) (ls' := [.ref 1, .int a]) (st' := [.int a, .int (M 1 1), .ref 2]) (S' := (M, L)) rfl ?_
      refine V.cast rfl rfl h.1 ?_
      have h := h.2
      refine V.run 7 (pc' := 35) (ls' := [.ref 1, .int a]) (st' := [.int (iI 1)]) (S' := ((q_up (q_up M 2 ((M 1 1)).toNatClampNeg (vp_nar .char a)) 1 1 ((M 1 1) + (iI 1))), L)) rfl ?_
      exact V.zret rfl rfl (by decide) ⟨_, _, rfl, rfl, h⟩
    · have h := h.2 hc
      refine V.run 1 (pc' := 13) (ls' := [.ref 1, .int a]) (st' := [.int (iI 0)]) (S' := (M, L)) rfl ?_
      exact V.zret rfl rfl (by decide) ⟨_, _, rfl, rfl, h⟩
  · refine V.run 4 (pc' := 8) (ls' := [.ref 3, .int a]) (st' := [.ref 4, .int (M 3 1)]) (S' := (M, L)) rfl ?_
    refine V.alen rfl rfl (by decide) ?_
    refine V.icmp (cd := .lt) rfl (fun hc => ?_) (fun hc => ?_)
    · have h := h.1 hc
      refine V.run 5 (pc' := 23) (ls' := [.ref 3, .int a]) (st' := [.int a, .int (M 3 1), .ref 4]) (S' := (M, L)) rfl ?_
      refine V.cast rfl rfl h.1 ?_
      have h := h.2
      refine V.run 7 (pc' := 35) (ls' := [.ref 3, .int a]) (st' := [.int (iI 1)]) (S' := ((q_up (q_up M 4 ((M 3 1)).toNatClampNeg (vp_nar .char a)) 3 1 ((M 3 1) + (iI 1))), L)) rfl ?_
      exact V.zret rfl rfl (by decide) ⟨_, _, rfl, rfl, h⟩
    · have h := h.2 hc
      refine V.run 1 (pc' := 13) (ls' := [.ref 3, .int a]) (st' := [.int (iI 0)]) (S' := (M, L)) rfl ?_
      exact V.zret rfl rfl (by decide) ⟨_, _, rfl, rfl, h⟩
  · refine V.run 4 (pc' := 8) (ls' := [.ref 7, .int a]) (st' := [.ref 8, .int (M 7 1)]) (S' := (M, L)) rfl ?_
    refine V.alen rfl rfl (by decide) ?_
    refine V.icmp (cd := .lt) rfl (fun hc => ?_) (fun hc => ?_)
    · have h := h.1 hc
      refine V.run 5 (pc' := 23) (ls' := [.ref 7, .int a]) (st' := [.int a, .int (M 7 1), .ref 8]) (S' := (M, L)) rfl ?_
      refine V.cast rfl rfl h.1 ?_
      have h := h.2
      refine V.run 7 (pc' := 35) (ls' := [.ref 7, .int a]) (st' := [.int (iI 1)]) (S' := ((q_up (q_up M 8 ((M 7 1)).toNatClampNeg (vp_nar .char a)) 7 1 ((M 7 1) + (iI 1))), L)) rfl ?_
      exact V.zret rfl rfl (by decide) ⟨_, _, rfl, rfl, h⟩
    · have h := h.2 hc
      refine V.run 1 (pc' := 13) (ls' := [.ref 7, .int a]) (st' := [.int (iI 0)]) (S' := (M, L)) rfl ?_
      exact V.zret rfl rfl (by decide) ⟨_, _, rfl, rfl, h⟩
  · refine V.run 4 (pc' := 8) (ls' := [.ref 16, .int a]) (st' := [.ref 17, .int (M 16 1)]) (S' := (M, L)) rfl ?_
    refine V.alen rfl rfl (by decide) ?_
    refine V.icmp (cd := .lt) rfl (fun hc => ?_) (fun hc => ?_)
    · have h := h.1 hc
      refine V.run 5 (pc' := 23) (ls' := [.ref 16, .int a]) (st' := [.int a, .int (M 16 1), .ref 17]) (S' := (M, L)) rfl ?_
      refine V.cast rfl rfl h.1 ?_
      have h := h.2
      refine V.run 7 (pc' := 35) (ls' := [.ref 16, .int a]) (st' := [.int (iI 1)]) (S' := ((q_up (q_up M 17 ((M 16 1)).toNatClampNeg (vp_nar .char a)) 16 1 ((M 16 1) + (iI 1))), L)) rfl ?_
      exact V.zret rfl rfl (by decide) ⟨_, _, rfl, rfl, h⟩
    · have h := h.2 hc
      refine V.run 1 (pc' := 13) (ls' := [.ref 16, .int a]) (st' := [.int (iI 0)]) (S' := (M, L)) rfl ?_
      exact V.zret rfl rfl (by decide) ⟨_, _, rfl, rfl, h⟩
  · refine V.run 4 (pc' := 8) (ls' := [.ref 18, .int a]) (st' := [.ref 19, .int (M 18 1)]) (S' := (M, L)) rfl ?_
    refine V.alen rfl rfl (by decide) ?_
    refine V.icmp (cd := .lt) rfl (fun hc => ?_) (fun hc => ?_)
    · have h := h.1 hc
      refine V.run 5 (pc' := 23) (ls' := [.ref 18, .int a]) (st' := [.int a, .int (M 18 1), .ref 19]) (S' := (M, L)) rfl ?_
      refine V.cast rfl rfl h.1 ?_
      have h := h.2
      refine V.run 7 (pc' := 35) (ls' := [.ref 18, .int a]) (st' := [.int (iI 1)]) (S' := ((q_up (q_up M 19 ((M 18 1)).toNatClampNeg (vp_nar .char a)) 18 1 ((M 18 1) + (iI 1))), L)) rfl ?_
      exact V.zret rfl rfl (by decide) ⟨_, _, rfl, rfl, h⟩
    · have h := h.2 hc
      refine V.run 1 (pc' := 13) (ls' := [.ref 18, .int a]) (st' := [.int (iI 0)]) (S' := (M, L)) rfl ?_
      exact V.zret rfl rfl (by decide) ⟨_, _, rfl, rfl, h⟩
set_option maxRecDepth 100000 in
set_option maxHeartbeats 4000000 in
theorem s_Sheet_hasRoomFor_0 {l : Launch} {Γ : qG} {d r : Nat} {M : qM} {L : Nat → Int64} {P : Int32 → qM → Prop} (o : Nat) (ho : (o = 16)) (a : Int32) (h : (((nI (cp (o + 1))) - (M o 1)) < a → P (iI 0) M) ∧ (¬ ((nI (cp (o + 1))) - (M o 1)) < a → P (iI 1) M)) : V l Γ T_Sheet_hasRoomFor d r 0 [.ref o, .int a] [] (M, L) (q_i L P) := by
  rcases ho with rfl
  · refine V.run 3 (pc' := 5) (ls' := [.ref 16, .int a]) (st' := [.ref 17, .int a]) (S' := (M, L)) rfl ?_
    refine V.alen rfl rfl (by decide) ?_
    refine V.run 3 (pc' := 11) (ls' := [.ref 16, .int a]) (st' := [.int ((nI 100) - (M 16 1)), .int a]) (S' := (M, L)) rfl ?_
    refine V.icmp (cd := .gt) rfl (fun hc => ?_) (fun hc => ?_)
    · have h := h.1 hc
      refine V.run 1 (pc' := 19) (ls' := [.ref 16, .int a]) (st' := [.int (iI 0)]) (S' := (M, L)) rfl ?_
      exact V.zret rfl rfl (by decide) ⟨_, _, rfl, rfl, h⟩
    · have h := h.2 hc
      refine V.run 2 (pc' := 19) (ls' := [.ref 16, .int a]) (st' := [.int (iI 1)]) (S' := (M, L)) rfl ?_
      exact V.zret rfl rfl (by decide) ⟨_, _, rfl, rfl, h⟩
set_option maxRecDepth 100000 in
set_option maxHeartbeats 4000000 in
theorem s_Sheet_appendSheet_0 {l : Launch} {Γ : qG} {d r : Nat} {M : qM} {L : Nat → Int64} {P : qM → Prop} (o w : Nat) (ho : (o = 3 ∧ w = 16) ∨ (o = 16 ∧ w = 18)) (h : V l Γ T_Sheet_appendSheet (d + 1) r 2 [.ref o, .ref w, .int (iI 0)] [] (M, L) (q_n L P)) : V l Γ T_Sheet_appendSheet (d + 1) r 0 [.ref o, .ref w, .null] [] (M, L) (q_n L P) := by
  rcases ho with ⟨rfl, rfl⟩ | ⟨rfl, rfl⟩
  · refine V.run 2 (pc' := 2) (ls' := [.ref 3, .ref 16, .int (iI 0)]) (st' := []) (S' := (M, L)) rfl ?_
    exact h
  · refine V.run 2 (pc' := 2) (ls' := [.ref 16, .ref 18, .int (iI 0)]) (st' := []) (S' := (M, L)) rfl ?_
    exact h
set_option maxRecDepth 100000 in
set_option maxHeartbeats 4000000 in
theorem s_Sheet_appendSheet_2 {l : Launch} {Γ : qG} {d r : Nat} {M : qM} {L : Nat → Int64} {P : qM → Prop} (o w : Nat) (ho : (o = 3 ∧ w = 16) ∨ (o = 16 ∧ w = 18)) (v2 : Int32) (h : ((M w 1) ≤ v2 → P M) ∧ (¬ (M w 1) ≤ v2 → vp_in v2 (cp (w + 1)) ∧ ∃ P1 : Int32 → qM → Prop, V l Γ T_Sheet_append d 0 0 [.ref o, .int (M (w + 1) (v2).toNatClampNeg)] [] (M, L) (q_i L P1) ∧ ∀ (x1 : Int32) (M1 : qM), P1 x1 M1 → V l Γ T_Sheet_appendSheet (d + 1) r 2 [.ref o, .ref w, .int (v2 + (iI 1))] [] (M1, L) (q_n L P))) : V l Γ T_Sheet_appendSheet (d + 1) r 2 [.ref o, .ref w, .int v2] [] (M, L) (q_n L P) := by
  rcases ho with ⟨rfl, rfl⟩ | ⟨rfl, rfl⟩
  · refine V.run 3 (pc' := 7) (ls' := [.ref 3, .ref 16, .int v2]) (st' := [.int (M 16 1), .int v2]) (S' := (M, L)) rfl ?_
    refine V.icmp (cd := .ge) rfl (fun hc => ?_) (fun hc => ?_)
    · have h := h.1 hc
      exact V.vret rfl rfl ⟨_, rfl, rfl, h⟩
    · have h := h.2 hc
      refine V.run 4 (pc' := 16) (ls' := [.ref 3, .ref 16, .int v2]) (st' := [.int v2, .ref 17, .ref 3]) (S' := (M, L)) rfl ?_
      refine V.cald rfl rfl h.1 ?_
      have h := h.2
      obtain ⟨P1, hv1, h⟩ := h
      refine V.callVi (T2 := T_Sheet_append) (As := [.int (M 17 (v2).toNatClampNeg)]) (rest := []) rfl rfl g_Sheet_append rfl rfl rfl rfl (Nat.le_of_ble_eq_true rfl) (by simp [Value.category]) (by simp [Value.category]) (Nat.le_of_ble_eq_true rfl) (Nat.le_refl _) hv1 (fun x1 M1 hq => ?_)
      have h := h x1 M1 hq
      refine V.run 3 (pc' := 2) (ls' := [.ref 3, .ref 16, .int (v2 + (iI 1))]) (st' := []) (S' := (M1, L)) rfl ?_
      exact h
  · refine V.run 3 (pc' := 7) (ls' := [.ref 16, .ref 18, .int v2]) (st' := [.int (M 18 1), .int v2]) (S' := (M, L)) rfl ?_
    refine V.icmp (cd := .ge) rfl (fun hc => ?_) (fun hc => ?_)
    · have h := h.1 hc
      exact V.vret rfl rfl ⟨_, rfl, rfl, h⟩
    · have h := h.2 hc
      refine V.run 4 (pc' := 16) (ls' := [.ref 16, .ref 18, .int v2]) (st' := [.int v2, .ref 19, .ref 16]) (S' := (M, L)) rfl ?_
      refine V.cald rfl rfl h.1 ?_
      have h := h.2
      obtain ⟨P1, hv1, h⟩ := h
      refine V.callVi (T2 := T_Sheet_append) (As := [.int (M 19 (v2).toNatClampNeg)]) (rest := []) rfl rfl g_Sheet_append rfl rfl rfl rfl (Nat.le_of_ble_eq_true rfl) (by simp [Value.category]) (by simp [Value.category]) (Nat.le_of_ble_eq_true rfl) (Nat.le_refl _) hv1 (fun x1 M1 hq => ?_)
      have h := h x1 M1 hq
      refine V.run 3 (pc' := 2) (ls' := [.ref 16, .ref 18, .int (v2 + (iI 1))]) (st' := []) (S' := (M1, L)) rfl ?_
      exact h
set_option maxRecDepth 100000 in
set_option maxHeartbeats 4000000 in
theorem s_Sheet_appendNumber_0 {l : Launch} {Γ : qG} {d r : Nat} {M : qM} {L : Nat → Int64} {P : qM → Prop} (o : Nat) (ho : (o = 3) ∨ (o = 18)) (a : Int32) (h : (0 ≤ a → V l Γ T_Sheet_appendNumber (d + 1) r 21 [.ref o, .null, .int (if 0 ≤ a then a else 0 - a), .int (iI 1), .int (iI 1)] [] (M, L) (q_n L P)) ∧ (¬ 0 ≤ a → ∃ P1 : Int32 → qM → Prop, V l Γ T_Sheet_append d 0 0 [.ref o, .int (iI 45)] [] (M, L) (q_i L P1) ∧ ∀ (x1 : Int32) (M1 : qM), P1 x1 M1 → V l Γ T_Sheet_appendNumber (d + 1) r 21 [.ref o, .null, .int (if 0 ≤ a then a else 0 - a), .int (iI 1), .int (iI 1)] [] (M1, L) (q_n L P))) : V l Γ T_Sheet_appendNumber (d + 1) r 0 [.ref o, .int a, .null, .null, .null] [] (M, L) (q_n L P) := by
  rcases ho with rfl | rfl
  · refine V.run 1 (pc' := 1) (ls' := [.ref 3, .int a, .null, .null, .null]) (st' := [.int a]) (S' := (M, L)) rfl ?_
    refine V.ifc (cd := .ge) rfl (fun hc => ?_) (fun hc => ?_)
    · have h := h.1 hc
      refine V.run 1 (pc' := 12) (ls' := [.ref 3, .int a, .null, .null, .null]) (st' := [.int a]) (S' := (M, L)) rfl ?_
      refine V.mabs rfl (q_mwi (by decide +kernel)) (by omega) (by simp [Value.category]) (Nat.le_of_ble_eq_true rfl) ?_
      refine V.run 5 (pc' := 21) (ls' := [.ref 3, .int a, .int (if 0 ≤ a then a else 0 - a), .int (iI 1), .int (iI 1)]) (st' := []) (S' := (M, L)) rfl ?_
      refine V.forget (ls' := [.ref 3, .null, .int (if 0 ≤ a then a else 0 - a), .int (iI 1), .int (iI 1)]) ⟨Or.inr rfl, Or.inl rfl, Or.inr rfl, Or.inr rfl, Or.inr rfl, trivial⟩ ?_
      exact h
    · have h := h.2 hc
      refine V.run 2 (pc' := 7) (ls' := [.ref 3, .int a, .null, .null, .null]) (st' := [.int (iI 45), .ref 3]) (S' := (M, L)) rfl ?_
      obtain ⟨P1, hv1, h⟩ := h
      refine V.callVi (T2 := T_Sheet_append) (As := [.int (iI 45)]) (rest := []) rfl rfl g_Sheet_append rfl rfl rfl rfl (Nat.le_of_ble_eq_true rfl) (by simp [Value.category]) (by simp [Value.category]) (Nat.le_of_ble_eq_true rfl) (Nat.le_refl _) hv1 (fun x1 M1 hq => ?_)
      have h := h x1 M1 hq
      refine V.run 2 (pc' := 12) (ls' := [.ref 3, .int a, .null, .null, .null]) (st' := [.int a]) (S' := (M1, L)) rfl ?_
      refine V.mabs rfl (q_mwi (by decide +kernel)) (by omega) (by simp [Value.category]) (Nat.le_of_ble_eq_true rfl) ?_
      refine V.run 5 (pc' := 21) (ls' := [.ref 3, .int a, .int (if 0 ≤ a then a else 0 - a), .int (iI 1), .int (iI 1)]) (st' := []) (S' := (M1, L)) rfl ?_
      refine V.forget (ls' := [.ref 3, .null, .int (if 0 ≤ a then a else 0 - a), .int (iI 1), .int (iI 1)]) ⟨Or.inr rfl, Or.inl rfl, Or.inr rfl, Or.inr rfl, Or.inr rfl, trivial⟩ ?_
      exact h
  · refine V.run 1 (pc' := 1) (ls' := [.ref 18, .int a, .null, .null, .null]) (st' := [.int a]) (S' := (M, L)) rfl ?_
    refine V.ifc (cd := .ge) rfl (fun hc => ?_) (fun hc => ?_)
    · have h := h.1 hc
      refine V.run 1 (pc' := 12) (ls' := [.ref 18, .int a, .null, .null, .null]) (st' := [.int a]) (S' := (M, L)) rfl ?_
      refine V.mabs rfl (q_mwi (by decide +kernel)) (by omega) (by simp [Value.category]) (Nat.le_of_ble_eq_true rfl) ?_
      refine V.run 5 (pc' := 21) (ls' := [.ref 18, .int a, .int (if 0 ≤ a then a else 0 - a), .int (iI 1), .int (iI 1)]) (st' := []) (S' := (M, L)) rfl ?_
      refine V.forget (ls' := [.ref 18, .null, .int (if 0 ≤ a then a else 0 - a), .int (iI 1), .int (iI 1)]) ⟨Or.inr rfl, Or.inl rfl, Or.inr rfl, Or.inr rfl, Or.inr rfl, trivial⟩ ?_
      exact h
    · have h := h.2 hc
      refine V.run 2 (pc' := 7) (ls' := [.ref 18, .int a, .null, .null, .null]) (st' := [.int (iI 45), .ref 18]) (S' := (M, L)) rfl ?_
      obtain ⟨P1, hv1, h⟩ := h
      refine V.callVi (T2 := T_Sheet_append) (As := [.int (iI 45)]) (rest := []) rfl rfl g_Sheet_append rfl rfl rfl rfl (Nat.le_of_ble_eq_true rfl) (by simp [Value.category]) (by simp [Value.category]) (Nat.le_of_ble_eq_true rfl) (Nat.le_refl _) hv1 (fun x1 M1 hq => ?_)
      have h := h x1 M1 hq
      refine V.run 2 (pc' := 12) (ls' := [.ref 18, .int a, .null, .null, .null]) (st' := [.int a]) (S' := (M1, L)) rfl ?_
      refine V.mabs rfl (q_mwi (by decide +kernel)) (by omega) (by simp [Value.category]) (Nat.le_of_ble_eq_true rfl) ?_
      refine V.run 5 (pc' := 21) (ls' := [.ref 18, .int a, .int (if 0 ≤ a then a else 0 - a), .int (iI 1), .int (iI 1)]) (st' := []) (S' := (M1, L)) rfl ?_
      refine V.forget (ls' := [.ref 18, .null, .int (if 0 ≤ a then a else 0 - a), .int (iI 1), .int (iI 1)]) ⟨Or.inr rfl, Or.inl rfl, Or.inr rfl, Or.inr rfl, Or.inr rfl, trivial⟩ ?_
      exact h
set_option maxRecDepth 100000 in
set_option maxHeartbeats 4000000 in
theorem s_Sheet_appendNumber_21 {l : Launch} {Γ : qG} {d r : Nat} {M : qM} {L : Nat → Int64} {P : qM → Prop} (o : Nat) (ho : (o = 3) ∨ (o = 18)) (v2 v3 v4 : Int32) (h : ((iI 5) ≤ v4 → V l Γ T_Sheet_appendNumber (d + 1) r 49 [.ref o, .null, .int v2, .int v3, .int (iI 0)] [] (M, L) (q_n L P)) ∧ (¬ (iI 5) ≤ v4 → (v2 < (v3 * (iI 10)) → V l Γ T_Sheet_appendNumber (d + 1) r 49 [.ref o, .null, .int v2, .int v3, .int (iI 0)] [] (M, L) (q_n L P)) ∧ (¬ v2 < (v3 * (iI 10)) → V l Γ T_Sheet_appendNumber (d + 1) r 21 [.ref o, .null, .int v2, .int (v3 * (iI 10)), .int (v4 + (iI 1))] [] (M, L) (q_n L P)))) : V l Γ T_Sheet_appendNumber (d + 1) r 21 [.ref o, .null, .int v2, .int v3, .int v4] [] (M, L) (q_n L P) := by
  rcases ho with rfl | rfl
  · refine V.run 2 (pc' := 24) (ls' := [.ref 3, .null, .int v2, .int v3, .int v4]) (st' := [.int (iI 5), .int v4]) (S' := (M, L)) rfl ?_
    refine V.icmp (cd := .ge) rfl (fun hc => ?_) (fun hc => ?_)
    · have h := h.1 hc
      refine V.run 2 (pc' := 49) (ls' := [.ref 3, .null, .int v2, .int v3, .int (iI 0)]) (st' := []) (S' := (M, L)) rfl ?_
      exact h
    · have h := h.2 hc
      refine V.run 4 (pc' := 32) (ls' := [.ref 3, .null, .int v2, .int v3, .int v4]) (st' := [.int (v3 * (iI 10)), .int v2]) (S' := (M, L)) rfl ?_
      refine V.icmp (cd := .lt) rfl (fun hc => ?_) (fun hc => ?_)
      · have h := h.1 hc
        refine V.run 2 (pc' := 49) (ls' := [.ref 3, .null, .int v2, .int v3, .int (iI 0)]) (st' := []) (S' := (M, L)) rfl ?_
        exact h
      · have h := h.2 hc
        refine V.run 6 (pc' := 21) (ls' := [.ref 3, .null, .int v2, .int (v3 * (iI 10)), .int (v4 + (iI 1))]) (st' := []) (S' := (M, L)) rfl ?_
        exact h
  · refine V.run 2 (pc' := 24) (ls' := [.ref 18, .null, .int v2, .int v3, .int v4]) (st' := [.int (iI 5), .int v4]) (S' := (M, L)) rfl ?_
    refine V.icmp (cd := .ge) rfl (fun hc => ?_) (fun hc => ?_)
    · have h := h.1 hc
      refine V.run 2 (pc' := 49) (ls' := [.ref 18, .null, .int v2, .int v3, .int (iI 0)]) (st' := []) (S' := (M, L)) rfl ?_
      exact h
    · have h := h.2 hc
      refine V.run 4 (pc' := 32) (ls' := [.ref 18, .null, .int v2, .int v3, .int v4]) (st' := [.int (v3 * (iI 10)), .int v2]) (S' := (M, L)) rfl ?_
      refine V.icmp (cd := .lt) rfl (fun hc => ?_) (fun hc => ?_)
      · have h := h.1 hc
        refine V.run 2 (pc' := 49) (ls' := [.ref 18, .null, .int v2, .int v3, .int (iI 0)]) (st' := []) (S' := (M, L)) rfl ?_
        exact h
      · have h := h.2 hc
        refine V.run 6 (pc' := 21) (ls' := [.ref 18, .null, .int v2, .int (v3 * (iI 10)), .int (v4 + (iI 1))]) (st' := []) (S' := (M, L)) rfl ?_
        exact h
set_option maxRecDepth 100000 in
set_option maxHeartbeats 4000000 in
theorem s_Sheet_appendNumber_49 {l : Launch} {Γ : qG} {d r : Nat} {M : qM} {L : Nat → Int64} {P : qM → Prop} (o : Nat) (ho : (o = 3) ∨ (o = 18)) (v2 v3 v4 : Int32) (h : ((iI 5) ≤ v4 → P M) ∧ (¬ (iI 5) ≤ v4 → (v3 ≤ 0 → P M) ∧ (¬ v3 ≤ 0 → ¬ v3 = 0 ∧ ∃ P1 : Int32 → qM → Prop, V l Γ T_Sheet_append d 0 0 [.ref o, .int ((((iI 48) + ((v2 / v3) - (v2 / v3) / (iI 10) * (iI 10)))).toUInt32 % 65536).toInt32] [] (M, L) (q_i L P1) ∧ ∀ (x1 : Int32) (M1 : qM), P1 x1 M1 → V l Γ T_Sheet_appendNumber (d + 1) r 49 [.ref o, .null, .int v2, .int (v3 / (iI 10)), .int (v4 + (iI 1))] [] (M1, L) (q_n L P)))) : V l Γ T_Sheet_appendNumber (d + 1) r 49 [.ref o, .null, .int v2, .int v3, .int v4] [] (M, L) (q_n L P) := by
  rcases ho with rfl | rfl
  · refine V.run 2 (pc' := 52) (ls' := [.ref 3, .null, .int v2, .int v3, .int v4]) (st' := [.int (iI 5), .int v4]) (S' := (M, L)) rfl ?_
    refine V.icmp (cd := .ge) rfl (fun hc => ?_) (fun hc => ?_)
    · have h := h.1 hc
      exact V.vret rfl rfl ⟨_, rfl, rfl, h⟩
    · have h := h.2 hc
      refine V.run 1 (pc' := 56) (ls' := [.ref 3, .null, .int v2, .int v3, .int v4]) (st' := [.int v3]) (S' := (M, L)) rfl ?_
      refine V.ifc (cd := .le) rfl (fun hc => ?_) (fun hc => ?_)
      · have h := h.1 hc
        exact V.vret rfl rfl ⟨_, rfl, rfl, h⟩
      · have h := h.2 hc
        refine V.run 4 (pc' := 64) (ls' := [.ref 3, .null, .int v2, .int v3, .int v4]) (st' := [.int v3, .int v2, .int (iI 48), .ref 3]) (S' := (M, L)) rfl ?_
        refine V.idiv rfl h.1 ?_
        have h := h.2
        refine V.run 1 (pc' := 67) (ls' := [.ref 3, .null, .int v2, .int v3, .int v4]) (st' := [.int (iI 10), .int (v2 / v3), .int (iI 48), .ref 3]) (S' := (M, L)) rfl ?_
        refine V.irem rfl (by decide) ?_
        refine V.run 2 (pc' := 70) (ls' := [.ref 3, .null, .int v2, .int v3, .int v4]) (st' := [.int ((((iI 48) + ((v2 / v3) - (v2 / v3) / (iI 10) * (iI 10)))).toUInt32 % 65536).toInt32, .ref 3]) (S' := (M, L)) rfl ?_
        obtain ⟨P1, hv1, h⟩ := h
        refine V.callVi (T2 := T_Sheet_append) (As := [.int ((((iI 48) + ((v2 / v3) - (v2 / v3) / (iI 10) * (iI 10)))).toUInt32 % 65536).toInt32]) (rest := []) rfl rfl g_Sheet_append rfl rfl rfl rfl (Nat.le_of_ble_eq_true rfl) (by simp [Value.category]) (by simp [Value.category]) (Nat.le_of_ble_eq_true rfl) (Nat.le_refl _) hv1 (fun x1 M1 hq => ?_)
        have h := h x1 M1 hq
        refine V.run 3 (pc' := 77) (ls' := [.ref 3, .null, .int v2, .int v3, .int v4]) (st' := [.int (iI 10), .int v3]) (S' := (M1, L)) rfl ?_
        refine V.idiv rfl (by decide) ?_
        refine V.run 3 (pc' := 49) (ls' := [.ref 3, .null, .int v2, .int (v3 / (iI 10)), .int (v4 + (iI 1))]) (st' := []) (S' := (M1, L)) rfl ?_
        exact h
  · refine V.run 2 (pc' := 52) (ls' := [.ref 18, .null, .int v2, .int v3, .int v4]) (st' := [.int (iI 5), .int v4]) (S' := (M, L)) rfl ?_
    refine V.icmp (cd := .ge) rfl (fun hc => ?_) (fun hc => ?_)
    · have h := h.1 hc
      exact V.vret rfl rfl ⟨_, rfl, rfl, h⟩
    · have h := h.2 hc
      refine V.run 1 (pc' := 56) (ls' := [.ref 18, .null, .int v2, .int v3, .int v4]) (st' := [.int v3]) (S' := (M, L)) rfl ?_
      refine V.ifc (cd := .le) rfl (fun hc => ?_) (fun hc => ?_)
      · have h := h.1 hc
        exact V.vret rfl rfl ⟨_, rfl, rfl, h⟩
      · have h := h.2 hc
        refine V.run 4 (pc' := 64) (ls' := [.ref 18, .null, .int v2, .int v3, .int v4]) (st' := [.int v3, .int v2, .int (iI 48), .ref 18]) (S' := (M, L)) rfl ?_
        refine V.idiv rfl h.1 ?_
        have h := h.2
        refine V.run 1 (pc' := 67) (ls' := [.ref 18, .null, .int v2, .int v3, .int v4]) (st' := [.int (iI 10), .int (v2 / v3), .int (iI 48), .ref 18]) (S' := (M, L)) rfl ?_
        refine V.irem rfl (by decide) ?_
        refine V.run 2 (pc' := 70) (ls' := [.ref 18, .null, .int v2, .int v3, .int v4]) (st' := [.int ((((iI 48) + ((v2 / v3) - (v2 / v3) / (iI 10) * (iI 10)))).toUInt32 % 65536).toInt32, .ref 18]) (S' := (M, L)) rfl ?_
        obtain ⟨P1, hv1, h⟩ := h
        refine V.callVi (T2 := T_Sheet_append) (As := [.int ((((iI 48) + ((v2 / v3) - (v2 / v3) / (iI 10) * (iI 10)))).toUInt32 % 65536).toInt32]) (rest := []) rfl rfl g_Sheet_append rfl rfl rfl rfl (Nat.le_of_ble_eq_true rfl) (by simp [Value.category]) (by simp [Value.category]) (Nat.le_of_ble_eq_true rfl) (Nat.le_refl _) hv1 (fun x1 M1 hq => ?_)
        have h := h x1 M1 hq
        refine V.run 3 (pc' := 77) (ls' := [.ref 18, .null, .int v2, .int v3, .int v4]) (st' := [.int (iI 10), .int v3]) (S' := (M1, L)) rfl ?_
        refine V.idiv rfl (by decide) ?_
        refine V.run 3 (pc' := 49) (ls' := [.ref 18, .null, .int v2, .int (v3 / (iI 10)), .int (v4 + (iI 1))]) (st' := []) (S' := (M1, L)) rfl ?_
        exact h
