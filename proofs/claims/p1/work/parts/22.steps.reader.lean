set_option maxRecDepth 100000 in
set_option maxHeartbeats 4000000 in
theorem s_LineReader_readLine_0 {l : Launch} {Γ : qG} {d r : Nat} {M : qM} {L : Nat → Int64} {P : Int32 → qM → Prop} (t : Nat) (ho : (t = 1) ∨ (t = 7)) (h : ∃ P1 : qM → Prop, V l Γ T_LineReader_open d 0 0 [.ref 5, .ref t] [] (M, L) (q_n L P1) ∧ ∀ (M1 : qM), P1 M1 → ∃ P2 : Int32 → qM → Prop, V l Γ T_LineReader_readNumber d 0 0 [.ref 5, .int (iI 1), .int (iI 99), .null, .null, .null, .null] [] (M1, L) (q_i L P2) ∧ ∀ (x2 : Int32) (M2 : qM), P2 x2 M2 → (¬ x2 = (iI (-1)) → ∃ P3 : Int32 → qM → Prop, V l Γ T_LineReader_reachesEnd d 0 0 [.ref 5] [] ((q_up (q_up M2 5 2 x2) 5 1 (iI 0)), L) (q_i L P3) ∧ ∀ (x3 : Int32) (M3 : qM), P3 x3 M3 → (¬ x3 = 0 → P (iI 1) M3) ∧ (¬ (¬ x3 = 0) → ∃ P4 : Int32 → qM → Prop, V l Γ T_LineReader_readStatement d 0 0 [.ref 5] [] (M3, L) (q_i L P4) ∧ ∀ (x4 : Int32) (M4 : qM), P4 x4 M4 → (x4 = 0 → P (iI 0) M4) ∧ (¬ x4 = 0 → ∃ P5 : Int32 → qM → Prop, V l Γ T_LineReader_reachesEnd d 0 0 [.ref 5] [] (M4, L) (q_i L P5) ∧ ∀ (x5 : Int32) (M5 : qM), P5 x5 M5 → (x5 = 0 → P (iI 0) M5) ∧ (¬ x5 = 0 → P (iI 1) M5)))) ∧ (¬ (¬ x2 = (iI (-1))) → P (iI 0) (q_up (q_up M2 5 2 x2) 5 1 (iI 0)))) : V l Γ T_LineReader_readLine (d + 1) r 0 [.ref 5, .ref t] [] (M, L) (q_i L P) := by
  rcases ho with rfl | rfl
  · refine V.run 2 (pc' := 2) (ls' := [.ref 5, .ref 1]) (st' := [.ref 1, .ref 5]) (S' := (M, L)) rfl ?_
    obtain ⟨P1, hv1, h⟩ := h
    refine V.callVv (T2 := T_LineReader_open) (As := [.ref 1]) (rest := []) rfl rfl g_LineReader_open rfl rfl rfl rfl (Nat.le_of_ble_eq_true rfl) (by simp [Value.category]) (by simp [Value.category]) (Nat.le_of_ble_eq_true rfl) (Nat.le_refl _) hv1 (fun M1 hq => ?_)
    have h := h M1 hq
    refine V.run 4 (pc' := 10) (ls' := [.ref 5, .ref 1]) (st' := [.int (iI 99), .int (iI 1), .ref 5, .ref 5]) (S' := (M1, L)) rfl ?_
    obtain ⟨P2, hv2, h⟩ := h
    refine V.callVi (T2 := T_LineReader_readNumber) (As := [.int (iI 1), .int (iI 99)]) (rest := [.ref 5]) rfl rfl g_LineReader_readNumber rfl rfl rfl rfl (Nat.le_of_ble_eq_true rfl) (by simp [Value.category]) (by simp [Value.category]) (Nat.le_of_ble_eq_true rfl) (Nat.le_refl _) hv2 (fun x2 M2 hq => ?_)
    have h := h x2 M2 hq
    refine V.run 7 (pc' := 26) (ls' := [.ref 5, .ref 1]) (st' := [.int (iI (-1)), .int x2]) (S' := ((q_up (q_up M2 5 2 x2) 5 1 (iI 0)), L)) rfl ?_
    refine V.icmp (cd := .ne) rfl (fun hc => ?_) (fun hc => ?_)
    · have h := h.1 hc
      refine V.run 1 (pc' := 32) (ls' := [.ref 5, .ref 1]) (st' := [.ref 5]) (S' := ((q_up (q_up M2 5 2 x2) 5 1 (iI 0)), L)) rfl ?_
      obtain ⟨P3, hv3, h⟩ := h
      refine V.callVi (T2 := T_LineReader_reachesEnd) (As := []) (rest := []) rfl rfl g_LineReader_reachesEnd rfl rfl rfl rfl (Nat.le_of_ble_eq_true rfl) (by simp [Value.category]) (by simp [Value.category]) (Nat.le_of_ble_eq_true rfl) (Nat.le_refl _) hv3 (fun x3 M3 hq => ?_)
      have h := h x3 M3 hq
      refine V.ifc (cd := .ne) rfl (fun hc => ?_) (fun hc => ?_)
      · have h := h.1 hc
        refine V.run 2 (pc' := 57) (ls' := [.ref 5, .ref 1]) (st' := [.int (iI 1)]) (S' := (M3, L)) rfl ?_
        exact V.zret rfl rfl (by decide) ⟨_, _, rfl, rfl, h⟩
      · have h := h.2 hc
        refine V.run 1 (pc' := 39) (ls' := [.ref 5, .ref 1]) (st' := [.ref 5]) (S' := (M3, L)) rfl ?_
        obtain ⟨P4, hv4, h⟩ := h
        refine V.callVi (T2 := T_LineReader_readStatement) (As := []) (rest := []) rfl rfl g_LineReader_readStatement rfl rfl rfl rfl (Nat.le_of_ble_eq_true rfl) (by simp [Value.category]) (by simp [Value.category]) (Nat.le_of_ble_eq_true rfl) (Nat.le_refl _) hv4 (fun x4 M4 hq => ?_)
        have h := h x4 M4 hq
        refine V.ifc (cd := .eq) rfl (fun hc => ?_) (fun hc => ?_)
        · have h := h.1 hc
          refine V.run 1 (pc' := 57) (ls' := [.ref 5, .ref 1]) (st' := [.int (iI 0)]) (S' := (M4, L)) rfl ?_
          exact V.zret rfl rfl (by decide) ⟨_, _, rfl, rfl, h⟩
        · have h := h.2 hc
          refine V.run 1 (pc' := 46) (ls' := [.ref 5, .ref 1]) (st' := [.ref 5]) (S' := (M4, L)) rfl ?_
          obtain ⟨P5, hv5, h⟩ := h
          refine V.callVi (T2 := T_LineReader_reachesEnd) (As := []) (rest := []) rfl rfl g_LineReader_reachesEnd rfl rfl rfl rfl (Nat.le_of_ble_eq_true rfl) (by simp [Value.category]) (by simp [Value.category]) (Nat.le_of_ble_eq_true rfl) (Nat.le_refl _) hv5 (fun x5 M5 hq => ?_)
          have h := h x5 M5 hq
          refine V.ifc (cd := .eq) rfl (fun hc => ?_) (fun hc => ?_)
          · have h := h.1 hc
            refine V.run 1 (pc' := 57) (ls' := [.ref 5, .ref 1]) (st' := [.int (iI 0)]) (S' := (M5, L)) rfl ?_
            exact V.zret rfl rfl (by decide) ⟨_, _, rfl, rfl, h⟩
          · have h := h.2 hc
            refine V.run 2 (pc' := 57) (ls' := [.ref 5, .ref 1]) (st' := [.int (iI 1)]) (S' := (M5, L)) rfl ?_
            exact V.zret rfl rfl (by decide) ⟨_, _, rfl, rfl, h⟩
    · have h := h.2 hc
      refine V.run 1 (pc' := 30) (ls' := [.ref 5, .ref 1]) (st' := [.int (iI 0)]) (S' := ((q_up (q_up M2 5 2 x2) 5 1 (iI 0)), L)) rfl ?_
      exact V.zret rfl rfl (by decide) ⟨_, _, rfl, rfl, h⟩
  · refine V.run 2 (pc' := 2) (ls' := [.ref 5, .ref 7]) (st' := [.ref 7, .ref 5]) (S' := (M, L)) rfl ?_
    obtain ⟨P1, hv1, h⟩ := h
    refine V.callVv (T2 := T_LineReader_open) (As := [.ref 7]) (rest := []) rfl rfl g_LineReader_open rfl rfl rfl rfl (Nat.le_of_ble_eq_true rfl) (by simp [Value.category]) (by simp [Value.category]) (Nat.le_of_ble_eq_true rfl) (Nat.le_refl _) hv1 (fun M1 hq => ?_)
    have h := h M1 hq
    refine V.run 4 (pc' := 10) (ls' := [.ref 5, .ref 7]) (st' := [.int (iI 99), .int (iI 1), .ref 5, .ref 5]) (S' := (M1, L)) rfl ?_
    obtain ⟨P2, hv2, h⟩ := h
    refine V.callVi (T2 := T_LineReader_readNumber) (As := [.int (iI 1), .int (iI 99)]) (rest := [.ref 5]) rfl rfl g_LineReader_readNumber rfl rfl rfl rfl (Nat.le_of_ble_eq_true rfl) (by simp [Value.category]) (by simp [Value.category]) (Nat.le_of_ble_eq_true rfl) (Nat.le_refl _) hv2 (fun x2 M2 hq => ?_)
    have h := h x2 M2 hq
    refine V.run 7 (pc' := 26) (ls' := [.ref 5, .ref 7]) (st' := [.int (iI (-1)), .int x2]) (S' := ((q_up (q_up M2 5 2 x2) 5 1 (iI 0)), L)) rfl ?_
    refine V.icmp (cd := .ne) rfl (fun hc => ?_) (fun hc => ?_)
    · have h := h.1 hc
      refine V.run 1 (pc' := 32) (ls' := [.ref 5, .ref 7]) (st' := [.ref 5]) (S' := ((q_up (q_up M2 5 2 x2) 5 1 (iI 0)), L)) rfl ?_
      obtain ⟨P3, hv3, h⟩ := h
      refine V.callVi (T2 := T_LineReader_reachesEnd) (As := []) (rest := []) rfl rfl g_LineReader_reachesEnd rfl rfl rfl rfl (Nat.le_of_ble_eq_true rfl) (by simp [Value.category]) (by simp [Value.category]) (Nat.le_of_ble_eq_true rfl) (Nat.le_refl _) hv3 (fun x3 M3 hq => ?_)
      have h := h x3 M3 hq
      refine V.ifc (cd := .ne) rfl (fun hc => ?_) (fun hc => ?_)
      · have h := h.1 hc
        refine V.run 2 (pc' := 57) (ls' := [.ref 5, .ref 7]) (st' := [.int (iI 1)]) (S' := (M3, L)) rfl ?_
        exact V.zret rfl rfl (by decide) ⟨_, _, rfl, rfl, h⟩
      · have h := h.2 hc
        refine V.run 1 (pc' := 39) (ls' := [.ref 5, .ref 7]) (st' := [.ref 5]) (S' := (M3, L)) rfl ?_
        obtain ⟨P4, hv4, h⟩ := h
        refine V.callVi (T2 := T_LineReader_readStatement) (As := []) (rest := []) rfl rfl g_LineReader_readStatement rfl rfl rfl rfl (Nat.le_of_ble_eq_true rfl) (by simp [Value.category]) (by simp [Value.category]) (Nat.le_of_ble_eq_true rfl) (Nat.le_refl _) hv4 (fun x4 M4 hq => ?_)
        have h := h x4 M4 hq
        refine V.ifc (cd := .eq) rfl (fun hc => ?_) (fun hc => ?_)
        · have h := h.1 hc
          refine V.run 1 (pc' := 57) (ls' := [.ref 5, .ref 7]) (st' := [.int (iI 0)]) (S' := (M4, L)) rfl ?_
          exact V.zret rfl rfl (by decide) ⟨_, _, rfl, rfl, h⟩
        · have h := h.2 hc
          refine V.run 1 (pc' := 46) (ls' := [.ref 5, .ref 7]) (st' := [.ref 5]) (S' := (M4, L)) rfl ?_
          obtain ⟨P5, hv5, h⟩ := h
          refine V.callVi (T2 := T_LineReader_reachesEnd) (As := []) (rest := []) rfl rfl g_LineReader_reachesEnd rfl rfl rfl rfl (Nat.le_of_ble_eq_true rfl) (by simp [Value.category]) (by simp [Value.category]) (Nat.le_of_ble_eq_true rfl) (Nat.le_refl _) hv5 (fun x5 M5 hq => ?_)
          have h := h x5 M5 hq
          refine V.ifc (cd := .eq) rfl (fun hc => ?_) (fun hc => ?_)
          · have h := h.1 hc
            refine V.run 1 (pc' := 57) (ls' := [.ref 5, .ref 7]) (st' := [.int (iI 0)]) (S' := (M5, L)) rfl ?_
            exact V.zret rfl rfl (by decide) ⟨_, _, rfl, rfl, h⟩
          · have h := h.2 hc
            refine V.run 2 (pc' := 57) (ls' := [.ref 5, .ref 7]) (st' := [.int (iI 1)]) (S' := (M5, L)) rfl ?_
            exact V.zret rfl rfl (by decide) ⟨_, _, rfl, rfl, h⟩
    · have h := h.2 hc
      refine V.run 1 (pc' := 30) (ls' := [.ref 5, .ref 7]) (st' := [.int (iI 0)]) (S' := ((q_up (q_up M2 5 2 x2) 5 1 (iI 0)), L)) rfl ?_
      exact V.zret rfl rfl (by decide) ⟨_, _, rfl, rfl, h⟩
set_option maxRecDepth 100000 in
set_option maxHeartbeats 4000000 in
theorem s_LineReader_acceptsProgram_0 {l : Launch} {Γ : qG} {d r : Nat} {M : qM} {L : Nat → Int64} {P : Int32 → qM → Prop} (t : Nat) (ho : (t = 1) ∨ (t = 7)) (b : Int32) (h : V l Γ T_LineReader_acceptsProgram (d + 1) r 5 [.ref 5, .ref 26, .int b, .int (iI 0), .int (iI 0), .null] [] (M, L) (q_i L P)) : V l Γ T_LineReader_acceptsProgram (d + 1) r 0 [.ref 5, .ref 26, .int b, .null, .null, .null] [] (M, L) (q_i L P) := by
  rcases ho with rfl | rfl
  · refine V.run 4 (pc' := 5) (ls' := [.ref 5, .ref 26, .int b, .int (iI 0), .int (iI 0), .null]) (st' := []) (S' := (M, L)) rfl ?_
    exact h
  · refine V.run 4 (pc' := 5) (ls' := [.ref 5, .ref 26, .int b, .int (iI 0), .int (iI 0), .null]) (st' := []) (S' := (M, L)) rfl ?_
    exact h
set_option maxRecDepth 100000 in
set_option maxHeartbeats 4000000 in
theorem s_LineReader_acceptsProgram_5 {l : Launch} {Γ : qG} {d r : Nat} {M : qM} {L : Nat → Int64} {P : Int32 → qM → Prop} (t : Nat) (ho : (t = 1) ∨ (t = 7)) (v2 v3 v4 : Int32) (h : (v2 ≤ v4 → ((iI 200) < v2 → P (iI 0) M) ∧ (¬ (iI 200) < v2 → P (iI 1) M)) ∧ (¬ v2 ≤ v4 → (v2 ≤ (v4 + (iI 2)) → P (iI 0) M) ∧ (¬ v2 ≤ (v4 + (iI 2)) → vp_in v4 257 ∧ ((M 26 (v4).toNatClampNeg) ≤ v3 → P (iI 0) M) ∧ (¬ (M 26 (v4).toNatClampNeg) ≤ v3 → vp_in v4 257 ∧ ((M 26 (v4).toNatClampNeg) ≤ (iI 99) → vp_in v4 257 ∧ vp_in (v4 + (iI 1)) 257 ∧ ((v2 - (v4 + (iI 2))) < (M 26 ((v4 + (iI 1))).toNatClampNeg) → P (iI 0) M) ∧ (¬ (v2 - (v4 + (iI 2))) < (M 26 ((v4 + (iI 1))).toNatClampNeg) → ∃ P1 : Int32 → qM → Prop, V l Γ T_LineReader_acceptsStatement d 0 0 [.ref 5, .ref 26, .int (v4 + (iI 2)), .int (M 26 ((v4 + (iI 1))).toNatClampNeg), .null] [] (M, L) (q_i L P1) ∧ ∀ (x1 : Int32) (M1 : qM), P1 x1 M1 → (¬ x1 = 0 → V l Γ T_LineReader_acceptsProgram (d + 1) r 5 [.ref 5, .ref 26, .int v2, .int (M 26 (v4).toNatClampNeg), .int ((v4 + (iI 2)) + (M 26 ((v4 + (iI 1))).toNatClampNeg)), .null] [] (M1, L) (q_i L P)) ∧ (¬ (¬ x1 = 0) → P (iI 0) M1))) ∧ (¬ (M 26 (v4).toNatClampNeg) ≤ (iI 99) → P (iI 0) M))))) : V l Γ T_LineReader_acceptsProgram (d + 1) r 5 [.ref 5, .ref 26, .int v2, .int v3, .int v4, .null] [] (M, L) (q_i L P) := by
  rcases ho with rfl | rfl
  · refine V.run 2 (pc' := 8) (ls' := [.ref 5, .ref 26, .int v2, .int v3, .int v4, .null]) (st' := [.int v2, .int v4]) (S' := (M, L)) rfl ?_
    refine V.icmp (cd := .ge) rfl (fun hc => ?_) (fun hc => ?_)
    · have h := h.1 hc
      refine V.run 2 (pc' := 91) (ls' := [.ref 5, .ref 26, .int v2, .int v3, .int v4, .null]) (st' := [.int (iI 200), .int v2]) (S' := (M, L)) rfl ?_
      refine V.icmp (cd := .gt) rfl (fun hc => ?_) (fun hc => ?_)
      · have h := h.1 hc
        refine V.run 1 (pc' := 99) (ls' := [.ref 5, .ref 26, .int v2, .int v3, .int v4, .null]) (st' := [.int (iI 0)]) (S' := (M, L)) rfl ?_
        exact V.zret rfl rfl (by decide) ⟨_, _, rfl, rfl, h⟩
      · have h := h.2 hc
        refine V.run 2 (pc' := 99) (ls' := [.ref 5, .ref 26, .int v2, .int v3, .int v4, .null]) (st' := [.int (iI 1)]) (S' := (M, L)) rfl ?_
        exact V.zret rfl rfl (by decide) ⟨_, _, rfl, rfl, h⟩
    · have h := h.2 hc
      refine V.run 4 (pc' := 16) (ls' := [.ref 5, .ref 26, .int v2, .int v3, .int v4, .null]) (st' := [.int v2, .int (v4 + (iI 2))]) (S' := (M, L)) rfl ?_
      refine V.icmp (cd := .ge) rfl (fun hc => ?_) (fun hc => ?_)
      · have h := h.1 hc
        refine V.run 1 (pc' := 37) (ls' := [.ref 5, .ref 26, .int v2, .int v3, .int v4, .null]) (st' := [.int (iI 0)]) (S' := (M, L)) rfl ?_
        exact V.zret rfl rfl (by decide) ⟨_, _, rfl, rfl, h⟩
      · have h := h.2 hc
        refine V.run 2 (pc' := 22) (ls' := [.ref 5, .ref 26, .int v2, .int v3, .int v4, .null]) (st' := [.int v4, .ref 26]) (S' := (M, L)) rfl ?_
        refine V.iald rfl rfl h.1 ?_
        have h := h.2
        refine V.run 1 (pc' := 24) (ls' := [.ref 5, .ref 26, .int v2, .int v3, .int v4, .null]) (st' := [.int v3, .int (M 26 (v4).toNatClampNeg)]) (S' := (M, L)) rfl ?_
        refine V.icmp (cd := .le) rfl (fun hc => ?_) (fun hc => ?_)
        · have h := h.1 hc
          refine V.run 1 (pc' := 37) (ls' := [.ref 5, .ref 26, .int v2, .int v3, .int v4, .null]) (st' := [.int (iI 0)]) (S' := (M, L)) rfl ?_
          exact V.zret rfl rfl (by decide) ⟨_, _, rfl, rfl, h⟩
        · have h := h.2 hc
          refine V.run 2 (pc' := 30) (ls' := [.ref 5, .ref 26, .int v2, .int v3, .int v4, .null]) (st' := [.int v4, .ref 26]) (S' := (M, L)) rfl ?_
          refine V.iald rfl rfl h.1 ?_
          have h := h.2
          refine V.run 1 (pc' := 33) (ls' := [.ref 5, .ref 26, .int v2, .int v3, .int v4, .null]) (st' := [.int (iI 99), .int (M 26 (v4).toNatClampNeg)]) (S' := (M, L)) rfl ?_
          refine V.icmp (cd := .le) rfl (fun hc => ?_) (fun hc => ?_)
          · have h := h.1 hc
            refine V.run 2 (pc' := 41) (ls' := [.ref 5, .ref 26, .int v2, .int v3, .int v4, .null]) (st' := [.int v4, .ref 26]) (S' := (M, L)) rfl ?_
            refine V.iald rfl rfl h.1 ?_
            have h := h.2
            refine V.run 5 (pc' := 48) (ls' := [.ref 5, .ref 26, .int v2, .int (M 26 (v4).toNatClampNeg), .int v4, .null]) (st' := [.int (v4 + (iI 1)), .ref 26]) (S' := (M, L)) rfl ?_
            refine V.iald rfl rfl h.1 ?_
            have h := h.2
            refine V.run 6 (pc' := 60) (ls' := [.ref 5, .ref 26, .int v2, .int (M 26 (v4).toNatClampNeg), .int (v4 + (iI 2)), .int (M 26 ((v4 + (iI 1))).toNatClampNeg)]) (st' := [.int (v2 - (v4 + (iI 2))), .int (M 26 ((v4 + (iI 1))).toNatClampNeg)]) (S' := (M, L)) rfl ?_
            refine V.icmp (cd := .gt) rfl (fun hc => ?_) (fun hc => ?_)
            · have h := h.1 hc
              refine V.run 1 (pc' := 76) (ls' := [.ref 5, .ref 26, .int v2, .int (M 26 (v4).toNatClampNeg), .int (v4 + (iI 2)), .int (M 26 ((v4 + (iI 1))).toNatClampNeg)]) (st' := [.int (iI 0)]) (S' := (M, L)) rfl ?_
              exact V.zret rfl rfl (by decide) ⟨_, _, rfl, rfl, h⟩
            · have h := h.2 hc
              refine V.run 4 (pc' := 69) (ls' := [.ref 5, .ref 26, .int v2, .int (M 26 (v4).toNatClampNeg), .int (v4 + (iI 2)), .int (M 26 ((v4 + (iI 1))).toNatClampNeg)]) (st' := [.int (M 26 ((v4 + (iI 1))).toNatClampNeg), .int (v4 + (iI 2)), .ref 26, .ref 5]) (S' := (M, L)) rfl ?_
              obtain ⟨P1, hv1, h⟩ := h
              refine V.callVi (T2 := T_LineReader_acceptsStatement) (As := [.ref 26, .int (v4 + (iI 2)), .int (M 26 ((v4 + (iI 1))).toNatClampNeg)]) (rest := []) rfl rfl g_LineReader_acceptsStatement rfl rfl rfl rfl (Nat.le_of_ble_eq_true rfl) (by simp [Value.category]) (by simp [Value.category]) (Nat.le_of_ble_eq_true rfl) (Nat.le_refl _) hv1 (fun x1 M1 hq => ?_)
              have h := h x1 M1 hq
              refine V.ifc (cd := .ne) rfl (fun hc => ?_) (fun hc => ?_)
              · have h := h.1 hc
                refine V.run 5 (pc' := 5) (ls' := [.ref 5, .ref 26, .int v2, .int (M 26 (v4).toNatClampNeg), .int ((v4 + (iI 2)) + (M 26 ((v4 + (iI 1))).toNatClampNeg)), .int (M 26 ((v4 + (iI 1))).toNatClampNeg)]) (st' := []) (S' := (M1, L)) rfl ?_
                refine V.forget (ls' := [.ref 5, .ref 26, .int v2, .int (M 26 (v4).toNatClampNeg), .int ((v4 + (iI 2)) + (M 26 ((v4 + (iI 1))).toNatClampNeg)), .null]) ⟨Or.inr rfl, Or.inr rfl, Or.inr rfl, Or.inr rfl, Or.inr rfl, Or.inl rfl, trivial⟩ ?_
                exact h
              · have h := h.2 hc
                refine V.run 1 (pc' := 76) (ls' := [.ref 5, .ref 26, .int v2, .int (M 26 (v4).toNatClampNeg), .int (v4 + (iI 2)), .int (M 26 ((v4 + (iI 1))).toNatClampNeg)]) (st' := [.int (iI 0)]) (S' := (M1, L)) rfl ?_
                exact V.zret rfl rfl (by decide) ⟨_, _, rfl, rfl, h⟩
          · have h := h.2 hc
            refine V.run 1 (pc' := 37) (ls' := [.ref 5, .ref 26, .int v2, .int v3, .int v4, .null]) (st' := [.int (iI 0)]) (S' := (M, L)) rfl ?_
            exact V.zret rfl rfl (by decide) ⟨_, _, rfl, rfl, h⟩
  · refine V.run 2 (pc' := 8) (ls' := [.ref 5, .ref 26, .int v2, .int v3, .int v4, .null]) (st' := [.int v2, .int v4]) (S' := (M, L)) rfl ?_
    refine V.icmp (cd := .ge) rfl (fun hc => ?_) (fun hc => ?_)
    · have h := h.1 hc
      refine V.run 2 (pc' := 91) (ls' := [.ref 5, .ref 26, .int v2, .int v3, .int v4, .null]) (st' := [.int (iI 200), .int v2]) (S' := (M, L)) rfl ?_
      refine V.icmp (cd := .gt) rfl (fun hc => ?_) (fun hc => ?_)
      · have h := h.1 hc
        refine V.run 1 (pc' := 99) (ls' := [.ref 5, .ref 26, .int v2, .int v3, .int v4, .null]) (st' := [.int (iI 0)]) (S' := (M, L)) rfl ?_
        exact V.zret rfl rfl (by decide) ⟨_, _, rfl, rfl, h⟩
      · have h := h.2 hc
        refine V.run 2 (pc' := 99) (ls' := [.ref 5, .ref 26, .int v2, .int v3, .int v4, .null]) (st' := [.int (iI 1)]) (S' := (M, L)) rfl ?_
        exact V.zret rfl rfl (by decide) ⟨_, _, rfl, rfl, h⟩
    · have h := h.2 hc
      refine V.run 4 (pc' := 16) (ls' := [.ref 5, .ref 26, .int v2, .int v3, .int v4, .null]) (st' := [.int v2, .int (v4 + (iI 2))]) (S' := (M, L)) rfl ?_
      refine V.icmp (cd := .ge) rfl (fun hc => ?_) (fun hc => ?_)
      · have h := h.1 hc
        refine V.run 1 (pc' := 37) (ls' := [.ref 5, .ref 26, .int v2, .int v3, .int v4, .null]) (st' := [.int (iI 0)]) (S' := (M, L)) rfl ?_
        exact V.zret rfl rfl (by decide) ⟨_, _, rfl, rfl, h⟩
      · have h := h.2 hc
        refine V.run 2 (pc' := 22) (ls' := [.ref 5, .ref 26, .int v2, .int v3, .int v4, .null]) (st' := [.int v4, .ref 26]) (S' := (M, L)) rfl ?_
        refine V.iald rfl rfl h.1 ?_
        have h := h.2
        refine V.run 1 (pc' := 24) (ls' := [.ref 5, .ref 26, .int v2, .int v3, .int v4, .null]) (st' := [.int v3, .int (M 26 (v4).toNatClampNeg)]) (S' := (M, L)) rfl ?_
        refine V.icmp (cd := .le) rfl (fun hc => ?_) (fun hc => ?_)
        · have h := h.1 hc
          refine V.run 1 (pc' := 37) (ls' := [.ref 5, .ref 26, .int v2, .int v3, .int v4, .null]) (st' := [.int (iI 0)]) (S' := (M, L)) rfl ?_
          exact V.zret rfl rfl (by decide) ⟨_, _, rfl, rfl, h⟩
        · have h := h.2 hc
          refine V.run 2 (pc' := 30) (ls' := [.ref 5, .ref 26, .int v2, .int v3, .int v4, .null]) (st' := [.int v4, .ref 26]) (S' := (M, L)) rfl ?_
          refine V.iald rfl rfl h.1 ?_
          have h := h.2
          refine V.run 1 (pc' := 33) (ls' := [.ref 5, .ref 26, .int v2, .int v3, .int v4, .null]) (st' := [.int (iI 99), .int (M 26 (v4).toNatClampNeg)]) (S' := (M, L)) rfl ?_
          refine V.icmp (cd := .le) rfl (fun hc => ?_) (fun hc => ?_)
          · have h := h.1 hc
            refine V.run 2 (pc' := 41) (ls' := [.ref 5, .ref 26, .int v2, .int v3, .int v4, .null]) (st' := [.int v4, .ref 26]) (S' := (M, L)) rfl ?_
            refine V.iald rfl rfl h.1 ?_
            have h := h.2
            refine V.run 5 (pc' := 48) (ls' := [.ref 5, .ref 26, .int v2, .int (M 26 (v4).toNatClampNeg), .int v4, .null]) (st' := [.int (v4 + (iI 1)), .ref 26]) (S' := (M, L)) rfl ?_
            refine V.iald rfl rfl h.1 ?_
            have h := h.2
            refine V.run 6 (pc' := 60) (ls' := [.ref 5, .ref 26, .int v2, .int (M 26 (v4).toNatClampNeg), .int (v4 + (iI 2)), .int (M 26 ((v4 + (iI 1))).toNatClampNeg)]) (st' := [.int (v2 - (v4 + (iI 2))), .int (M 26 ((v4 + (iI 1))).toNatClampNeg)]) (S' := (M, L)) rfl ?_
            refine V.icmp (cd := .gt) rfl (fun hc => ?_) (fun hc => ?_)
            · have h := h.1 hc
              refine V.run 1 (pc' := 76) (ls' := [.ref 5, .ref 26, .int v2, .int (M 26 (v4).toNatClampNeg), .int (v4 + (iI 2)), .int (M 26 ((v4 + (iI 1))).toNatClampNeg)]) (st' := [.int (iI 0)]) (S' := (M, L)) rfl ?_
              exact V.zret rfl rfl (by decide) ⟨_, _, rfl, rfl, h⟩
            · have h := h.2 hc
              refine V.run 4 (pc' := 69) (ls' := [.ref 5, .ref 26, .int v2, .int (M 26 (v4).toNatClampNeg), .int (v4 + (iI 2)), .int (M 26 ((v4 + (iI 1))).toNatClampNeg)]) (st' := [.int (M 26 ((v4 + (iI 1))).toNatClampNeg), .int (v4 + (iI 2)), .ref 26, .ref 5]) (S' := (M, L)) rfl ?_
              obtain ⟨P1, hv1, h⟩ := h
              refine V.callVi (T2 := T_LineReader_acceptsStatement) (As := [.ref 26, .int (v4 + (iI 2)), .int (M 26 ((v4 + (iI 1))).toNatClampNeg)]) (rest := []) rfl rfl g_LineReader_acceptsStatement rfl rfl rfl rfl (Nat.le_of_ble_eq_true rfl) (by simp [Value.category]) (by simp [Value.category]) (Nat.le_of_ble_eq_true rfl) (Nat.le_refl _) hv1 (fun x1 M1 hq => ?_)
              have h := h x1 M1 hq
              refine V.ifc (cd := .ne) rfl (fun hc => ?_) (fun hc => ?_)
              · have h := h.1 hc
                refine V.run 5 (pc' := 5) (ls' := [.ref 5, .ref 26, .int v2, .int (M 26 (v4).toNatClampNeg), .int ((v4 + (iI 2)) + (M 26 ((v4 + (iI 1))).toNatClampNeg)), .int (M 26 ((v4 + (iI 1))).toNatClampNeg)]) (st' := []) (S' := (M1, L)) rfl ?_
                refine V.forget (ls' := [.ref 5, .ref 26, .int v2, .int (M 26 (v4).toNatClampNeg), .int ((v4 + (iI 2)) + (M 26 ((v4 + (iI 1))).toNatClampNeg)), .null]) ⟨Or.inr rfl, Or.inr rfl, Or.inr rfl, Or.inr rfl, Or.inr rfl, Or.inl rfl, trivial⟩ ?_
                exact h
              · have h := h.2 hc
                refine V.run 1 (pc' := 76) (ls' := [.ref 5, .ref 26, .int v2, .int (M 26 (v4).toNatClampNeg), .int (v4 + (iI 2)), .int (M 26 ((v4 + (iI 1))).toNatClampNeg)]) (st' := [.int (iI 0)]) (S' := (M1, L)) rfl ?_
                exact V.zret rfl rfl (by decide) ⟨_, _, rfl, rfl, h⟩
          · have h := h.2 hc
            refine V.run 1 (pc' := 37) (ls' := [.ref 5, .ref 26, .int v2, .int v3, .int v4, .null]) (st' := [.int (iI 0)]) (S' := (M, L)) rfl ?_
            exact V.zret rfl rfl (by decide) ⟨_, _, rfl, rfl, h⟩
set_option maxRecDepth 100000 in
set_option maxHeartbeats 4000000 in
theorem s_LineReader_acceptsStatement_0 {l : Launch} {Γ : qG} {d r : Nat} {M : qM} {L : Nat → Int64} {P : Int32 → qM → Prop} (t : Nat) (ho : (t = 1) ∨ (t = 7)) (b c : Int32) (h : ∃ P1 : qM → Prop, V l Γ T_Sheet_spell d 0 0 [.ref 7, .ref 26, .int b, .int c, .null, .null] [] ((q_up M 7 1 (iI 0)), L) (q_n L P1) ∧ ∀ (M1 : qM), P1 M1 → ∃ P2 : qM → Prop, V l Γ T_LineReader_open d 0 0 [.ref 5, .ref 7] [] (M1, L) (q_n L P2) ∧ ∀ (M2 : qM), P2 M2 → ∃ P3 : Int32 → qM → Prop, V l Γ T_LineReader_readStatement d 0 0 [.ref 5] [] (M2, L) (q_i L P3) ∧ ∀ (x3 : Int32) (M3 : qM), P3 x3 M3 → (x3 = 0 → P (iI 0) M3) ∧ (¬ x3 = 0 → ∃ P4 : Int32 → qM → Prop, V l Γ T_LineReader_reachesEnd d 0 0 [.ref 5] [] (M3, L) (q_i L P4) ∧ ∀ (x4 : Int32) (M4 : qM), P4 x4 M4 → (x4 = 0 → P (iI 0) M4) ∧ (¬ x4 = 0 → ((M4 5 1) = c → V l Γ T_LineReader_acceptsStatement (d + 1) r 53 [.ref 5, .ref 26, .int b, .int c, .int (iI 0)] [] (M4, L) (q_i L P)) ∧ (¬ (M4 5 1) = c → P (iI 0) M4)))) : V l Γ T_LineReader_acceptsStatement (d + 1) r 0 [.ref 5, .ref 26, .int b, .int c, .null] [] (M, L) (q_i L P) := by
  rcases ho with rfl | rfl
  · refine V.run 9 (pc' := 15) (ls' := [.ref 5, .ref 26, .int b, .int c, .null]) (st' := [.int c, .int b, .ref 26, .ref 7]) (S' := ((q_up M 7 1 (iI 0)), L)) rfl ?_
    obtain ⟨P1, hv1, h⟩ := h
    refine V.callVv (T2 := T_Sheet_spell) (As := [.ref 26, .int b, .int c]) (rest := []) rfl rfl g_Sheet_spell rfl rfl rfl rfl (Nat.le_of_ble_eq_true rfl) (by simp [Value.category]) (by simp [Value.category]) (Nat.le_of_ble_eq_true rfl) (Nat.le_refl _) hv1 (fun M1 hq => ?_)
    have h := h M1 hq
    refine V.run 3 (pc' := 23) (ls' := [.ref 5, .ref 26, .int b, .int c, .null]) (st' := [.ref 7, .ref 5]) (S' := (M1, L)) rfl ?_
    obtain ⟨P2, hv2, h⟩ := h
    refine V.callVv (T2 := T_LineReader_open) (As := [.ref 7]) (rest := []) rfl rfl g_LineReader_open rfl rfl rfl rfl (Nat.le_of_ble_eq_true rfl) (by simp [Value.category]) (by simp [Value.category]) (Nat.le_of_ble_eq_true rfl) (Nat.le_refl _) hv2 (fun M2 hq => ?_)
    have h := h M2 hq
    refine V.run 1 (pc' := 27) (ls' := [.ref 5, .ref 26, .int b, .int c, .null]) (st' := [.ref 5]) (S' := (M2, L)) rfl ?_
    obtain ⟨P3, hv3, h⟩ := h
    refine V.callVi (T2 := T_LineReader_readStatement) (As := []) (rest := []) rfl rfl g_LineReader_readStatement rfl rfl rfl rfl (Nat.le_of_ble_eq_true rfl) (by simp [Value.category]) (by simp [Value.category]) (Nat.le_of_ble_eq_true rfl) (Nat.le_refl _) hv3 (fun x3 M3 hq => ?_)
    have h := h x3 M3 hq
    refine V.ifc (cd := .eq) rfl (fun hc => ?_) (fun hc => ?_)
    · have h := h.1 hc
      refine V.run 1 (pc' := 49) (ls' := [.ref 5, .ref 26, .int b, .int c, .null]) (st' := [.int (iI 0)]) (S' := (M3, L)) rfl ?_
      exact V.zret rfl rfl (by decide) ⟨_, _, rfl, rfl, h⟩
    · have h := h.2 hc
      refine V.run 1 (pc' := 34) (ls' := [.ref 5, .ref 26, .int b, .int c, .null]) (st' := [.ref 5]) (S' := (M3, L)) rfl ?_
      obtain ⟨P4, hv4, h⟩ := h
      refine V.callVi (T2 := T_LineReader_reachesEnd) (As := []) (rest := []) rfl rfl g_LineReader_reachesEnd rfl rfl rfl rfl (Nat.le_of_ble_eq_true rfl) (by simp [Value.category]) (by simp [Value.category]) (Nat.le_of_ble_eq_true rfl) (Nat.le_refl _) hv4 (fun x4 M4 hq => ?_)
      have h := h x4 M4 hq
      refine V.ifc (cd := .eq) rfl (fun hc => ?_) (fun hc => ?_)
      · have h := h.1 hc
        refine V.run 1 (pc' := 49) (ls' := [.ref 5, .ref 26, .int b, .int c, .null]) (st' := [.int (iI 0)]) (S' := (M4, L)) rfl ?_
        exact V.zret rfl rfl (by decide) ⟨_, _, rfl, rfl, h⟩
      · have h := h.2 hc
        refine V.run 3 (pc' := 45) (ls' := [.ref 5, .ref 26, .int b, .int c, .null]) (st' := [.int c, .int (M4 5 1)]) (S' := (M4, L)) rfl ?_
        refine V.icmp (cd := .eq) rfl (fun hc => ?_) (fun hc => ?_)
        · have h := h.1 hc
          refine V.run 2 (pc' := 53) (ls' := [.ref 5, .ref 26, .int b, .int c, .int (iI 0)]) (st' := []) (S' := (M4, L)) rfl ?_
          exact h
        · have h := h.2 hc
          refine V.run 1 (pc' := 49) (ls' := [.ref 5, .ref 26, .int b, .int c, .null]) (st' := [.int (iI 0)]) (S' := (M4, L)) rfl ?_
          exact V.zret rfl rfl (by decide) ⟨_, _, rfl, rfl, h⟩
  · refine V.run 9 (pc' := 15) (ls' := [.ref 5, .ref 26, .int b, .int c, .null]) (st' := [.int c, .int b, .ref 26, .ref 7]) (S' := ((q_up M 7 1 (iI 0)), L)) rfl ?_
    obtain ⟨P1, hv1, h⟩ := h
    refine V.callVv (T2 := T_Sheet_spell) (As := [.ref 26, .int b, .int c]) (rest := []) rfl rfl g_Sheet_spell rfl rfl rfl rfl (Nat.le_of_ble_eq_true rfl) (by simp [Value.category]) (by simp [Value.category]) (Nat.le_of_ble_eq_true rfl) (Nat.le_refl _) hv1 (fun M1 hq => ?_)
    have h := h M1 hq
    refine V.run 3 (pc' := 23) (ls' := [.ref 5, .ref 26, .int b, .int c, .null]) (st' := [.ref 7, .ref 5]) (S' := (M1, L)) rfl ?_
    obtain ⟨P2, hv2, h⟩ := h
    refine V.callVv (T2 := T_LineReader_open) (As := [.ref 7]) (rest := []) rfl rfl g_LineReader_open rfl rfl rfl rfl (Nat.le_of_ble_eq_true rfl) (by simp [Value.category]) (by simp [Value.category]) (Nat.le_of_ble_eq_true rfl) (Nat.le_refl _) hv2 (fun M2 hq => ?_)
    have h := h M2 hq
    refine V.run 1 (pc' := 27) (ls' := [.ref 5, .ref 26, .int b, .int c, .null]) (st' := [.ref 5]) (S' := (M2, L)) rfl ?_
    obtain ⟨P3, hv3, h⟩ := h
    refine V.callVi (T2 := T_LineReader_readStatement) (As := []) (rest := []) rfl rfl g_LineReader_readStatement rfl rfl rfl rfl (Nat.le_of_ble_eq_true rfl) (by simp [Value.category]) (by simp [Value.category]) (Nat.le_of_ble_eq_true rfl) (Nat.le_refl _) hv3 (fun x3 M3 hq => ?_)
    have h := h x3 M3 hq
    refine V.ifc (cd := .eq) rfl (fun hc => ?_) (fun hc => ?_)
    · have h := h.1 hc
      refine V.run 1 (pc' := 49) (ls' := [.ref 5, .ref 26, .int b, .int c, .null]) (st' := [.int (iI 0)]) (S' := (M3, L)) rfl ?_
      exact V.zret rfl rfl (by decide) ⟨_, _, rfl, rfl, h⟩
    · have h := h.2 hc
      refine V.run 1 (pc' := 34) (ls' := [.ref 5, .ref 26, .int b, .int c, .null]) (st' := [.ref 5]) (S' := (M3, L)) rfl ?_
      obtain ⟨P4, hv4, h⟩ := h
      refine V.callVi (T2 := T_LineReader_reachesEnd) (As := []) (rest := []) rfl rfl g_LineReader_reachesEnd rfl rfl rfl rfl (Nat.le_of_ble_eq_true rfl) (by simp [Value.category]) (by simp [Value.category]) (Nat.le_of_ble_eq_true rfl) (Nat.le_refl _) hv4 (fun x4 M4 hq => ?_)
      have h := h x4 M4 hq
      refine V.ifc (cd := .eq) rfl (fun hc => ?_) (fun hc => ?_)
      · have h := h.1 hc
        refine V.run 1 (pc' := 49) (ls' := [.ref 5, .ref 26, .int b, .int c, .null]) (st' := [.int (iI 0)]) (S' := (M4, L)) rfl ?_
        exact V.zret rfl rfl (by decide) ⟨_, _, rfl, rfl, h⟩
      · have h := h.2 hc
        refine V.run 3 (pc' := 45) (ls' := [.ref 5, .ref 26, .int b, .int c, .null]) (st' := [.int c, .int (M4 5 1)]) (S' := (M4, L)) rfl ?_
        refine V.icmp (cd := .eq) rfl (fun hc => ?_) (fun hc => ?_)
        · have h := h.1 hc
          refine V.run 2 (pc' := 53) (ls' := [.ref 5, .ref 26, .int b, .int c, .int (iI 0)]) (st' := []) (S' := (M4, L)) rfl ?_
          exact h
        · have h := h.2 hc
          refine V.run 1 (pc' := 49) (ls' := [.ref 5, .ref 26, .int b, .int c, .null]) (st' := [.int (iI 0)]) (S' := (M4, L)) rfl ?_
          exact V.zret rfl rfl (by decide) ⟨_, _, rfl, rfl, h⟩
set_option maxRecDepth 100000 in
set_option maxHeartbeats 4000000 in
theorem s_LineReader_acceptsStatement_53 {l : Launch} {Γ : qG} {d r : Nat} {M : qM} {L : Nat → Int64} {P : Int32 → qM → Prop} (t : Nat) (ho : (t = 1) ∨ (t = 7)) (v2 v3 v4 : Int32) (h : (v3 ≤ v4 → P (iI 1) M) ∧ (¬ v3 ≤ v4 → vp_in v4 256 ∧ vp_in (v2 + v4) 257 ∧ ((M 6 (v4).toNatClampNeg) = (M 26 ((v2 + v4)).toNatClampNeg) → V l Γ T_LineReader_acceptsStatement (d + 1) r 53 [.ref 5, .ref 26, .int v2, .int v3, .int (v4 + (iI 1))] [] (M, L) (q_i L P)) ∧ (¬ (M 6 (v4).toNatClampNeg) = (M 26 ((v2 + v4)).toNatClampNeg) → P (iI 0) M))) : V l Γ T_LineReader_acceptsStatement (d + 1) r 53 [.ref 5, .ref 26, .int v2, .int v3, .int v4] [] (M, L) (q_i L P) := by
  rcases ho with rfl | rfl
  · refine V.run 2 (pc' := 56) (ls' := [.ref 5, .ref 26, .int v2, .int v3, .int v4]) (st' := [.int v3, .int v4]) (S' := (M, L)) rfl ?_
    refine V.icmp (cd := .ge) rfl (fun hc => ?_) (fun hc => ?_)
    · have h := h.1 hc
      refine V.run 1 (pc' := 84) (ls' := [.ref 5, .ref 26, .int v2, .int v3, .int v4]) (st' := [.int (iI 1)]) (S' := (M, L)) rfl ?_
      exact V.zret rfl rfl (by decide) ⟨_, _, rfl, rfl, h⟩
    · have h := h.2 hc
      refine V.run 3 (pc' := 65) (ls' := [.ref 5, .ref 26, .int v2, .int v3, .int v4]) (st' := [.int v4, .ref 6]) (S' := (M, L)) rfl ?_
      refine V.iald rfl rfl h.1 ?_
      have h := h.2
      refine V.run 4 (pc' := 71) (ls' := [.ref 5, .ref 26, .int v2, .int v3, .int v4]) (st' := [.int (v2 + v4), .ref 26, .int (M 6 (v4).toNatClampNeg)]) (S' := (M, L)) rfl ?_
      refine V.iald rfl rfl h.1 ?_
      have h := h.2
      refine V.icmp (cd := .eq) rfl (fun hc => ?_) (fun hc => ?_)
      · have h := h.1 hc
        refine V.run 2 (pc' := 53) (ls' := [.ref 5, .ref 26, .int v2, .int v3, .int (v4 + (iI 1))]) (st' := []) (S' := (M, L)) rfl ?_
        exact h
      · have h := h.2 hc
        refine V.run 1 (pc' := 76) (ls' := [.ref 5, .ref 26, .int v2, .int v3, .int v4]) (st' := [.int (iI 0)]) (S' := (M, L)) rfl ?_
        exact V.zret rfl rfl (by decide) ⟨_, _, rfl, rfl, h⟩
  · refine V.run 2 (pc' := 56) (ls' := [.ref 5, .ref 26, .int v2, .int v3, .int v4]) (st' := [.int v3, .int v4]) (S' := (M, L)) rfl ?_
    refine V.icmp (cd := .ge) rfl (fun hc => ?_) (fun hc => ?_)
    · have h := h.1 hc
      refine V.run 1 (pc' := 84) (ls' := [.ref 5, .ref 26, .int v2, .int v3, .int v4]) (st' := [.int (iI 1)]) (S' := (M, L)) rfl ?_
      exact V.zret rfl rfl (by decide) ⟨_, _, rfl, rfl, h⟩
    · have h := h.2 hc
      refine V.run 3 (pc' := 65) (ls' := [.ref 5, .ref 26, .int v2, .int v3, .int v4]) (st' := [.int v4, .ref 6]) (S' := (M, L)) rfl ?_
      refine V.iald rfl rfl h.1 ?_
      have h := h.2
      refine V.run 4 (pc' := 71) (ls' := [.ref 5, .ref 26, .int v2, .int v3, .int v4]) (st' := [.int (v2 + v4), .ref 26, .int (M 6 (v4).toNatClampNeg)]) (S' := (M, L)) rfl ?_
      refine V.iald rfl rfl h.1 ?_
      have h := h.2
      refine V.icmp (cd := .eq) rfl (fun hc => ?_) (fun hc => ?_)
      · have h := h.1 hc
        refine V.run 2 (pc' := 53) (ls' := [.ref 5, .ref 26, .int v2, .int v3, .int (v4 + (iI 1))]) (st' := []) (S' := (M, L)) rfl ?_
        exact h
      · have h := h.2 hc
        refine V.run 1 (pc' := 76) (ls' := [.ref 5, .ref 26, .int v2, .int v3, .int v4]) (st' := [.int (iI 0)]) (S' := (M, L)) rfl ?_
        exact V.zret rfl rfl (by decide) ⟨_, _, rfl, rfl, h⟩
set_option maxRecDepth 100000 in
set_option maxHeartbeats 4000000 in
theorem s_LineReader_open_0 {l : Launch} {Γ : qG} {d r : Nat} {M : qM} {L : Nat → Int64} {P : qM → Prop} (t : Nat) (ho : (t = 1) ∨ (t = 7)) (h : P (q_up (q_up (q_up M 5 4 (Int32.ofNat t)) 5 3 (iI 0)) 5 1 (iI 0))) : V l Γ T_LineReader_open d r 0 [.ref 5, .ref t] [] (M, L) (q_n L P) := by
  rcases ho with rfl | rfl
  · refine V.run 9 (pc' := 15) (ls' := [.ref 5, .ref 1]) (st' := []) (S' := ((q_up (q_up (q_up M 5 4 (Int32.ofNat 1)) 5 3 (iI 0)) 5 1 (iI 0)), L)) rfl ?_
    exact V.vret rfl rfl ⟨_, rfl, rfl, h⟩
  · refine V.run 9 (pc' := 15) (ls' := [.ref 5, .ref 7]) (st' := []) (S' := ((q_up (q_up (q_up M 5 4 (Int32.ofNat 7)) 5 3 (iI 0)) 5 1 (iI 0)), L)) rfl ?_
    exact V.vret rfl rfl ⟨_, rfl, rfl, h⟩
set_option maxRecDepth 100000 in
set_option maxHeartbeats 4000000 in
theorem s_LineReader_reachesEnd_0 {l : Launch} {Γ : qG} {d r : Nat} {M : qM} {L : Nat → Int64} {P : Int32 → qM → Prop} (t : Nat) (ho : (t = 1) ∨ (t = 7)) (h : ∃ P1 : qM → Prop, V l Γ T_LineReader_skipSpaces d 0 0 [.ref 5] [] (M, L) (q_n L P1) ∧ ∀ (M1 : qM), P1 M1 → ((M1 5 4)).toNatClampNeg = t ∧ (¬ (M1 5 3) = (M1 t 1) → P (iI 0) M1) ∧ (¬ (¬ (M1 5 3) = (M1 t 1)) → P (iI 1) M1)) : V l Γ T_LineReader_reachesEnd (d + 1) r 0 [.ref 5] [] (M, L) (q_i L P) := by
  rcases ho with rfl | rfl
  · refine V.run 1 (pc' := 1) (ls' := [.ref 5]) (st' := [.ref 5]) (S' := (M, L)) rfl ?_
    obtain ⟨P1, hv1, h⟩ := h
    refine V.callVv (T2 := T_LineReader_skipSpaces) (As := []) (rest := []) rfl rfl g_LineReader_skipSpaces rfl rfl rfl rfl (Nat.le_of_ble_eq_true rfl) (by simp [Value.category]) (by simp [Value.category]) (Nat.le_of_ble_eq_true rfl) (Nat.le_refl _) hv1 (fun M1 hq => ?_)
    have h := h M1 hq
    refine V.run 3 (pc' := 9) (ls' := [.ref 5]) (st' := [.ref 5, .int (M1 5 3)]) (S' := (M1, L)) rfl ?_
    refine V.gfm rfl rfl rfl h.1 ?_
    have h := h.2
    refine V.run 1 (pc' := 15) (ls' := [.ref 5]) (st' := [.int (M1 1 1), .int (M1 5 3)]) (S' := (M1, L)) rfl ?_
    refine V.icmp (cd := .ne) rfl (fun hc => ?_) (fun hc => ?_)
    · have h := h.1 hc
      refine V.run 1 (pc' := 23) (ls' := [.ref 5]) (st' := [.int (iI 0)]) (S' := (M1, L)) rfl ?_
      exact V.zret rfl rfl (by decide) ⟨_, _, rfl, rfl, h⟩
    · have h := h.2 hc
      refine V.run 2 (pc' := 23) (ls' := [.ref 5]) (st' := [.int (iI 1)]) (S' := (M1, L)) rfl ?_
      exact V.zret rfl rfl (by decide) ⟨_, _, rfl, rfl, h⟩
  · refine V.run 1 (pc' := 1) (ls' := [.ref 5]) (st' := [.ref 5]) (S' := (M, L)) rfl ?_
    obtain ⟨P1, hv1, h⟩ := h
    refine V.callVv (T2 := T_LineReader_skipSpaces) (As := []) (rest := []) rfl rfl g_LineReader_skipSpaces rfl rfl rfl rfl (Nat.le_of_ble_eq_true rfl) (by simp [Value.category]) (by simp [Value.category]) (Nat.le_of_ble_eq_true rfl) (Nat.le_refl _) hv1 (fun M1 hq => ?_)
    have h := h M1 hq
    refine V.run 3 (pc' := 9) (ls' := [.ref 5]) (st' := [.ref 5, .int (M1 5 3)]) (S' := (M1, L)) rfl ?_
    refine V.gfm rfl rfl rfl h.1 ?_
    have h := h.2
    refine V.run 1 (pc' := 15) (ls' := [.ref 5]) (st' := [.int (M1 7 1), .int (M1 5 3)]) (S' := (M1, L)) rfl ?_
    refine V.icmp (cd := .ne) rfl (fun hc => ?_) (fun hc => ?_)
    · have h := h.1 hc
      refine V.run 1 (pc' := 23) (ls' := [.ref 5]) (st' := [.int (iI 0)]) (S' := (M1, L)) rfl ?_
      exact V.zret rfl rfl (by decide) ⟨_, _, rfl, rfl, h⟩
    · have h := h.2 hc
      refine V.run 2 (pc' := 23) (ls' := [.ref 5]) (st' := [.int (iI 1)]) (S' := (M1, L)) rfl ?_
      exact V.zret rfl rfl (by decide) ⟨_, _, rfl, rfl, h⟩
set_option maxRecDepth 100000 in
set_option maxHeartbeats 4000000 in
theorem s_LineReader_readStatement_0 {l : Launch} {Γ : qG} {d r : Nat} {M : qM} {L : Nat → Int64} {P : Int32 → qM → Prop} (t : Nat) (ho : (t = 1) ∨ (t = 7)) (h : ∃ P1 : Int32 → qM → Prop, V l Γ T_LineReader_ahead d 0 0 [.ref 5, .int (iI 0)] [] (M, L) (q_i L P1) ∧ ∀ (x1 : Int32) (M1 : qM), P1 x1 M1 → ((x1).toInt = 63 → ∃ P2 : Int32 → qM → Prop, V l Γ T_LineReader_readMark d 0 0 [.ref 5, .int (iI 63)] [] (M1, L) (q_i L P2) ∧ ∀ (x2 : Int32) (M2 : qM), P2 x2 M2 → (x2 = 0 → P (iI 0) M2) ∧ (¬ x2 = 0 → ∃ P3 : Int32 → qM → Prop, V l Γ T_LineReader_readPrinted d 0 0 [.ref 5, .null] [] (M2, L) (q_i L P3) ∧ ∀ (x3 : Int32) (M3 : qM), P3 x3 M3 → (x3 = 0 → P (iI 0) M3) ∧ (¬ x3 = 0 → P (iI 1) M3))) ∧ (¬ (x1).toInt = 63 → ((x1).toInt = 64 → ∃ P4 : Int32 → qM → Prop, V l Γ T_LineReader_readMark d 0 0 [.ref 5, .int (iI 64)] [] (M1, L) (q_i L P4) ∧ ∀ (x4 : Int32) (M4 : qM), P4 x4 M4 → (x4 = 0 → P (iI 0) M4) ∧ (¬ x4 = 0 → ∃ P5 : Int32 → qM → Prop, V l Γ T_LineReader_readMark d 0 0 [.ref 5, .int (iI 40)] [] (M4, L) (q_i L P5) ∧ ∀ (x5 : Int32) (M5 : qM), P5 x5 M5 → (x5 = 0 → P (iI 0) M5) ∧ (¬ x5 = 0 → ∃ P6 : Int32 → qM → Prop, V l Γ T_LineReader_readExpression d 0 0 [.ref 5, .null, .null, .null, .null] [] (M5, L) (q_i L P6) ∧ ∀ (x6 : Int32) (M6 : qM), P6 x6 M6 → (x6 = 0 → P (iI 0) M6) ∧ (¬ x6 = 0 → ∃ P7 : Int32 → qM → Prop, V l Γ T_LineReader_readMark d 0 0 [.ref 5, .int (iI 41)] [] (M6, L) (q_i L P7) ∧ ∀ (x7 : Int32) (M7 : qM), P7 x7 M7 → (x7 = 0 → P (iI 0) M7) ∧ (¬ x7 = 0 → ∃ P8 : Int32 → qM → Prop, V l Γ T_LineReader_readMark d 0 0 [.ref 5, .int (iI 61)] [] (M7, L) (q_i L P8) ∧ ∀ (x8 : Int32) (M8 : qM), P8 x8 M8 → (x8 = 0 → P (iI 0) M8) ∧ (¬ x8 = 0 → ∃ P9 : Int32 → qM → Prop, V l Γ T_LineReader_readExpression d 0 0 [.ref 5, .null, .null, .null, .null] [] (M8, L) (q_i L P9) ∧ ∀ (x9 : Int32) (M9 : qM), P9 x9 M9 → (x9 = 0 → P (iI 0) M9) ∧ (¬ x9 = 0 → P (iI 1) M9))))))) ∧ (¬ (x1).toInt = 64 → ((x1).toInt = 69 → ∃ P10 : Int32 → qM → Prop, V l Γ T_LineReader_readWord d 0 0 [.ref 5, .int (iI 135), .null, .null] [] (M1, L) (q_i L P10) ∧ ∀ (x10 : Int32) (M10 : qM), P10 x10 M10 → narrow .boolean (.int x10) = .int x10 ∧ P x10 M10) ∧ (¬ (x1).toInt = 69 → ((x1).toInt = 70 → ∃ P11 : Int32 → qM → Prop, V l Γ T_LineReader_readWord d 0 0 [.ref 5, .int (iI 132), .null, .null] [] (M1, L) (q_i L P11) ∧ ∀ (x11 : Int32) (M11 : qM), P11 x11 M11 → (x11 = 0 → P (iI 0) M11) ∧ (¬ x11 = 0 → ∃ P12 : Int32 → qM → Prop, V l Γ T_LineReader_readVariable d 0 0 [.ref 5] [] (M11, L) (q_i L P12) ∧ ∀ (x12 : Int32) (M12 : qM), P12 x12 M12 → (x12 = 0 → P (iI 0) M12) ∧ (¬ x12 = 0 → ∃ P13 : Int32 → qM → Prop, V l Γ T_LineReader_readMark d 0 0 [.ref 5, .int (iI 61)] [] (M12, L) (q_i L P13) ∧ ∀ (x13 : Int32) (M13 : qM), P13 x13 M13 → (x13 = 0 → P (iI 0) M13) ∧ (¬ x13 = 0 → ∃ P14 : Int32 → qM → Prop, V l Γ T_LineReader_readExpression d 0 0 [.ref 5, .null, .null, .null, .null] [] (M13, L) (q_i L P14) ∧ ∀ (x14 : Int32) (M14 : qM), P14 x14 M14 → (x14 = 0 → P (iI 0) M14) ∧ (¬ x14 = 0 → ∃ P15 : Int32 → qM → Prop, V l Γ T_LineReader_readWord d 0 0 [.ref 5, .int (iI 133), .null, .null] [] (M14, L) (q_i L P15) ∧ ∀ (x15 : Int32) (M15 : qM), P15 x15 M15 → (x15 = 0 → P (iI 0) M15) ∧ (¬ x15 = 0 → ∃ P16 : Int32 → qM → Prop, V l Γ T_LineReader_readExpression d 0 0 [.ref 5, .null, .null, .null, .null] [] (M15, L) (q_i L P16) ∧ ∀ (x16 : Int32) (M16 : qM), P16 x16 M16 → (x16 = 0 → P (iI 0) M16) ∧ (¬ x16 = 0 → P (iI 1) M16))))))) ∧ (¬ (x1).toInt = 70 → ((x1).toInt = 71 → ∃ P17 : Int32 → qM → Prop, V l Γ T_LineReader_ahead d 0 0 [.ref 5, .int (iI 2)] [] (M1, L) (q_i L P17) ∧ ∀ (x17 : Int32) (M17 : qM), P17 x17 M17 → (¬ x17 = (iI 83) → V l Γ T_LineReader_readStatement (d + 1) r 120 [.ref 5] [.int (iI 128), .ref 5] (M17, L) (q_i L P)) ∧ (¬ (¬ x17 = (iI 83)) → V l Γ T_LineReader_readStatement (d + 1) r 120 [.ref 5] [.int (iI 129), .ref 5] (M17, L) (q_i L P))) ∧ (¬ (x1).toInt = 71 → ((x1).toInt = 73 → ∃ P18 : Int32 → qM → Prop, V l Γ T_LineReader_readWord d 0 0 [.ref 5, .int (iI 131), .null, .null] [] (M1, L) (q_i L P18) ∧ ∀ (x18 : Int32) (M18 : qM), P18 x18 M18 → (x18 = 0 → P (iI 0) M18) ∧ (¬ x18 = 0 → ∃ P19 : Int32 → qM → Prop, V l Γ T_LineReader_readExpression d 0 0 [.ref 5, .null, .null, .null, .null] [] (M18, L) (q_i L P19) ∧ ∀ (x19 : Int32) (M19 : qM), P19 x19 M19 → (x19 = 0 → P (iI 0) M19) ∧ (¬ x19 = 0 → ∃ P20 : Int32 → qM → Prop, V l Γ T_LineReader_readWord d 0 0 [.ref 5, .int (iI 128), .null, .null] [] (M19, L) (q_i L P20) ∧ ∀ (x20 : Int32) (M20 : qM), P20 x20 M20 → (x20 = 0 → P (iI 0) M20) ∧ (¬ x20 = 0 → ∃ P21 : Int32 → qM → Prop, V l Γ T_LineReader_readLineNumber d 0 0 [.ref 5] [] (M20, L) (q_i L P21) ∧ ∀ (x21 : Int32) (M21 : qM), P21 x21 M21 → (x21 = 0 → P (iI 0) M21) ∧ (¬ x21 = 0 → P (iI 1) M21))))) ∧ (¬ (x1).toInt = 73 → ((x1).toInt = 78 → ∃ P22 : Int32 → qM → Prop, V l Γ T_LineReader_readWord d 0 0 [.ref 5, .int (iI 134), .null, .null] [] (M1, L) (q_i L P22) ∧ ∀ (x22 : Int32) (M22 : qM), P22 x22 M22 → (x22 = 0 → P (iI 0) M22) ∧ (¬ x22 = 0 → ∃ P23 : Int32 → qM → Prop, V l Γ T_LineReader_readVariable d 0 0 [.ref 5] [] (M22, L) (q_i L P23) ∧ ∀ (x23 : Int32) (M23 : qM), P23 x23 M23 → (x23 = 0 → P (iI 0) M23) ∧ (¬ x23 = 0 → P (iI 1) M23))) ∧ (¬ (x1).toInt = 78 → ((x1).toInt = 82 → ∃ P24 : Int32 → qM → Prop, V l Γ T_LineReader_readWord d 0 0 [.ref 5, .int (iI 130), .null, .null] [] (M1, L) (q_i L P24) ∧ ∀ (x24 : Int32) (M24 : qM), P24 x24 M24 → narrow .boolean (.int x24) = .int x24 ∧ P x24 M24) ∧ (¬ (x1).toInt = 82 → ∃ P25 : Int32 → qM → Prop, V l Γ T_LineReader_readVariable d 0 0 [.ref 5] [] (M1, L) (q_i L P25) ∧ ∀ (x25 : Int32) (M25 : qM), P25 x25 M25 → (x25 = 0 → P (iI 0) M25) ∧ (¬ x25 = 0 → ∃ P26 : Int32 → qM → Prop, V l Γ T_LineReader_readMark d 0 0 [.ref 5, .int (iI 61)] [] (M25, L) (q_i L P26) ∧ ∀ (x26 : Int32) (M26 : qM), P26 x26 M26 → (x26 = 0 → P (iI 0) M26) ∧ (¬ x26 = 0 → ∃ P27 : Int32 → qM → Prop, V l Γ T_LineReader_readExpression d 0 0 [.ref 5, .null, .null, .null, .null] [] (M26, L) (q_i L P27) ∧ ∀ (x27 : Int32) (M27 : qM), P27 x27 M27 → (x27 = 0 → P (iI 0) M27) ∧ (¬ x27 = 0 → P (iI 1) M27)))))))))))) : V l Γ T_LineReader_readStatement (d + 1) r 0 [.ref 5] [] (M, L) (q_i L P) := by
  rcases ho with rfl | rfl
  · refine V.run 2 (pc' := 2) (ls' := [.ref 5]) (st' := [.int (iI 0), .ref 5]) (S' := (M, L)) rfl ?_
    obtain ⟨P1, hv1, h⟩ := h
    refine V.callVi (T2 := T_LineReader_ahead) (As := [.int (iI 0)]) (rest := []) rfl rfl g_LineReader_ahead rfl rfl rfl rfl (Nat.le_of_ble_eq_true rfl) (by simp [Value.category]) (by simp [Value.category]) (Nat.le_of_ble_eq_true rfl) (Nat.le_refl _) hv1 (fun x1 M1 hq => ?_)
    have h := h x1 M1 hq
    refine V.swt rfl 352 [(63, 274), (64, 296), (69, 266), (70, 187), (71, 100), (73, 147), (78, 243), (82, 139)] (by decide) (by decide) (by decide) ?_
    refine q_swP.c (fun hc => ?_) (fun hc => ?_)
    · have h := h.1 hc
      refine V.run 2 (pc' := 277) (ls' := [.ref 5]) (st' := [.int (iI 63), .ref 5]) (S' := (M1, L)) rfl ?_
      obtain ⟨P2, hv2, h⟩ := h
      refine V.callVi (T2 := T_LineReader_readMark) (As := [.int (iI 63)]) (rest := []) rfl rfl g_LineReader_readMark rfl rfl rfl rfl (Nat.le_of_ble_eq_true rfl) (by simp [Value.category]) (by simp [Value.category]) (Nat.le_of_ble_eq_true rfl) (Nat.le_refl _) hv2 (fun x2 M2 hq => ?_)
      have h := h x2 M2 hq
      refine V.ifc (cd := .eq) rfl (fun hc => ?_) (fun hc => ?_)
      · have h := h.1 hc
        refine V.run 1 (pc' := 295) (ls' := [.ref 5]) (st' := [.int (iI 0)]) (S' := (M2, L)) rfl ?_
        exact V.zret rfl rfl (by decide) ⟨_, _, rfl, rfl, h⟩
      · have h := h.2 hc
        refine V.run 1 (pc' := 284) (ls' := [.ref 5]) (st' := [.ref 5]) (S' := (M2, L)) rfl ?_
        obtain ⟨P3, hv3, h⟩ := h
        refine V.callVi (T2 := T_LineReader_readPrinted) (As := []) (rest := []) rfl rfl g_LineReader_readPrinted rfl rfl rfl rfl (Nat.le_of_ble_eq_true rfl) (by simp [Value.category]) (by simp [Value.category]) (Nat.le_of_ble_eq_true rfl) (Nat.le_refl _) hv3 (fun x3 M3 hq => ?_)
        have h := h x3 M3 hq
        refine V.ifc (cd := .eq) rfl (fun hc => ?_) (fun hc => ?_)
        · have h := h.1 hc
          refine V.run 1 (pc' := 295) (ls' := [.ref 5]) (st' := [.int (iI 0)]) (S' := (M3, L)) rfl ?_
          exact V.zret rfl rfl (by decide) ⟨_, _, rfl, rfl, h⟩
        · have h := h.2 hc
          refine V.run 2 (pc' := 295) (ls' := [.ref 5]) (st' := [.int (iI 1)]) (S' := (M3, L)) rfl ?_
          exact V.zret rfl rfl (by decide) ⟨_, _, rfl, rfl, h⟩
    · have h := h.2 hc
      refine q_swP.c (fun hc => ?_) (fun hc => ?_)
      · have h := h.1 hc
        refine V.run 2 (pc' := 299) (ls' := [.ref 5]) (st' := [.int (iI 64), .ref 5]) (S' := (M1, L)) rfl ?_
        obtain ⟨P4, hv4, h⟩ := h
        refine V.callVi (T2 := T_LineReader_readMark) (As := [.int (iI 64)]) (rest := []) rfl rfl g_LineReader_readMark rfl rfl rfl rfl (Nat.le_of_ble_eq_true rfl) (by simp [Value.category]) (by simp [Value.category]) (Nat.le_of_ble_eq_true rfl) (Nat.le_refl _) hv4 (fun x4 M4 hq => ?_)
        have h := h x4 M4 hq
        refine V.ifc (cd := .eq) rfl (fun hc => ?_) (fun hc => ?_)
        · have h := h.1 hc
          refine V.run 1 (pc' := 351) (ls' := [.ref 5]) (st' := [.int (iI 0)]) (S' := (M4, L)) rfl ?_
          exact V.zret rfl rfl (by decide) ⟨_, _, rfl, rfl, h⟩
        · have h := h.2 hc
          refine V.run 2 (pc' := 308) (ls' := [.ref 5]) (st' := [.int (iI 40), .ref 5]) (S' := (M4, L)) rfl ?_
          obtain ⟨P5, hv5, h⟩ := h
          refine V.callVi (T2 := T_LineReader_readMark) (As := [.int (iI 40)]) (rest := []) rfl rfl g_LineReader_readMark rfl rfl rfl rfl (Nat.le_of_ble_eq_true rfl) (by simp [Value.category]) (by simp [Value.category]) (Nat.le_of_ble_eq_true rfl) (Nat.le_refl _) hv5 (fun x5 M5 hq => ?_)
          have h := h x5 M5 hq
          refine V.ifc (cd := .eq) rfl (fun hc => ?_) (fun hc => ?_)
          · have h := h.1 hc
            refine V.run 1 (pc' := 351) (ls' := [.ref 5]) (st' := [.int (iI 0)]) (S' := (M5, L)) rfl ?_
            exact V.zret rfl rfl (by decide) ⟨_, _, rfl, rfl, h⟩
          · have h := h.2 hc
            refine V.run 1 (pc' := 315) (ls' := [.ref 5]) (st' := [.ref 5]) (S' := (M5, L)) rfl ?_
            obtain ⟨P6, hv6, h⟩ := h
            refine V.callVi (T2 := T_LineReader_readExpression) (As := []) (rest := []) rfl rfl g_LineReader_readExpression rfl rfl rfl rfl (Nat.le_of_ble_eq_true rfl) (by simp [Value.category]) (by simp [Value.category]) (Nat.le_of_ble_eq_true rfl) (Nat.le_refl _) hv6 (fun x6 M6 hq => ?_)
            have h := h x6 M6 hq
            refine V.ifc (cd := .eq) rfl (fun hc => ?_) (fun hc => ?_)
            · have h := h.1 hc
              refine V.run 1 (pc' := 351) (ls' := [.ref 5]) (st' := [.int (iI 0)]) (S' := (M6, L)) rfl ?_
              exact V.zret rfl rfl (by decide) ⟨_, _, rfl, rfl, h⟩
            · have h := h.2 hc
              refine V.run 2 (pc' := 324) (ls' := [.ref 5]) (st' := [.int (iI 41), .ref 5]) (S' := (M6, L)) rfl ?_
              obtain ⟨P7, hv7, h⟩ := h
              refine V.callVi (T2 := T_LineReader_readMark) (As := [.int (iI 41)]) (rest := []) rfl rfl g_LineReader_readMark rfl rfl rfl rfl (Nat.le_of_ble_eq_true rfl) (by simp [Value.category]) (by simp [Value.category]) (Nat.le_of_ble_eq_true rfl) (Nat.le_refl _) hv7 (fun x7 M7 hq => ?_)
              have h := h x7 M7 hq
              refine V.ifc (cd := .eq) rfl (fun hc => ?_) (fun hc => ?_)
              · have h := h.1 hc
                refine V.run 1 (pc' := 351) (ls' := [.ref 5]) (st' := [.int (iI 0)]) (S' := (M7, L)) rfl ?_
                exact V.zret rfl rfl (by decide) ⟨_, _, rfl, rfl, h⟩
              · have h := h.2 hc
                refine V.run 2 (pc' := 333) (ls' := [.ref 5]) (st' := [.int (iI 61), .ref 5]) (S' := (M7, L)) rfl ?_
                obtain ⟨P8, hv8, h⟩ := h
                refine V.callVi (T2 := T_LineReader_readMark) (As := [.int (iI 61)]) (rest := []) rfl rfl g_LineReader_readMark rfl rfl rfl rfl (Nat.le_of_ble_eq_true rfl) (by simp [Value.category]) (by simp [Value.category]) (Nat.le_of_ble_eq_true rfl) (Nat.le_refl _) hv8 (fun x8 M8 hq => ?_)
                have h := h x8 M8 hq
                refine V.ifc (cd := .eq) rfl (fun hc => ?_) (fun hc => ?_)
                · have h := h.1 hc
                  refine V.run 1 (pc' := 351) (ls' := [.ref 5]) (st' := [.int (iI 0)]) (S' := (M8, L)) rfl ?_
                  exact V.zret rfl rfl (by decide) ⟨_, _, rfl, rfl, h⟩
                · have h := h.2 hc
                  refine V.run 1 (pc' := 340) (ls' := [.ref 5]) (st' := [.ref 5]) (S' := (M8, L)) rfl ?_
                  obtain ⟨P9, hv9, h⟩ := h
                  refine V.callVi (T2 := T_LineReader_readExpression) (As := []) (rest := []) rfl rfl g_LineReader_readExpression rfl rfl rfl rfl (Nat.le_of_ble_eq_true rfl) (by simp [Value.category]) (by simp [Value.category]) (Nat.le_of_ble_eq_true rfl) (Nat.le_refl _) hv9 (fun x9 M9 hq => ?_)
                  have h := h x9 M9 hq
                  refine V.ifc (cd := .eq) rfl (fun hc => ?_) (fun hc => ?_)
                  · have h := h.1 hc
                    refine V.run 1 (pc' := 351) (ls' := [.ref 5]) (st' := [.int (iI 0)]) (S' := (M9, L)) rfl ?_
                    exact V.zret rfl rfl (by decide) ⟨_, _, rfl, rfl, h⟩
                  · have h := h.2 hc
                    refine V.run 2 (pc' := 351) (ls' := [.ref 5]) (st' := [.int (iI 1)]) (S' := (M9, L)) rfl ?_
                    exact V.zret rfl rfl (by decide) ⟨_, _, rfl, rfl, h⟩
      · have h := h.2 hc
        refine q_swP.c (fun hc => ?_) (fun hc => ?_)
        · have h := h.1 hc
          refine V.run 2 (pc' := 270) (ls' := [.ref 5]) (st' := [.int (iI 135), .ref 5]) (S' := (M1, L)) rfl ?_
          obtain ⟨P10, hv10, h⟩ := h
          refine V.callVi (T2 := T_LineReader_readWord) (As := [.int (iI 135)]) (rest := []) rfl rfl g_LineReader_readWord rfl rfl rfl rfl (Nat.le_of_ble_eq_true rfl) (by simp [Value.category]) (by simp [Value.category]) (Nat.le_of_ble_eq_true rfl) (Nat.le_refl _) hv10 (fun x10 M10 hq => ?_)
          have h := h x10 M10 hq
          exact V.zret rfl rfl h.1 ⟨_, _, rfl, rfl, h.2⟩
        · have h := h.2 hc
          refine q_swP.c (fun hc => ?_) (fun hc => ?_)
          · have h := h.1 hc
            refine V.run 2 (pc' := 191) (ls' := [.ref 5]) (st' := [.int (iI 132), .ref 5]) (S' := (M1, L)) rfl ?_
            obtain ⟨P11, hv11, h⟩ := h
            refine V.callVi (T2 := T_LineReader_readWord) (As := [.int (iI 132)]) (rest := []) rfl rfl g_LineReader_readWord rfl rfl rfl rfl (Nat.le_of_ble_eq_true rfl) (by simp [Value.category]) (by simp [Value.category]) (Nat.le_of_ble_eq_true rfl) (Nat.le_refl _) hv11 (fun x11 M11 hq => ?_)
            have h := h x11 M11 hq
            refine V.ifc (cd := .eq) rfl (fun hc => ?_) (fun hc => ?_)
            · have h := h.1 hc
              refine V.run 1 (pc' := 242) (ls' := [.ref 5]) (st' := [.int (iI 0)]) (S' := (M11, L)) rfl ?_
              exact V.zret rfl rfl (by decide) ⟨_, _, rfl, rfl, h⟩
            · have h := h.2 hc
              refine V.run 1 (pc' := 198) (ls' := [.ref 5]) (st' := [.ref 5]) (S' := (M11, L)) rfl ?_
              obtain ⟨P12, hv12, h⟩ := h
              refine V.callVi (T2 := T_LineReader_readVariable) (As := []) (rest := []) rfl rfl g_LineReader_readVariable rfl rfl rfl rfl (Nat.le_of_ble_eq_true rfl) (by simp [Value.category]) (by simp [Value.category]) (Nat.le_of_ble_eq_true rfl) (Nat.le_refl _) hv12 (fun x12 M12 hq => ?_)
              have h := h x12 M12 hq
              refine V.ifc (cd := .eq) rfl (fun hc => ?_) (fun hc => ?_)
              · have h := h.1 hc
                refine V.run 1 (pc' := 242) (ls' := [.ref 5]) (st' := [.int (iI 0)]) (S' := (M12, L)) rfl ?_
                exact V.zret rfl rfl (by decide) ⟨_, _, rfl, rfl, h⟩
              · have h := h.2 hc
                refine V.run 2 (pc' := 207) (ls' := [.ref 5]) (st' := [.int (iI 61), .ref 5]) (S' := (M12, L)) rfl ?_
                obtain ⟨P13, hv13, h⟩ := h
                refine V.callVi (T2 := T_LineReader_readMark) (As := [.int (iI 61)]) (rest := []) rfl rfl g_LineReader_readMark rfl rfl rfl rfl (Nat.le_of_ble_eq_true rfl) (by simp [Value.category]) (by simp [Value.category]) (Nat.le_of_ble_eq_true rfl) (Nat.le_refl _) hv13 (fun x13 M13 hq => ?_)
                have h := h x13 M13 hq
                refine V.ifc (cd := .eq) rfl (fun hc => ?_) (fun hc => ?_)
                · have h := h.1 hc
                  refine V.run 1 (pc' := 242) (ls' := [.ref 5]) (st' := [.int (iI 0)]) (S' := (M13, L)) rfl ?_
                  exact V.zret rfl rfl (by decide) ⟨_, _, rfl, rfl, h⟩
                · have h := h.2 hc
                  refine V.run 1 (pc' := 214) (ls' := [.ref 5]) (st' := [.ref 5]) (S' := (M13, L)) rfl ?_
                  obtain ⟨P14, hv14, h⟩ := h
                  refine V.callVi (T2 := T_LineReader_readExpression) (As := []) (rest := []) rfl rfl g_LineReader_readExpression rfl rfl rfl rfl (Nat.le_of_ble_eq_true rfl) (by simp [Value.category]) (by simp [Value.category]) (Nat.le_of_ble_eq_true rfl) (Nat.le_refl _) hv14 (fun x14 M14 hq => ?_)
                  have h := h x14 M14 hq
                  refine V.ifc (cd := .eq) rfl (fun hc => ?_) (fun hc => ?_)
                  · have h := h.1 hc
                    refine V.run 1 (pc' := 242) (ls' := [.ref 5]) (st' := [.int (iI 0)]) (S' := (M14, L)) rfl ?_
                    exact V.zret rfl rfl (by decide) ⟨_, _, rfl, rfl, h⟩
                  · have h := h.2 hc
                    refine V.run 2 (pc' := 224) (ls' := [.ref 5]) (st' := [.int (iI 133), .ref 5]) (S' := (M14, L)) rfl ?_
                    obtain ⟨P15, hv15, h⟩ := h
                    refine V.callVi (T2 := T_LineReader_readWord) (As := [.int (iI 133)]) (rest := []) rfl rfl g_LineReader_readWord rfl rfl rfl rfl (Nat.le_of_ble_eq_true rfl) (by simp [Value.category]) (by simp [Value.category]) (Nat.le_of_ble_eq_true rfl) (Nat.le_refl _) hv15 (fun x15 M15 hq => ?_)
                    have h := h x15 M15 hq
                    refine V.ifc (cd := .eq) rfl (fun hc => ?_) (fun hc => ?_)
                    · have h := h.1 hc
                      refine V.run 1 (pc' := 242) (ls' := [.ref 5]) (st' := [.int (iI 0)]) (S' := (M15, L)) rfl ?_
                      exact V.zret rfl rfl (by decide) ⟨_, _, rfl, rfl, h⟩
                    · have h := h.2 hc
                      refine V.run 1 (pc' := 231) (ls' := [.ref 5]) (st' := [.ref 5]) (S' := (M15, L)) rfl ?_
                      obtain ⟨P16, hv16, h⟩ := h
                      refine V.callVi (T2 := T_LineReader_readExpression) (As := []) (rest := []) rfl rfl g_LineReader_readExpression rfl rfl rfl rfl (Nat.le_of_ble_eq_true rfl) (by simp [Value.category]) (by simp [Value.category]) (Nat.le_of_ble_eq_true rfl) (Nat.le_refl _) hv16 (fun x16 M16 hq => ?_)
                      have h := h x16 M16 hq
                      refine V.ifc (cd := .eq) rfl (fun hc => ?_) (fun hc => ?_)
                      · have h := h.1 hc
                        refine V.run 1 (pc' := 242) (ls' := [.ref 5]) (st' := [.int (iI 0)]) (S' := (M16, L)) rfl ?_
                        exact V.zret rfl rfl (by decide) ⟨_, _, rfl, rfl, h⟩
                      · have h := h.2 hc
                        refine V.run 2 (pc' := 242) (ls' := [.ref 5]) (st' := [.int (iI 1)]) (S' := (M16, L)) rfl ?_
                        exact V.zret rfl rfl (by decide) ⟨_, _, rfl, rfl, h⟩
          · have h := h.2 hc
            refine q_swP.c (fun hc => ?_) (fun hc => ?_)
            · have h := h.1 hc
              refine V.run 3 (pc' := 103) (ls' := [.ref 5]) (st' := [.int (iI 2), .ref 5, .ref 5]) (S' := (M1, L)) rfl ?_
              obtain ⟨P17, hv17, h⟩ := h
              refine V.callVi (T2 := T_LineReader_ahead) (As := [.int (iI 2)]) (rest := [.ref 5]) rfl rfl g_LineReader_ahead rfl rfl rfl rfl (Nat.le_of_ble_eq_true rfl) (by simp [Value.category]) (by simp [Value.category]) (Nat.le_of_ble_eq_true rfl) (Nat.le_refl _) hv17 (fun x17 M17 hq => ?_)
              have h := h x17 M17 hq
              refine V.run 1 (pc' := 108) (ls' := [.ref 5]) (st' := [.int (iI 83), .int x17, .ref 5]) (S' := (M17, L)) rfl ?_
              refine V.icmp (cd := .ne) rfl (fun hc => ?_) (fun hc => ?_)
              · have h := h.1 hc
                refine V.run 1 (pc' := 120) (ls' := [.ref 5]) (st' := [.int (iI 128), .ref 5]) (S' := (M17, L)) rfl ?_
                exact h
              · have h := h.2 hc
                refine V.run 2 (pc' := 120) (ls' := [.ref 5]) (st' := [.int (iI 129), .ref 5]) (S' := (M17, L)) rfl ?_
                exact h
            · have h := h.2 hc
              refine q_swP.c (fun hc => ?_) (fun hc => ?_)
              · have h := h.1 hc
                refine V.run 2 (pc' := 151) (ls' := [.ref 5]) (st' := [.int (iI 131), .ref 5]) (S' := (M1, L)) rfl ?_
                obtain ⟨P18, hv18, h⟩ := h
                refine V.callVi (T2 := T_LineReader_readWord) (As := [.int (iI 131)]) (rest := []) rfl rfl g_LineReader_readWord rfl rfl rfl rfl (Nat.le_of_ble_eq_true rfl) (by simp [Value.category]) (by simp [Value.category]) (Nat.le_of_ble_eq_true rfl) (Nat.le_refl _) hv18 (fun x18 M18 hq => ?_)
                have h := h x18 M18 hq
                refine V.ifc (cd := .eq) rfl (fun hc => ?_) (fun hc => ?_)
                · have h := h.1 hc
                  refine V.run 1 (pc' := 186) (ls' := [.ref 5]) (st' := [.int (iI 0)]) (S' := (M18, L)) rfl ?_
                  exact V.zret rfl rfl (by decide) ⟨_, _, rfl, rfl, h⟩
                · have h := h.2 hc
                  refine V.run 1 (pc' := 158) (ls' := [.ref 5]) (st' := [.ref 5]) (S' := (M18, L)) rfl ?_
                  obtain ⟨P19, hv19, h⟩ := h
                  refine V.callVi (T2 := T_LineReader_readExpression) (As := []) (rest := []) rfl rfl g_LineReader_readExpression rfl rfl rfl rfl (Nat.le_of_ble_eq_true rfl) (by simp [Value.category]) (by simp [Value.category]) (Nat.le_of_ble_eq_true rfl) (Nat.le_refl _) hv19 (fun x19 M19 hq => ?_)
                  have h := h x19 M19 hq
                  refine V.ifc (cd := .eq) rfl (fun hc => ?_) (fun hc => ?_)
                  · have h := h.1 hc
                    refine V.run 1 (pc' := 186) (ls' := [.ref 5]) (st' := [.int (iI 0)]) (S' := (M19, L)) rfl ?_
                    exact V.zret rfl rfl (by decide) ⟨_, _, rfl, rfl, h⟩
                  · have h := h.2 hc
                    refine V.run 2 (pc' := 168) (ls' := [.ref 5]) (st' := [.int (iI 128), .ref 5]) (S' := (M19, L)) rfl ?_
                    obtain ⟨P20, hv20, h⟩ := h
                    refine V.callVi (T2 := T_LineReader_readWord) (As := [.int (iI 128)]) (rest := []) rfl rfl g_LineReader_readWord rfl rfl rfl rfl (Nat.le_of_ble_eq_true rfl) (by simp [Value.category]) (by simp [Value.category]) (Nat.le_of_ble_eq_true rfl) (Nat.le_refl _) hv20 (fun x20 M20 hq => ?_)
                    have h := h x20 M20 hq
                    refine V.ifc (cd := .eq) rfl (fun hc => ?_) (fun hc => ?_)
                    · have h := h.1 hc
                      refine V.run 1 (pc' := 186) (ls' := [.ref 5]) (st' := [.int (iI 0)]) (S' := (M20, L)) rfl ?_
                      exact V.zret rfl rfl (by decide) ⟨_, _, rfl, rfl, h⟩
                    · have h := h.2 hc
                      refine V.run 1 (pc' := 175) (ls' := [.ref 5]) (st' := [.ref 5]) (S' := (M20, L)) rfl ?_
                      obtain ⟨P21, hv21, h⟩ := h
                      refine V.callVi (T2 := T_LineReader_readLineNumber) (As := []) (rest := []) rfl rfl g_LineReader_readLineNumber rfl rfl rfl rfl (Nat.le_of_ble_eq_true rfl) (by simp [Value.category]) (by simp [Value.category]) (Nat.le_of_ble_eq_true rfl) (Nat.le_refl _) hv21 (fun x21 M21 hq => ?_)
                      have h := h x21 M21 hq
                      refine V.ifc (cd := .eq) rfl (fun hc => ?_) (fun hc => ?_)
                      · have h := h.1 hc
                        refine V.run 1 (pc' := 186) (ls' := [.ref 5]) (st' := [.int (iI 0)]) (S' := (M21, L)) rfl ?_
                        exact V.zret rfl rfl (by decide) ⟨_, _, rfl, rfl, h⟩
                      · have h := h.2 hc
                        refine V.run 2 (pc' := 186) (ls' := [.ref 5]) (st' := [.int (iI 1)]) (S' := (M21, L)) rfl ?_
                        exact V.zret rfl rfl (by decide) ⟨_, _, rfl, rfl, h⟩
              · have h := h.2 hc
                refine q_swP.c (fun hc => ?_) (fun hc => ?_)
                · have h := h.1 hc
                  refine V.run 2 (pc' := 247) (ls' := [.ref 5]) (st' := [.int (iI 134), .ref 5]) (S' := (M1, L)) rfl ?_
                  obtain ⟨P22, hv22, h⟩ := h
                  refine V.callVi (T2 := T_LineReader_readWord) (As := [.int (iI 134)]) (rest := []) rfl rfl g_LineReader_readWord rfl rfl rfl rfl (Nat.le_of_ble_eq_true rfl) (by simp [Value.category]) (by simp [Value.category]) (Nat.le_of_ble_eq_true rfl) (Nat.le_refl _) hv22 (fun x22 M22 hq => ?_)
                  have h := h x22 M22 hq
                  refine V.ifc (cd := .eq) rfl (fun hc => ?_) (fun hc => ?_)
                  · have h := h.1 hc
                    refine V.run 1 (pc' := 265) (ls' := [.ref 5]) (st' := [.int (iI 0)]) (S' := (M22, L)) rfl ?_
                    exact V.zret rfl rfl (by decide) ⟨_, _, rfl, rfl, h⟩
                  · have h := h.2 hc
                    refine V.run 1 (pc' := 254) (ls' := [.ref 5]) (st' := [.ref 5]) (S' := (M22, L)) rfl ?_
                    obtain ⟨P23, hv23, h⟩ := h
                    refine V.callVi (T2 := T_LineReader_readVariable) (As := []) (rest := []) rfl rfl g_LineReader_readVariable rfl rfl rfl rfl (Nat.le_of_ble_eq_true rfl) (by simp [Value.category]) (by simp [Value.category]) (Nat.le_of_ble_eq_true rfl) (Nat.le_refl _) hv23 (fun x23 M23 hq => ?_)
                    have h := h x23 M23 hq
                    refine V.ifc (cd := .eq) rfl (fun hc => ?_) (fun hc => ?_)
                    · have h := h.1 hc
                      refine V.run 1 (pc' := 265) (ls' := [.ref 5]) (st' := [.int (iI 0)]) (S' := (M23, L)) rfl ?_
                      exact V.zret rfl rfl (by decide) ⟨_, _, rfl, rfl, h⟩
                    · have h := h.2 hc
                      refine V.run 2 (pc' := 265) (ls' := [.ref 5]) (st' := [.int (iI 1)]) (S' := (M23, L)) rfl ?_
                      exact V.zret rfl rfl (by decide) ⟨_, _, rfl, rfl, h⟩
                · have h := h.2 hc
                  refine q_swP.c (fun hc => ?_) (fun hc => ?_)
                  · have h := h.1 hc
                    refine V.run 2 (pc' := 143) (ls' := [.ref 5]) (st' := [.int (iI 130), .ref 5]) (S' := (M1, L)) rfl ?_
                    obtain ⟨P24, hv24, h⟩ := h
                    refine V.callVi (T2 := T_LineReader_readWord) (As := [.int (iI 130)]) (rest := []) rfl rfl g_LineReader_readWord rfl rfl rfl rfl (Nat.le_of_ble_eq_true rfl) (by simp [Value.category]) (by simp [Value.category]) (Nat.le_of_ble_eq_true rfl) (Nat.le_refl _) hv24 (fun x24 M24 hq => ?_)
                    have h := h x24 M24 hq
                    exact V.zret rfl rfl h.1 ⟨_, _, rfl, rfl, h.2⟩
                  · have h := h.2 hc
                    refine q_swP.e ?_
                    refine V.run 1 (pc' := 353) (ls' := [.ref 5]) (st' := [.ref 5]) (S' := (M1, L)) rfl ?_
                    obtain ⟨P25, hv25, h⟩ := h
                    refine V.callVi (T2 := T_LineReader_readVariable) (As := []) (rest := []) rfl rfl g_LineReader_readVariable rfl rfl rfl rfl (Nat.le_of_ble_eq_true rfl) (by simp [Value.category]) (by simp [Value.category]) (Nat.le_of_ble_eq_true rfl) (Nat.le_refl _) hv25 (fun x25 M25 hq => ?_)
                    have h := h x25 M25 hq
                    refine V.ifc (cd := .eq) rfl (fun hc => ?_) (fun hc => ?_)
                    · have h := h.1 hc
                      refine V.run 1 (pc' := 380) (ls' := [.ref 5]) (st' := [.int (iI 0)]) (S' := (M25, L)) rfl ?_
                      exact V.zret rfl rfl (by decide) ⟨_, _, rfl, rfl, h⟩
                    · have h := h.2 hc
                      refine V.run 2 (pc' := 362) (ls' := [.ref 5]) (st' := [.int (iI 61), .ref 5]) (S' := (M25, L)) rfl ?_
                      obtain ⟨P26, hv26, h⟩ := h
                      refine V.callVi (T2 := T_LineReader_readMark) (As := [.int (iI 61)]) (rest := []) rfl rfl g_LineReader_readMark rfl rfl rfl rfl (Nat.le_of_ble_eq_true rfl) (by simp [Value.category]) (by simp [Value.category]) (Nat.le_of_ble_eq_true rfl) (Nat.le_refl _) hv26 (fun x26 M26 hq => ?_)
                      have h := h x26 M26 hq
                      refine V.ifc (cd := .eq) rfl (fun hc => ?_) (fun hc => ?_)
                      · have h := h.1 hc
                        refine V.run 1 (pc' := 380) (ls' := [.ref 5]) (st' := [.int (iI 0)]) (S' := (M26, L)) rfl ?_
                        exact V.zret rfl rfl (by decide) ⟨_, _, rfl, rfl, h⟩
                      · have h := h.2 hc
                        refine V.run 1 (pc' := 369) (ls' := [.ref 5]) (st' := [.ref 5]) (S' := (M26, L)) rfl ?_
                        obtain ⟨P27, hv27, h⟩ := h
                        refine V.callVi (T2 := T_LineReader_readExpression) (As := []) (rest := []) rfl rfl g_LineReader_readExpression rfl rfl rfl rfl (Nat.le_of_ble_eq_true rfl) (by simp [Value.category]) (by simp [Value.category]) (Nat.le_of_ble_eq_true rfl) (Nat.le_refl _) hv27 (fun x27 M27 hq => ?_)
                        have h := h x27 M27 hq
                        refine V.ifc (cd := .eq) rfl (fun hc => ?_) (fun hc => ?_)
                        · have h := h.1 hc
                          refine V.run 1 (pc' := 380) (ls' := [.ref 5]) (st' := [.int (iI 0)]) (S' := (M27, L)) rfl ?_
                          exact V.zret rfl rfl (by decide) ⟨_, _, rfl, rfl, h⟩
                        · have h := h.2 hc
                          refine V.run 2 (pc' := 380) (ls' := [.ref 5]) (st' := [.int (iI 1)]) (S' := (M27, L)) rfl ?_
                          exact V.zret rfl rfl (by decide) ⟨_, _, rfl, rfl, h⟩
  · refine V.run 2 (pc' := 2) (ls' := [.ref 5]) (st' := [.int (iI 0), .ref 5]) (S' := (M, L)) rfl ?_
    obtain ⟨P1, hv1, h⟩ := h
    refine V.callVi (T2 := T_LineReader_ahead) (As := [.int (iI 0)]) (rest := []) rfl rfl g_LineReader_ahead rfl rfl rfl rfl (Nat.le_of_ble_eq_true rfl) (by simp [Value.category]) (by simp [Value.category]) (Nat.le_of_ble_eq_true rfl) (Nat.le_refl _) hv1 (fun x1 M1 hq => ?_)
    have h := h x1 M1 hq
    refine V.swt rfl 352 [(63, 274), (64, 296), (69, 266), (70, 187), (71, 100), (73, 147), (78, 243), (82, 139)] (by decide) (by decide) (by decide) ?_
    refine q_swP.c (fun hc => ?_) (fun hc => ?_)
    · have h := h.1 hc
      refine V.run 2 (pc' := 277) (ls' := [.ref 5]) (st' := [.int (iI 63), .ref 5]) (S' := (M1, L)) rfl ?_
      obtain ⟨P2, hv2, h⟩ := h
      refine V.callVi (T2 := T_LineReader_readMark) (As := [.int (iI 63)]) (rest := []) rfl rfl g_LineReader_readMark rfl rfl rfl rfl (Nat.le_of_ble_eq_true rfl) (by simp [Value.category]) (by simp [Value.category]) (Nat.le_of_ble_eq_true rfl) (Nat.le_refl _) hv2 (fun x2 M2 hq => ?_)
      have h := h x2 M2 hq
      refine V.ifc (cd := .eq) rfl (fun hc => ?_) (fun hc => ?_)
      · have h := h.1 hc
        refine V.run 1 (pc' := 295) (ls' := [.ref 5]) (st' := [.int (iI 0)]) (S' := (M2, L)) rfl ?_
        exact V.zret rfl rfl (by decide) ⟨_, _, rfl, rfl, h⟩
      · have h := h.2 hc
        refine V.run 1 (pc' := 284) (ls' := [.ref 5]) (st' := [.ref 5]) (S' := (M2, L)) rfl ?_
        obtain ⟨P3, hv3, h⟩ := h
        refine V.callVi (T2 := T_LineReader_readPrinted) (As := []) (rest := []) rfl rfl g_LineReader_readPrinted rfl rfl rfl rfl (Nat.le_of_ble_eq_true rfl) (by simp [Value.category]) (by simp [Value.category]) (Nat.le_of_ble_eq_true rfl) (Nat.le_refl _) hv3 (fun x3 M3 hq => ?_)
        have h := h x3 M3 hq
        refine V.ifc (cd := .eq) rfl (fun hc => ?_) (fun hc => ?_)
        · have h := h.1 hc
          refine V.run 1 (pc' := 295) (ls' := [.ref 5]) (st' := [.int (iI 0)]) (S' := (M3, L)) rfl ?_
          exact V.zret rfl rfl (by decide) ⟨_, _, rfl, rfl, h⟩
        · have h := h.2 hc
          refine V.run 2 (pc' := 295) (ls' := [.ref 5]) (st' := [.int (iI 1)]) (S' := (M3, L)) rfl ?_
          exact V.zret rfl rfl (by decide) ⟨_, _, rfl, rfl, h⟩
    · have h := h.2 hc
      refine q_swP.c (fun hc => ?_) (fun hc => ?_)
      · have h := h.1 hc
        refine V.run 2 (pc' := 299) (ls' := [.ref 5]) (st' := [.int (iI 64), .ref 5]) (S' := (M1, L)) rfl ?_
        obtain ⟨P4, hv4, h⟩ := h
        refine V.callVi (T2 := T_LineReader_readMark) (As := [.int (iI 64)]) (rest := []) rfl rfl g_LineReader_readMark rfl rfl rfl rfl (Nat.le_of_ble_eq_true rfl) (by simp [Value.category]) (by simp [Value.category]) (Nat.le_of_ble_eq_true rfl) (Nat.le_refl _) hv4 (fun x4 M4 hq => ?_)
        have h := h x4 M4 hq
        refine V.ifc (cd := .eq) rfl (fun hc => ?_) (fun hc => ?_)
        · have h := h.1 hc
          refine V.run 1 (pc' := 351) (ls' := [.ref 5]) (st' := [.int (iI 0)]) (S' := (M4, L)) rfl ?_
          exact V.zret rfl rfl (by decide) ⟨_, _, rfl, rfl, h⟩
        · have h := h.2 hc
          refine V.run 2 (pc' := 308) (ls' := [.ref 5]) (st' := [.int (iI 40), .ref 5]) (S' := (M4, L)) rfl ?_
          obtain ⟨P5, hv5, h⟩ := h
          refine V.callVi (T2 := T_LineReader_readMark) (As := [.int (iI 40)]) (rest := []) rfl rfl g_LineReader_readMark rfl rfl rfl rfl (Nat.le_of_ble_eq_true rfl) (by simp [Value.category]) (by simp [Value.category]) (Nat.le_of_ble_eq_true rfl) (Nat.le_refl _) hv5 (fun x5 M5 hq => ?_)
          have h := h x5 M5 hq
          refine V.ifc (cd := .eq) rfl (fun hc => ?_) (fun hc => ?_)
          · have h := h.1 hc
            refine V.run 1 (pc' := 351) (ls' := [.ref 5]) (st' := [.int (iI 0)]) (S' := (M5, L)) rfl ?_
            exact V.zret rfl rfl (by decide) ⟨_, _, rfl, rfl, h⟩
          · have h := h.2 hc
            refine V.run 1 (pc' := 315) (ls' := [.ref 5]) (st' := [.ref 5]) (S' := (M5, L)) rfl ?_
            obtain ⟨P6, hv6, h⟩ := h
            refine V.callVi (T2 := T_LineReader_readExpression) (As := []) (rest := []) rfl rfl g_LineReader_readExpression rfl rfl rfl rfl (Nat.le_of_ble_eq_true rfl) (by simp [Value.category]) (by simp [Value.category]) (Nat.le_of_ble_eq_true rfl) (Nat.le_refl _) hv6 (fun x6 M6 hq => ?_)
            have h := h x6 M6 hq
            refine V.ifc (cd := .eq) rfl (fun hc => ?_) (fun hc => ?_)
            · have h := h.1 hc
              refine V.run 1 (pc' := 351) (ls' := [.ref 5]) (st' := [.int (iI 0)]) (S' := (M6, L)) rfl ?_
              exact V.zret rfl rfl (by decide) ⟨_, _, rfl, rfl, h⟩
            · have h := h.2 hc
              refine V.run 2 (pc' := 324) (ls' := [.ref 5]) (st' := [.int (iI 41), .ref 5]) (S' := (M6, L)) rfl ?_
              obtain ⟨P7, hv7, h⟩ := h
              refine V.callVi (T2 := T_LineReader_readMark) (As := [.int (iI 41)]) (rest := []) rfl rfl g_LineReader_readMark rfl rfl rfl rfl (Nat.le_of_ble_eq_true rfl) (by simp [Value.category]) (by simp [Value.category]) (Nat.le_of_ble_eq_true rfl) (Nat.le_refl _) hv7 (fun x7 M7 hq => ?_)
              have h := h x7 M7 hq
              refine V.ifc (cd := .eq) rfl (fun hc => ?_) (fun hc => ?_)
              · have h := h.1 hc
                refine V.run 1 (pc' := 351) (ls' := [.ref 5]) (st' := [.int (iI 0)]) (S' := (M7, L)) rfl ?_
                exact V.zret rfl rfl (by decide) ⟨_, _, rfl, rfl, h⟩
              · have h := h.2 hc
                refine V.run 2 (pc' := 333) (ls' := [.ref 5]) (st' := [.int (iI 61), .ref 5]) (S' := (M7, L)) rfl ?_
                obtain ⟨P8, hv8, h⟩ := h
                refine V.callVi (T2 := T_LineReader_readMark) (As := [.int (iI 61)]) (rest := []) rfl rfl g_LineReader_readMark rfl rfl rfl rfl (Nat.le_of_ble_eq_true rfl) (by simp [Value.category]) (by simp [Value.category]) (Nat.le_of_ble_eq_true rfl) (Nat.le_refl _) hv8 (fun x8 M8 hq => ?_)
                have h := h x8 M8 hq
                refine V.ifc (cd := .eq) rfl (fun hc => ?_) (fun hc => ?_)
                · have h := h.1 hc
                  refine V.run 1 (pc' := 351) (ls' := [.ref 5]) (st' := [.int (iI 0)]) (S' := (M8, L)) rfl ?_
                  exact V.zret rfl rfl (by decide) ⟨_, _, rfl, rfl, h⟩
                · have h := h.2 hc
                  refine V.run 1 (pc' := 340) (ls' := [.ref 5]) (st' := [.ref 5]) (S' := (M8, L)) rfl ?_
                  obtain ⟨P9, hv9, h⟩ := h
                  refine V.callVi (T2 := T_LineReader_readExpression) (As := []) (rest := []) rfl rfl g_LineReader_readExpression rfl rfl rfl rfl (Nat.le_of_ble_eq_true rfl) (by simp [Value.category]) (by simp [Value.category]) (Nat.le_of_ble_eq_true rfl) (Nat.le_refl _) hv9 (fun x9 M9 hq => ?_)
                  have h := h x9 M9 hq
                  refine V.ifc (cd := .eq) rfl (fun hc => ?_) (fun hc => ?_)
                  · have h := h.1 hc
                    refine V.run 1 (pc' := 351) (ls' := [.ref 5]) (st' := [.int (iI 0)]) (S' := (M9, L)) rfl ?_
                    exact V.zret rfl rfl (by decide) ⟨_, _, rfl, rfl, h⟩
                  · have h := h.2 hc
                    refine V.run 2 (pc' := 351) (ls' := [.ref 5]) (st' := [.int (iI 1)]) (S' := (M9, L)) rfl ?_
                    exact V.zret rfl rfl (by decide) ⟨_, _, rfl, rfl, h⟩
      · have h := h.2 hc
        refine q_swP.c (fun hc => ?_) (fun hc => ?_)
        · have h := h.1 hc
          refine V.run 2 (pc' := 270) (ls' := [.ref 5]) (st' := [.int (iI 135), .ref 5]) (S' := (M1, L)) rfl ?_
          obtain ⟨P10, hv10, h⟩ := h
          refine V.callVi (T2 := T_LineReader_readWord) (As := [.int (iI 135)]) (rest := []) rfl rfl g_LineReader_readWord rfl rfl rfl rfl (Nat.le_of_ble_eq_true rfl) (by simp [Value.category]) (by simp [Value.category]) (Nat.le_of_ble_eq_true rfl) (Nat.le_refl _) hv10 (fun x10 M10 hq => ?_)
          have h := h x10 M10 hq
          exact V.zret rfl rfl h.1 ⟨_, _, rfl, rfl, h.2⟩
        · have h := h.2 hc
          refine q_swP.c (fun hc => ?_) (fun hc => ?_)
          · have h := h.1 hc
            refine V.run 2 (pc' := 191) (ls' := [.ref 5]) (st' := [.int (iI 132), .ref 5]) (S' := (M1, L)) rfl ?_
            obtain ⟨P11, hv11, h⟩ := h
            refine V.callVi (T2 := T_LineReader_readWord) (As := [.int (iI 132)]) (rest := []) rfl rfl g_LineReader_readWord rfl rfl rfl rfl (Nat.le_of_ble_eq_true rfl) (by simp [Value.category]) (by simp [Value.category]) (Nat.le_of_ble_eq_true rfl) (Nat.le_refl _) hv11 (fun x11 M11 hq => ?_)
            have h := h x11 M11 hq
            refine V.ifc (cd := .eq) rfl (fun hc => ?_) (fun hc => ?_)
            · have h := h.1 hc
              refine V.run 1 (pc' := 242) (ls' := [.ref 5]) (st' := [.int (iI 0)]) (S' := (M11, L)) rfl ?_
              exact V.zret rfl rfl (by decide) ⟨_, _, rfl, rfl, h⟩
            · have h := h.2 hc
              refine V.run 1 (pc' := 198) (ls' := [.ref 5]) (st' := [.ref 5]) (S' := (M11, L)) rfl ?_
              obtain ⟨P12, hv12, h⟩ := h
              refine V.callVi (T2 := T_LineReader_readVariable) (As := []) (rest := []) rfl rfl g_LineReader_readVariable rfl rfl rfl rfl (Nat.le_of_ble_eq_true rfl) (by simp [Value.category]) (by simp [Value.category]) (Nat.le_of_ble_eq_true rfl) (Nat.le_refl _) hv12 (fun x12 M12 hq => ?_)
              have h := h x12 M12 hq
              refine V.ifc (cd := .eq) rfl (fun hc => ?_) (fun hc => ?_)
              · have h := h.1 hc
                refine V.run 1 (pc' := 242) (ls' := [.ref 5]) (st' := [.int (iI 0)]) (S' := (M12, L)) rfl ?_
                exact V.zret rfl rfl (by decide) ⟨_, _, rfl, rfl, h⟩
              · have h := h.2 hc
                refine V.run 2 (pc' := 207) (ls' := [.ref 5]) (st' := [.int (iI 61), .ref 5]) (S' := (M12, L)) rfl ?_
                obtain ⟨P13, hv13, h⟩ := h
                refine V.callVi (T2 := T_LineReader_readMark) (As := [.int (iI 61)]) (rest := []) rfl rfl g_LineReader_readMark rfl rfl rfl rfl (Nat.le_of_ble_eq_true rfl) (by simp [Value.category]) (by simp [Value.category]) (Nat.le_of_ble_eq_true rfl) (Nat.le_refl _) hv13 (fun x13 M13 hq => ?_)
                have h := h x13 M13 hq
                refine V.ifc (cd := .eq) rfl (fun hc => ?_) (fun hc => ?_)
                · have h := h.1 hc
                  refine V.run 1 (pc' := 242) (ls' := [.ref 5]) (st' := [.int (iI 0)]) (S' := (M13, L)) rfl ?_
                  exact V.zret rfl rfl (by decide) ⟨_, _, rfl, rfl, h⟩
                · have h := h.2 hc
                  refine V.run 1 (pc' := 214) (ls' := [.ref 5]) (st' := [.ref 5]) (S' := (M13, L)) rfl ?_
                  obtain ⟨P14, hv14, h⟩ := h
                  refine V.callVi (T2 := T_LineReader_readExpression) (As := []) (rest := []) rfl rfl g_LineReader_readExpression rfl rfl rfl rfl (Nat.le_of_ble_eq_true rfl) (by simp [Value.category]) (by simp [Value.category]) (Nat.le_of_ble_eq_true rfl) (Nat.le_refl _) hv14 (fun x14 M14 hq => ?_)
                  have h := h x14 M14 hq
                  refine V.ifc (cd := .eq) rfl (fun hc => ?_) (fun hc => ?_)
                  · have h := h.1 hc
                    refine V.run 1 (pc' := 242) (ls' := [.ref 5]) (st' := [.int (iI 0)]) (S' := (M14, L)) rfl ?_
                    exact V.zret rfl rfl (by decide) ⟨_, _, rfl, rfl, h⟩
                  · have h := h.2 hc
                    refine V.run 2 (pc' := 224) (ls' := [.ref 5]) (st' := [.int (iI 133), .ref 5]) (S' := (M14, L)) rfl ?_
                    obtain ⟨P15, hv15, h⟩ := h
                    refine V.callVi (T2 := T_LineReader_readWord) (As := [.int (iI 133)]) (rest := []) rfl rfl g_LineReader_readWord rfl rfl rfl rfl (Nat.le_of_ble_eq_true rfl) (by simp [Value.category]) (by simp [Value.category]) (Nat.le_of_ble_eq_true rfl) (Nat.le_refl _) hv15 (fun x15 M15 hq => ?_)
                    have h := h x15 M15 hq
                    refine V.ifc (cd := .eq) rfl (fun hc => ?_) (fun hc => ?_)
                    · have h := h.1 hc
                      refine V.run 1 (pc' := 242) (ls' := [.ref 5]) (st' := [.int (iI 0)]) (S' := (M15, L)) rfl ?_
                      exact V.zret rfl rfl (by decide) ⟨_, _, rfl, rfl, h⟩
                    · have h := h.2 hc
                      refine V.run 1 (pc' := 231) (ls' := [.ref 5]) (st' := [.ref 5]) (S' := (M15, L)) rfl ?_
                      obtain ⟨P16, hv16, h⟩ := h
                      refine V.callVi (T2 := T_LineReader_readExpression) (As := []) (rest := []) rfl rfl g_LineReader_readExpression rfl rfl rfl rfl (Nat.le_of_ble_eq_true rfl) (by simp [Value.category]) (by simp [Value.category]) (Nat.le_of_ble_eq_true rfl) (Nat.le_refl _) hv16 (fun x16 M16 hq => ?_)
                      have h := h x16 M16 hq
                      refine V.ifc (cd := .eq) rfl (fun hc => ?_) (fun hc => ?_)
                      · have h := h.1 hc
                        refine V.run 1 (pc' := 242) (ls' := [.ref 5]) (st' := [.int (iI 0)]) (S' := (M16, L)) rfl ?_
                        exact V.zret rfl rfl (by decide) ⟨_, _, rfl, rfl, h⟩
                      · have h := h.2 hc
                        refine V.run 2 (pc' := 242) (ls' := [.ref 5]) (st' := [.int (iI 1)]) (S' := (M16, L)) rfl ?_
                        exact V.zret rfl rfl (by decide) ⟨_, _, rfl, rfl, h⟩
          · have h := h.2 hc
            refine q_swP.c (fun hc => ?_) (fun hc => ?_)
            · have h := h.1 hc
              refine V.run 3 (pc' := 103) (ls' := [.ref 5]) (st' := [.int (iI 2), .ref 5, .ref 5]) (S' := (M1, L)) rfl ?_
              obtain ⟨P17, hv17, h⟩ := h
              refine V.callVi (T2 := T_LineReader_ahead) (As := [.int (iI 2)]) (rest := [.ref 5]) rfl rfl g_LineReader_ahead rfl rfl rfl rfl (Nat.le_of_ble_eq_true rfl) (by simp [Value.category]) (by simp [Value.category]) (Nat.le_of_ble_eq_true rfl) (Nat.le_refl _) hv17 (fun x17 M17 hq => ?_)
              have h := h x17 M17 hq
              refine V.run 1 (pc' := 108) (ls' := [.ref 5]) (st' := [.int (iI 83), .int x17, .ref 5]) (S' := (M17, L)) rfl ?_
              refine V.icmp (cd := .ne) rfl (fun hc => ?_) (fun hc => ?_)
              · have h := h.1 hc
                refine V.run 1 (pc' := 120) (ls' := [.ref 5]) (st' := [.int (iI 128), .ref 5]) (S' := (M17, L)) rfl ?_
                exact h
              · have h := h.2 hc
                refine V.run 2 (pc' := 120) (ls' := [.ref 5]) (st' := [.int (iI 129), .ref 5]) (S' := (M17, L)) rfl ?_
                exact h
            · have h := h.2 hc
              refine q_swP.c (fun hc => ?_) (fun hc => ?_)
              · have h := h.1 hc
                refine V.run 2 (pc' := 151) (ls' := [.ref 5]) (st' := [.int (iI 131), .ref 5]) (S' := (M1, L)) rfl ?_
                obtain ⟨P18, hv18, h⟩ := h
                refine V.callVi (T2 := T_LineReader_readWord) (As := [.int (iI 131)]) (rest := []) rfl rfl g_LineReader_readWord rfl rfl rfl rfl (Nat.le_of_ble_eq_true rfl) (by simp [Value.category]) (by simp [Value.category]) (Nat.le_of_ble_eq_true rfl) (Nat.le_refl _) hv18 (fun x18 M18 hq => ?_)
                have h := h x18 M18 hq
                refine V.ifc (cd := .eq) rfl (fun hc => ?_) (fun hc => ?_)
                · have h := h.1 hc
                  refine V.run 1 (pc' := 186) (ls' := [.ref 5]) (st' := [.int (iI 0)]) (S' := (M18, L)) rfl ?_
                  exact V.zret rfl rfl (by decide) ⟨_, _, rfl, rfl, h⟩
                · have h := h.2 hc
                  refine V.run 1 (pc' := 158) (ls' := [.ref 5]) (st' := [.ref 5]) (S' := (M18, L)) rfl ?_
                  obtain ⟨P19, hv19, h⟩ := h
                  refine V.callVi (T2 := T_LineReader_readExpression) (As := []) (rest := []) rfl rfl g_LineReader_readExpression rfl rfl rfl rfl (Nat.le_of_ble_eq_true rfl) (by simp [Value.category]) (by simp [Value.category]) (Nat.le_of_ble_eq_true rfl) (Nat.le_refl _) hv19 (fun x19 M19 hq => ?_)
                  have h := h x19 M19 hq
                  refine V.ifc (cd := .eq) rfl (fun hc => ?_) (fun hc => ?_)
                  · have h := h.1 hc
                    refine V.run 1 (pc' := 186) (ls' := [.ref 5]) (st' := [.int (iI 0)]) (S' := (M19, L)) rfl ?_
                    exact V.zret rfl rfl (by decide) ⟨_, _, rfl, rfl, h⟩
                  · have h := h.2 hc
                    refine V.run 2 (pc' := 168) (ls' := [.ref 5]) (st' := [.int (iI 128), .ref 5]) (S' := (M19, L)) rfl ?_
                    obtain ⟨P20, hv20, h⟩ := h
                    refine V.callVi (T2 := T_LineReader_readWord) (As := [.int (iI 128)]) (rest := []) rfl rfl g_LineReader_readWord rfl rfl rfl rfl (Nat.le_of_ble_eq_true rfl) (by simp [Value.category]) (by simp [Value.category]) (Nat.le_of_ble_eq_true rfl) (Nat.le_refl _) hv20 (fun x20 M20 hq => ?_)
                    have h := h x20 M20 hq
                    refine V.ifc (cd := .eq) rfl (fun hc => ?_) (fun hc => ?_)
                    · have h := h.1 hc
                      refine V.run 1 (pc' := 186) (ls' := [.ref 5]) (st' := [.int (iI 0)]) (S' := (M20, L)) rfl ?_
                      exact V.zret rfl rfl (by decide) ⟨_, _, rfl, rfl, h⟩
                    · have h := h.2 hc
                      refine V.run 1 (pc' := 175) (ls' := [.ref 5]) (st' := [.ref 5]) (S' := (M20, L)) rfl ?_
                      obtain ⟨P21, hv21, h⟩ := h
                      refine V.callVi (T2 := T_LineReader_readLineNumber) (As := []) (rest := []) rfl rfl g_LineReader_readLineNumber rfl rfl rfl rfl (Nat.le_of_ble_eq_true rfl) (by simp [Value.category]) (by simp [Value.category]) (Nat.le_of_ble_eq_true rfl) (Nat.le_refl _) hv21 (fun x21 M21 hq => ?_)
                      have h := h x21 M21 hq
                      refine V.ifc (cd := .eq) rfl (fun hc => ?_) (fun hc => ?_)
                      · have h := h.1 hc
                        refine V.run 1 (pc' := 186) (ls' := [.ref 5]) (st' := [.int (iI 0)]) (S' := (M21, L)) rfl ?_
                        exact V.zret rfl rfl (by decide) ⟨_, _, rfl, rfl, h⟩
                      · have h := h.2 hc
                        refine V.run 2 (pc' := 186) (ls' := [.ref 5]) (st' := [.int (iI 1)]) (S' := (M21, L)) rfl ?_
                        exact V.zret rfl rfl (by decide) ⟨_, _, rfl, rfl, h⟩
              · have h := h.2 hc
                refine q_swP.c (fun hc => ?_) (fun hc => ?_)
                · have h := h.1 hc
                  refine V.run 2 (pc' := 247) (ls' := [.ref 5]) (st' := [.int (iI 134), .ref 5]) (S' := (M1, L)) rfl ?_
                  obtain ⟨P22, hv22, h⟩ := h
                  refine V.callVi (T2 := T_LineReader_readWord) (As := [.int (iI 134)]) (rest := []) rfl rfl g_LineReader_readWord rfl rfl rfl rfl (Nat.le_of_ble_eq_true rfl) (by simp [Value.category]) (by simp [Value.category]) (Nat.le_of_ble_eq_true rfl) (Nat.le_refl _) hv22 (fun x22 M22 hq => ?_)
                  have h := h x22 M22 hq
                  refine V.ifc (cd := .eq) rfl (fun hc => ?_) (fun hc => ?_)
                  · have h := h.1 hc
                    refine V.run 1 (pc' := 265) (ls' := [.ref 5]) (st' := [.int (iI 0)]) (S' := (M22, L)) rfl ?_
                    exact V.zret rfl rfl (by decide) ⟨_, _, rfl, rfl, h⟩
                  · have h := h.2 hc
                    refine V.run 1 (pc' := 254) (ls' := [.ref 5]) (st' := [.ref 5]) (S' := (M22, L)) rfl ?_
                    obtain ⟨P23, hv23, h⟩ := h
                    refine V.callVi (T2 := T_LineReader_readVariable) (As := []) (rest := []) rfl rfl g_LineReader_readVariable rfl rfl rfl rfl (Nat.le_of_ble_eq_true rfl) (by simp [Value.category]) (by simp [Value.category]) (Nat.le_of_ble_eq_true rfl) (Nat.le_refl _) hv23 (fun x23 M23 hq => ?_)
                    have h := h x23 M23 hq
                    refine V.ifc (cd := .eq) rfl (fun hc => ?_) (fun hc => ?_)
                    · have h := h.1 hc
                      refine V.run 1 (pc' := 265) (ls' := [.ref 5]) (st' := [.int (iI 0)]) (S' := (M23, L)) rfl ?_
                      exact V.zret rfl rfl (by decide) ⟨_, _, rfl, rfl, h⟩
                    · have h := h.2 hc
                      refine V.run 2 (pc' := 265) (ls' := [.ref 5]) (st' := [.int (iI 1)]) (S' := (M23, L)) rfl ?_
                      exact V.zret rfl rfl (by decide) ⟨_, _, rfl, rfl, h⟩
                · have h := h.2 hc
                  refine q_swP.c (fun hc => ?_) (fun hc => ?_)
                  · have h := h.1 hc
                    refine V.run 2 (pc' := 143) (ls' := [.ref 5]) (st' := [.int (iI 130), .ref 5]) (S' := (M1, L)) rfl ?_
                    obtain ⟨P24, hv24, h⟩ := h
                    refine V.callVi (T2 := T_LineReader_readWord) (As := [.int (iI 130)]) (rest := []) rfl rfl g_LineReader_readWord rfl rfl rfl rfl (Nat.le_of_ble_eq_true rfl) (by simp [Value.category]) (by simp [Value.category]) (Nat.le_of_ble_eq_true rfl) (Nat.le_refl _) hv24 (fun x24 M24 hq => ?_)
                    have h := h x24 M24 hq
                    exact V.zret rfl rfl h.1 ⟨_, _, rfl, rfl, h.2⟩
                  · have h := h.2 hc
                    refine q_swP.e ?_
                    refine V.run 1 (pc' := 353) (ls' := [.ref 5]) (st' := [.ref 5]) (S' := (M1, L)) rfl ?_
                    obtain ⟨P25, hv25, h⟩ := h
                    refine V.callVi (T2 := T_LineReader_readVariable) (As := []) (rest := []) rfl rfl g_LineReader_readVariable rfl rfl rfl rfl (Nat.le_of_ble_eq_true rfl) (by simp [Value.category]) (by simp [Value.category]) (Nat.le_of_ble_eq_true rfl) (Nat.le_refl _) hv25 (fun x25 M25 hq => ?_)
                    have h := h x25 M25 hq
                    refine V.ifc (cd := .eq) rfl (fun hc => ?_) (fun hc => ?_)
                    · have h := h.1 hc
                      refine V.run 1 (pc' := 380) (ls' := [.ref 5]) (st' := [.int (iI 0)]) (S' := (M25, L)) rfl ?_
                      exact V.zret rfl rfl (by decide) ⟨_, _, rfl, rfl, h⟩
                    · have h := h.2 hc
                      refine V.run 2 (pc' := 362) (ls' := [.ref 5]) (st' := [.int (iI 61), .ref 5]) (S' := (M25, L)) rfl ?_
                      obtain ⟨P26, hv26, h⟩ := h
                      refine V.callVi (T2 := T_LineReader_readMark) (As := [.int (iI 61)]) (rest := []) rfl rfl g_LineReader_readMark rfl rfl rfl rfl (Nat.le_of_ble_eq_true rfl) (by simp [Value.category]) (by simp [Value.category]) (Nat.le_of_ble_eq_true rfl) (Nat.le_refl _) hv26 (fun x26 M26 hq => ?_)
                      have h := h x26 M26 hq
                      refine V.ifc (cd := .eq) rfl (fun hc => ?_) (fun hc => ?_)
                      · have h := h.1 hc
                        refine V.run 1 (pc' := 380) (ls' := [.ref 5]) (st' := [.int (iI 0)]) (S' := (M26, L)) rfl ?_
                        exact V.zret rfl rfl (by decide) ⟨_, _, rfl, rfl, h⟩
                      · have h := h.2 hc
                        refine V.run 1 (pc' := 369) (ls' := [.ref 5]) (st' := [.ref 5]) (S' := (M26, L)) rfl ?_
                        obtain ⟨P27, hv27, h⟩ := h
                        refine V.callVi (T2 := T_LineReader_readExpression) (As := []) (rest := []) rfl rfl g_LineReader_readExpression rfl rfl rfl rfl (Nat.le_of_ble_eq_true rfl) (by simp [Value.category]) (by simp [Value.category]) (Nat.le_of_ble_eq_true rfl) (Nat.le_refl _) hv27 (fun x27 M27 hq => ?_)
                        have h := h x27 M27 hq
                        refine V.ifc (cd := .eq) rfl (fun hc => ?_) (fun hc => ?_)
                        · have h := h.1 hc
                          refine V.run 1 (pc' := 380) (ls' := [.ref 5]) (st' := [.int (iI 0)]) (S' := (M27, L)) rfl ?_
                          exact V.zret rfl rfl (by decide) ⟨_, _, rfl, rfl, h⟩
                        · have h := h.2 hc
                          refine V.run 2 (pc' := 380) (ls' := [.ref 5]) (st' := [.int (iI 1)]) (S' := (M27, L)) rfl ?_
                          exact V.zret rfl rfl (by decide) ⟨_, _, rfl, rfl, h⟩
set_option maxRecDepth 100000 in
set_option maxHeartbeats 4000000 in
theorem s_LineReader_readStatement_120 {l : Launch} {Γ : qG} {d r : Nat} {M : qM} {L : Nat → Int64} {P : Int32 → qM → Prop} (t : Nat) (ho : (t = 1) ∨ (t = 7)) (w0 : Int32) (h : ∃ P1 : Int32 → qM → Prop, V l Γ T_LineReader_readWord d 0 0 [.ref 5, .int w0, .null, .null] [] (M, L) (q_i L P1) ∧ ∀ (x1 : Int32) (M1 : qM), P1 x1 M1 → (x1 = 0 → P (iI 0) M1) ∧ (¬ x1 = 0 → ∃ P2 : Int32 → qM → Prop, V l Γ T_LineReader_readLineNumber d 0 0 [.ref 5] [] (M1, L) (q_i L P2) ∧ ∀ (x2 : Int32) (M2 : qM), P2 x2 M2 → (x2 = 0 → P (iI 0) M2) ∧ (¬ x2 = 0 → P (iI 1) M2))) : V l Γ T_LineReader_readStatement (d + 1) r 120 [.ref 5] [.int w0, .ref 5] (M, L) (q_i L P) := by
  rcases ho with rfl | rfl
  · obtain ⟨P1, hv1, h⟩ := h
    refine V.callVi (T2 := T_LineReader_readWord) (As := [.int w0]) (rest := []) rfl rfl g_LineReader_readWord rfl rfl rfl rfl (Nat.le_of_ble_eq_true rfl) (by simp [Value.category]) (by simp [Value.category]) (Nat.le_of_ble_eq_true rfl) (Nat.le_refl _) hv1 (fun x1 M1 hq => ?_)
    have h := h x1 M1 hq
    refine V.ifc (cd := .eq) rfl (fun hc => ?_) (fun hc => ?_)
    · have h := h.1 hc
      refine V.run 1 (pc' := 138) (ls' := [.ref 5]) (st' := [.int (iI 0)]) (S' := (M1, L)) rfl ?_
      exact V.zret rfl rfl (by decide) ⟨_, _, rfl, rfl, h⟩
    · have h := h.2 hc
      refine V.run 1 (pc' := 127) (ls' := [.ref 5]) (st' := [.ref 5]) (S' := (M1, L)) rfl ?_
      obtain ⟨P2, hv2, h⟩ := h
      refine V.callVi (T2 := T_LineReader_readLineNumber) (As := []) (rest := []) rfl rfl g_LineReader_readLineNumber rfl rfl rfl rfl (Nat.le_of_ble_eq_true rfl) (by simp [Value.category]) (by simp [Value.category]) (Nat.le_of_ble_eq_true rfl) (Nat.le_refl _) hv2 (fun x2 M2 hq => ?_)
      have h := h x2 M2 hq
      refine V.ifc (cd := .eq) rfl (fun hc => ?_) (fun hc => ?_)
      · have h := h.1 hc
        refine V.run 1 (pc' := 138) (ls' := [.ref 5]) (st' := [.int (iI 0)]) (S' := (M2, L)) rfl ?_
        exact V.zret rfl rfl (by decide) ⟨_, _, rfl, rfl, h⟩
      · have h := h.2 hc
        refine V.run 2 (pc' := 138) (ls' := [.ref 5]) (st' := [.int (iI 1)]) (S' := (M2, L)) rfl ?_
        exact V.zret rfl rfl (by decide) ⟨_, _, rfl, rfl, h⟩
  · obtain ⟨P1, hv1, h⟩ := h
    refine V.callVi (T2 := T_LineReader_readWord) (As := [.int w0]) (rest := []) rfl rfl g_LineReader_readWord rfl rfl rfl rfl (Nat.le_of_ble_eq_true rfl) (by simp [Value.category]) (by simp [Value.category]) (Nat.le_of_ble_eq_true rfl) (Nat.le_refl _) hv1 (fun x1 M1 hq => ?_)
    have h := h x1 M1 hq
    refine V.ifc (cd := .eq) rfl (fun hc => ?_) (fun hc => ?_)
    · have h := h.1 hc
      refine V.run 1 (pc' := 138) (ls' := [.ref 5]) (st' := [.int (iI 0)]) (S' := (M1, L)) rfl ?_
      exact V.zret rfl rfl (by decide) ⟨_, _, rfl, rfl, h⟩
    · have h := h.2 hc
      refine V.run 1 (pc' := 127) (ls' := [.ref 5]) (st' := [.ref 5]) (S' := (M1, L)) rfl ?_
      obtain ⟨P2, hv2, h⟩ := h
      refine V.callVi (T2 := T_LineReader_readLineNumber) (As := []) (rest := []) rfl rfl g_LineReader_readLineNumber rfl rfl rfl rfl (Nat.le_of_ble_eq_true rfl) (by simp [Value.category]) (by simp [Value.category]) (Nat.le_of_ble_eq_true rfl) (Nat.le_refl _) hv2 (fun x2 M2 hq => ?_)
      have h := h x2 M2 hq
      refine V.ifc (cd := .eq) rfl (fun hc => ?_) (fun hc => ?_)
      · have h := h.1 hc
        refine V.run 1 (pc' := 138) (ls' := [.ref 5]) (st' := [.int (iI 0)]) (S' := (M2, L)) rfl ?_
        exact V.zret rfl rfl (by decide) ⟨_, _, rfl, rfl, h⟩
      · have h := h.2 hc
        refine V.run 2 (pc' := 138) (ls' := [.ref 5]) (st' := [.int (iI 1)]) (S' := (M2, L)) rfl ?_
        exact V.zret rfl rfl (by decide) ⟨_, _, rfl, rfl, h⟩
set_option maxRecDepth 100000 in
set_option maxHeartbeats 4000000 in
theorem s_LineReader_readVariable_0 {l : Launch} {Γ : qG} {d r : Nat} {M : qM} {L : Nat → Int64} {P : Int32 → qM → Prop} (t : Nat) (ho : (t = 1) ∨ (t = 7)) (h : ∃ P1 : qM → Prop, V l Γ T_LineReader_skipSpaces d 0 0 [.ref 5] [] (M, L) (q_n L P1) ∧ ∀ (M1 : qM), P1 M1 → ∃ P2 : Int32 → qM → Prop, V l Γ T_LineReader_ahead d 0 0 [.ref 5, .int (iI 0)] [] (M1, L) (q_i L P2) ∧ ∀ (x2 : Int32) (M2 : qM), P2 x2 M2 → ∃ P3 : Int32 → qM → Prop, V l Γ T_TapedLines_isVariable d 0 0 [.int x2] [] (M2, L) (q_i L P3) ∧ ∀ (x3 : Int32) (M3 : qM), P3 x3 M3 → (x3 = 0 → P (iI 0) M3) ∧ (¬ x3 = 0 → ∃ P4 : Int32 → qM → Prop, V l Γ T_LineReader_take d 0 0 [.ref 5] [] (M3, L) (q_i L P4) ∧ ∀ (x4 : Int32) (M4 : qM), P4 x4 M4 → (x4 = 0 → P (iI 0) M4) ∧ (¬ x4 = 0 → P (iI 1) M4))) : V l Γ T_LineReader_readVariable (d + 1) r 0 [.ref 5] [] (M, L) (q_i L P) := by
  rcases ho with rfl | rfl
  · refine V.run 1 (pc' := 1) (ls' := [.ref 5]) (st' := [.ref 5]) (S' := (M, L)) rfl ?_
    obtain ⟨P1, hv1, h⟩ := h
    refine V.callVv (T2 := T_LineReader_skipSpaces) (As := []) (rest := []) rfl rfl g_LineReader_skipSpaces rfl rfl rfl rfl (Nat.le_of_ble_eq_true rfl) (by simp [Value.category]) (by simp [Value.category]) (Nat.le_of_ble_eq_true rfl) (Nat.le_refl _) hv1 (fun M1 hq => ?_)
    have h := h M1 hq
    refine V.run 2 (pc' := 6) (ls' := [.ref 5]) (st' := [.int (iI 0), .ref 5]) (S' := (M1, L)) rfl ?_
    obtain ⟨P2, hv2, h⟩ := h
    refine V.callVi (T2 := T_LineReader_ahead) (As := [.int (iI 0)]) (rest := []) rfl rfl g_LineReader_ahead rfl rfl rfl rfl (Nat.le_of_ble_eq_true rfl) (by simp [Value.category]) (by simp [Value.category]) (Nat.le_of_ble_eq_true rfl) (Nat.le_refl _) hv2 (fun x2 M2 hq => ?_)
    have h := h x2 M2 hq
    obtain ⟨P3, hv3, h⟩ := h
    refine V.callSNi (T2 := T_TapedLines_isVariable) (As := [.int x2]) (rest := []) rfl rfl g_TapedLines_isVariable rfl (Nat.le_of_ble_eq_true rfl) (by simp [Value.category]) (by simp [Value.category]) (Nat.le_of_ble_eq_true rfl) (Nat.le_refl _) hv3 (fun x3 M3 hq => ?_)
    have h := h x3 M3 hq
    refine V.ifc (cd := .eq) rfl (fun hc => ?_) (fun hc => ?_)
    · have h := h.1 hc
      refine V.run 1 (pc' := 27) (ls' := [.ref 5]) (st' := [.int (iI 0)]) (S' := (M3, L)) rfl ?_
      exact V.zret rfl rfl (by decide) ⟨_, _, rfl, rfl, h⟩
    · have h := h.2 hc
      refine V.run 1 (pc' := 16) (ls' := [.ref 5]) (st' := [.ref 5]) (S' := (M3, L)) rfl ?_
      obtain ⟨P4, hv4, h⟩ := h
      refine V.callVi (T2 := T_LineReader_take) (As := []) (rest := []) rfl rfl g_LineReader_take rfl rfl rfl rfl (Nat.le_of_ble_eq_true rfl) (by simp [Value.category]) (by simp [Value.category]) (Nat.le_of_ble_eq_true rfl) (Nat.le_refl _) hv4 (fun x4 M4 hq => ?_)
      have h := h x4 M4 hq
      refine V.ifc (cd := .eq) rfl (fun hc => ?_) (fun hc => ?_)
      · have h := h.1 hc
        refine V.run 1 (pc' := 27) (ls' := [.ref 5]) (st' := [.int (iI 0)]) (S' := (M4, L)) rfl ?_
        exact V.zret rfl rfl (by decide) ⟨_, _, rfl, rfl, h⟩
      · have h := h.2 hc
        refine V.run 2 (pc' := 27) (ls' := [.ref 5]) (st' := [.int (iI 1)]) (S' := (M4, L)) rfl ?_
        exact V.zret rfl rfl (by decide) ⟨_, _, rfl, rfl, h⟩
  · refine V.run 1 (pc' := 1) (ls' := [.ref 5]) (st' := [.ref 5]) (S' := (M, L)) rfl ?_
    obtain ⟨P1, hv1, h⟩ := h
    refine V.callVv (T2 := T_LineReader_skipSpaces) (As := []) (rest := []) rfl rfl g_LineReader_skipSpaces rfl rfl rfl rfl (Nat.le_of_ble_eq_true rfl) (by simp [Value.category]) (by simp [Value.category]) (Nat.le_of_ble_eq_true rfl) (Nat.le_refl _) hv1 (fun M1 hq => ?_)
    have h := h M1 hq
    refine V.run 2 (pc' := 6) (ls' := [.ref 5]) (st' := [.int (iI 0), .ref 5]) (S' := (M1, L)) rfl ?_
    obtain ⟨P2, hv2, h⟩ := h
    refine V.callVi (T2 := T_LineReader_ahead) (As := [.int (iI 0)]) (rest := []) rfl rfl g_LineReader_ahead rfl rfl rfl rfl (Nat.le_of_ble_eq_true rfl) (by simp [Value.category]) (by simp [Value.category]) (Nat.le_of_ble_eq_true rfl) (Nat.le_refl _) hv2 (fun x2 M2 hq => ?_)
    have h := h x2 M2 hq
    obtain ⟨P3, hv3, h⟩ := h
    refine V.callSNi (T2 := T_TapedLines_isVariable) (As := [.int x2]) (rest := []) rfl rfl g_TapedLines_isVariable rfl (Nat.le_of_ble_eq_true rfl) (by simp [Value.category]) (by simp [Value.category]) (Nat.le_of_ble_eq_true rfl) (Nat.le_refl _) hv3 (fun x3 M3 hq => ?_)
    have h := h x3 M3 hq
    refine V.ifc (cd := .eq) rfl (fun hc => ?_) (fun hc => ?_)
    · have h := h.1 hc
      refine V.run 1 (pc' := 27) (ls' := [.ref 5]) (st' := [.int (iI 0)]) (S' := (M3, L)) rfl ?_
      exact V.zret rfl rfl (by decide) ⟨_, _, rfl, rfl, h⟩
    · have h := h.2 hc
      refine V.run 1 (pc' := 16) (ls' := [.ref 5]) (st' := [.ref 5]) (S' := (M3, L)) rfl ?_
      obtain ⟨P4, hv4, h⟩ := h
      refine V.callVi (T2 := T_LineReader_take) (As := []) (rest := []) rfl rfl g_LineReader_take rfl rfl rfl rfl (Nat.le_of_ble_eq_true rfl) (by simp [Value.category]) (by simp [Value.category]) (Nat.le_of_ble_eq_true rfl) (Nat.le_refl _) hv4 (fun x4 M4 hq => ?_)
      have h := h x4 M4 hq
      refine V.ifc (cd := .eq) rfl (fun hc => ?_) (fun hc => ?_)
      · have h := h.1 hc
        refine V.run 1 (pc' := 27) (ls' := [.ref 5]) (st' := [.int (iI 0)]) (S' := (M4, L)) rfl ?_
        exact V.zret rfl rfl (by decide) ⟨_, _, rfl, rfl, h⟩
      · have h := h.2 hc
        refine V.run 2 (pc' := 27) (ls' := [.ref 5]) (st' := [.int (iI 1)]) (S' := (M4, L)) rfl ?_
        exact V.zret rfl rfl (by decide) ⟨_, _, rfl, rfl, h⟩
set_option maxRecDepth 100000 in
set_option maxHeartbeats 4000000 in
theorem s_LineReader_readMark_0 {l : Launch} {Γ : qG} {d r : Nat} {M : qM} {L : Nat → Int64} {P : Int32 → qM → Prop} (t : Nat) (ho : (t = 1) ∨ (t = 7)) (a : Int32) (h : ∃ P1 : qM → Prop, V l Γ T_LineReader_skipSpaces d 0 0 [.ref 5] [] (M, L) (q_n L P1) ∧ ∀ (M1 : qM), P1 M1 → ∃ P2 : Int32 → qM → Prop, V l Γ T_LineReader_ahead d 0 0 [.ref 5, .int (iI 0)] [] (M1, L) (q_i L P2) ∧ ∀ (x2 : Int32) (M2 : qM), P2 x2 M2 → (¬ x2 = a → P (iI 0) M2) ∧ (¬ (¬ x2 = a) → ∃ P3 : Int32 → qM → Prop, V l Γ T_LineReader_take d 0 0 [.ref 5] [] (M2, L) (q_i L P3) ∧ ∀ (x3 : Int32) (M3 : qM), P3 x3 M3 → (x3 = 0 → P (iI 0) M3) ∧ (¬ x3 = 0 → P (iI 1) M3))) : V l Γ T_LineReader_readMark (d + 1) r 0 [.ref 5, .int a] [] (M, L) (q_i L P) := by
  rcases ho with rfl | rfl
  · refine V.run 1 (pc' := 1) (ls' := [.ref 5, .int a]) (st' := [.ref 5]) (S' := (M, L)) rfl ?_
    obtain ⟨P1, hv1, h⟩ := h
    refine V.callVv (T2 := T_LineReader_skipSpaces) (As := []) (rest := []) rfl rfl g_LineReader_skipSpaces rfl rfl rfl rfl (Nat.le_of_ble_eq_true rfl) (by simp [Value.category]) (by simp [Value.category]) (Nat.le_of_ble_eq_true rfl) (Nat.le_refl _) hv1 (fun M1 hq => ?_)
    have h := h M1 hq
    refine V.run 2 (pc' := 6) (ls' := [.ref 5, .int a]) (st' := [.int (iI 0), .ref 5]) (S' := (M1, L)) rfl ?_
    obtain ⟨P2, hv2, h⟩ := h
    refine V.callVi (T2 := T_LineReader_ahead) (As := [.int (iI 0)]) (rest := []) rfl rfl g_LineReader_ahead rfl rfl rfl rfl (Nat.le_of_ble_eq_true rfl) (by simp [Value.category]) (by simp [Value.category]) (Nat.le_of_ble_eq_true rfl) (Nat.le_refl _) hv2 (fun x2 M2 hq => ?_)
    have h := h x2 M2 hq
    refine V.run 1 (pc' := 10) (ls' := [.ref 5, .int a]) (st' := [.int a, .int x2]) (S' := (M2, L)) rfl ?_
    refine V.icmp (cd := .ne) rfl (fun hc => ?_) (fun hc => ?_)
    · have h := h.1 hc
      refine V.run 1 (pc' := 25) (ls' := [.ref 5, .int a]) (st' := [.int (iI 0)]) (S' := (M2, L)) rfl ?_
      exact V.zret rfl rfl (by decide) ⟨_, _, rfl, rfl, h⟩
    · have h := h.2 hc
      refine V.run 1 (pc' := 14) (ls' := [.ref 5, .int a]) (st' := [.ref 5]) (S' := (M2, L)) rfl ?_
      obtain ⟨P3, hv3, h⟩ := h
      refine V.callVi (T2 := T_LineReader_take) (As := []) (rest := []) rfl rfl g_LineReader_take rfl rfl rfl rfl (Nat.le_of_ble_eq_true rfl) (by simp [Value.category]) (by simp [Value.category]) (Nat.le_of_ble_eq_true rfl) (Nat.le_refl _) hv3 (fun x3 M3 hq => ?_)
      have h := h x3 M3 hq
      refine V.ifc (cd := .eq) rfl (fun hc => ?_) (fun hc => ?_)
      · have h := h.1 hc
        refine V.run 1 (pc' := 25) (ls' := [.ref 5, .int a]) (st' := [.int (iI 0)]) (S' := (M3, L)) rfl ?_
        exact V.zret rfl rfl (by decide) ⟨_, _, rfl, rfl, h⟩
      · have h := h.2 hc
        refine V.run 2 (pc' := 25) (ls' := [.ref 5, .int a]) (st' := [.int (iI 1)]) (S' := (M3, L)) rfl ?_
        exact V.zret rfl rfl (by decide) ⟨_, _, rfl, rfl, h⟩
  · refine V.run 1 (pc' := 1) (ls' := [.ref 5, .int a]) (st' := [.ref 5]) (S' := (M, L)) rfl ?_
    obtain ⟨P1, hv1, h⟩ := h
    refine V.callVv (T2 := T_LineReader_skipSpaces) (As := []) (rest := []) rfl rfl g_LineReader_skipSpaces rfl rfl rfl rfl (Nat.le_of_ble_eq_true rfl) (by simp [Value.category]) (by simp [Value.category]) (Nat.le_of_ble_eq_true rfl) (Nat.le_refl _) hv1 (fun M1 hq => ?_)
    have h := h M1 hq
    refine V.run 2 (pc' := 6) (ls' := [.ref 5, .int a]) (st' := [.int (iI 0), .ref 5]) (S' := (M1, L)) rfl ?_
    obtain ⟨P2, hv2, h⟩ := h
    refine V.callVi (T2 := T_LineReader_ahead) (As := [.int (iI 0)]) (rest := []) rfl rfl g_LineReader_ahead rfl rfl rfl rfl (Nat.le_of_ble_eq_true rfl) (by simp [Value.category]) (by simp [Value.category]) (Nat.le_of_ble_eq_true rfl) (Nat.le_refl _) hv2 (fun x2 M2 hq => ?_)
    have h := h x2 M2 hq
    refine V.run 1 (pc' := 10) (ls' := [.ref 5, .int a]) (st' := [.int a, .int x2]) (S' := (M2, L)) rfl ?_
    refine V.icmp (cd := .ne) rfl (fun hc => ?_) (fun hc => ?_)
    · have h := h.1 hc
      refine V.run 1 (pc' := 25) (ls' := [.ref 5, .int a]) (st' := [.int (iI 0)]) (S' := (M2, L)) rfl ?_
      exact V.zret rfl rfl (by decide) ⟨_, _, rfl, rfl, h⟩
    · have h := h.2 hc
      refine V.run 1 (pc' := 14) (ls' := [.ref 5, .int a]) (st' := [.ref 5]) (S' := (M2, L)) rfl ?_
      obtain ⟨P3, hv3, h⟩ := h
      refine V.callVi (T2 := T_LineReader_take) (As := []) (rest := []) rfl rfl g_LineReader_take rfl rfl rfl rfl (Nat.le_of_ble_eq_true rfl) (by simp [Value.category]) (by simp [Value.category]) (Nat.le_of_ble_eq_true rfl) (Nat.le_refl _) hv3 (fun x3 M3 hq => ?_)
      have h := h x3 M3 hq
      refine V.ifc (cd := .eq) rfl (fun hc => ?_) (fun hc => ?_)
      · have h := h.1 hc
        refine V.run 1 (pc' := 25) (ls' := [.ref 5, .int a]) (st' := [.int (iI 0)]) (S' := (M3, L)) rfl ?_
        exact V.zret rfl rfl (by decide) ⟨_, _, rfl, rfl, h⟩
      · have h := h.2 hc
        refine V.run 2 (pc' := 25) (ls' := [.ref 5, .int a]) (st' := [.int (iI 1)]) (S' := (M3, L)) rfl ?_
        exact V.zret rfl rfl (by decide) ⟨_, _, rfl, rfl, h⟩
set_option maxRecDepth 100000 in
set_option maxHeartbeats 4000000 in
theorem s_LineReader_readLineNumber_0 {l : Launch} {Γ : qG} {d r : Nat} {M : qM} {L : Nat → Int64} {P : Int32 → qM → Prop} (t : Nat) (ho : (t = 1) ∨ (t = 7)) (h : ∃ P1 : Int32 → qM → Prop, V l Γ T_LineReader_readNumber d 0 0 [.ref 5, .int (iI 1), .int (iI 99), .null, .null, .null, .null] [] (M, L) (q_i L P1) ∧ ∀ (x1 : Int32) (M1 : qM), P1 x1 M1 → (x1 = (iI (-1)) → P (iI 0) M1) ∧ (¬ x1 = (iI (-1)) → P (iI 1) M1)) : V l Γ T_LineReader_readLineNumber (d + 1) r 0 [.ref 5] [] (M, L) (q_i L P) := by
  rcases ho with rfl | rfl
  · refine V.run 3 (pc' := 4) (ls' := [.ref 5]) (st' := [.int (iI 99), .int (iI 1), .ref 5]) (S' := (M, L)) rfl ?_
    obtain ⟨P1, hv1, h⟩ := h
    refine V.callVi (T2 := T_LineReader_readNumber) (As := [.int (iI 1), .int (iI 99)]) (rest := []) rfl rfl g_LineReader_readNumber rfl rfl rfl rfl (Nat.le_of_ble_eq_true rfl) (by simp [Value.category]) (by simp [Value.category]) (Nat.le_of_ble_eq_true rfl) (Nat.le_refl _) hv1 (fun x1 M1 hq => ?_)
    have h := h x1 M1 hq
    refine V.run 1 (pc' := 8) (ls' := [.ref 5]) (st' := [.int (iI (-1)), .int x1]) (S' := (M1, L)) rfl ?_
    refine V.icmp (cd := .eq) rfl (fun hc => ?_) (fun hc => ?_)
    · have h := h.1 hc
      refine V.run 1 (pc' := 16) (ls' := [.ref 5]) (st' := [.int (iI 0)]) (S' := (M1, L)) rfl ?_
      exact V.zret rfl rfl (by decide) ⟨_, _, rfl, rfl, h⟩
    · have h := h.2 hc
      refine V.run 2 (pc' := 16) (ls' := [.ref 5]) (st' := [.int (iI 1)]) (S' := (M1, L)) rfl ?_
      exact V.zret rfl rfl (by decide) ⟨_, _, rfl, rfl, h⟩
  · refine V.run 3 (pc' := 4) (ls' := [.ref 5]) (st' := [.int (iI 99), .int (iI 1), .ref 5]) (S' := (M, L)) rfl ?_
    obtain ⟨P1, hv1, h⟩ := h
    refine V.callVi (T2 := T_LineReader_readNumber) (As := [.int (iI 1), .int (iI 99)]) (rest := []) rfl rfl g_LineReader_readNumber rfl rfl rfl rfl (Nat.le_of_ble_eq_true rfl) (by simp [Value.category]) (by simp [Value.category]) (Nat.le_of_ble_eq_true rfl) (Nat.le_refl _) hv1 (fun x1 M1 hq => ?_)
    have h := h x1 M1 hq
    refine V.run 1 (pc' := 8) (ls' := [.ref 5]) (st' := [.int (iI (-1)), .int x1]) (S' := (M1, L)) rfl ?_
    refine V.icmp (cd := .eq) rfl (fun hc => ?_) (fun hc => ?_)
    · have h := h.1 hc
      refine V.run 1 (pc' := 16) (ls' := [.ref 5]) (st' := [.int (iI 0)]) (S' := (M1, L)) rfl ?_
      exact V.zret rfl rfl (by decide) ⟨_, _, rfl, rfl, h⟩
    · have h := h.2 hc
      refine V.run 2 (pc' := 16) (ls' := [.ref 5]) (st' := [.int (iI 1)]) (S' := (M1, L)) rfl ?_
      exact V.zret rfl rfl (by decide) ⟨_, _, rfl, rfl, h⟩
set_option maxRecDepth 100000 in
set_option maxHeartbeats 4000000 in
theorem s_LineReader_readNumber_0 {l : Launch} {Γ : qG} {d r : Nat} {M : qM} {L : Nat → Int64} {P : Int32 → qM → Prop} (t : Nat) (ho : (t = 1) ∨ (t = 7)) (a b : Int32) (h : ∃ P1 : qM → Prop, V l Γ T_LineReader_skipSpaces d 0 0 [.ref 5] [] (M, L) (q_n L P1) ∧ ∀ (M1 : qM), P1 M1 → V l Γ T_LineReader_readNumber (d + 1) r 12 [.ref 5, .int a, .int b, .int (iI (-1)), .int (M1 5 3), .null, .null] [] (M1, L) (q_i L P)) : V l Γ T_LineReader_readNumber (d + 1) r 0 [.ref 5, .int a, .int b, .null, .null, .null, .null] [] (M, L) (q_i L P) := by
  rcases ho with rfl | rfl
  · refine V.run 1 (pc' := 1) (ls' := [.ref 5, .int a, .int b, .null, .null, .null, .null]) (st' := [.ref 5]) (S' := (M, L)) rfl ?_
    obtain ⟨P1, hv1, h⟩ := h
    refine V.callVv (T2 := T_LineReader_skipSpaces) (As := []) (rest := []) rfl rfl g_LineReader_skipSpaces rfl rfl rfl rfl (Nat.le_of_ble_eq_true rfl) (by simp [Value.category]) (by simp [Value.category]) (Nat.le_of_ble_eq_true rfl) (Nat.le_refl _) hv1 (fun M1 hq => ?_)
    have h := h M1 hq
    refine V.run 5 (pc' := 12) (ls' := [.ref 5, .int a, .int b, .int (iI (-1)), .int (M1 5 3), .null, .null]) (st' := []) (S' := (M1, L)) rfl ?_
    exact h
  · refine V.run 1 (pc' := 1) (ls' := [.ref 5, .int a, .int b, .null, .null, .null, .null]) (st' := [.ref 5]) (S' := (M, L)) rfl ?_
    obtain ⟨P1, hv1, h⟩ := h
    refine V.callVv (T2 := T_LineReader_skipSpaces) (As := []) (rest := []) rfl rfl g_LineReader_skipSpaces rfl rfl rfl rfl (Nat.le_of_ble_eq_true rfl) (by simp [Value.category]) (by simp [Value.category]) (Nat.le_of_ble_eq_true rfl) (Nat.le_refl _) hv1 (fun M1 hq => ?_)
    have h := h M1 hq
    refine V.run 5 (pc' := 12) (ls' := [.ref 5, .int a, .int b, .int (iI (-1)), .int (M1 5 3), .null, .null]) (st' := []) (S' := (M1, L)) rfl ?_
    exact h
set_option maxRecDepth 100000 in
set_option maxHeartbeats 4000000 in
theorem s_LineReader_readNumber_12 {l : Launch} {Γ : qG} {d r : Nat} {M : qM} {L : Nat → Int64} {P : Int32 → qM → Prop} (t : Nat) (ho : (t = 1) ∨ (t = 7)) (v1 v2 v3 v4 : Int32) (h : ((M 5 4)).toNatClampNeg = t ∧ ((M t 1) ≤ v4 → P v3 M) ∧ (¬ (M t 1) ≤ v4 → ((M 5 4)).toNatClampNeg = t ∧ vp_in v4 (cp (t + 1)) ∧ ∃ P1 : Int32 → qM → Prop, V l Γ T_TapedLines_isDigit d 0 0 [.int (M (t + 1) (v4).toNatClampNeg)] [] (M, L) (q_i L P1) ∧ ∀ (x1 : Int32) (M1 : qM), P1 x1 M1 → (x1 = 0 → P v3 M1) ∧ (¬ x1 = 0 → ((M1 5 4)).toNatClampNeg = t ∧ vp_in v4 (cp (t + 1)) ∧ (¬ v3 = (iI (-1)) → V l Γ T_LineReader_readNumber (d + 1) r 72 [.ref 5, .int v1, .int v2, .int v3, .int v4, .null, .null] [.int ((v3 * (iI 10)) + ((M1 (t + 1) (v4).toNatClampNeg) - (iI 48)))] (M1, L) (q_i L P)) ∧ (¬ (¬ v3 = (iI (-1))) → V l Γ T_LineReader_readNumber (d + 1) r 72 [.ref 5, .int v1, .int v2, .int v3, .int v4, .null, .null] [.int ((M1 (t + 1) (v4).toNatClampNeg) - (iI 48))] (M1, L) (q_i L P))))) : V l Γ T_LineReader_readNumber (d + 1) r 12 [.ref 5, .int v1, .int v2, .int v3, .int v4, .null, .null] [] (M, L) (q_i L P) := by
  rcases ho with rfl | rfl
  · refine V.run 2 (pc' := 15) (ls' := [.ref 5, .int v1, .int v2, .int v3, .int v4, .null, .null]) (st' := [.ref 5, .int v4]) (S' := (M, L)) rfl ?_
    refine V.gfm rfl rfl rfl h.1 ?_
    have h := h.2
    refine V.run 1 (pc' := 21) (ls' := [.ref 5, .int v1, .int v2, .int v3, .int v4, .null, .null]) (st' := [.int (M 1 1), .int v4]) (S' := (M, L)) rfl ?_
    refine V.icmp (cd := .ge) rfl (fun hc => ?_) (fun hc => ?_)
    · have h := h.1 hc
      refine V.run 1 (pc' := 107) (ls' := [.ref 5, .int v1, .int v2, .int v3, .int v4, .null, .null]) (st' := [.int v3]) (S' := (M, L)) rfl ?_
      exact V.iret rfl rfl ⟨_, _, rfl, rfl, h⟩
    · have h := h.2 hc
      refine V.run 1 (pc' := 25) (ls' := [.ref 5, .int v1, .int v2, .int v3, .int v4, .null, .null]) (st' := [.ref 5]) (S' := (M, L)) rfl ?_
      refine V.gfm rfl rfl rfl h.1 ?_
      have h := h.2
      refine V.run 2 (pc' := 33) (ls' := [.ref 5, .int v1, .int v2, .int v3, .int v4, .null, .null]) (st' := [.int v4, .ref 2]) (S' := (M, L)) rfl ?_
      refine V.cald rfl rfl h.1 ?_
      have h := h.2
      obtain ⟨P1, hv1, h⟩ := h
      refine V.callSNi (T2 := T_TapedLines_isDigit) (As := [.int (M 2 (v4).toNatClampNeg)]) (rest := []) rfl rfl g_TapedLines_isDigit rfl (Nat.le_of_ble_eq_true rfl) (by simp [Value.category]) (by simp [Value.category]) (Nat.le_of_ble_eq_true rfl) (Nat.le_refl _) hv1 (fun x1 M1 hq => ?_)
      have h := h x1 M1 hq
      refine V.ifc (cd := .eq) rfl (fun hc => ?_) (fun hc => ?_)
      · have h := h.1 hc
        refine V.run 1 (pc' := 107) (ls' := [.ref 5, .int v1, .int v2, .int v3, .int v4, .null, .null]) (st' := [.int v3]) (S' := (M1, L)) rfl ?_
        exact V.iret rfl rfl ⟨_, _, rfl, rfl, h⟩
      · have h := h.2 hc
        refine V.run 1 (pc' := 41) (ls' := [.ref 5, .int v1, .int v2, .int v3, .int v4, .null, .null]) (st' := [.ref 5]) (S' := (M1, L)) rfl ?_
        refine V.gfm rfl rfl rfl h.1 ?_
        have h := h.2
        refine V.run 2 (pc' := 49) (ls' := [.ref 5, .int v1, .int v2, .int v3, .int v4, .null, .null]) (st' := [.int v4, .ref 2]) (S' := (M1, L)) rfl ?_
        refine V.cald rfl rfl h.1 ?_
        have h := h.2
        refine V.run 5 (pc' := 57) (ls' := [.ref 5, .int v1, .int v2, .int v3, .int v4, .int ((M1 2 (v4).toNatClampNeg) - (iI 48)), .null]) (st' := [.int (iI (-1)), .int v3]) (S' := (M1, L)) rfl ?_
        refine V.icmp (cd := .ne) rfl (fun hc => ?_) (fun hc => ?_)
        · have h := h.1 hc
          refine V.run 5 (pc' := 72) (ls' := [.ref 5, .int v1, .int v2, .int v3, .int v4, .int ((M1 2 (v4).toNatClampNeg) - (iI 48)), .null]) (st' := [.int ((v3 * (iI 10)) + ((M1 2 (v4).toNatClampNeg) - (iI 48)))]) (S' := (M1, L)) rfl ?_
          refine V.forget (ls' := [.ref 5, .int v1, .int v2, .int v3, .int v4, .null, .null]) ⟨Or.inr rfl, Or.inr rfl, Or.inr rfl, Or.inr rfl, Or.inr rfl, Or.inl rfl, Or.inl rfl, trivial⟩ ?_
          exact h
        · have h := h.2 hc
          refine V.run 2 (pc' := 72) (ls' := [.ref 5, .int v1, .int v2, .int v3, .int v4, .int ((M1 2 (v4).toNatClampNeg) - (iI 48)), .null]) (st' := [.int ((M1 2 (v4).toNatClampNeg) - (iI 48))]) (S' := (M1, L)) rfl ?_
          refine V.forget (ls' := [.ref 5, .int v1, .int v2, .int v3, .int v4, .null, .null]) ⟨Or.inr rfl, Or.inr rfl, Or.inr rfl, Or.inr rfl, Or.inr rfl, Or.inl rfl, Or.inl rfl, trivial⟩ ?_
          exact h
  · refine V.run 2 (pc' := 15) (ls' := [.ref 5, .int v1, .int v2, .int v3, .int v4, .null, .null]) (st' := [.ref 5, .int v4]) (S' := (M, L)) rfl ?_
    refine V.gfm rfl rfl rfl h.1 ?_
    have h := h.2
    refine V.run 1 (pc' := 21) (ls' := [.ref 5, .int v1, .int v2, .int v3, .int v4, .null, .null]) (st' := [.int (M 7 1), .int v4]) (S' := (M, L)) rfl ?_
    refine V.icmp (cd := .ge) rfl (fun hc => ?_) (fun hc => ?_)
    · have h := h.1 hc
      refine V.run 1 (pc' := 107) (ls' := [.ref 5, .int v1, .int v2, .int v3, .int v4, .null, .null]) (st' := [.int v3]) (S' := (M, L)) rfl ?_
      exact V.iret rfl rfl ⟨_, _, rfl, rfl, h⟩
    · have h := h.2 hc
      refine V.run 1 (pc' := 25) (ls' := [.ref 5, .int v1, .int v2, .int v3, .int v4, .null, .null]) (st' := [.ref 5]) (S' := (M, L)) rfl ?_
      refine V.gfm rfl rfl rfl h.1 ?_
      have h := h.2
      refine V.run 2 (pc' := 33) (ls' := [.ref 5, .int v1, .int v2, .int v3, .int v4, .null, .null]) (st' := [.int v4, .ref 8]) (S' := (M, L)) rfl ?_
      refine V.cald rfl rfl h.1 ?_
      have h := h.2
      obtain ⟨P1, hv1, h⟩ := h
      refine V.callSNi (T2 := T_TapedLines_isDigit) (As := [.int (M 8 (v4).toNatClampNeg)]) (rest := []) rfl rfl g_TapedLines_isDigit rfl (Nat.le_of_ble_eq_true rfl) (by simp [Value.category]) (by simp [Value.category]) (Nat.le_of_ble_eq_true rfl) (Nat.le_refl _) hv1 (fun x1 M1 hq => ?_)
      have h := h x1 M1 hq
      refine V.ifc (cd := .eq) rfl (fun hc => ?_) (fun hc => ?_)
      · have h := h.1 hc
        refine V.run 1 (pc' := 107) (ls' := [.ref 5, .int v1, .int v2, .int v3, .int v4, .null, .null]) (st' := [.int v3]) (S' := (M1, L)) rfl ?_
        exact V.iret rfl rfl ⟨_, _, rfl, rfl, h⟩
      · have h := h.2 hc
        refine V.run 1 (pc' := 41) (ls' := [.ref 5, .int v1, .int v2, .int v3, .int v4, .null, .null]) (st' := [.ref 5]) (S' := (M1, L)) rfl ?_
        refine V.gfm rfl rfl rfl h.1 ?_
        have h := h.2
        refine V.run 2 (pc' := 49) (ls' := [.ref 5, .int v1, .int v2, .int v3, .int v4, .null, .null]) (st' := [.int v4, .ref 8]) (S' := (M1, L)) rfl ?_
        refine V.cald rfl rfl h.1 ?_
        have h := h.2
        refine V.run 5 (pc' := 57) (ls' := [.ref 5, .int v1, .int v2, .int v3, .int v4, .int ((M1 8 (v4).toNatClampNeg) - (iI 48)), .null]) (st' := [.int (iI (-1)), .int v3]) (S' := (M1, L)) rfl ?_
        refine V.icmp (cd := .ne) rfl (fun hc => ?_) (fun hc => ?_)
        · have h := h.1 hc
          refine V.run 5 (pc' := 72) (ls' := [.ref 5, .int v1, .int v2, .int v3, .int v4, .int ((M1 8 (v4).toNatClampNeg) - (iI 48)), .null]) (st' := [.int ((v3 * (iI 10)) + ((M1 8 (v4).toNatClampNeg) - (iI 48)))]) (S' := (M1, L)) rfl ?_
          refine V.forget (ls' := [.ref 5, .int v1, .int v2, .int v3, .int v4, .null, .null]) ⟨Or.inr rfl, Or.inr rfl, Or.inr rfl, Or.inr rfl, Or.inr rfl, Or.inl rfl, Or.inl rfl, trivial⟩ ?_
          exact h
        · have h := h.2 hc
          refine V.run 2 (pc' := 72) (ls' := [.ref 5, .int v1, .int v2, .int v3, .int v4, .int ((M1 8 (v4).toNatClampNeg) - (iI 48)), .null]) (st' := [.int ((M1 8 (v4).toNatClampNeg) - (iI 48))]) (S' := (M1, L)) rfl ?_
          refine V.forget (ls' := [.ref 5, .int v1, .int v2, .int v3, .int v4, .null, .null]) ⟨Or.inr rfl, Or.inr rfl, Or.inr rfl, Or.inr rfl, Or.inr rfl, Or.inl rfl, Or.inl rfl, trivial⟩ ?_
          exact h
set_option maxRecDepth 100000 in
set_option maxHeartbeats 4000000 in
theorem s_LineReader_readNumber_72 {l : Launch} {Γ : qG} {d r : Nat} {M : qM} {L : Nat → Int64} {P : Int32 → qM → Prop} (t : Nat) (ho : (t = 1) ∨ (t = 7)) (v1 v2 v3 v4 w0 : Int32) (h : (v3 = 0 → P (iI (-1)) M) ∧ (¬ v3 = 0 → (w0 < v1 → P (iI (-1)) M) ∧ (¬ w0 < v1 → (w0 ≤ v2 → ∃ P1 : Int32 → qM → Prop, V l Γ T_LineReader_take d 0 0 [.ref 5] [] (M, L) (q_i L P1) ∧ ∀ (x1 : Int32) (M1 : qM), P1 x1 M1 → V l Γ T_LineReader_readNumber (d + 1) r 12 [.ref 5, .int v1, .int v2, .int w0, .int (v4 + (iI 1)), .null, .null] [] (M1, L) (q_i L P)) ∧ (¬ w0 ≤ v2 → P (iI (-1)) M)))) : V l Γ T_LineReader_readNumber (d + 1) r 72 [.ref 5, .int v1, .int v2, .int v3, .int v4, .null, .null] [.int w0] (M, L) (q_i L P) := by
  rcases ho with rfl | rfl
  · refine V.run 2 (pc' := 75) (ls' := [.ref 5, .int v1, .int v2, .int v3, .int v4, .null, .int w0]) (st' := [.int v3]) (S' := (M, L)) rfl ?_
    refine V.ifc (cd := .eq) rfl (fun hc => ?_) (fun hc => ?_)
    · have h := h.1 hc
      refine V.run 1 (pc' := 91) (ls' := [.ref 5, .int v1, .int v2, .int v3, .int v4, .null, .int w0]) (st' := [.int (iI (-1))]) (S' := (M, L)) rfl ?_
      exact V.iret rfl rfl ⟨_, _, rfl, rfl, h⟩
    · have h := h.2 hc
      refine V.run 2 (pc' := 81) (ls' := [.ref 5, .int v1, .int v2, .int v3, .int v4, .null, .int w0]) (st' := [.int v1, .int w0]) (S' := (M, L)) rfl ?_
      refine V.icmp (cd := .lt) rfl (fun hc => ?_) (fun hc => ?_)
      · have h := h.1 hc
        refine V.run 1 (pc' := 91) (ls' := [.ref 5, .int v1, .int v2, .int v3, .int v4, .null, .int w0]) (st' := [.int (iI (-1))]) (S' := (M, L)) rfl ?_
        exact V.iret rfl rfl ⟨_, _, rfl, rfl, h⟩
      · have h := h.2 hc
        refine V.run 2 (pc' := 87) (ls' := [.ref 5, .int v1, .int v2, .int v3, .int v4, .null, .int w0]) (st' := [.int v2, .int w0]) (S' := (M, L)) rfl ?_
        refine V.icmp (cd := .le) rfl (fun hc => ?_) (fun hc => ?_)
        · have h := h.1 hc
          refine V.run 3 (pc' := 96) (ls' := [.ref 5, .int v1, .int v2, .int w0, .int v4, .null, .int w0]) (st' := [.ref 5]) (S' := (M, L)) rfl ?_
          obtain ⟨P1, hv1, h⟩ := h
          refine V.callVi (T2 := T_LineReader_take) (As := []) (rest := []) rfl rfl g_LineReader_take rfl rfl rfl rfl (Nat.le_of_ble_eq_true rfl) (by simp [Value.category]) (by simp [Value.category]) (Nat.le_of_ble_eq_true rfl) (Nat.le_refl _) hv1 (fun x1 M1 hq => ?_)
          have h := h x1 M1 hq
          refine V.run 3 (pc' := 12) (ls' := [.ref 5, .int v1, .int v2, .int w0, .int (v4 + (iI 1)), .null, .int w0]) (st' := []) (S' := (M1, L)) rfl ?_
          refine V.forget (ls' := [.ref 5, .int v1, .int v2, .int w0, .int (v4 + (iI 1)), .null, .null]) ⟨Or.inr rfl, Or.inr rfl, Or.inr rfl, Or.inr rfl, Or.inr rfl, Or.inl rfl, Or.inl rfl, trivial⟩ ?_
          exact h
        · have h := h.2 hc
          refine V.run 1 (pc' := 91) (ls' := [.ref 5, .int v1, .int v2, .int v3, .int v4, .null, .int w0]) (st' := [.int (iI (-1))]) (S' := (M, L)) rfl ?_
          exact V.iret rfl rfl ⟨_, _, rfl, rfl, h⟩
  · refine V.run 2 (pc' := 75) (ls' := [.ref 5, .int v1, .int v2, .int v3, .int v4, .null, .int w0]) (st' := [.int v3]) (S' := (M, L)) rfl ?_
    refine V.ifc (cd := .eq) rfl (fun hc => ?_) (fun hc => ?_)
    · have h := h.1 hc
      refine V.run 1 (pc' := 91) (ls' := [.ref 5, .int v1, .int v2, .int v3, .int v4, .null, .int w0]) (st' := [.int (iI (-1))]) (S' := (M, L)) rfl ?_
      exact V.iret rfl rfl ⟨_, _, rfl, rfl, h⟩
    · have h := h.2 hc
      refine V.run 2 (pc' := 81) (ls' := [.ref 5, .int v1, .int v2, .int v3, .int v4, .null, .int w0]) (st' := [.int v1, .int w0]) (S' := (M, L)) rfl ?_
      refine V.icmp (cd := .lt) rfl (fun hc => ?_) (fun hc => ?_)
      · have h := h.1 hc
        refine V.run 1 (pc' := 91) (ls' := [.ref 5, .int v1, .int v2, .int v3, .int v4, .null, .int w0]) (st' := [.int (iI (-1))]) (S' := (M, L)) rfl ?_
        exact V.iret rfl rfl ⟨_, _, rfl, rfl, h⟩
      · have h := h.2 hc
        refine V.run 2 (pc' := 87) (ls' := [.ref 5, .int v1, .int v2, .int v3, .int v4, .null, .int w0]) (st' := [.int v2, .int w0]) (S' := (M, L)) rfl ?_
        refine V.icmp (cd := .le) rfl (fun hc => ?_) (fun hc => ?_)
        · have h := h.1 hc
          refine V.run 3 (pc' := 96) (ls' := [.ref 5, .int v1, .int v2, .int w0, .int v4, .null, .int w0]) (st' := [.ref 5]) (S' := (M, L)) rfl ?_
          obtain ⟨P1, hv1, h⟩ := h
          refine V.callVi (T2 := T_LineReader_take) (As := []) (rest := []) rfl rfl g_LineReader_take rfl rfl rfl rfl (Nat.le_of_ble_eq_true rfl) (by simp [Value.category]) (by simp [Value.category]) (Nat.le_of_ble_eq_true rfl) (Nat.le_refl _) hv1 (fun x1 M1 hq => ?_)
          have h := h x1 M1 hq
          refine V.run 3 (pc' := 12) (ls' := [.ref 5, .int v1, .int v2, .int w0, .int (v4 + (iI 1)), .null, .int w0]) (st' := []) (S' := (M1, L)) rfl ?_
          refine V.forget (ls' := [.ref 5, .int v1, .int v2, .int w0, .int (v4 + (iI 1)), .null, .null]) ⟨Or.inr rfl, Or.inr rfl, Or.inr rfl, Or.inr rfl, Or.inr rfl, Or.inl rfl, Or.inl rfl, trivial⟩ ?_
          exact h
        · have h := h.2 hc
          refine V.run 1 (pc' := 91) (ls' := [.ref 5, .int v1, .int v2, .int v3, .int v4, .null, .int w0]) (st' := [.int (iI (-1))]) (S' := (M, L)) rfl ?_
          exact V.iret rfl rfl ⟨_, _, rfl, rfl, h⟩
set_option maxRecDepth 100000 in
set_option maxHeartbeats 4000000 in
theorem s_LineReader_readPrinted_0 {l : Launch} {Γ : qG} {d r : Nat} {M : qM} {L : Nat → Int64} {P : Int32 → qM → Prop} (t : Nat) (ho : (t = 1) ∨ (t = 7)) (h : ∃ P1 : qM → Prop, V l Γ T_LineReader_skipSpaces d 0 0 [.ref 5] [] (M, L) (q_n L P1) ∧ ∀ (M1 : qM), P1 M1 → ∃ P2 : Int32 → qM → Prop, V l Γ T_LineReader_ahead d 0 0 [.ref 5, .int (iI 0)] [] (M1, L) (q_i L P2) ∧ ∀ (x2 : Int32) (M2 : qM), P2 x2 M2 → (x2 = (iI 34) → ∃ P3 : Int32 → qM → Prop, V l Γ T_LineReader_take d 0 0 [.ref 5] [] (M2, L) (q_i L P3) ∧ ∀ (x3 : Int32) (M3 : qM), P3 x3 M3 → V l Γ T_LineReader_readPrinted (d + 1) r 29 [.ref 5, .int (M3 5 3)] [] (M3, L) (q_i L P)) ∧ (¬ x2 = (iI 34) → ∃ P4 : Int32 → qM → Prop, V l Γ T_LineReader_readExpression d 0 0 [.ref 5, .null, .null, .null, .null] [] (M2, L) (q_i L P4) ∧ ∀ (x4 : Int32) (M4 : qM), P4 x4 M4 → narrow .boolean (.int x4) = .int x4 ∧ P x4 M4)) : V l Γ T_LineReader_readPrinted (d + 1) r 0 [.ref 5, .null] [] (M, L) (q_i L P) := by
  rcases ho with rfl | rfl
  · refine V.run 1 (pc' := 1) (ls' := [.ref 5, .null]) (st' := [.ref 5]) (S' := (M, L)) rfl ?_
    obtain ⟨P1, hv1, h⟩ := h
    refine V.callVv (T2 := T_LineReader_skipSpaces) (As := []) (rest := []) rfl rfl g_LineReader_skipSpaces rfl rfl rfl rfl (Nat.le_of_ble_eq_true rfl) (by simp [Value.category]) (by simp [Value.category]) (Nat.le_of_ble_eq_true rfl) (Nat.le_refl _) hv1 (fun M1 hq => ?_)
    have h := h M1 hq
    refine V.run 2 (pc' := 6) (ls' := [.ref 5, .null]) (st' := [.int (iI 0), .ref 5]) (S' := (M1, L)) rfl ?_
    obtain ⟨P2, hv2, h⟩ := h
    refine V.callVi (T2 := T_LineReader_ahead) (As := [.int (iI 0)]) (rest := []) rfl rfl g_LineReader_ahead rfl rfl rfl rfl (Nat.le_of_ble_eq_true rfl) (by simp [Value.category]) (by simp [Value.category]) (Nat.le_of_ble_eq_true rfl) (Nat.le_refl _) hv2 (fun x2 M2 hq => ?_)
    have h := h x2 M2 hq
    refine V.run 1 (pc' := 11) (ls' := [.ref 5, .null]) (st' := [.int (iI 34), .int x2]) (S' := (M2, L)) rfl ?_
    refine V.icmp (cd := .eq) rfl (fun hc => ?_) (fun hc => ?_)
    · have h := h.1 hc
      refine V.run 1 (pc' := 20) (ls' := [.ref 5, .null]) (st' := [.ref 5]) (S' := (M2, L)) rfl ?_
      obtain ⟨P3, hv3, h⟩ := h
      refine V.callVi (T2 := T_LineReader_take) (As := []) (rest := []) rfl rfl g_LineReader_take rfl rfl rfl rfl (Nat.le_of_ble_eq_true rfl) (by simp [Value.category]) (by simp [Value.category]) (Nat.le_of_ble_eq_true rfl) (Nat.le_refl _) hv3 (fun x3 M3 hq => ?_)
      have h := h x3 M3 hq
      refine V.run 4 (pc' := 29) (ls' := [.ref 5, .int (M3 5 3)]) (st' := []) (S' := (M3, L)) rfl ?_
      exact h
    · have h := h.2 hc
      refine V.run 1 (pc' := 15) (ls' := [.ref 5, .null]) (st' := [.ref 5]) (S' := (M2, L)) rfl ?_
      obtain ⟨P4, hv4, h⟩ := h
      refine V.callVi (T2 := T_LineReader_readExpression) (As := []) (rest := []) rfl rfl g_LineReader_readExpression rfl rfl rfl rfl (Nat.le_of_ble_eq_true rfl) (by simp [Value.category]) (by simp [Value.category]) (Nat.le_of_ble_eq_true rfl) (Nat.le_refl _) hv4 (fun x4 M4 hq => ?_)
      have h := h x4 M4 hq
      exact V.zret rfl rfl h.1 ⟨_, _, rfl, rfl, h.2⟩
  · refine V.run 1 (pc' := 1) (ls' := [.ref 5, .null]) (st' := [.ref 5]) (S' := (M, L)) rfl ?_
    obtain ⟨P1, hv1, h⟩ := h
    refine V.callVv (T2 := T_LineReader_skipSpaces) (As := []) (rest := []) rfl rfl g_LineReader_skipSpaces rfl rfl rfl rfl (Nat.le_of_ble_eq_true rfl) (by simp [Value.category]) (by simp [Value.category]) (Nat.le_of_ble_eq_true rfl) (Nat.le_refl _) hv1 (fun M1 hq => ?_)
    have h := h M1 hq
    refine V.run 2 (pc' := 6) (ls' := [.ref 5, .null]) (st' := [.int (iI 0), .ref 5]) (S' := (M1, L)) rfl ?_
    obtain ⟨P2, hv2, h⟩ := h
    refine V.callVi (T2 := T_LineReader_ahead) (As := [.int (iI 0)]) (rest := []) rfl rfl g_LineReader_ahead rfl rfl rfl rfl (Nat.le_of_ble_eq_true rfl) (by simp [Value.category]) (by simp [Value.category]) (Nat.le_of_ble_eq_true rfl) (Nat.le_refl _) hv2 (fun x2 M2 hq => ?_)
    have h := h x2 M2 hq
    refine V.run 1 (pc' := 11) (ls' := [.ref 5, .null]) (st' := [.int (iI 34), .int x2]) (S' := (M2, L)) rfl ?_
    refine V.icmp (cd := .eq) rfl (fun hc => ?_) (fun hc => ?_)
    · have h := h.1 hc
      refine V.run 1 (pc' := 20) (ls' := [.ref 5, .null]) (st' := [.ref 5]) (S' := (M2, L)) rfl ?_
      obtain ⟨P3, hv3, h⟩ := h
      refine V.callVi (T2 := T_LineReader_take) (As := []) (rest := []) rfl rfl g_LineReader_take rfl rfl rfl rfl (Nat.le_of_ble_eq_true rfl) (by simp [Value.category]) (by simp [Value.category]) (Nat.le_of_ble_eq_true rfl) (Nat.le_refl _) hv3 (fun x3 M3 hq => ?_)
      have h := h x3 M3 hq
      refine V.run 4 (pc' := 29) (ls' := [.ref 5, .int (M3 5 3)]) (st' := []) (S' := (M3, L)) rfl ?_
      exact h
    · have h := h.2 hc
      refine V.run 1 (pc' := 15) (ls' := [.ref 5, .null]) (st' := [.ref 5]) (S' := (M2, L)) rfl ?_
      obtain ⟨P4, hv4, h⟩ := h
      refine V.callVi (T2 := T_LineReader_readExpression) (As := []) (rest := []) rfl rfl g_LineReader_readExpression rfl rfl rfl rfl (Nat.le_of_ble_eq_true rfl) (by simp [Value.category]) (by simp [Value.category]) (Nat.le_of_ble_eq_true rfl) (Nat.le_refl _) hv4 (fun x4 M4 hq => ?_)
      have h := h x4 M4 hq
      exact V.zret rfl rfl h.1 ⟨_, _, rfl, rfl, h.2⟩
set_option maxRecDepth 100000 in
set_option maxHeartbeats 4000000 in
theorem s_LineReader_readPrinted_29 {l : Launch} {Γ : qG} {d r : Nat} {M : qM} {L : Nat → Int64} {P : Int32 → qM → Prop} (t : Nat) (ho : (t = 1) ∨ (t = 7)) (v1 : Int32) (h : ((M 5 4)).toNatClampNeg = t ∧ ((M t 1) ≤ v1 → P (iI 0) M) ∧ (¬ (M t 1) ≤ v1 → ((M 5 4)).toNatClampNeg = t ∧ vp_in v1 (cp (t + 1)) ∧ ∃ P1 : Int32 → qM → Prop, V l Γ T_TapedLines_isCharacter d 0 0 [.int (M (t + 1) (v1).toNatClampNeg)] [] (M, L) (q_i L P1) ∧ ∀ (x1 : Int32) (M1 : qM), P1 x1 M1 → (¬ x1 = 0 → ∃ P2 : Int32 → qM → Prop, V l Γ T_LineReader_take d 0 0 [.ref 5] [] (M1, L) (q_i L P2) ∧ ∀ (x2 : Int32) (M2 : qM), P2 x2 M2 → ((M2 5 4)).toNatClampNeg = t ∧ vp_in v1 (cp (t + 1)) ∧ (¬ (M2 (t + 1) (v1).toNatClampNeg) = (iI 34) → V l Γ T_LineReader_readPrinted (d + 1) r 29 [.ref 5, .int (v1 + (iI 1))] [] (M2, L) (q_i L P)) ∧ (¬ (¬ (M2 (t + 1) (v1).toNatClampNeg) = (iI 34)) → P (iI 1) M2)) ∧ (¬ (¬ x1 = 0) → P (iI 0) M1))) : V l Γ T_LineReader_readPrinted (d + 1) r 29 [.ref 5, .int v1] [] (M, L) (q_i L P) := by
  rcases ho with rfl | rfl
  · refine V.run 2 (pc' := 31) (ls' := [.ref 5, .int v1]) (st' := [.ref 5, .int v1]) (S' := (M, L)) rfl ?_
    refine V.gfm rfl rfl rfl h.1 ?_
    have h := h.2
    refine V.run 1 (pc' := 37) (ls' := [.ref 5, .int v1]) (st' := [.int (M 1 1), .int v1]) (S' := (M, L)) rfl ?_
    refine V.icmp (cd := .ge) rfl (fun hc => ?_) (fun hc => ?_)
    · have h := h.1 hc
      refine V.run 1 (pc' := 85) (ls' := [.ref 5, .int v1]) (st' := [.int (iI 0)]) (S' := (M, L)) rfl ?_
      exact V.zret rfl rfl (by decide) ⟨_, _, rfl, rfl, h⟩
    · have h := h.2 hc
      refine V.run 1 (pc' := 41) (ls' := [.ref 5, .int v1]) (st' := [.ref 5]) (S' := (M, L)) rfl ?_
      refine V.gfm rfl rfl rfl h.1 ?_
      have h := h.2
      refine V.run 2 (pc' := 48) (ls' := [.ref 5, .int v1]) (st' := [.int v1, .ref 2]) (S' := (M, L)) rfl ?_
      refine V.cald rfl rfl h.1 ?_
      have h := h.2
      obtain ⟨P1, hv1, h⟩ := h
      refine V.callSNi (T2 := T_TapedLines_isCharacter) (As := [.int (M 2 (v1).toNatClampNeg)]) (rest := []) rfl rfl g_TapedLines_isCharacter rfl (Nat.le_of_ble_eq_true rfl) (by simp [Value.category]) (by simp [Value.category]) (Nat.le_of_ble_eq_true rfl) (Nat.le_refl _) hv1 (fun x1 M1 hq => ?_)
      have h := h x1 M1 hq
      refine V.ifc (cd := .ne) rfl (fun hc => ?_) (fun hc => ?_)
      · have h := h.1 hc
        refine V.run 1 (pc' := 58) (ls' := [.ref 5, .int v1]) (st' := [.ref 5]) (S' := (M1, L)) rfl ?_
        obtain ⟨P2, hv2, h⟩ := h
        refine V.callVi (T2 := T_LineReader_take) (As := []) (rest := []) rfl rfl g_LineReader_take rfl rfl rfl rfl (Nat.le_of_ble_eq_true rfl) (by simp [Value.category]) (by simp [Value.category]) (Nat.le_of_ble_eq_true rfl) (Nat.le_refl _) hv2 (fun x2 M2 hq => ?_)
        have h := h x2 M2 hq
        refine V.run 2 (pc' := 63) (ls' := [.ref 5, .int v1]) (st' := [.ref 5]) (S' := (M2, L)) rfl ?_
        refine V.gfm rfl rfl rfl h.1 ?_
        have h := h.2
        refine V.run 2 (pc' := 70) (ls' := [.ref 5, .int v1]) (st' := [.int v1, .ref 2]) (S' := (M2, L)) rfl ?_
        refine V.cald rfl rfl h.1 ?_
        have h := h.2
        refine V.run 1 (pc' := 73) (ls' := [.ref 5, .int v1]) (st' := [.int (iI 34), .int (M2 2 (v1).toNatClampNeg)]) (S' := (M2, L)) rfl ?_
        refine V.icmp (cd := .ne) rfl (fun hc => ?_) (fun hc => ?_)
        · have h := h.1 hc
          refine V.run 2 (pc' := 29) (ls' := [.ref 5, .int (v1 + (iI 1))]) (st' := []) (S' := (M2, L)) rfl ?_
          exact h
        · have h := h.2 hc
          refine V.run 1 (pc' := 77) (ls' := [.ref 5, .int v1]) (st' := [.int (iI 1)]) (S' := (M2, L)) rfl ?_
          exact V.zret rfl rfl (by decide) ⟨_, _, rfl, rfl, h⟩
      · have h := h.2 hc
        refine V.run 1 (pc' := 56) (ls' := [.ref 5, .int v1]) (st' := [.int (iI 0)]) (S' := (M1, L)) rfl ?_
        exact V.zret rfl rfl (by decide) ⟨_, _, rfl, rfl, h⟩
  · refine V.run 2 (pc' := 31) (ls' := [.ref 5, .int v1]) (st' := [.ref 5, .int v1]) (S' := (M, L)) rfl ?_
    refine V.gfm rfl rfl rfl h.1 ?_
    have h := h.2
    refine V.run 1 (pc' := 37) (ls' := [.ref 5, .int v1]) (st' := [.int (M 7 1), .int v1]) (S' := (M, L)) rfl ?_
    refine V.icmp (cd := .ge) rfl (fun hc => ?_) (fun hc => ?_)
    · have h := h.1 hc
      refine V.run 1 (pc' := 85) (ls' := [.ref 5, .int v1]) (st' := [.int (iI 0)]) (S' := (M, L)) rfl ?_
      exact V.zret rfl rfl (by decide) ⟨_, _, rfl, rfl, h⟩
    · have h := h.2 hc
      refine V.run 1 (pc' := 41) (ls' := [.ref 5, .int v1]) (st' := [.ref 5]) (S' := (M, L)) rfl ?_
      refine V.gfm rfl rfl rfl h.1 ?_
      have h := h.2
      refine V.run 2 (pc' := 48) (ls' := [.ref 5, .int v1]) (st' := [.int v1, .ref 8]) (S' := (M, L)) rfl ?_
      refine V.cald rfl rfl h.1 ?_
      have h := h.2
      obtain ⟨P1, hv1, h⟩ := h
      refine V.callSNi (T2 := T_TapedLines_isCharacter) (As := [.int (M 8 (v1).toNatClampNeg)]) (rest := []) rfl rfl g_TapedLines_isCharacter rfl (Nat.le_of_ble_eq_true rfl) (by simp [Value.category]) (by simp [Value.category]) (Nat.le_of_ble_eq_true rfl) (Nat.le_refl _) hv1 (fun x1 M1 hq => ?_)
      have h := h x1 M1 hq
      refine V.ifc (cd := .ne) rfl (fun hc => ?_) (fun hc => ?_)
      · have h := h.1 hc
        refine V.run 1 (pc' := 58) (ls' := [.ref 5, .int v1]) (st' := [.ref 5]) (S' := (M1, L)) rfl ?_
        obtain ⟨P2, hv2, h⟩ := h
        refine V.callVi (T2 := T_LineReader_take) (As := []) (rest := []) rfl rfl g_LineReader_take rfl rfl rfl rfl (Nat.le_of_ble_eq_true rfl) (by simp [Value.category]) (by simp [Value.category]) (Nat.le_of_ble_eq_true rfl) (Nat.le_refl _) hv2 (fun x2 M2 hq => ?_)
        have h := h x2 M2 hq
        refine V.run 2 (pc' := 63) (ls' := [.ref 5, .int v1]) (st' := [.ref 5]) (S' := (M2, L)) rfl ?_
        refine V.gfm rfl rfl rfl h.1 ?_
        have h := h.2
        refine V.run 2 (pc' := 70) (ls' := [.ref 5, .int v1]) (st' := [.int v1, .ref 8]) (S' := (M2, L)) rfl ?_
        refine V.cald rfl rfl h.1 ?_
        have h := h.2
        refine V.run 1 (pc' := 73) (ls' := [.ref 5, .int v1]) (st' := [.int (iI 34), .int (M2 8 (v1).toNatClampNeg)]) (S' := (M2, L)) rfl ?_
        refine V.icmp (cd := .ne) rfl (fun hc => ?_) (fun hc => ?_)
        · have h := h.1 hc
          refine V.run 2 (pc' := 29) (ls' := [.ref 5, .int (v1 + (iI 1))]) (st' := []) (S' := (M2, L)) rfl ?_
          exact h
        · have h := h.2 hc
          refine V.run 1 (pc' := 77) (ls' := [.ref 5, .int v1]) (st' := [.int (iI 1)]) (S' := (M2, L)) rfl ?_
          exact V.zret rfl rfl (by decide) ⟨_, _, rfl, rfl, h⟩
      · have h := h.2 hc
        refine V.run 1 (pc' := 56) (ls' := [.ref 5, .int v1]) (st' := [.int (iI 0)]) (S' := (M1, L)) rfl ?_
        exact V.zret rfl rfl (by decide) ⟨_, _, rfl, rfl, h⟩
set_option maxRecDepth 100000 in
set_option maxHeartbeats 4000000 in
theorem s_LineReader_readExpression_0 {l : Launch} {Γ : qG} {d r : Nat} {M : qM} {L : Nat → Int64} {P : Int32 → qM → Prop} (t : Nat) (ho : (t = 1) ∨ (t = 7)) (h : V l Γ T_LineReader_readExpression (d + 1) r 6 [.ref 5, .int (iI 0), .int (iI 1), .int (iI 0), .null] [] (M, L) (q_i L P)) : V l Γ T_LineReader_readExpression (d + 1) r 0 [.ref 5, .null, .null, .null, .null] [] (M, L) (q_i L P) := by
  rcases ho with rfl | rfl
  · refine V.run 6 (pc' := 6) (ls' := [.ref 5, .int (iI 0), .int (iI 1), .int (iI 0), .null]) (st' := []) (S' := (M, L)) rfl ?_
    exact h
  · refine V.run 6 (pc' := 6) (ls' := [.ref 5, .int (iI 0), .int (iI 1), .int (iI 0), .null]) (st' := []) (S' := (M, L)) rfl ?_
    exact h
set_option maxRecDepth 100000 in
set_option maxHeartbeats 4000000 in
theorem s_LineReader_readExpression_6 {l : Launch} {Γ : qG} {d r : Nat} {M : qM} {L : Nat → Int64} {P : Int32 → qM → Prop} (t : Nat) (ho : (t = 1) ∨ (t = 7)) (v1 v2 v3 : Int32) (h : ((iI 256) < v3 → P (iI 0) M) ∧ (¬ (iI 256) < v3 → ∃ P1 : qM → Prop, V l Γ T_LineReader_skipSpaces d 0 0 [.ref 5] [] (M, L) (q_n L P1) ∧ ∀ (M1 : qM), P1 M1 → ∃ P2 : Int32 → qM → Prop, V l Γ T_LineReader_ahead d 0 0 [.ref 5, .int (iI 0)] [] (M1, L) (q_i L P2) ∧ ∀ (x2 : Int32) (M2 : qM), P2 x2 M2 → (v2 = 0 → V l Γ T_LineReader_readExpression (d + 1) r 43 [.ref 5, .int v1, .int v2, .int v3, .int x2] [] (M2, L) (q_i L P)) ∧ (¬ v2 = 0 → (¬ x2 = (iI 45) → V l Γ T_LineReader_readExpression (d + 1) r 43 [.ref 5, .int v1, .int v2, .int v3, .int x2] [] (M2, L) (q_i L P)) ∧ (¬ (¬ x2 = (iI 45)) → ∃ P3 : Int32 → qM → Prop, V l Γ T_LineReader_take d 0 0 [.ref 5] [] (M2, L) (q_i L P3) ∧ ∀ (x3 : Int32) (M3 : qM), P3 x3 M3 → V l Γ T_LineReader_readExpression (d + 1) r 6 [.ref 5, .int v1, .int v2, .int (v3 + (iI 1)), .null] [] (M3, L) (q_i L P))))) : V l Γ T_LineReader_readExpression (d + 1) r 6 [.ref 5, .int v1, .int v2, .int v3, .null] [] (M, L) (q_i L P) := by
  rcases ho with rfl | rfl
  · refine V.run 2 (pc' := 10) (ls' := [.ref 5, .int v1, .int v2, .int v3, .null]) (st' := [.int (iI 256), .int v3]) (S' := (M, L)) rfl ?_
    refine V.icmp (cd := .gt) rfl (fun hc => ?_) (fun hc => ?_)
    · have h := h.1 hc
      refine V.run 1 (pc' := 186) (ls' := [.ref 5, .int v1, .int v2, .int v3, .null]) (st' := [.int (iI 0)]) (S' := (M, L)) rfl ?_
      exact V.zret rfl rfl (by decide) ⟨_, _, rfl, rfl, h⟩
    · have h := h.2 hc
      refine V.run 1 (pc' := 14) (ls' := [.ref 5, .int v1, .int v2, .int v3, .null]) (st' := [.ref 5]) (S' := (M, L)) rfl ?_
      obtain ⟨P1, hv1, h⟩ := h
      refine V.callVv (T2 := T_LineReader_skipSpaces) (As := []) (rest := []) rfl rfl g_LineReader_skipSpaces rfl rfl rfl rfl (Nat.le_of_ble_eq_true rfl) (by simp [Value.category]) (by simp [Value.category]) (Nat.le_of_ble_eq_true rfl) (Nat.le_refl _) hv1 (fun M1 hq => ?_)
      have h := h M1 hq
      refine V.run 2 (pc' := 19) (ls' := [.ref 5, .int v1, .int v2, .int v3, .null]) (st' := [.int (iI 0), .ref 5]) (S' := (M1, L)) rfl ?_
      obtain ⟨P2, hv2, h⟩ := h
      refine V.callVi (T2 := T_LineReader_ahead) (As := [.int (iI 0)]) (rest := []) rfl rfl g_LineReader_ahead rfl rfl rfl rfl (Nat.le_of_ble_eq_true rfl) (by simp [Value.category]) (by simp [Value.category]) (Nat.le_of_ble_eq_true rfl) (Nat.le_refl _) hv2 (fun x2 M2 hq => ?_)
      have h := h x2 M2 hq
      refine V.run 2 (pc' := 25) (ls' := [.ref 5, .int v1, .int v2, .int v3, .int x2]) (st' := [.int v2]) (S' := (M2, L)) rfl ?_
      refine V.ifc (cd := .eq) rfl (fun hc => ?_) (fun hc => ?_)
      · have h := h.1 hc
        exact h
      · have h := h.2 hc
        refine V.run 2 (pc' := 32) (ls' := [.ref 5, .int v1, .int v2, .int v3, .int x2]) (st' := [.int (iI 45), .int x2]) (S' := (M2, L)) rfl ?_
        refine V.icmp (cd := .ne) rfl (fun hc => ?_) (fun hc => ?_)
        · have h := h.1 hc
          exact h
        · have h := h.2 hc
          refine V.run 1 (pc' := 36) (ls' := [.ref 5, .int v1, .int v2, .int v3, .int x2]) (st' := [.ref 5]) (S' := (M2, L)) rfl ?_
          obtain ⟨P3, hv3, h⟩ := h
          refine V.callVi (T2 := T_LineReader_take) (As := []) (rest := []) rfl rfl g_LineReader_take rfl rfl rfl rfl (Nat.le_of_ble_eq_true rfl) (by simp [Value.category]) (by simp [Value.category]) (Nat.le_of_ble_eq_true rfl) (Nat.le_refl _) hv3 (fun x3 M3 hq => ?_)
          have h := h x3 M3 hq
          refine V.run 4 (pc' := 6) (ls' := [.ref 5, .int v1, .int v2, .int (v3 + (iI 1)), .int x2]) (st' := []) (S' := (M3, L)) rfl ?_
          refine V.forget (ls' := [.ref 5, .int v1, .int v2, .int (v3 + (iI 1)), .null]) ⟨Or.inr rfl, Or.inr rfl, Or.inr rfl, Or.inr rfl, Or.inl rfl, trivial⟩ ?_
          exact h
  · refine V.run 2 (pc' := 10) (ls' := [.ref 5, .int v1, .int v2, .int v3, .null]) (st' := [.int (iI 256), .int v3]) (S' := (M, L)) rfl ?_
    refine V.icmp (cd := .gt) rfl (fun hc => ?_) (fun hc => ?_)
    · have h := h.1 hc
      refine V.run 1 (pc' := 186) (ls' := [.ref 5, .int v1, .int v2, .int v3, .null]) (st' := [.int (iI 0)]) (S' := (M, L)) rfl ?_
      exact V.zret rfl rfl (by decide) ⟨_, _, rfl, rfl, h⟩
    · have h := h.2 hc
      refine V.run 1 (pc' := 14) (ls' := [.ref 5, .int v1, .int v2, .int v3, .null]) (st' := [.ref 5]) (S' := (M, L)) rfl ?_
      obtain ⟨P1, hv1, h⟩ := h
      refine V.callVv (T2 := T_LineReader_skipSpaces) (As := []) (rest := []) rfl rfl g_LineReader_skipSpaces rfl rfl rfl rfl (Nat.le_of_ble_eq_true rfl) (by simp [Value.category]) (by simp [Value.category]) (Nat.le_of_ble_eq_true rfl) (Nat.le_refl _) hv1 (fun M1 hq => ?_)
      have h := h M1 hq
      refine V.run 2 (pc' := 19) (ls' := [.ref 5, .int v1, .int v2, .int v3, .null]) (st' := [.int (iI 0), .ref 5]) (S' := (M1, L)) rfl ?_
      obtain ⟨P2, hv2, h⟩ := h
      refine V.callVi (T2 := T_LineReader_ahead) (As := [.int (iI 0)]) (rest := []) rfl rfl g_LineReader_ahead rfl rfl rfl rfl (Nat.le_of_ble_eq_true rfl) (by simp [Value.category]) (by simp [Value.category]) (Nat.le_of_ble_eq_true rfl) (Nat.le_refl _) hv2 (fun x2 M2 hq => ?_)
      have h := h x2 M2 hq
      refine V.run 2 (pc' := 25) (ls' := [.ref 5, .int v1, .int v2, .int v3, .int x2]) (st' := [.int v2]) (S' := (M2, L)) rfl ?_
      refine V.ifc (cd := .eq) rfl (fun hc => ?_) (fun hc => ?_)
      · have h := h.1 hc
        exact h
      · have h := h.2 hc
        refine V.run 2 (pc' := 32) (ls' := [.ref 5, .int v1, .int v2, .int v3, .int x2]) (st' := [.int (iI 45), .int x2]) (S' := (M2, L)) rfl ?_
        refine V.icmp (cd := .ne) rfl (fun hc => ?_) (fun hc => ?_)
        · have h := h.1 hc
          exact h
        · have h := h.2 hc
          refine V.run 1 (pc' := 36) (ls' := [.ref 5, .int v1, .int v2, .int v3, .int x2]) (st' := [.ref 5]) (S' := (M2, L)) rfl ?_
          obtain ⟨P3, hv3, h⟩ := h
          refine V.callVi (T2 := T_LineReader_take) (As := []) (rest := []) rfl rfl g_LineReader_take rfl rfl rfl rfl (Nat.le_of_ble_eq_true rfl) (by simp [Value.category]) (by simp [Value.category]) (Nat.le_of_ble_eq_true rfl) (Nat.le_refl _) hv3 (fun x3 M3 hq => ?_)
          have h := h x3 M3 hq
          refine V.run 4 (pc' := 6) (ls' := [.ref 5, .int v1, .int v2, .int (v3 + (iI 1)), .int x2]) (st' := []) (S' := (M3, L)) rfl ?_
          refine V.forget (ls' := [.ref 5, .int v1, .int v2, .int (v3 + (iI 1)), .null]) ⟨Or.inr rfl, Or.inr rfl, Or.inr rfl, Or.inr rfl, Or.inl rfl, trivial⟩ ?_
          exact h
set_option maxRecDepth 100000 in
set_option maxHeartbeats 4000000 in
theorem s_LineReader_readExpression_43 {l : Launch} {Γ : qG} {d r : Nat} {M : qM} {L : Nat → Int64} {P : Int32 → qM → Prop} (t : Nat) (ho : (t = 1) ∨ (t = 7)) (v1 v2 v3 v4 : Int32) (h : (v2 = 0 → V l Γ T_LineReader_readExpression (d + 1) r 99 [.ref 5, .int v1, .int v2, .int v3, .int v4] [] (M, L) (q_i L P)) ∧ (¬ v2 = 0 → (v4 = (iI 40) → V l Γ T_LineReader_readExpression (d + 1) r 61 [.ref 5, .int v1, .int v2, .int v3, .int v4] [] (M, L) (q_i L P)) ∧ (¬ v4 = (iI 40) → (¬ v4 = (iI 64) → V l Γ T_LineReader_readExpression (d + 1) r 99 [.ref 5, .int v1, .int v2, .int v3, .int v4] [] (M, L) (q_i L P)) ∧ (¬ (¬ v4 = (iI 64)) → V l Γ T_LineReader_readExpression (d + 1) r 61 [.ref 5, .int v1, .int v2, .int v3, .int v4] [] (M, L) (q_i L P))))) : V l Γ T_LineReader_readExpression (d + 1) r 43 [.ref 5, .int v1, .int v2, .int v3, .int v4] [] (M, L) (q_i L P) := by
  rcases ho with rfl | rfl
  · refine V.run 1 (pc' := 44) (ls' := [.ref 5, .int v1, .int v2, .int v3, .int v4]) (st' := [.int v2]) (S' := (M, L)) rfl ?_
    refine V.ifc (cd := .eq) rfl (fun hc => ?_) (fun hc => ?_)
    · have h := h.1 hc
      exact h
    · have h := h.2 hc
      refine V.run 2 (pc' := 51) (ls' := [.ref 5, .int v1, .int v2, .int v3, .int v4]) (st' := [.int (iI 40), .int v4]) (S' := (M, L)) rfl ?_
      refine V.icmp (cd := .eq) rfl (fun hc => ?_) (fun hc => ?_)
      · have h := h.1 hc
        exact h
      · have h := h.2 hc
        refine V.run 2 (pc' := 58) (ls' := [.ref 5, .int v1, .int v2, .int v3, .int v4]) (st' := [.int (iI 64), .int v4]) (S' := (M, L)) rfl ?_
        refine V.icmp (cd := .ne) rfl (fun hc => ?_) (fun hc => ?_)
        · have h := h.1 hc
          exact h
        · have h := h.2 hc
          exact h
  · refine V.run 1 (pc' := 44) (ls' := [.ref 5, .int v1, .int v2, .int v3, .int v4]) (st' := [.int v2]) (S' := (M, L)) rfl ?_
    refine V.ifc (cd := .eq) rfl (fun hc => ?_) (fun hc => ?_)
    · have h := h.1 hc
      exact h
    · have h := h.2 hc
      refine V.run 2 (pc' := 51) (ls' := [.ref 5, .int v1, .int v2, .int v3, .int v4]) (st' := [.int (iI 40), .int v4]) (S' := (M, L)) rfl ?_
      refine V.icmp (cd := .eq) rfl (fun hc => ?_) (fun hc => ?_)
      · have h := h.1 hc
        exact h
      · have h := h.2 hc
        refine V.run 2 (pc' := 58) (ls' := [.ref 5, .int v1, .int v2, .int v3, .int v4]) (st' := [.int (iI 64), .int v4]) (S' := (M, L)) rfl ?_
        refine V.icmp (cd := .ne) rfl (fun hc => ?_) (fun hc => ?_)
        · have h := h.1 hc
          exact h
        · have h := h.2 hc
          exact h
set_option maxRecDepth 100000 in
set_option maxHeartbeats 4000000 in
theorem s_LineReader_readExpression_61 {l : Launch} {Γ : qG} {d r : Nat} {M : qM} {L : Nat → Int64} {P : Int32 → qM → Prop} (t : Nat) (ho : (t = 1) ∨ (t = 7)) (v1 v2 v3 v4 : Int32) (h : ((v1 + (iI 1)) < (iI 4) → (¬ v4 = (iI 64) → V l Γ T_LineReader_readExpression (d + 1) r 82 [.ref 5, .int v1, .int v2, .int v3, .null] [] (M, L) (q_i L P)) ∧ (¬ (¬ v4 = (iI 64)) → ∃ P1 : Int32 → qM → Prop, V l Γ T_LineReader_take d 0 0 [.ref 5] [] (M, L) (q_i L P1) ∧ ∀ (x1 : Int32) (M1 : qM), P1 x1 M1 → V l Γ T_LineReader_readExpression (d + 1) r 82 [.ref 5, .int v1, .int v2, .int v3, .null] [] (M1, L) (q_i L P))) ∧ (¬ (v1 + (iI 1)) < (iI 4) → P (iI 0) M)) : V l Γ T_LineReader_readExpression (d + 1) r 61 [.ref 5, .int v1, .int v2, .int v3, .int v4] [] (M, L) (q_i L P) := by
  rcases ho with rfl | rfl
  · refine V.run 4 (pc' := 65) (ls' := [.ref 5, .int v1, .int v2, .int v3, .int v4]) (st' := [.int (iI 4), .int (v1 + (iI 1))]) (S' := (M, L)) rfl ?_
    refine V.icmp (cd := .lt) rfl (fun hc => ?_) (fun hc => ?_)
    · have h := h.1 hc
      refine V.run 2 (pc' := 74) (ls' := [.ref 5, .int v1, .int v2, .int v3, .int v4]) (st' := [.int (iI 64), .int v4]) (S' := (M, L)) rfl ?_
      refine V.icmp (cd := .ne) rfl (fun hc => ?_) (fun hc => ?_)
      · have h := h.1 hc
        refine V.forget (ls' := [.ref 5, .int v1, .int v2, .int v3, .null]) ⟨Or.inr rfl, Or.inr rfl, Or.inr rfl, Or.inr rfl, Or.inl rfl, trivial⟩ ?_
        exact h
      · have h := h.2 hc
        refine V.run 1 (pc' := 78) (ls' := [.ref 5, .int v1, .int v2, .int v3, .int v4]) (st' := [.ref 5]) (S' := (M, L)) rfl ?_
        obtain ⟨P1, hv1, h⟩ := h
        refine V.callVi (T2 := T_LineReader_take) (As := []) (rest := []) rfl rfl g_LineReader_take rfl rfl rfl rfl (Nat.le_of_ble_eq_true rfl) (by simp [Value.category]) (by simp [Value.category]) (Nat.le_of_ble_eq_true rfl) (Nat.le_refl _) hv1 (fun x1 M1 hq => ?_)
        have h := h x1 M1 hq
        refine V.run 1 (pc' := 82) (ls' := [.ref 5, .int v1, .int v2, .int v3, .int v4]) (st' := []) (S' := (M1, L)) rfl ?_
        refine V.forget (ls' := [.ref 5, .int v1, .int v2, .int v3, .null]) ⟨Or.inr rfl, Or.inr rfl, Or.inr rfl, Or.inr rfl, Or.inl rfl, trivial⟩ ?_
        exact h
    · have h := h.2 hc
      refine V.run 1 (pc' := 69) (ls' := [.ref 5, .int v1, .int v2, .int v3, .int v4]) (st' := [.int (iI 0)]) (S' := (M, L)) rfl ?_
      exact V.zret rfl rfl (by decide) ⟨_, _, rfl, rfl, h⟩
  · refine V.run 4 (pc' := 65) (ls' := [.ref 5, .int v1, .int v2, .int v3, .int v4]) (st' := [.int (iI 4), .int (v1 + (iI 1))]) (S' := (M, L)) rfl ?_
    refine V.icmp (cd := .lt) rfl (fun hc => ?_) (fun hc => ?_)
    · have h := h.1 hc
      refine V.run 2 (pc' := 74) (ls' := [.ref 5, .int v1, .int v2, .int v3, .int v4]) (st' := [.int (iI 64), .int v4]) (S' := (M, L)) rfl ?_
      refine V.icmp (cd := .ne) rfl (fun hc => ?_) (fun hc => ?_)
      · have h := h.1 hc
        refine V.forget (ls' := [.ref 5, .int v1, .int v2, .int v3, .null]) ⟨Or.inr rfl, Or.inr rfl, Or.inr rfl, Or.inr rfl, Or.inl rfl, trivial⟩ ?_
        exact h
      · have h := h.2 hc
        refine V.run 1 (pc' := 78) (ls' := [.ref 5, .int v1, .int v2, .int v3, .int v4]) (st' := [.ref 5]) (S' := (M, L)) rfl ?_
        obtain ⟨P1, hv1, h⟩ := h
        refine V.callVi (T2 := T_LineReader_take) (As := []) (rest := []) rfl rfl g_LineReader_take rfl rfl rfl rfl (Nat.le_of_ble_eq_true rfl) (by simp [Value.category]) (by simp [Value.category]) (Nat.le_of_ble_eq_true rfl) (Nat.le_refl _) hv1 (fun x1 M1 hq => ?_)
        have h := h x1 M1 hq
        refine V.run 1 (pc' := 82) (ls' := [.ref 5, .int v1, .int v2, .int v3, .int v4]) (st' := []) (S' := (M1, L)) rfl ?_
        refine V.forget (ls' := [.ref 5, .int v1, .int v2, .int v3, .null]) ⟨Or.inr rfl, Or.inr rfl, Or.inr rfl, Or.inr rfl, Or.inl rfl, trivial⟩ ?_
        exact h
    · have h := h.2 hc
      refine V.run 1 (pc' := 69) (ls' := [.ref 5, .int v1, .int v2, .int v3, .int v4]) (st' := [.int (iI 0)]) (S' := (M, L)) rfl ?_
      exact V.zret rfl rfl (by decide) ⟨_, _, rfl, rfl, h⟩
set_option maxRecDepth 100000 in
set_option maxHeartbeats 4000000 in
theorem s_LineReader_readExpression_82 {l : Launch} {Γ : qG} {d r : Nat} {M : qM} {L : Nat → Int64} {P : Int32 → qM → Prop} (t : Nat) (ho : (t = 1) ∨ (t = 7)) (v1 v2 v3 : Int32) (h : ∃ P1 : Int32 → qM → Prop, V l Γ T_LineReader_readMark d 0 0 [.ref 5, .int (iI 40)] [] (M, L) (q_i L P1) ∧ ∀ (x1 : Int32) (M1 : qM), P1 x1 M1 → (¬ x1 = 0 → V l Γ T_LineReader_readExpression (d + 1) r 6 [.ref 5, .int (v1 + (iI 1)), .int v2, .int (v3 + (iI 1)), .null] [] (M1, L) (q_i L P)) ∧ (¬ (¬ x1 = 0) → P (iI 0) M1)) : V l Γ T_LineReader_readExpression (d + 1) r 82 [.ref 5, .int v1, .int v2, .int v3, .null] [] (M, L) (q_i L P) := by
  rcases ho with rfl | rfl
  · refine V.run 2 (pc' := 85) (ls' := [.ref 5, .int v1, .int v2, .int v3, .null]) (st' := [.int (iI 40), .ref 5]) (S' := (M, L)) rfl ?_
    obtain ⟨P1, hv1, h⟩ := h
    refine V.callVi (T2 := T_LineReader_readMark) (As := [.int (iI 40)]) (rest := []) rfl rfl g_LineReader_readMark rfl rfl rfl rfl (Nat.le_of_ble_eq_true rfl) (by simp [Value.category]) (by simp [Value.category]) (Nat.le_of_ble_eq_true rfl) (Nat.le_refl _) hv1 (fun x1 M1 hq => ?_)
    have h := h x1 M1 hq
    refine V.ifc (cd := .ne) rfl (fun hc => ?_) (fun hc => ?_)
    · have h := h.1 hc
      refine V.run 4 (pc' := 6) (ls' := [.ref 5, .int (v1 + (iI 1)), .int v2, .int (v3 + (iI 1)), .null]) (st' := []) (S' := (M1, L)) rfl ?_
      exact h
    · have h := h.2 hc
      refine V.run 1 (pc' := 92) (ls' := [.ref 5, .int v1, .int v2, .int v3, .null]) (st' := [.int (iI 0)]) (S' := (M1, L)) rfl ?_
      exact V.zret rfl rfl (by decide) ⟨_, _, rfl, rfl, h⟩
  · refine V.run 2 (pc' := 85) (ls' := [.ref 5, .int v1, .int v2, .int v3, .null]) (st' := [.int (iI 40), .ref 5]) (S' := (M, L)) rfl ?_
    obtain ⟨P1, hv1, h⟩ := h
    refine V.callVi (T2 := T_LineReader_readMark) (As := [.int (iI 40)]) (rest := []) rfl rfl g_LineReader_readMark rfl rfl rfl rfl (Nat.le_of_ble_eq_true rfl) (by simp [Value.category]) (by simp [Value.category]) (Nat.le_of_ble_eq_true rfl) (Nat.le_refl _) hv1 (fun x1 M1 hq => ?_)
    have h := h x1 M1 hq
    refine V.ifc (cd := .ne) rfl (fun hc => ?_) (fun hc => ?_)
    · have h := h.1 hc
      refine V.run 4 (pc' := 6) (ls' := [.ref 5, .int (v1 + (iI 1)), .int v2, .int (v3 + (iI 1)), .null]) (st' := []) (S' := (M1, L)) rfl ?_
      exact h
    · have h := h.2 hc
      refine V.run 1 (pc' := 92) (ls' := [.ref 5, .int v1, .int v2, .int v3, .null]) (st' := [.int (iI 0)]) (S' := (M1, L)) rfl ?_
      exact V.zret rfl rfl (by decide) ⟨_, _, rfl, rfl, h⟩
set_option maxRecDepth 100000 in
set_option maxHeartbeats 4000000 in
theorem s_LineReader_readExpression_99 {l : Launch} {Γ : qG} {d r : Nat} {M : qM} {L : Nat → Int64} {P : Int32 → qM → Prop} (t : Nat) (ho : (t = 1) ∨ (t = 7)) (v1 v2 v3 v4 : Int32) (h : (v2 = 0 → ∃ P1 : Int32 → qM → Prop, V l Γ T_TapedLines_isOperator d 0 0 [.int v4] [] (M, L) (q_i L P1) ∧ ∀ (x1 : Int32) (M1 : qM), P1 x1 M1 → (x1 = 0 → (¬ v4 = (iI 41) → V l Γ T_LineReader_readExpression (d + 1) r 169 [.null, .int v1, .null, .null, .null] [] (M1, L) (q_i L P)) ∧ (¬ (¬ v4 = (iI 41)) → (v1 ≤ 0 → V l Γ T_LineReader_readExpression (d + 1) r 169 [.null, .int v1, .null, .null, .null] [] (M1, L) (q_i L P)) ∧ (¬ v1 ≤ 0 → ∃ P2 : Int32 → qM → Prop, V l Γ T_LineReader_take d 0 0 [.ref 5] [] (M1, L) (q_i L P2) ∧ ∀ (x2 : Int32) (M2 : qM), P2 x2 M2 → V l Γ T_LineReader_readExpression (d + 1) r 6 [.ref 5, .int (v1 + (iI (-1))), .int v2, .int (v3 + (iI 1)), .null] [] (M2, L) (q_i L P)))) ∧ (¬ x1 = 0 → ∃ P3 : Int32 → qM → Prop, V l Γ T_LineReader_take d 0 0 [.ref 5] [] (M1, L) (q_i L P3) ∧ ∀ (x3 : Int32) (M3 : qM), P3 x3 M3 → V l Γ T_LineReader_readExpression (d + 1) r 6 [.ref 5, .int v1, .int (iI 1), .int (v3 + (iI 1)), .null] [] (M3, L) (q_i L P))) ∧ (¬ v2 = 0 → ∃ P4 : Int32 → qM → Prop, V l Γ T_LineReader_readVariable d 0 0 [.ref 5] [] (M, L) (q_i L P4) ∧ ∀ (x4 : Int32) (M4 : qM), P4 x4 M4 → (¬ x4 = 0 → V l Γ T_LineReader_readExpression (d + 1) r 6 [.ref 5, .int v1, .int (iI 0), .int (v3 + (iI 1)), .null] [] (M4, L) (q_i L P)) ∧ (¬ (¬ x4 = 0) → ∃ P5 : Int32 → qM → Prop, V l Γ T_LineReader_readNumber d 0 0 [.ref 5, .int (iI 0), .int (iI 32767), .null, .null, .null, .null] [] (M4, L) (q_i L P5) ∧ ∀ (x5 : Int32) (M5 : qM), P5 x5 M5 → (¬ x5 = (iI (-1)) → V l Γ T_LineReader_readExpression (d + 1) r 6 [.ref 5, .int v1, .int (iI 0), .int (v3 + (iI 1)), .null] [] (M5, L) (q_i L P)) ∧ (¬ (¬ x5 = (iI (-1))) → P (iI 0) M5)))) : V l Γ T_LineReader_readExpression (d + 1) r 99 [.ref 5, .int v1, .int v2, .int v3, .int v4] [] (M, L) (q_i L P) := by
  rcases ho with rfl | rfl
  · refine V.run 1 (pc' := 100) (ls' := [.ref 5, .int v1, .int v2, .int v3, .int v4]) (st' := [.int v2]) (S' := (M, L)) rfl ?_
    refine V.ifc (cd := .eq) rfl (fun hc => ?_) (fun hc => ?_)
    · have h := h.1 hc
      refine V.run 1 (pc' := 131) (ls' := [.ref 5, .int v1, .int v2, .int v3, .int v4]) (st' := [.int v4]) (S' := (M, L)) rfl ?_
      obtain ⟨P1, hv1, h⟩ := h
      refine V.callSNi (T2 := T_TapedLines_isOperator) (As := [.int v4]) (rest := []) rfl rfl g_TapedLines_isOperator rfl (Nat.le_of_ble_eq_true rfl) (by simp [Value.category]) (by simp [Value.category]) (Nat.le_of_ble_eq_true rfl) (Nat.le_refl _) hv1 (fun x1 M1 hq => ?_)
      have h := h x1 M1 hq
      refine V.ifc (cd := .eq) rfl (fun hc => ?_) (fun hc => ?_)
      · have h := h.1 hc
        refine V.run 2 (pc' := 151) (ls' := [.ref 5, .int v1, .int v2, .int v3, .int v4]) (st' := [.int (iI 41), .int v4]) (S' := (M1, L)) rfl ?_
        refine V.icmp (cd := .ne) rfl (fun hc => ?_) (fun hc => ?_)
        · have h := h.1 hc
          refine V.forget (ls' := [.null, .int v1, .null, .null, .null]) ⟨Or.inl rfl, Or.inr rfl, Or.inl rfl, Or.inl rfl, Or.inl rfl, trivial⟩ ?_
          exact h
        · have h := h.2 hc
          refine V.run 1 (pc' := 155) (ls' := [.ref 5, .int v1, .int v2, .int v3, .int v4]) (st' := [.int v1]) (S' := (M1, L)) rfl ?_
          refine V.ifc (cd := .le) rfl (fun hc => ?_) (fun hc => ?_)
          · have h := h.1 hc
            refine V.forget (ls' := [.null, .int v1, .null, .null, .null]) ⟨Or.inl rfl, Or.inr rfl, Or.inl rfl, Or.inl rfl, Or.inl rfl, trivial⟩ ?_
            exact h
          · have h := h.2 hc
            refine V.run 1 (pc' := 159) (ls' := [.ref 5, .int v1, .int v2, .int v3, .int v4]) (st' := [.ref 5]) (S' := (M1, L)) rfl ?_
            obtain ⟨P2, hv2, h⟩ := h
            refine V.callVi (T2 := T_LineReader_take) (As := []) (rest := []) rfl rfl g_LineReader_take rfl rfl rfl rfl (Nat.le_of_ble_eq_true rfl) (by simp [Value.category]) (by simp [Value.category]) (Nat.le_of_ble_eq_true rfl) (Nat.le_refl _) hv2 (fun x2 M2 hq => ?_)
            have h := h x2 M2 hq
            refine V.run 5 (pc' := 6) (ls' := [.ref 5, .int (v1 + (iI (-1))), .int v2, .int (v3 + (iI 1)), .int v4]) (st' := []) (S' := (M2, L)) rfl ?_
            refine V.forget (ls' := [.ref 5, .int (v1 + (iI (-1))), .int v2, .int (v3 + (iI 1)), .null]) ⟨Or.inr rfl, Or.inr rfl, Or.inr rfl, Or.inr rfl, Or.inl rfl, trivial⟩ ?_
            exact h
      · have h := h.2 hc
        refine V.run 1 (pc' := 138) (ls' := [.ref 5, .int v1, .int v2, .int v3, .int v4]) (st' := [.ref 5]) (S' := (M1, L)) rfl ?_
        obtain ⟨P3, hv3, h⟩ := h
        refine V.callVi (T2 := T_LineReader_take) (As := []) (rest := []) rfl rfl g_LineReader_take rfl rfl rfl rfl (Nat.le_of_ble_eq_true rfl) (by simp [Value.category]) (by simp [Value.category]) (Nat.le_of_ble_eq_true rfl) (Nat.le_refl _) hv3 (fun x3 M3 hq => ?_)
        have h := h x3 M3 hq
        refine V.run 6 (pc' := 6) (ls' := [.ref 5, .int v1, .int (iI 1), .int (v3 + (iI 1)), .int v4]) (st' := []) (S' := (M3, L)) rfl ?_
        refine V.forget (ls' := [.ref 5, .int v1, .int (iI 1), .int (v3 + (iI 1)), .null]) ⟨Or.inr rfl, Or.inr rfl, Or.inr rfl, Or.inr rfl, Or.inl rfl, trivial⟩ ?_
        exact h
    · have h := h.2 hc
      refine V.run 1 (pc' := 104) (ls' := [.ref 5, .int v1, .int v2, .int v3, .int v4]) (st' := [.ref 5]) (S' := (M, L)) rfl ?_
      obtain ⟨P4, hv4, h⟩ := h
      refine V.callVi (T2 := T_LineReader_readVariable) (As := []) (rest := []) rfl rfl g_LineReader_readVariable rfl rfl rfl rfl (Nat.le_of_ble_eq_true rfl) (by simp [Value.category]) (by simp [Value.category]) (Nat.le_of_ble_eq_true rfl) (Nat.le_refl _) hv4 (fun x4 M4 hq => ?_)
      have h := h x4 M4 hq
      refine V.ifc (cd := .ne) rfl (fun hc => ?_) (fun hc => ?_)
      · have h := h.1 hc
        refine V.run 5 (pc' := 6) (ls' := [.ref 5, .int v1, .int (iI 0), .int (v3 + (iI 1)), .int v4]) (st' := []) (S' := (M4, L)) rfl ?_
        refine V.forget (ls' := [.ref 5, .int v1, .int (iI 0), .int (v3 + (iI 1)), .null]) ⟨Or.inr rfl, Or.inr rfl, Or.inr rfl, Or.inr rfl, Or.inl rfl, trivial⟩ ?_
        exact h
      · have h := h.2 hc
        refine V.run 3 (pc' := 115) (ls' := [.ref 5, .int v1, .int v2, .int v3, .int v4]) (st' := [.int (iI 32767), .int (iI 0), .ref 5]) (S' := (M4, L)) rfl ?_
        obtain ⟨P5, hv5, h⟩ := h
        refine V.callVi (T2 := T_LineReader_readNumber) (As := [.int (iI 0), .int (iI 32767)]) (rest := []) rfl rfl g_LineReader_readNumber rfl rfl rfl rfl (Nat.le_of_ble_eq_true rfl) (by simp [Value.category]) (by simp [Value.category]) (Nat.le_of_ble_eq_true rfl) (Nat.le_refl _) hv5 (fun x5 M5 hq => ?_)
        have h := h x5 M5 hq
        refine V.run 1 (pc' := 119) (ls' := [.ref 5, .int v1, .int v2, .int v3, .int v4]) (st' := [.int (iI (-1)), .int x5]) (S' := (M5, L)) rfl ?_
        refine V.icmp (cd := .ne) rfl (fun hc => ?_) (fun hc => ?_)
        · have h := h.1 hc
          refine V.run 5 (pc' := 6) (ls' := [.ref 5, .int v1, .int (iI 0), .int (v3 + (iI 1)), .int v4]) (st' := []) (S' := (M5, L)) rfl ?_
          refine V.forget (ls' := [.ref 5, .int v1, .int (iI 0), .int (v3 + (iI 1)), .null]) ⟨Or.inr rfl, Or.inr rfl, Or.inr rfl, Or.inr rfl, Or.inl rfl, trivial⟩ ?_
          exact h
        · have h := h.2 hc
          refine V.run 1 (pc' := 123) (ls' := [.ref 5, .int v1, .int v2, .int v3, .int v4]) (st' := [.int (iI 0)]) (S' := (M5, L)) rfl ?_
          exact V.zret rfl rfl (by decide) ⟨_, _, rfl, rfl, h⟩
  · refine V.run 1 (pc' := 100) (ls' := [.ref 5, .int v1, .int v2, .int v3, .int v4]) (st' := [.int v2]) (S' := (M, L)) rfl ?_
    refine V.ifc (cd := .eq) rfl (fun hc => ?_) (fun hc => ?_)
    · have h := h.1 hc
      refine V.run 1 (pc' := 131) (ls' := [.ref 5, .int v1, .int v2, .int v3, .int v4]) (st' := [.int v4]) (S' := (M, L)) rfl ?_
      obtain ⟨P1, hv1, h⟩ := h
      refine V.callSNi (T2 := T_TapedLines_isOperator) (As := [.int v4]) (rest := []) rfl rfl g_TapedLines_isOperator rfl (Nat.le_of_ble_eq_true rfl) (by simp [Value.category]) (by simp [Value.category]) (Nat.le_of_ble_eq_true rfl) (Nat.le_refl _) hv1 (fun x1 M1 hq => ?_)
      have h := h x1 M1 hq
      refine V.ifc (cd := .eq) rfl (fun hc => ?_) (fun hc => ?_)
      · have h := h.1 hc
        refine V.run 2 (pc' := 151) (ls' := [.ref 5, .int v1, .int v2, .int v3, .int v4]) (st' := [.int (iI 41), .int v4]) (S' := (M1, L)) rfl ?_
        refine V.icmp (cd := .ne) rfl (fun hc => ?_) (fun hc => ?_)
        · have h := h.1 hc
          refine V.forget (ls' := [.null, .int v1, .null, .null, .null]) ⟨Or.inl rfl, Or.inr rfl, Or.inl rfl, Or.inl rfl, Or.inl rfl, trivial⟩ ?_
          exact h
        · have h := h.2 hc
          refine V.run 1 (pc' := 155) (ls' := [.ref 5, .int v1, .int v2, .int v3, .int v4]) (st' := [.int v1]) (S' := (M1, L)) rfl ?_
          refine V.ifc (cd := .le) rfl (fun hc => ?_) (fun hc => ?_)
          · have h := h.1 hc
            refine V.forget (ls' := [.null, .int v1, .null, .null, .null]) ⟨Or.inl rfl, Or.inr rfl, Or.inl rfl, Or.inl rfl, Or.inl rfl, trivial⟩ ?_
            exact h
          · have h := h.2 hc
            refine V.run 1 (pc' := 159) (ls' := [.ref 5, .int v1, .int v2, .int v3, .int v4]) (st' := [.ref 5]) (S' := (M1, L)) rfl ?_
            obtain ⟨P2, hv2, h⟩ := h
            refine V.callVi (T2 := T_LineReader_take) (As := []) (rest := []) rfl rfl g_LineReader_take rfl rfl rfl rfl (Nat.le_of_ble_eq_true rfl) (by simp [Value.category]) (by simp [Value.category]) (Nat.le_of_ble_eq_true rfl) (Nat.le_refl _) hv2 (fun x2 M2 hq => ?_)
            have h := h x2 M2 hq
            refine V.run 5 (pc' := 6) (ls' := [.ref 5, .int (v1 + (iI (-1))), .int v2, .int (v3 + (iI 1)), .int v4]) (st' := []) (S' := (M2, L)) rfl ?_
            refine V.forget (ls' := [.ref 5, .int (v1 + (iI (-1))), .int v2, .int (v3 + (iI 1)), .null]) ⟨Or.inr rfl, Or.inr rfl, Or.inr rfl, Or.inr rfl, Or.inl rfl, trivial⟩ ?_
            exact h
      · have h := h.2 hc
        refine V.run 1 (pc' := 138) (ls' := [.ref 5, .int v1, .int v2, .int v3, .int v4]) (st' := [.ref 5]) (S' := (M1, L)) rfl ?_
        obtain ⟨P3, hv3, h⟩ := h
        refine V.callVi (T2 := T_LineReader_take) (As := []) (rest := []) rfl rfl g_LineReader_take rfl rfl rfl rfl (Nat.le_of_ble_eq_true rfl) (by simp [Value.category]) (by simp [Value.category]) (Nat.le_of_ble_eq_true rfl) (Nat.le_refl _) hv3 (fun x3 M3 hq => ?_)
        have h := h x3 M3 hq
        refine V.run 6 (pc' := 6) (ls' := [.ref 5, .int v1, .int (iI 1), .int (v3 + (iI 1)), .int v4]) (st' := []) (S' := (M3, L)) rfl ?_
        refine V.forget (ls' := [.ref 5, .int v1, .int (iI 1), .int (v3 + (iI 1)), .null]) ⟨Or.inr rfl, Or.inr rfl, Or.inr rfl, Or.inr rfl, Or.inl rfl, trivial⟩ ?_
        exact h
    · have h := h.2 hc
      refine V.run 1 (pc' := 104) (ls' := [.ref 5, .int v1, .int v2, .int v3, .int v4]) (st' := [.ref 5]) (S' := (M, L)) rfl ?_
      obtain ⟨P4, hv4, h⟩ := h
      refine V.callVi (T2 := T_LineReader_readVariable) (As := []) (rest := []) rfl rfl g_LineReader_readVariable rfl rfl rfl rfl (Nat.le_of_ble_eq_true rfl) (by simp [Value.category]) (by simp [Value.category]) (Nat.le_of_ble_eq_true rfl) (Nat.le_refl _) hv4 (fun x4 M4 hq => ?_)
      have h := h x4 M4 hq
      refine V.ifc (cd := .ne) rfl (fun hc => ?_) (fun hc => ?_)
      · have h := h.1 hc
        refine V.run 5 (pc' := 6) (ls' := [.ref 5, .int v1, .int (iI 0), .int (v3 + (iI 1)), .int v4]) (st' := []) (S' := (M4, L)) rfl ?_
        refine V.forget (ls' := [.ref 5, .int v1, .int (iI 0), .int (v3 + (iI 1)), .null]) ⟨Or.inr rfl, Or.inr rfl, Or.inr rfl, Or.inr rfl, Or.inl rfl, trivial⟩ ?_
        exact h
      · have h := h.2 hc
        refine V.run 3 (pc' := 115) (ls' := [.ref 5, .int v1, .int v2, .int v3, .int v4]) (st' := [.int (iI 32767), .int (iI 0), .ref 5]) (S' := (M4, L)) rfl ?_
        obtain ⟨P5, hv5, h⟩ := h
        refine V.callVi (T2 := T_LineReader_readNumber) (As := [.int (iI 0), .int (iI 32767)]) (rest := []) rfl rfl g_LineReader_readNumber rfl rfl rfl rfl (Nat.le_of_ble_eq_true rfl) (by simp [Value.category]) (by simp [Value.category]) (Nat.le_of_ble_eq_true rfl) (Nat.le_refl _) hv5 (fun x5 M5 hq => ?_)
        have h := h x5 M5 hq
        refine V.run 1 (pc' := 119) (ls' := [.ref 5, .int v1, .int v2, .int v3, .int v4]) (st' := [.int (iI (-1)), .int x5]) (S' := (M5, L)) rfl ?_
        refine V.icmp (cd := .ne) rfl (fun hc => ?_) (fun hc => ?_)
        · have h := h.1 hc
          refine V.run 5 (pc' := 6) (ls' := [.ref 5, .int v1, .int (iI 0), .int (v3 + (iI 1)), .int v4]) (st' := []) (S' := (M5, L)) rfl ?_
          refine V.forget (ls' := [.ref 5, .int v1, .int (iI 0), .int (v3 + (iI 1)), .null]) ⟨Or.inr rfl, Or.inr rfl, Or.inr rfl, Or.inr rfl, Or.inl rfl, trivial⟩ ?_
          exact h
        · have h := h.2 hc
          refine V.run 1 (pc' := 123) (ls' := [.ref 5, .int v1, .int v2, .int v3, .int v4]) (st' := [.int (iI 0)]) (S' := (M5, L)) rfl ?_
          exact V.zret rfl rfl (by decide) ⟨_, _, rfl, rfl, h⟩
set_option maxRecDepth 100000 in
set_option maxHeartbeats 4000000 in
theorem s_LineReader_readExpression_169 {l : Launch} {Γ : qG} {d r : Nat} {M : qM} {L : Nat → Int64} {P : Int32 → qM → Prop} (t : Nat) (ho : (t = 1) ∨ (t = 7)) (v1 : Int32) (h : (¬ v1 = 0 → P (iI 0) M) ∧ (¬ (¬ v1 = 0) → P (iI 1) M)) : V l Γ T_LineReader_readExpression (d + 1) r 169 [.null, .int v1, .null, .null, .null] [] (M, L) (q_i L P) := by
  rcases ho with rfl | rfl
  · refine V.run 1 (pc' := 170) (ls' := [.null, .int v1, .null, .null, .null]) (st' := [.int v1]) (S' := (M, L)) rfl ?_
    refine V.ifc (cd := .ne) rfl (fun hc => ?_) (fun hc => ?_)
    · have h := h.1 hc
      refine V.run 1 (pc' := 178) (ls' := [.null, .int v1, .null, .null, .null]) (st' := [.int (iI 0)]) (S' := (M, L)) rfl ?_
      exact V.zret rfl rfl (by decide) ⟨_, _, rfl, rfl, h⟩
    · have h := h.2 hc
      refine V.run 2 (pc' := 178) (ls' := [.null, .int v1, .null, .null, .null]) (st' := [.int (iI 1)]) (S' := (M, L)) rfl ?_
      exact V.zret rfl rfl (by decide) ⟨_, _, rfl, rfl, h⟩
  · refine V.run 1 (pc' := 170) (ls' := [.null, .int v1, .null, .null, .null]) (st' := [.int v1]) (S' := (M, L)) rfl ?_
    refine V.ifc (cd := .ne) rfl (fun hc => ?_) (fun hc => ?_)
    · have h := h.1 hc
      refine V.run 1 (pc' := 178) (ls' := [.null, .int v1, .null, .null, .null]) (st' := [.int (iI 0)]) (S' := (M, L)) rfl ?_
      exact V.zret rfl rfl (by decide) ⟨_, _, rfl, rfl, h⟩
    · have h := h.2 hc
      refine V.run 2 (pc' := 178) (ls' := [.null, .int v1, .null, .null, .null]) (st' := [.int (iI 1)]) (S' := (M, L)) rfl ?_
      exact V.zret rfl rfl (by decide) ⟨_, _, rfl, rfl, h⟩
set_option maxRecDepth 100000 in
set_option maxHeartbeats 4000000 in
theorem s_LineReader_skipSpaces_0 {l : Launch} {Γ : qG} {d r : Nat} {M : qM} {L : Nat → Int64} {P : qM → Prop} (t : Nat) (ho : (t = 1) ∨ (t = 7)) (h : ((M 5 4)).toNatClampNeg = t ∧ ((M t 1) ≤ (M 5 3) → P M) ∧ (¬ (M t 1) ≤ (M 5 3) → ((M 5 4)).toNatClampNeg = t ∧ vp_in (M 5 3) (cp (t + 1)) ∧ (¬ (M (t + 1) ((M 5 3)).toNatClampNeg) = (iI 32) → P M) ∧ (¬ (¬ (M (t + 1) ((M 5 3)).toNatClampNeg) = (iI 32)) → V l Γ T_LineReader_skipSpaces d r 0 [.ref 5] [] ((q_up M 5 3 ((M 5 3) + (iI 1))), L) (q_n L P)))) : V l Γ T_LineReader_skipSpaces d r 0 [.ref 5] [] (M, L) (q_n L P) := by
  rcases ho with rfl | rfl
  · refine V.run 3 (pc' := 5) (ls' := [.ref 5]) (st' := [.ref 5, .int (M 5 3)]) (S' := (M, L)) rfl ?_
    refine V.gfm rfl rfl rfl h.1 ?_
    have h := h.2
    refine V.run 1 (pc' := 11) (ls' := [.ref 5]) (st' := [.int (M 1 1), .int (M 5 3)]) (S' := (M, L)) rfl ?_
    refine V.icmp (cd := .ge) rfl (fun hc => ?_) (fun hc => ?_)
    · have h := h.1 hc
      exact V.vret rfl rfl ⟨_, rfl, rfl, h⟩
    · have h := h.2 hc
      refine V.run 1 (pc' := 15) (ls' := [.ref 5]) (st' := [.ref 5]) (S' := (M, L)) rfl ?_
      refine V.gfm rfl rfl rfl h.1 ?_
      have h := h.2
      refine V.run 3 (pc' := 25) (ls' := [.ref 5]) (st' := [.int (M 5 3), .ref 2]) (S' := (M, L)) rfl ?_
      refine V.cald rfl rfl h.1 ?_
      have h := h.2
      refine V.run 1 (pc' := 28) (ls' := [.ref 5]) (st' := [.int (iI 32), .int (M 2 ((M 5 3)).toNatClampNeg)]) (S' := (M, L)) rfl ?_
      refine V.icmp (cd := .ne) rfl (fun hc => ?_) (fun hc => ?_)
      · have h := h.1 hc
        exact V.vret rfl rfl ⟨_, rfl, rfl, h⟩
      · have h := h.2 hc
        refine V.run 7 (pc' := 0) (ls' := [.ref 5]) (st' := []) (S' := ((q_up M 5 3 ((M 5 3) + (iI 1))), L)) rfl ?_
        exact h
  · refine V.run 3 (pc' := 5) (ls' := [.ref 5]) (st' := [.ref 5, .int (M 5 3)]) (S' := (M, L)) rfl ?_
    refine V.gfm rfl rfl rfl h.1 ?_
    have h := h.2
    refine V.run 1 (pc' := 11) (ls' := [.ref 5]) (st' := [.int (M 7 1), .int (M 5 3)]) (S' := (M, L)) rfl ?_
    refine V.icmp (cd := .ge) rfl (fun hc => ?_) (fun hc => ?_)
    · have h := h.1 hc
      exact V.vret rfl rfl ⟨_, rfl, rfl, h⟩
    · have h := h.2 hc
      refine V.run 1 (pc' := 15) (ls' := [.ref 5]) (st' := [.ref 5]) (S' := (M, L)) rfl ?_
      refine V.gfm rfl rfl rfl h.1 ?_
      have h := h.2
      refine V.run 3 (pc' := 25) (ls' := [.ref 5]) (st' := [.int (M 5 3), .ref 8]) (S' := (M, L)) rfl ?_
      refine V.cald rfl rfl h.1 ?_
      have h := h.2
      refine V.run 1 (pc' := 28) (ls' := [.ref 5]) (st' := [.int (iI 32), .int (M 8 ((M 5 3)).toNatClampNeg)]) (S' := (M, L)) rfl ?_
      refine V.icmp (cd := .ne) rfl (fun hc => ?_) (fun hc => ?_)
      · have h := h.1 hc
        exact V.vret rfl rfl ⟨_, rfl, rfl, h⟩
      · have h := h.2 hc
        refine V.run 7 (pc' := 0) (ls' := [.ref 5]) (st' := []) (S' := ((q_up M 5 3 ((M 5 3) + (iI 1))), L)) rfl ?_
        exact h
set_option maxRecDepth 100000 in
set_option maxHeartbeats 4000000 in
theorem s_LineReader_ahead_0 {l : Launch} {Γ : qG} {d r : Nat} {M : qM} {L : Nat → Int64} {P : Int32 → qM → Prop} (t : Nat) (ho : (t = 1) ∨ (t = 7)) (a : Int32) (h : ((M 5 4)).toNatClampNeg = t ∧ ((M t 1) ≤ ((M 5 3) + a) → P (iI (-1)) M) ∧ (¬ (M t 1) ≤ ((M 5 3) + a) → ((M 5 4)).toNatClampNeg = t ∧ vp_in ((M 5 3) + a) (cp (t + 1)) ∧ P (M (t + 1) (((M 5 3) + a)).toNatClampNeg) M)) : V l Γ T_LineReader_ahead d r 0 [.ref 5, .int a] [] (M, L) (q_i L P) := by
  rcases ho with rfl | rfl
  · refine V.run 5 (pc' := 7) (ls' := [.ref 5, .int a]) (st' := [.ref 5, .int ((M 5 3) + a)]) (S' := (M, L)) rfl ?_
    refine V.gfm rfl rfl rfl h.1 ?_
    have h := h.2
    refine V.run 1 (pc' := 13) (ls' := [.ref 5, .int a]) (st' := [.int (M 1 1), .int ((M 5 3) + a)]) (S' := (M, L)) rfl ?_
    refine V.icmp (cd := .ge) rfl (fun hc => ?_) (fun hc => ?_)
    · have h := h.1 hc
      refine V.run 1 (pc' := 34) (ls' := [.ref 5, .int a]) (st' := [.int (iI (-1))]) (S' := (M, L)) rfl ?_
      exact V.iret rfl rfl ⟨_, _, rfl, rfl, h⟩
    · have h := h.2 hc
      refine V.run 1 (pc' := 17) (ls' := [.ref 5, .int a]) (st' := [.ref 5]) (S' := (M, L)) rfl ?_
      refine V.gfm rfl rfl rfl h.1 ?_
      have h := h.2
      refine V.run 5 (pc' := 29) (ls' := [.ref 5, .int a]) (st' := [.int ((M 5 3) + a), .ref 2]) (S' := (M, L)) rfl ?_
      refine V.cald rfl rfl h.1 ?_
      have h := h.2
      refine V.run 1 (pc' := 34) (ls' := [.ref 5, .int a]) (st' := [.int (M 2 (((M 5 3) + a)).toNatClampNeg)]) (S' := (M, L)) rfl ?_
      exact V.iret rfl rfl ⟨_, _, rfl, rfl, h⟩
  · refine V.run 5 (pc' := 7) (ls' := [.ref 5, .int a]) (st' := [.ref 5, .int ((M 5 3) + a)]) (S' := (M, L)) rfl ?_
    refine V.gfm rfl rfl rfl h.1 ?_
    have h := h.2
    refine V.run 1 (pc' := 13) (ls' := [.ref 5, .int a]) (st' := [.int (M 7 1), .int ((M 5 3) + a)]) (S' := (M, L)) rfl ?_
    refine V.icmp (cd := .ge) rfl (fun hc => ?_) (fun hc => ?_)
    · have h := h.1 hc
      refine V.run 1 (pc' := 34) (ls' := [.ref 5, .int a]) (st' := [.int (iI (-1))]) (S' := (M, L)) rfl ?_
      exact V.iret rfl rfl ⟨_, _, rfl, rfl, h⟩
    · have h := h.2 hc
      refine V.run 1 (pc' := 17) (ls' := [.ref 5, .int a]) (st' := [.ref 5]) (S' := (M, L)) rfl ?_
      refine V.gfm rfl rfl rfl h.1 ?_
      have h := h.2
      refine V.run 5 (pc' := 29) (ls' := [.ref 5, .int a]) (st' := [.int ((M 5 3) + a), .ref 8]) (S' := (M, L)) rfl ?_
      refine V.cald rfl rfl h.1 ?_
      have h := h.2
      refine V.run 1 (pc' := 34) (ls' := [.ref 5, .int a]) (st' := [.int (M 8 (((M 5 3) + a)).toNatClampNeg)]) (S' := (M, L)) rfl ?_
      exact V.iret rfl rfl ⟨_, _, rfl, rfl, h⟩
set_option maxRecDepth 100000 in
set_option maxHeartbeats 4000000 in
theorem s_LineReader_take_0 {l : Launch} {Γ : qG} {d r : Nat} {M : qM} {L : Nat → Int64} {P : Int32 → qM → Prop} (t : Nat) (ho : (t = 1) ∨ (t = 7)) (h : ((M 5 4)).toNatClampNeg = t ∧ vp_in (M 5 3) (cp (t + 1)) ∧ ∃ P1 : qM → Prop, V l Γ T_LineReader_put d 0 0 [.ref 5, .int (M (t + 1) ((M 5 3)).toNatClampNeg)] [] (M, L) (q_n L P1) ∧ ∀ (M1 : qM), P1 M1 → P (iI 1) (q_up M1 5 3 ((M1 5 3) + (iI 1)))) : V l Γ T_LineReader_take (d + 1) r 0 [.ref 5] [] (M, L) (q_i L P) := by
  rcases ho with rfl | rfl
  · refine V.run 2 (pc' := 2) (ls' := [.ref 5]) (st' := [.ref 5, .ref 5]) (S' := (M, L)) rfl ?_
    refine V.gfm rfl rfl rfl h.1 ?_
    have h := h.2
    refine V.run 3 (pc' := 12) (ls' := [.ref 5]) (st' := [.int (M 5 3), .ref 2, .ref 5]) (S' := (M, L)) rfl ?_
    refine V.cald rfl rfl h.1 ?_
    have h := h.2
    obtain ⟨P1, hv1, h⟩ := h
    refine V.callVv (T2 := T_LineReader_put) (As := [.int (M 2 ((M 5 3)).toNatClampNeg)]) (rest := []) rfl rfl g_LineReader_put rfl rfl rfl rfl (Nat.le_of_ble_eq_true rfl) (by simp [Value.category]) (by simp [Value.category]) (Nat.le_of_ble_eq_true rfl) (Nat.le_refl _) hv1 (fun M1 hq => ?_)
    have h := h M1 hq
    refine V.run 7 (pc' := 27) (ls' := [.ref 5]) (st' := [.int (iI 1)]) (S' := ((q_up M1 5 3 ((M1 5 3) + (iI 1))), L)) rfl ?_
    exact V.zret rfl rfl (by decide) ⟨_, _, rfl, rfl, h⟩
  · refine V.run 2 (pc' := 2) (ls' := [.ref 5]) (st' := [.ref 5, .ref 5]) (S' := (M, L)) rfl ?_
    refine V.gfm rfl rfl rfl h.1 ?_
    have h := h.2
    refine V.run 3 (pc' := 12) (ls' := [.ref 5]) (st' := [.int (M 5 3), .ref 8, .ref 5]) (S' := (M, L)) rfl ?_
    refine V.cald rfl rfl h.1 ?_
    have h := h.2
    obtain ⟨P1, hv1, h⟩ := h
    refine V.callVv (T2 := T_LineReader_put) (As := [.int (M 8 ((M 5 3)).toNatClampNeg)]) (rest := []) rfl rfl g_LineReader_put rfl rfl rfl rfl (Nat.le_of_ble_eq_true rfl) (by simp [Value.category]) (by simp [Value.category]) (Nat.le_of_ble_eq_true rfl) (Nat.le_refl _) hv1 (fun M1 hq => ?_)
    have h := h M1 hq
    refine V.run 7 (pc' := 27) (ls' := [.ref 5]) (st' := [.int (iI 1)]) (S' := ((q_up M1 5 3 ((M1 5 3) + (iI 1))), L)) rfl ?_
    exact V.zret rfl rfl (by decide) ⟨_, _, rfl, rfl, h⟩
set_option maxRecDepth 100000 in
set_option maxHeartbeats 4000000 in
theorem s_LineReader_put_0 {l : Launch} {Γ : qG} {d r : Nat} {M : qM} {L : Nat → Int64} {P : qM → Prop} (t : Nat) (ho : (t = 1) ∨ (t = 7)) (a : Int32) (h : ((nI (cp 6)) ≤ (M 5 1) → P M) ∧ (¬ (nI (cp 6)) ≤ (M 5 1) → vp_in (M 5 1) 256 ∧ P (q_up (q_up M 6 ((M 5 1)).toNatClampNeg a) 5 1 ((M 5 1) + (iI 1))))) : V l Γ T_LineReader_put d r 0 [.ref 5, .int a] [] (M, L) (q_n L P) := by
  rcases ho with rfl | rfl
  · refine V.run 4 (pc' := 8) (ls' := [.ref 5, .int a]) (st' := [.ref 6, .int (M 5 1)]) (S' := (M, L)) rfl ?_
    refine V.alen rfl rfl (by decide) ?_
    refine V.icmp (cd := .ge) rfl (fun hc => ?_) (fun hc => ?_)
    · have h := h.1 hc
      exact V.vret rfl rfl ⟨_, rfl, rfl, h⟩
    · have h := h.2 hc
      refine V.run 5 (pc' := 21) (ls' := [.ref 5, .int a]) (st' := [.int a, .int (M 5 1), .ref 6]) (S' := (M, L)) rfl ?_
      refine V.iast rfl rfl h.1 ?_
      have h := h.2
      refine V.run 6 (pc' := 32) (ls' := [.ref 5, .int a]) (st' := []) (S' := ((q_up (q_up M 6 ((M 5 1)).toNatClampNeg a) 5 1 ((M 5 1) + (iI 1))), L)) rfl ?_
      exact V.vret rfl rfl ⟨_, rfl, rfl, h⟩
  · refine V.run 4 (pc' := 8) (ls' := [.ref 5, .int a]) (st' := [.ref 6, .int (M 5 1)]) (S' := (M, L)) rfl ?_
    refine V.alen rfl rfl (by decide) ?_
    refine V.icmp (cd := .ge) rfl (fun hc => ?_) (fun hc => ?_)
    · have h := h.1 hc
      exact V.vret rfl rfl ⟨_, rfl, rfl, h⟩
    · have h := h.2 hc
      refine V.run 5 (pc' := 21) (ls' := [.ref 5, .int a]) (st' := [.int a, .int (M 5 1), .ref 6]) (S' := (M, L)) rfl ?_
      refine V.iast rfl rfl h.1 ?_
      have h := h.2
      refine V.run 6 (pc' := 32) (ls' := [.ref 5, .int a]) (st' := []) (S' := ((q_up (q_up M 6 ((M 5 1)).toNatClampNeg a) 5 1 ((M 5 1) + (iI 1))), L)) rfl ?_
      exact V.vret rfl rfl ⟨_, rfl, rfl, h⟩
