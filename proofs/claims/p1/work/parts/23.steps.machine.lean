set_option maxRecDepth 100000 in
set_option maxHeartbeats 4000000 in
theorem s_Machine_begin_0 {l : Launch} {Γ : qG} {d r : Nat} {M : qM} {L : Nat → Int64} {P : qM → Prop} (h : V l Γ T_Machine_begin (d + 1) r 2 [.ref 9, .int (iI 0)] [] (M, L) (q_n L P)) : V l Γ T_Machine_begin (d + 1) r 0 [.ref 9, .null] [] (M, L) (q_n L P) := by
  refine V.run 2 (pc' := 2) (ls' := [.ref 9, .int (iI 0)]) (st' := []) (S' := (M, L)) rfl ?_
  exact h
set_option maxRecDepth 100000 in
set_option maxHeartbeats 4000000 in
theorem s_Machine_begin_2 {l : Launch} {Γ : qG} {d r : Nat} {M : qM} {L : Nat → Int64} {P : qM → Prop} (v1 : Int32) (h : ((iI 8) ≤ v1 → V l Γ T_Machine_begin (d + 1) r 23 [.ref 9, .int (iI 0)] [] (M, L) (q_n L P)) ∧ (¬ (iI 8) ≤ v1 → vp_in v1 8 ∧ V l Γ T_Machine_begin (d + 1) r 2 [.ref 9, .int (v1 + (iI 1))] [] ((q_up M 13 (v1).toNatClampNeg (iI 0)), L) (q_n L P))) : V l Γ T_Machine_begin (d + 1) r 2 [.ref 9, .int v1] [] (M, L) (q_n L P) := by
  refine V.run 2 (pc' := 5) (ls' := [.ref 9, .int v1]) (st' := [.int (iI 8), .int v1]) (S' := (M, L)) rfl ?_
  refine V.icmp (cd := .ge) rfl (fun hc => ?_) (fun hc => ?_)
  · have h := h.1 hc
    refine V.run 2 (pc' := 23) (ls' := [.ref 9, .int (iI 0)]) (st' := []) (S' := (M, L)) rfl ?_
    exact h
  · have h := h.2 hc
    refine V.run 4 (pc' := 14) (ls' := [.ref 9, .int v1]) (st' := [.int (iI 0), .int v1, .ref 13]) (S' := (M, L)) rfl ?_
    refine V.iast rfl rfl h.1 ?_
    have h := h.2
    refine V.run 2 (pc' := 2) (ls' := [.ref 9, .int (v1 + (iI 1))]) (st' := []) (S' := ((q_up M 13 (v1).toNatClampNeg (iI 0)), L)) rfl ?_
    exact h
set_option maxRecDepth 100000 in
set_option maxHeartbeats 4000000 in
theorem s_Machine_begin_23 {l : Launch} {Γ : qG} {d r : Nat} {M : qM} {L : Nat → Int64} {P : qM → Prop} (v1 : Int32) (h : ((iI 16) ≤ v1 → ∃ P1 : qM → Prop, V l Γ T_Machine_arriveAt d 0 0 [.ref 9, .int (iI 0)] [] ((q_up (q_up (q_up M 9 12 (iI 0)) 9 13 (iI 0)) 16 1 (iI 0)), L) (q_n L P1) ∧ ∀ (M1 : qM), P1 M1 → P M1) ∧ (¬ (iI 16) ≤ v1 → vp_in v1 16 ∧ V l Γ T_Machine_begin (d + 1) r 23 [.ref 9, .int (v1 + (iI 1))] [] ((q_up M 14 (v1).toNatClampNeg (iI 0)), L) (q_n L P))) : V l Γ T_Machine_begin (d + 1) r 23 [.ref 9, .int v1] [] (M, L) (q_n L P) := by
  refine V.run 2 (pc' := 26) (ls' := [.ref 9, .int v1]) (st' := [.int (iI 16), .int v1]) (S' := (M, L)) rfl ?_
  refine V.icmp (cd := .ge) rfl (fun hc => ?_) (fun hc => ?_)
  · have h := h.1 hc
    refine V.run 12 (pc' := 62) (ls' := [.ref 9, .int v1]) (st' := [.int (iI 0), .ref 9]) (S' := ((q_up (q_up (q_up M 9 12 (iI 0)) 9 13 (iI 0)) 16 1 (iI 0)), L)) rfl ?_
    obtain ⟨P1, hv1, h⟩ := h
    refine V.callVv (T2 := T_Machine_arriveAt) (As := [.int (iI 0)]) (rest := []) rfl rfl g_Machine_arriveAt rfl rfl rfl rfl (Nat.le_of_ble_eq_true rfl) (by simp [Value.category]) (by simp [Value.category]) (Nat.le_of_ble_eq_true rfl) (Nat.le_refl _) hv1 (fun M1 hq => ?_)
    have h := h M1 hq
    exact V.vret rfl rfl ⟨_, rfl, rfl, h⟩
  · have h := h.2 hc
    refine V.run 4 (pc' := 35) (ls' := [.ref 9, .int v1]) (st' := [.int (iI 0), .int v1, .ref 14]) (S' := (M, L)) rfl ?_
    refine V.iast rfl rfl h.1 ?_
    have h := h.2
    refine V.run 2 (pc' := 23) (ls' := [.ref 9, .int (v1 + (iI 1))]) (st' := []) (S' := ((q_up M 14 (v1).toNatClampNeg (iI 0)), L)) rfl ?_
    exact h
set_option maxRecDepth 100000 in
set_option maxHeartbeats 4000000 in
theorem s_Machine_settle_0 {l : Launch} {Γ : qG} {d r : Nat} {M : qM} {L : Nat → Int64} {P : Int32 → qM → Prop} (a : Int32) (h : (a = 0 → ∃ P1 : qM → Prop, V l Γ T_Machine_arriveAt d 0 0 [.ref 9, .int (M 9 14)] [] (M, L) (q_n L P1) ∧ ∀ (M1 : qM), P1 M1 → P (iI 1) M1) ∧ (¬ a = 0 → P (iI 0) (q_up M 9 4 ((iI 10) + a)))) : V l Γ T_Machine_settle (d + 1) r 0 [.ref 9, .int a] [] (M, L) (q_i L P) := by
  refine V.run 1 (pc' := 1) (ls' := [.ref 9, .int a]) (st' := [.int a]) (S' := (M, L)) rfl ?_
  refine V.ifc (cd := .eq) rfl (fun hc => ?_) (fun hc => ?_)
  · have h := h.1 hc
    refine V.run 3 (pc' := 19) (ls' := [.ref 9, .int a]) (st' := [.int (M 9 14), .ref 9]) (S' := (M, L)) rfl ?_
    obtain ⟨P1, hv1, h⟩ := h
    refine V.callVv (T2 := T_Machine_arriveAt) (As := [.int (M 9 14)]) (rest := []) rfl rfl g_Machine_arriveAt rfl rfl rfl rfl (Nat.le_of_ble_eq_true rfl) (by simp [Value.category]) (by simp [Value.category]) (Nat.le_of_ble_eq_true rfl) (Nat.le_refl _) hv1 (fun M1 hq => ?_)
    have h := h M1 hq
    refine V.run 1 (pc' := 23) (ls' := [.ref 9, .int a]) (st' := [.int (iI 1)]) (S' := (M1, L)) rfl ?_
    exact V.zret rfl rfl (by decide) ⟨_, _, rfl, rfl, h⟩
  · have h := h.2 hc
    refine V.run 6 (pc' := 13) (ls' := [.ref 9, .int a]) (st' := [.int (iI 0)]) (S' := ((q_up M 9 4 ((iI 10) + a)), L)) rfl ?_
    exact V.zret rfl rfl (by decide) ⟨_, _, rfl, rfl, h⟩
set_option maxRecDepth 100000 in
set_option maxHeartbeats 4000000 in
theorem s_Machine_arriveAt_0 {l : Launch} {Γ : qG} {d r : Nat} {M : qM} {L : Nat → Int64} {P : qM → Prop} (a : Int32) (h : ((M 10 1) ≤ a → P (q_up (q_up M 9 5 a) 9 4 (iI 2))) ∧ (¬ (M 10 1) ≤ a → P (q_up (q_up M 9 5 a) 9 4 (iI 1)))) : V l Γ T_Machine_arriveAt d r 0 [.ref 9, .int a] [] (M, L) (q_n L P) := by
  refine V.run 8 (pc' := 14) (ls' := [.ref 9, .int a]) (st' := [.int (M 10 1), .int a, .ref 9]) (S' := ((q_up M 9 5 a), L)) rfl ?_
  refine V.icmp (cd := .ge) rfl (fun hc => ?_) (fun hc => ?_)
  · have h := h.1 hc
    refine V.run 2 (pc' := 25) (ls' := [.ref 9, .int a]) (st' := []) (S' := ((q_up (q_up M 9 5 a) 9 4 (iI 2)), L)) rfl ?_
    exact V.vret rfl rfl ⟨_, rfl, rfl, h⟩
  · have h := h.2 hc
    refine V.run 3 (pc' := 25) (ls' := [.ref 9, .int a]) (st' := []) (S' := ((q_up (q_up M 9 5 a) 9 4 (iI 1)), L)) rfl ?_
    exact V.vret rfl rfl ⟨_, rfl, rfl, h⟩
set_option maxRecDepth 100000 in
set_option maxHeartbeats 4000000 in
theorem s_Machine_perform_0 {l : Launch} {Γ : qG} {d r : Nat} {M : qM} {L : Nat → Int64} {P : Int32 → qM → Prop} (h : ∃ P1 : Int32 → qM → Prop, V l Γ T_Program_behind d 0 0 [.ref 10, .int (M 9 5)] [] (M, L) (q_i L P1) ∧ ∀ (x1 : Int32) (M1 : qM), P1 x1 M1 → ∃ P2 : qM → Prop, V l Γ T_Calculator_open d 0 0 [.ref 12, .ref 11, .int ((M1 9 5) + (iI 2)), .int x1] [] ((q_up M1 9 14 x1), L) (q_n L P2) ∧ ∀ (M2 : qM), P2 M2 → ∃ P3 : Int32 → qM → Prop, V l Γ T_Calculator_ahead d 0 0 [.ref 12] [] (M2, L) (q_i L P3) ∧ ∀ (x3 : Int32) (M3 : qM), P3 x3 M3 → ((x3).toInt = 63 → ∃ P4 : Int32 → qM → Prop, V l Γ T_Machine_write d 0 0 [.ref 9, .null] [] (M3, L) (q_i L P4) ∧ ∀ (x4 : Int32) (M4 : qM), P4 x4 M4 → P x4 M4) ∧ (¬ (x3).toInt = 63 → ((x3).toInt = 64 → ∃ P5 : Int32 → qM → Prop, V l Γ T_Machine_setCell d 0 0 [.ref 9, .null, .null] [] (M3, L) (q_i L P5) ∧ ∀ (x5 : Int32) (M5 : qM), P5 x5 M5 → P x5 M5) ∧ (¬ (x3).toInt = 64 → ((x3).toInt = 128 → ∃ P6 : Int32 → qM → Prop, V l Γ T_Machine_jump d 0 0 [.ref 9, .null] [] (M3, L) (q_i L P6) ∧ ∀ (x6 : Int32) (M6 : qM), P6 x6 M6 → P x6 M6) ∧ (¬ (x3).toInt = 128 → ((x3).toInt = 129 → ∃ P7 : Int32 → qM → Prop, V l Γ T_Machine_jumpAndKeep d 0 0 [.ref 9, .null, .null] [] (M3, L) (q_i L P7) ∧ ∀ (x7 : Int32) (M7 : qM), P7 x7 M7 → P x7 M7) ∧ (¬ (x3).toInt = 129 → ((x3).toInt = 130 → ∃ P8 : Int32 → qM → Prop, V l Γ T_Machine_jumpBack d 0 0 [.ref 9] [] (M3, L) (q_i L P8) ∧ ∀ (x8 : Int32) (M8 : qM), P8 x8 M8 → P x8 M8) ∧ (¬ (x3).toInt = 130 → ((x3).toInt = 131 → ∃ P9 : Int32 → qM → Prop, V l Γ T_Machine_jumpIf d 0 0 [.ref 9, .null] [] (M3, L) (q_i L P9) ∧ ∀ (x9 : Int32) (M9 : qM), P9 x9 M9 → P x9 M9) ∧ (¬ (x3).toInt = 131 → ((x3).toInt = 132 → ∃ P10 : Int32 → qM → Prop, V l Γ T_Machine_openLoop d 0 0 [.ref 9, .null, .null, .null, .null, .null] [] (M3, L) (q_i L P10) ∧ ∀ (x10 : Int32) (M10 : qM), P10 x10 M10 → P x10 M10) ∧ (¬ (x3).toInt = 132 → ((x3).toInt = 134 → ∃ P11 : Int32 → qM → Prop, V l Γ T_Machine_closeLoop d 0 0 [.ref 9, .null, .null] [] (M3, L) (q_i L P11) ∧ ∀ (x11 : Int32) (M11 : qM), P11 x11 M11 → P x11 M11) ∧ (¬ (x3).toInt = 134 → ((x3).toInt = 135 → P (iI 0) (q_up M3 9 14 (M3 10 1))) ∧ (¬ (x3).toInt = 135 → ∃ P12 : Int32 → qM → Prop, V l Γ T_Machine_setVariable d 0 0 [.ref 9, .null, .null] [] (M3, L) (q_i L P12) ∧ ∀ (x12 : Int32) (M12 : qM), P12 x12 M12 → P x12 M12)))))))))) : V l Γ T_Machine_perform (d + 1) r 0 [.ref 9] [] (M, L) (q_i L P) := by
  refine V.run 5 (pc' := 9) (ls' := [.ref 9]) (st' := [.int (M 9 5), .ref 10, .ref 9]) (S' := (M, L)) rfl ?_
  obtain ⟨P1, hv1, h⟩ := h
  refine V.callVi (T2 := T_Program_behind) (As := [.int (M 9 5)]) (rest := [.ref 9]) rfl rfl g_Program_behind rfl rfl rfl rfl (Nat.le_of_ble_eq_true rfl) (by simp [Value.category]) (by simp [Value.category]) (Nat.le_of_ble_eq_true rfl) (Nat.le_refl _) hv1 (fun x1 M1 hq => ?_)
  have h := h x1 M1 hq
  refine V.run 12 (pc' := 36) (ls' := [.ref 9]) (st' := [.int x1, .int ((M1 9 5) + (iI 2)), .ref 11, .ref 12]) (S' := ((q_up M1 9 14 x1), L)) rfl ?_
  obtain ⟨P2, hv2, h⟩ := h
  refine V.callVv (T2 := T_Calculator_open) (As := [.ref 11, .int ((M1 9 5) + (iI 2)), .int x1]) (rest := []) rfl rfl g_Calculator_open rfl rfl rfl rfl (Nat.le_of_ble_eq_true rfl) (by simp [Value.category]) (by simp [Value.category]) (Nat.le_of_ble_eq_true rfl) (Nat.le_refl _) hv2 (fun M2 hq => ?_)
  have h := h M2 hq
  refine V.run 2 (pc' := 43) (ls' := [.ref 9]) (st' := [.ref 12]) (S' := (M2, L)) rfl ?_
  obtain ⟨P3, hv3, h⟩ := h
  refine V.callVi (T2 := T_Calculator_ahead) (As := []) (rest := []) rfl rfl g_Calculator_ahead rfl rfl rfl rfl (Nat.le_of_ble_eq_true rfl) (by simp [Value.category]) (by simp [Value.category]) (Nat.le_of_ble_eq_true rfl) (Nat.le_refl _) hv3 (fun x3 M3 hq => ?_)
  have h := h x3 M3 hq
  refine V.swl rfl 181 [(63, 171), (64, 176), (128, 128), (129, 133), (130, 138), (131, 143), (132, 148), (134, 153), (135, 158)] (by decide) (by decide) (by decide) ?_
  refine q_swP.c (fun hc => ?_) (fun hc => ?_)
  · have h := h.1 hc
    refine V.run 1 (pc' := 172) (ls' := [.ref 9]) (st' := [.ref 9]) (S' := (M3, L)) rfl ?_
    obtain ⟨P4, hv4, h⟩ := h
    refine V.callVi (T2 := T_Machine_write) (As := []) (rest := []) rfl rfl g_Machine_write rfl rfl rfl rfl (Nat.le_of_ble_eq_true rfl) (by simp [Value.category]) (by simp [Value.category]) (Nat.le_of_ble_eq_true rfl) (Nat.le_refl _) hv4 (fun x4 M4 hq => ?_)
    have h := h x4 M4 hq
    exact V.iret rfl rfl ⟨_, _, rfl, rfl, h⟩
  · have h := h.2 hc
    refine q_swP.c (fun hc => ?_) (fun hc => ?_)
    · have h := h.1 hc
      refine V.run 1 (pc' := 177) (ls' := [.ref 9]) (st' := [.ref 9]) (S' := (M3, L)) rfl ?_
      obtain ⟨P5, hv5, h⟩ := h
      refine V.callVi (T2 := T_Machine_setCell) (As := []) (rest := []) rfl rfl g_Machine_setCell rfl rfl rfl rfl (Nat.le_of_ble_eq_true rfl) (by simp [Value.category]) (by simp [Value.category]) (Nat.le_of_ble_eq_true rfl) (Nat.le_refl _) hv5 (fun x5 M5 hq => ?_)
      have h := h x5 M5 hq
      exact V.iret rfl rfl ⟨_, _, rfl, rfl, h⟩
    · have h := h.2 hc
      refine q_swP.c (fun hc => ?_) (fun hc => ?_)
      · have h := h.1 hc
        refine V.run 1 (pc' := 129) (ls' := [.ref 9]) (st' := [.ref 9]) (S' := (M3, L)) rfl ?_
        obtain ⟨P6, hv6, h⟩ := h
        refine V.callVi (T2 := T_Machine_jump) (As := []) (rest := []) rfl rfl g_Machine_jump rfl rfl rfl rfl (Nat.le_of_ble_eq_true rfl) (by simp [Value.category]) (by simp [Value.category]) (Nat.le_of_ble_eq_true rfl) (Nat.le_refl _) hv6 (fun x6 M6 hq => ?_)
        have h := h x6 M6 hq
        exact V.iret rfl rfl ⟨_, _, rfl, rfl, h⟩
      · have h := h.2 hc
        refine q_swP.c (fun hc => ?_) (fun hc => ?_)
        · have h := h.1 hc
          refine V.run 1 (pc' := 134) (ls' := [.ref 9]) (st' := [.ref 9]) (S' := (M3, L)) rfl ?_
          obtain ⟨P7, hv7, h⟩ := h
          refine V.callVi (T2 := T_Machine_jumpAndKeep) (As := []) (rest := []) rfl rfl g_Machine_jumpAndKeep rfl rfl rfl rfl (Nat.le_of_ble_eq_true rfl) (by simp [Value.category]) (by simp [Value.category]) (Nat.le_of_ble_eq_true rfl) (Nat.le_refl _) hv7 (fun x7 M7 hq => ?_)
          have h := h x7 M7 hq
          exact V.iret rfl rfl ⟨_, _, rfl, rfl, h⟩
        · have h := h.2 hc
          refine q_swP.c (fun hc => ?_) (fun hc => ?_)
          · have h := h.1 hc
            refine V.run 1 (pc' := 139) (ls' := [.ref 9]) (st' := [.ref 9]) (S' := (M3, L)) rfl ?_
            obtain ⟨P8, hv8, h⟩ := h
            refine V.callVi (T2 := T_Machine_jumpBack) (As := []) (rest := []) rfl rfl g_Machine_jumpBack rfl rfl rfl rfl (Nat.le_of_ble_eq_true rfl) (by simp [Value.category]) (by simp [Value.category]) (Nat.le_of_ble_eq_true rfl) (Nat.le_refl _) hv8 (fun x8 M8 hq => ?_)
            have h := h x8 M8 hq
            exact V.iret rfl rfl ⟨_, _, rfl, rfl, h⟩
          · have h := h.2 hc
            refine q_swP.c (fun hc => ?_) (fun hc => ?_)
            · have h := h.1 hc
              refine V.run 1 (pc' := 144) (ls' := [.ref 9]) (st' := [.ref 9]) (S' := (M3, L)) rfl ?_
              obtain ⟨P9, hv9, h⟩ := h
              refine V.callVi (T2 := T_Machine_jumpIf) (As := []) (rest := []) rfl rfl g_Machine_jumpIf rfl rfl rfl rfl (Nat.le_of_ble_eq_true rfl) (by simp [Value.category]) (by simp [Value.category]) (Nat.le_of_ble_eq_true rfl) (Nat.le_refl _) hv9 (fun x9 M9 hq => ?_)
              have h := h x9 M9 hq
              exact V.iret rfl rfl ⟨_, _, rfl, rfl, h⟩
            · have h := h.2 hc
              refine q_swP.c (fun hc => ?_) (fun hc => ?_)
              · have h := h.1 hc
                refine V.run 1 (pc' := 149) (ls' := [.ref 9]) (st' := [.ref 9]) (S' := (M3, L)) rfl ?_
                obtain ⟨P10, hv10, h⟩ := h
                refine V.callVi (T2 := T_Machine_openLoop) (As := []) (rest := []) rfl rfl g_Machine_openLoop rfl rfl rfl rfl (Nat.le_of_ble_eq_true rfl) (by simp [Value.category]) (by simp [Value.category]) (Nat.le_of_ble_eq_true rfl) (Nat.le_refl _) hv10 (fun x10 M10 hq => ?_)
                have h := h x10 M10 hq
                exact V.iret rfl rfl ⟨_, _, rfl, rfl, h⟩
              · have h := h.2 hc
                refine q_swP.c (fun hc => ?_) (fun hc => ?_)
                · have h := h.1 hc
                  refine V.run 1 (pc' := 154) (ls' := [.ref 9]) (st' := [.ref 9]) (S' := (M3, L)) rfl ?_
                  obtain ⟨P11, hv11, h⟩ := h
                  refine V.callVi (T2 := T_Machine_closeLoop) (As := []) (rest := []) rfl rfl g_Machine_closeLoop rfl rfl rfl rfl (Nat.le_of_ble_eq_true rfl) (by simp [Value.category]) (by simp [Value.category]) (Nat.le_of_ble_eq_true rfl) (Nat.le_refl _) hv11 (fun x11 M11 hq => ?_)
                  have h := h x11 M11 hq
                  exact V.iret rfl rfl ⟨_, _, rfl, rfl, h⟩
                · have h := h.2 hc
                  refine q_swP.c (fun hc => ?_) (fun hc => ?_)
                  · have h := h.1 hc
                    refine V.run 6 (pc' := 170) (ls' := [.ref 9]) (st' := [.int (iI 0)]) (S' := ((q_up M3 9 14 (M3 10 1)), L)) rfl ?_
                    exact V.iret rfl rfl ⟨_, _, rfl, rfl, h⟩
                  · have h := h.2 hc
                    refine q_swP.e ?_
                    refine V.run 1 (pc' := 182) (ls' := [.ref 9]) (st' := [.ref 9]) (S' := (M3, L)) rfl ?_
                    obtain ⟨P12, hv12, h⟩ := h
                    refine V.callVi (T2 := T_Machine_setVariable) (As := []) (rest := []) rfl rfl g_Machine_setVariable rfl rfl rfl rfl (Nat.le_of_ble_eq_true rfl) (by simp [Value.category]) (by simp [Value.category]) (Nat.le_of_ble_eq_true rfl) (Nat.le_refl _) hv12 (fun x12 M12 hq => ?_)
                    have h := h x12 M12 hq
                    exact V.iret rfl rfl ⟨_, _, rfl, rfl, h⟩
set_option maxRecDepth 100000 in
set_option maxHeartbeats 4000000 in
theorem s_Machine_jump_0 {l : Launch} {Γ : qG} {d r : Nat} {M : qM} {L : Nat → Int64} {P : Int32 → qM → Prop} (h : ∃ P1 : Int32 → qM → Prop, V l Γ T_Calculator_take d 0 0 [.ref 12, .null] [] (M, L) (q_i L P1) ∧ ∀ (x1 : Int32) (M1 : qM), P1 x1 M1 → ∃ P2 : Int32 → qM → Prop, V l Γ T_Calculator_takeNumber d 0 0 [.ref 12, .null, .null] [] (M1, L) (q_i L P2) ∧ ∀ (x2 : Int32) (M2 : qM), P2 x2 M2 → ∃ P3 : Int32 → qM → Prop, V l Γ T_Program_lineNumbered d 0 0 [.ref 10, .int x2, .null] [] (M2, L) (q_i L P3) ∧ ∀ (x3 : Int32) (M3 : qM), P3 x3 M3 → (¬ x3 = (iI (-1)) → P (iI 0) (q_up M3 9 14 x3)) ∧ (¬ (¬ x3 = (iI (-1))) → P (iI 1) M3)) : V l Γ T_Machine_jump (d + 1) r 0 [.ref 9, .null] [] (M, L) (q_i L P) := by
  refine V.run 2 (pc' := 4) (ls' := [.ref 9, .null]) (st' := [.ref 12]) (S' := (M, L)) rfl ?_
  obtain ⟨P1, hv1, h⟩ := h
  refine V.callVi (T2 := T_Calculator_take) (As := []) (rest := []) rfl rfl g_Calculator_take rfl rfl rfl rfl (Nat.le_of_ble_eq_true rfl) (by simp [Value.category]) (by simp [Value.category]) (Nat.le_of_ble_eq_true rfl) (Nat.le_refl _) hv1 (fun x1 M1 hq => ?_)
  have h := h x1 M1 hq
  refine V.run 5 (pc' := 16) (ls' := [.ref 9, .null]) (st' := [.ref 12, .ref 10]) (S' := (M1, L)) rfl ?_
  obtain ⟨P2, hv2, h⟩ := h
  refine V.callVi (T2 := T_Calculator_takeNumber) (As := []) (rest := [.ref 10]) rfl rfl g_Calculator_takeNumber rfl rfl rfl rfl (Nat.le_of_ble_eq_true rfl) (by simp [Value.category]) (by simp [Value.category]) (Nat.le_of_ble_eq_true rfl) (Nat.le_refl _) hv2 (fun x2 M2 hq => ?_)
  have h := h x2 M2 hq
  obtain ⟨P3, hv3, h⟩ := h
  refine V.callVi (T2 := T_Program_lineNumbered) (As := [.int x2]) (rest := []) rfl rfl g_Program_lineNumbered rfl rfl rfl rfl (Nat.le_of_ble_eq_true rfl) (by simp [Value.category]) (by simp [Value.category]) (Nat.le_of_ble_eq_true rfl) (Nat.le_refl _) hv3 (fun x3 M3 hq => ?_)
  have h := h x3 M3 hq
  refine V.run 3 (pc' := 25) (ls' := [.ref 9, .int x3]) (st' := [.int (iI (-1)), .int x3]) (S' := (M3, L)) rfl ?_
  refine V.icmp (cd := .ne) rfl (fun hc => ?_) (fun hc => ?_)
  · have h := h.1 hc
    refine V.run 4 (pc' := 36) (ls' := [.ref 9, .int x3]) (st' := [.int (iI 0)]) (S' := ((q_up M3 9 14 x3), L)) rfl ?_
    exact V.iret rfl rfl ⟨_, _, rfl, rfl, h⟩
  · have h := h.2 hc
    refine V.run 1 (pc' := 29) (ls' := [.ref 9, .int x3]) (st' := [.int (iI 1)]) (S' := (M3, L)) rfl ?_
    exact V.iret rfl rfl ⟨_, _, rfl, rfl, h⟩
set_option maxRecDepth 100000 in
set_option maxHeartbeats 4000000 in
theorem s_Machine_jumpAndKeep_0 {l : Launch} {Γ : qG} {d r : Nat} {M : qM} {L : Nat → Int64} {P : Int32 → qM → Prop} (h : ∃ P1 : Int32 → qM → Prop, V l Γ T_Machine_jump d 0 0 [.ref 9, .null] [] (M, L) (q_i L P1) ∧ ∀ (x1 : Int32) (M1 : qM), P1 x1 M1 → (x1 = 0 → ((M1 9 13) < (iI 6) → vp_in (M1 9 13) 6 ∧ P (iI 0) (q_up (q_up M1 23 ((M1 9 13)).toNatClampNeg (M 9 14)) 9 13 ((M1 9 13) + (iI 1)))) ∧ (¬ (M1 9 13) < (iI 6) → P (iI 4) M1)) ∧ (¬ x1 = 0 → P x1 M1)) : V l Γ T_Machine_jumpAndKeep (d + 1) r 0 [.ref 9, .null, .null] [] (M, L) (q_i L P) := by
  refine V.run 4 (pc' := 6) (ls' := [.ref 9, .int (M 9 14), .null]) (st' := [.ref 9]) (S' := (M, L)) rfl ?_
  obtain ⟨P1, hv1, h⟩ := h
  refine V.callVi (T2 := T_Machine_jump) (As := []) (rest := []) rfl rfl g_Machine_jump rfl rfl rfl rfl (Nat.le_of_ble_eq_true rfl) (by simp [Value.category]) (by simp [Value.category]) (Nat.le_of_ble_eq_true rfl) (Nat.le_refl _) hv1 (fun x1 M1 hq => ?_)
  have h := h x1 M1 hq
  refine V.run 2 (pc' := 11) (ls' := [.ref 9, .int (M 9 14), .int x1]) (st' := [.int x1]) (S' := (M1, L)) rfl ?_
  refine V.ifc (cd := .eq) rfl (fun hc => ?_) (fun hc => ?_)
  · have h := h.1 hc
    refine V.run 3 (pc' := 22) (ls' := [.ref 9, .int (M 9 14), .int x1]) (st' := [.int (iI 6), .int (M1 9 13)]) (S' := (M1, L)) rfl ?_
    refine V.icmp (cd := .lt) rfl (fun hc => ?_) (fun hc => ?_)
    · have h := h.1 hc
      refine V.run 5 (pc' := 36) (ls' := [.ref 9, .int (M 9 14), .int x1]) (st' := [.int (M 9 14), .int (M1 9 13), .ref 23]) (S' := (M1, L)) rfl ?_
      refine V.iast rfl rfl h.1 ?_
      have h := h.2
      refine V.run 7 (pc' := 48) (ls' := [.ref 9, .int (M 9 14), .int x1]) (st' := [.int (iI 0)]) (S' := ((q_up (q_up M1 23 ((M1 9 13)).toNatClampNeg (M 9 14)) 9 13 ((M1 9 13) + (iI 1))), L)) rfl ?_
      exact V.iret rfl rfl ⟨_, _, rfl, rfl, h⟩
    · have h := h.2 hc
      refine V.run 1 (pc' := 26) (ls' := [.ref 9, .int (M 9 14), .int x1]) (st' := [.int (iI 4)]) (S' := (M1, L)) rfl ?_
      exact V.iret rfl rfl ⟨_, _, rfl, rfl, h⟩
  · have h := h.2 hc
    refine V.run 1 (pc' := 15) (ls' := [.ref 9, .int (M 9 14), .int x1]) (st' := [.int x1]) (S' := (M1, L)) rfl ?_
    exact V.iret rfl rfl ⟨_, _, rfl, rfl, h⟩
set_option maxRecDepth 100000 in
set_option maxHeartbeats 4000000 in
theorem s_Machine_jumpBack_0 {l : Launch} {Γ : qG} {d r : Nat} {M : qM} {L : Nat → Int64} {P : Int32 → qM → Prop} (h : (¬ (M 9 13) = 0 → vp_in ((M 9 13) - (iI 1)) 6 ∧ P (iI 0) (q_up (q_up M 9 13 ((M 9 13) - (iI 1))) 9 14 (M 23 (((M 9 13) - (iI 1))).toNatClampNeg))) ∧ (¬ (¬ (M 9 13) = 0) → P (iI 2) M)) : V l Γ T_Machine_jumpBack d r 0 [.ref 9] [] (M, L) (q_i L P) := by
  refine V.run 2 (pc' := 4) (ls' := [.ref 9]) (st' := [.int (M 9 13)]) (S' := (M, L)) rfl ?_
  refine V.ifc (cd := .ne) rfl (fun hc => ?_) (fun hc => ?_)
  · have h := h.1 hc
    refine V.run 11 (pc' := 28) (ls' := [.ref 9]) (st' := [.int ((M 9 13) - (iI 1)), .ref 23, .ref 9]) (S' := ((q_up M 9 13 ((M 9 13) - (iI 1))), L)) rfl ?_
    refine V.iald rfl rfl h.1 ?_
    have h := h.2
    refine V.run 2 (pc' := 33) (ls' := [.ref 9]) (st' := [.int (iI 0)]) (S' := ((q_up (q_up M 9 13 ((M 9 13) - (iI 1))) 9 14 (M 23 (((M 9 13) - (iI 1))).toNatClampNeg)), L)) rfl ?_
    exact V.iret rfl rfl ⟨_, _, rfl, rfl, h⟩
  · have h := h.2 hc
    refine V.run 1 (pc' := 8) (ls' := [.ref 9]) (st' := [.int (iI 2)]) (S' := (M, L)) rfl ?_
    exact V.iret rfl rfl ⟨_, _, rfl, rfl, h⟩
set_option maxRecDepth 100000 in
set_option maxHeartbeats 4000000 in
theorem s_Machine_jumpIf_0 {l : Launch} {Γ : qG} {d r : Nat} {M : qM} {L : Nat → Int64} {P : Int32 → qM → Prop} (h : ∃ P1 : Int32 → qM → Prop, V l Γ T_Calculator_take d 0 0 [.ref 12, .null] [] (M, L) (q_i L P1) ∧ ∀ (x1 : Int32) (M1 : qM), P1 x1 M1 → ∃ P2 : Int32 → qM → Prop, V l Γ T_Calculator_expression d 0 0 [.ref 12] [] (M1, L) (q_i L P2) ∧ ∀ (x2 : Int32) (M2 : qM), P2 x2 M2 → ((M2 12 2) = 0 → (¬ x2 = 0 → ∃ P3 : Int32 → qM → Prop, V l Γ T_Machine_jump d 0 0 [.ref 9, .null] [] (M2, L) (q_i L P3) ∧ ∀ (x3 : Int32) (M3 : qM), P3 x3 M3 → P x3 M3) ∧ (¬ (¬ x2 = 0) → P (iI 0) M2)) ∧ (¬ (M2 12 2) = 0 → P (M2 12 2) M2)) : V l Γ T_Machine_jumpIf (d + 1) r 0 [.ref 9, .null] [] (M, L) (q_i L P) := by
  refine V.run 2 (pc' := 4) (ls' := [.ref 9, .null]) (st' := [.ref 12]) (S' := (M, L)) rfl ?_
  obtain ⟨P1, hv1, h⟩ := h
  refine V.callVi (T2 := T_Calculator_take) (As := []) (rest := []) rfl rfl g_Calculator_take rfl rfl rfl rfl (Nat.le_of_ble_eq_true rfl) (by simp [Value.category]) (by simp [Value.category]) (Nat.le_of_ble_eq_true rfl) (Nat.le_refl _) hv1 (fun x1 M1 hq => ?_)
  have h := h x1 M1 hq
  refine V.run 3 (pc' := 12) (ls' := [.ref 9, .null]) (st' := [.ref 12]) (S' := (M1, L)) rfl ?_
  obtain ⟨P2, hv2, h⟩ := h
  refine V.callVi (T2 := T_Calculator_expression) (As := []) (rest := []) rfl rfl g_Calculator_expression rfl rfl rfl rfl (Nat.le_of_ble_eq_true rfl) (by simp [Value.category]) (by simp [Value.category]) (Nat.le_of_ble_eq_true rfl) (Nat.le_refl _) hv2 (fun x2 M2 hq => ?_)
  have h := h x2 M2 hq
  refine V.run 4 (pc' := 23) (ls' := [.ref 9, .int x2]) (st' := [.int (M2 12 2)]) (S' := (M2, L)) rfl ?_
  refine V.ifc (cd := .eq) rfl (fun hc => ?_) (fun hc => ?_)
  · have h := h.1 hc
    refine V.run 1 (pc' := 35) (ls' := [.ref 9, .int x2]) (st' := [.int x2]) (S' := (M2, L)) rfl ?_
    refine V.ifc (cd := .ne) rfl (fun hc => ?_) (fun hc => ?_)
    · have h := h.1 hc
      refine V.run 1 (pc' := 43) (ls' := [.ref 9, .int x2]) (st' := [.ref 9]) (S' := (M2, L)) rfl ?_
      obtain ⟨P3, hv3, h⟩ := h
      refine V.callVi (T2 := T_Machine_jump) (As := []) (rest := []) rfl rfl g_Machine_jump rfl rfl rfl rfl (Nat.le_of_ble_eq_true rfl) (by simp [Value.category]) (by simp [Value.category]) (Nat.le_of_ble_eq_true rfl) (Nat.le_refl _) hv3 (fun x3 M3 hq => ?_)
      have h := h x3 M3 hq
      exact V.iret rfl rfl ⟨_, _, rfl, rfl, h⟩
    · have h := h.2 hc
      refine V.run 2 (pc' := 46) (ls' := [.ref 9, .int x2]) (st' := [.int (iI 0)]) (S' := (M2, L)) rfl ?_
      exact V.iret rfl rfl ⟨_, _, rfl, rfl, h⟩
  · have h := h.2 hc
    refine V.run 3 (pc' := 33) (ls' := [.ref 9, .int x2]) (st' := [.int (M2 12 2)]) (S' := (M2, L)) rfl ?_
    exact V.iret rfl rfl ⟨_, _, rfl, rfl, h⟩
set_option maxRecDepth 100000 in
set_option maxHeartbeats 4000000 in
theorem s_Machine_openLoop_0 {l : Launch} {Γ : qG} {d r : Nat} {M : qM} {L : Nat → Int64} {P : Int32 → qM → Prop} (h : ∃ P1 : Int32 → qM → Prop, V l Γ T_Calculator_take d 0 0 [.ref 12, .null] [] (M, L) (q_i L P1) ∧ ∀ (x1 : Int32) (M1 : qM), P1 x1 M1 → ∃ P2 : Int32 → qM → Prop, V l Γ T_Calculator_takeVariable d 0 0 [.ref 12] [] (M1, L) (q_i L P2) ∧ ∀ (x2 : Int32) (M2 : qM), P2 x2 M2 → ∃ P3 : Int32 → qM → Prop, V l Γ T_Calculator_take d 0 0 [.ref 12, .null] [] (M2, L) (q_i L P3) ∧ ∀ (x3 : Int32) (M3 : qM), P3 x3 M3 → ∃ P4 : Int32 → qM → Prop, V l Γ T_Calculator_expression d 0 0 [.ref 12] [] (M3, L) (q_i L P4) ∧ ∀ (x4 : Int32) (M4 : qM), P4 x4 M4 → ∃ P5 : Int32 → qM → Prop, V l Γ T_Calculator_take d 0 0 [.ref 12, .null] [] (M4, L) (q_i L P5) ∧ ∀ (x5 : Int32) (M5 : qM), P5 x5 M5 → ∃ P6 : Int32 → qM → Prop, V l Γ T_Calculator_expression d 0 0 [.ref 12] [] (M5, L) (q_i L P6) ∧ ∀ (x6 : Int32) (M6 : qM), P6 x6 M6 → ((M6 12 2) = 0 → ∃ P7 : Int32 → qM → Prop, V l Γ T_Machine_loopOf d 0 0 [.ref 9, .int x2, .null] [] (M6, L) (q_i L P7) ∧ ∀ (x7 : Int32) (M7 : qM), P7 x7 M7 → (¬ x7 = (iI (-1)) → V l Γ T_Machine_openLoop (d + 1) r 88 [.ref 9, .int x2, .int x4, .int x6, .null, .null] [.int x7] (M7, L) (q_i L P)) ∧ (¬ (¬ x7 = (iI (-1))) → V l Γ T_Machine_openLoop (d + 1) r 88 [.ref 9, .int x2, .int x4, .int x6, .null, .null] [.int (M7 9 12)] (M7, L) (q_i L P))) ∧ (¬ (M6 12 2) = 0 → P (M6 12 2) M6)) : V l Γ T_Machine_openLoop (d + 1) r 0 [.ref 9, .null, .null, .null, .null, .null] [] (M, L) (q_i L P) := by
  refine V.run 2 (pc' := 4) (ls' := [.ref 9, .null, .null, .null, .null, .null]) (st' := [.ref 12]) (S' := (M, L)) rfl ?_
  obtain ⟨P1, hv1, h⟩ := h
  refine V.callVi (T2 := T_Calculator_take) (As := []) (rest := []) rfl rfl g_Calculator_take rfl rfl rfl rfl (Nat.le_of_ble_eq_true rfl) (by simp [Value.category]) (by simp [Value.category]) (Nat.le_of_ble_eq_true rfl) (Nat.le_refl _) hv1 (fun x1 M1 hq => ?_)
  have h := h x1 M1 hq
  refine V.run 3 (pc' := 12) (ls' := [.ref 9, .null, .null, .null, .null, .null]) (st' := [.ref 12]) (S' := (M1, L)) rfl ?_
  obtain ⟨P2, hv2, h⟩ := h
  refine V.callVi (T2 := T_Calculator_takeVariable) (As := []) (rest := []) rfl rfl g_Calculator_takeVariable rfl rfl rfl rfl (Nat.le_of_ble_eq_true rfl) (by simp [Value.category]) (by simp [Value.category]) (Nat.le_of_ble_eq_true rfl) (Nat.le_refl _) hv2 (fun x2 M2 hq => ?_)
  have h := h x2 M2 hq
  refine V.run 3 (pc' := 20) (ls' := [.ref 9, .int x2, .null, .null, .null, .null]) (st' := [.ref 12]) (S' := (M2, L)) rfl ?_
  obtain ⟨P3, hv3, h⟩ := h
  refine V.callVi (T2 := T_Calculator_take) (As := []) (rest := []) rfl rfl g_Calculator_take rfl rfl rfl rfl (Nat.le_of_ble_eq_true rfl) (by simp [Value.category]) (by simp [Value.category]) (Nat.le_of_ble_eq_true rfl) (Nat.le_refl _) hv3 (fun x3 M3 hq => ?_)
  have h := h x3 M3 hq
  refine V.run 3 (pc' := 28) (ls' := [.ref 9, .int x2, .null, .null, .null, .null]) (st' := [.ref 12]) (S' := (M3, L)) rfl ?_
  obtain ⟨P4, hv4, h⟩ := h
  refine V.callVi (T2 := T_Calculator_expression) (As := []) (rest := []) rfl rfl g_Calculator_expression rfl rfl rfl rfl (Nat.le_of_ble_eq_true rfl) (by simp [Value.category]) (by simp [Value.category]) (Nat.le_of_ble_eq_true rfl) (Nat.le_refl _) hv4 (fun x4 M4 hq => ?_)
  have h := h x4 M4 hq
  refine V.run 3 (pc' := 36) (ls' := [.ref 9, .int x2, .int x4, .null, .null, .null]) (st' := [.ref 12]) (S' := (M4, L)) rfl ?_
  obtain ⟨P5, hv5, h⟩ := h
  refine V.callVi (T2 := T_Calculator_take) (As := []) (rest := []) rfl rfl g_Calculator_take rfl rfl rfl rfl (Nat.le_of_ble_eq_true rfl) (by simp [Value.category]) (by simp [Value.category]) (Nat.le_of_ble_eq_true rfl) (Nat.le_refl _) hv5 (fun x5 M5 hq => ?_)
  have h := h x5 M5 hq
  refine V.run 3 (pc' := 44) (ls' := [.ref 9, .int x2, .int x4, .null, .null, .null]) (st' := [.ref 12]) (S' := (M5, L)) rfl ?_
  obtain ⟨P6, hv6, h⟩ := h
  refine V.callVi (T2 := T_Calculator_expression) (As := []) (rest := []) rfl rfl g_Calculator_expression rfl rfl rfl rfl (Nat.le_of_ble_eq_true rfl) (by simp [Value.category]) (by simp [Value.category]) (Nat.le_of_ble_eq_true rfl) (Nat.le_refl _) hv6 (fun x6 M6 hq => ?_)
  have h := h x6 M6 hq
  refine V.run 4 (pc' := 55) (ls' := [.ref 9, .int x2, .int x4, .int x6, .null, .null]) (st' := [.int (M6 12 2)]) (S' := (M6, L)) rfl ?_
  refine V.ifc (cd := .eq) rfl (fun hc => ?_) (fun hc => ?_)
  · have h := h.1 hc
    refine V.run 2 (pc' := 68) (ls' := [.ref 9, .int x2, .int x4, .int x6, .null, .null]) (st' := [.int x2, .ref 9]) (S' := (M6, L)) rfl ?_
    obtain ⟨P7, hv7, h⟩ := h
    refine V.callVi (T2 := T_Machine_loopOf) (As := [.int x2]) (rest := []) rfl rfl g_Machine_loopOf rfl rfl rfl rfl (Nat.le_of_ble_eq_true rfl) (by simp [Value.category]) (by simp [Value.category]) (Nat.le_of_ble_eq_true rfl) (Nat.le_refl _) hv7 (fun x7 M7 hq => ?_)
    have h := h x7 M7 hq
    refine V.run 3 (pc' := 76) (ls' := [.ref 9, .int x2, .int x4, .int x6, .int x7, .null]) (st' := [.int (iI (-1)), .int x7]) (S' := (M7, L)) rfl ?_
    refine V.icmp (cd := .ne) rfl (fun hc => ?_) (fun hc => ?_)
    · have h := h.1 hc
      refine V.run 1 (pc' := 88) (ls' := [.ref 9, .int x2, .int x4, .int x6, .int x7, .null]) (st' := [.int x7]) (S' := (M7, L)) rfl ?_
      refine V.forget (ls' := [.ref 9, .int x2, .int x4, .int x6, .null, .null]) ⟨Or.inr rfl, Or.inr rfl, Or.inr rfl, Or.inr rfl, Or.inl rfl, Or.inl rfl, trivial⟩ ?_
      exact h
    · have h := h.2 hc
      refine V.run 3 (pc' := 88) (ls' := [.ref 9, .int x2, .int x4, .int x6, .int x7, .null]) (st' := [.int (M7 9 12)]) (S' := (M7, L)) rfl ?_
      refine V.forget (ls' := [.ref 9, .int x2, .int x4, .int x6, .null, .null]) ⟨Or.inr rfl, Or.inr rfl, Or.inr rfl, Or.inr rfl, Or.inl rfl, Or.inl rfl, trivial⟩ ?_
      exact h
  · have h := h.2 hc
    refine V.run 3 (pc' := 65) (ls' := [.ref 9, .int x2, .int x4, .int x6, .null, .null]) (st' := [.int (M6 12 2)]) (S' := (M6, L)) rfl ?_
    exact V.iret rfl rfl ⟨_, _, rfl, rfl, h⟩
set_option maxRecDepth 100000 in
set_option maxHeartbeats 4000000 in
theorem s_Machine_openLoop_88 {l : Launch} {Γ : qG} {d r : Nat} {M : qM} {L : Nat → Int64} {P : Int32 → qM → Prop} (v1 v2 v3 w0 : Int32) (h : (w0 < (iI 6) → vp_in v1 8 ∧ vp_in w0 6 ∧ vp_in w0 6 ∧ vp_in w0 6 ∧ P (iI 0) (q_up (q_up (q_up (q_up (q_up M 13 (v1).toNatClampNeg v2) 20 (w0).toNatClampNeg v1) 21 (w0).toNatClampNeg v3) 22 (w0).toNatClampNeg (M 9 14)) 9 12 (w0 + (iI 1)))) ∧ (¬ w0 < (iI 6) → P (iI 4) M)) : V l Γ T_Machine_openLoop (d + 1) r 88 [.ref 9, .int v1, .int v2, .int v3, .null, .null] [.int w0] (M, L) (q_i L P) := by
  refine V.run 3 (pc' := 94) (ls' := [.ref 9, .int v1, .int v2, .int v3, .null, .int w0]) (st' := [.int (iI 6), .int w0]) (S' := (M, L)) rfl ?_
  refine V.icmp (cd := .lt) rfl (fun hc => ?_) (fun hc => ?_)
  · have h := h.1 hc
    refine V.run 4 (pc' := 105) (ls' := [.ref 9, .int v1, .int v2, .int v3, .null, .int w0]) (st' := [.int v2, .int v1, .ref 13]) (S' := (M, L)) rfl ?_
    refine V.iast rfl rfl h.1 ?_
    have h := h.2
    refine V.run 4 (pc' := 113) (ls' := [.ref 9, .int v1, .int v2, .int v3, .null, .int w0]) (st' := [.int v1, .int w0, .ref 20]) (S' := ((q_up M 13 (v1).toNatClampNeg v2), L)) rfl ?_
    refine V.iast rfl rfl h.1 ?_
    have h := h.2
    refine V.run 4 (pc' := 121) (ls' := [.ref 9, .int v1, .int v2, .int v3, .null, .int w0]) (st' := [.int v3, .int w0, .ref 21]) (S' := ((q_up (q_up M 13 (v1).toNatClampNeg v2) 20 (w0).toNatClampNeg v1), L)) rfl ?_
    refine V.iast rfl rfl h.1 ?_
    have h := h.2
    refine V.run 5 (pc' := 132) (ls' := [.ref 9, .int v1, .int v2, .int v3, .null, .int w0]) (st' := [.int (M 9 14), .int w0, .ref 22]) (S' := ((q_up (q_up (q_up M 13 (v1).toNatClampNeg v2) 20 (w0).toNatClampNeg v1) 21 (w0).toNatClampNeg v3), L)) rfl ?_
    refine V.iast rfl rfl h.1 ?_
    have h := h.2
    refine V.run 6 (pc' := 142) (ls' := [.ref 9, .int v1, .int v2, .int v3, .null, .int w0]) (st' := [.int (iI 0)]) (S' := ((q_up (q_up (q_up (q_up (q_up M 13 (v1).toNatClampNeg v2) 20 (w0).toNatClampNeg v1) 21 (w0).toNatClampNeg v3) 22 (w0).toNatClampNeg (M 9 14)) 9 12 (w0 + (iI 1))), L)) rfl ?_
    exact V.iret rfl rfl ⟨_, _, rfl, rfl, h⟩
  · have h := h.2 hc
    refine V.run 1 (pc' := 98) (ls' := [.ref 9, .int v1, .int v2, .int v3, .null, .int w0]) (st' := [.int (iI 4)]) (S' := (M, L)) rfl ?_
    exact V.iret rfl rfl ⟨_, _, rfl, rfl, h⟩
set_option maxRecDepth 100000 in
set_option maxHeartbeats 4000000 in
theorem s_Machine_closeLoop_0 {l : Launch} {Γ : qG} {d r : Nat} {M : qM} {L : Nat → Int64} {P : Int32 → qM → Prop} (h : ∃ P1 : Int32 → qM → Prop, V l Γ T_Calculator_take d 0 0 [.ref 12, .null] [] (M, L) (q_i L P1) ∧ ∀ (x1 : Int32) (M1 : qM), P1 x1 M1 → ∃ P2 : Int32 → qM → Prop, V l Γ T_Calculator_takeVariable d 0 0 [.ref 12] [] (M1, L) (q_i L P2) ∧ ∀ (x2 : Int32) (M2 : qM), P2 x2 M2 → ∃ P3 : Int32 → qM → Prop, V l Γ T_Machine_loopOf d 0 0 [.ref 9, .int x2, .null] [] (M2, L) (q_i L P3) ∧ ∀ (x3 : Int32) (M3 : qM), P3 x3 M3 → (¬ x3 = (iI (-1)) → vp_in x2 8 ∧ vp_in x2 8 ∧ vp_in x2 8 ∧ vp_in x3 6 ∧ (((q_up M3 13 (x2).toNatClampNeg (((M3 13 (x2).toNatClampNeg) + (iI 1))).toInt16.toInt32) 13 (x2).toNatClampNeg) ≤ (M3 21 (x3).toNatClampNeg) → vp_in x3 6 ∧ P (iI 0) (q_up (q_up (q_up M3 13 (x2).toNatClampNeg (((M3 13 (x2).toNatClampNeg) + (iI 1))).toInt16.toInt32) 9 12 (x3 + (iI 1))) 9 14 (M3 22 (x3).toNatClampNeg))) ∧ (¬ ((q_up M3 13 (x2).toNatClampNeg (((M3 13 (x2).toNatClampNeg) + (iI 1))).toInt16.toInt32) 13 (x2).toNatClampNeg) ≤ (M3 21 (x3).toNatClampNeg) → P (iI 0) (q_up (q_up M3 13 (x2).toNatClampNeg (((M3 13 (x2).toNatClampNeg) + (iI 1))).toInt16.toInt32) 9 12 x3))) ∧ (¬ (¬ x3 = (iI (-1))) → P (iI 3) M3)) : V l Γ T_Machine_closeLoop (d + 1) r 0 [.ref 9, .null, .null] [] (M, L) (q_i L P) := by
  refine V.run 2 (pc' := 4) (ls' := [.ref 9, .null, .null]) (st' := [.ref 12]) (S' := (M, L)) rfl ?_
  obtain ⟨P1, hv1, h⟩ := h
  refine V.callVi (T2 := T_Calculator_take) (As := []) (rest := []) rfl rfl g_Calculator_take rfl rfl rfl rfl (Nat.le_of_ble_eq_true rfl) (by simp [Value.category]) (by simp [Value.category]) (Nat.le_of_ble_eq_true rfl) (Nat.le_refl _) hv1 (fun x1 M1 hq => ?_)
  have h := h x1 M1 hq
  refine V.run 3 (pc' := 12) (ls' := [.ref 9, .null, .null]) (st' := [.ref 12]) (S' := (M1, L)) rfl ?_
  obtain ⟨P2, hv2, h⟩ := h
  refine V.callVi (T2 := T_Calculator_takeVariable) (As := []) (rest := []) rfl rfl g_Calculator_takeVariable rfl rfl rfl rfl (Nat.le_of_ble_eq_true rfl) (by simp [Value.category]) (by simp [Value.category]) (Nat.le_of_ble_eq_true rfl) (Nat.le_refl _) hv2 (fun x2 M2 hq => ?_)
  have h := h x2 M2 hq
  refine V.run 3 (pc' := 18) (ls' := [.ref 9, .int x2, .null]) (st' := [.int x2, .ref 9]) (S' := (M2, L)) rfl ?_
  obtain ⟨P3, hv3, h⟩ := h
  refine V.callVi (T2 := T_Machine_loopOf) (As := [.int x2]) (rest := []) rfl rfl g_Machine_loopOf rfl rfl rfl rfl (Nat.le_of_ble_eq_true rfl) (by simp [Value.category]) (by simp [Value.category]) (Nat.le_of_ble_eq_true rfl) (Nat.le_refl _) hv3 (fun x3 M3 hq => ?_)
  have h := h x3 M3 hq
  refine V.run 3 (pc' := 24) (ls' := [.ref 9, .int x2, .int x3]) (st' := [.int (iI (-1)), .int x3]) (S' := (M3, L)) rfl ?_
  refine V.icmp (cd := .ne) rfl (fun hc => ?_) (fun hc => ?_)
  · have h := h.1 hc
    refine V.run 6 (pc' := 39) (ls' := [.ref 9, .int x2, .int x3]) (st' := [.int x2, .ref 13, .int x2, .ref 13]) (S' := (M3, L)) rfl ?_
    refine V.iald rfl rfl h.1 ?_
    have h := h.2
    refine V.run 3 (pc' := 43) (ls' := [.ref 9, .int x2, .int x3]) (st' := [.int (((M3 13 (x2).toNatClampNeg) + (iI 1))).toInt16.toInt32, .int x2, .ref 13]) (S' := (M3, L)) rfl ?_
    refine V.iast rfl rfl h.1 ?_
    have h := h.2
    refine V.run 3 (pc' := 49) (ls' := [.ref 9, .int x2, .int x3]) (st' := [.int x2, .ref 13]) (S' := ((q_up M3 13 (x2).toNatClampNeg (((M3 13 (x2).toNatClampNeg) + (iI 1))).toInt16.toInt32), L)) rfl ?_
    refine V.iald rfl rfl h.1 ?_
    have h := h.2
    refine V.run 3 (pc' := 55) (ls' := [.ref 9, .int x2, .int x3]) (st' := [.int x3, .ref 21, .int ((q_up M3 13 (x2).toNatClampNeg (((M3 13 (x2).toNatClampNeg) + (iI 1))).toInt16.toInt32) 13 (x2).toNatClampNeg)]) (S' := ((q_up M3 13 (x2).toNatClampNeg (((M3 13 (x2).toNatClampNeg) + (iI 1))).toInt16.toInt32), L)) rfl ?_
    refine V.iald rfl rfl h.1 ?_
    have h := h.2
    refine V.icmp (cd := .le) rfl (fun hc => ?_) (fun hc => ?_)
    · have h := h.1 hc
      refine V.run 9 (pc' := 80) (ls' := [.ref 9, .int x2, .int x3]) (st' := [.int x3, .ref 22, .ref 9]) (S' := ((q_up (q_up M3 13 (x2).toNatClampNeg (((M3 13 (x2).toNatClampNeg) + (iI 1))).toInt16.toInt32) 9 12 (x3 + (iI 1))), L)) rfl ?_
      refine V.iald rfl rfl h.1 ?_
      have h := h.2
      refine V.run 2 (pc' := 85) (ls' := [.ref 9, .int x2, .int x3]) (st' := [.int (iI 0)]) (S' := ((q_up (q_up (q_up M3 13 (x2).toNatClampNeg (((M3 13 (x2).toNatClampNeg) + (iI 1))).toInt16.toInt32) 9 12 (x3 + (iI 1))) 9 14 (M3 22 (x3).toNatClampNeg)), L)) rfl ?_
      exact V.iret rfl rfl ⟨_, _, rfl, rfl, h⟩
    · have h := h.2 hc
      refine V.run 5 (pc' := 85) (ls' := [.ref 9, .int x2, .int x3]) (st' := [.int (iI 0)]) (S' := ((q_up (q_up M3 13 (x2).toNatClampNeg (((M3 13 (x2).toNatClampNeg) + (iI 1))).toInt16.toInt32) 9 12 x3), L)) rfl ?_
      exact V.iret rfl rfl ⟨_, _, rfl, rfl, h⟩
  · have h := h.2 hc
    refine V.run 1 (pc' := 28) (ls' := [.ref 9, .int x2, .int x3]) (st' := [.int (iI 3)]) (S' := (M3, L)) rfl ?_
    exact V.iret rfl rfl ⟨_, _, rfl, rfl, h⟩
set_option maxRecDepth 100000 in
set_option maxHeartbeats 4000000 in
theorem s_Machine_loopOf_0 {l : Launch} {Γ : qG} {d r : Nat} {M : qM} {L : Nat → Int64} {P : Int32 → qM → Prop} (a : Int32) (h : V l Γ T_Machine_loopOf d r 2 [.ref 9, .int a, .int (iI 0)] [] (M, L) (q_i L P)) : V l Γ T_Machine_loopOf d r 0 [.ref 9, .int a, .null] [] (M, L) (q_i L P) := by
  refine V.run 2 (pc' := 2) (ls' := [.ref 9, .int a, .int (iI 0)]) (st' := []) (S' := (M, L)) rfl ?_
  exact h
set_option maxRecDepth 100000 in
set_option maxHeartbeats 4000000 in
theorem s_Machine_loopOf_2 {l : Launch} {Γ : qG} {d r : Nat} {M : qM} {L : Nat → Int64} {P : Int32 → qM → Prop} (v1 v2 : Int32) (h : ((M 9 12) ≤ v2 → P (iI (-1)) M) ∧ (¬ (M 9 12) ≤ v2 → vp_in v2 6 ∧ (¬ (M 20 (v2).toNatClampNeg) = v1 → V l Γ T_Machine_loopOf d r 2 [.ref 9, .int v1, .int (v2 + (iI 1))] [] (M, L) (q_i L P)) ∧ (¬ (¬ (M 20 (v2).toNatClampNeg) = v1) → P v2 M))) : V l Γ T_Machine_loopOf d r 2 [.ref 9, .int v1, .int v2] [] (M, L) (q_i L P) := by
  refine V.run 3 (pc' := 7) (ls' := [.ref 9, .int v1, .int v2]) (st' := [.int (M 9 12), .int v2]) (S' := (M, L)) rfl ?_
  refine V.icmp (cd := .ge) rfl (fun hc => ?_) (fun hc => ?_)
  · have h := h.1 hc
    refine V.run 1 (pc' := 29) (ls' := [.ref 9, .int v1, .int v2]) (st' := [.int (iI (-1))]) (S' := (M, L)) rfl ?_
    exact V.iret rfl rfl ⟨_, _, rfl, rfl, h⟩
  · have h := h.2 hc
    refine V.run 3 (pc' := 15) (ls' := [.ref 9, .int v1, .int v2]) (st' := [.int v2, .ref 20]) (S' := (M, L)) rfl ?_
    refine V.iald rfl rfl h.1 ?_
    have h := h.2
    refine V.run 1 (pc' := 17) (ls' := [.ref 9, .int v1, .int v2]) (st' := [.int v1, .int (M 20 (v2).toNatClampNeg)]) (S' := (M, L)) rfl ?_
    refine V.icmp (cd := .ne) rfl (fun hc => ?_) (fun hc => ?_)
    · have h := h.1 hc
      refine V.run 2 (pc' := 2) (ls' := [.ref 9, .int v1, .int (v2 + (iI 1))]) (st' := []) (S' := (M, L)) rfl ?_
      exact h
    · have h := h.2 hc
      refine V.run 1 (pc' := 21) (ls' := [.ref 9, .int v1, .int v2]) (st' := [.int v2]) (S' := (M, L)) rfl ?_
      exact V.iret rfl rfl ⟨_, _, rfl, rfl, h⟩
set_option maxRecDepth 100000 in
set_option maxHeartbeats 4000000 in
theorem s_Machine_write_0 {l : Launch} {Γ : qG} {d r : Nat} {M : qM} {L : Nat → Int64} {P : Int32 → qM → Prop} (h : ∃ P1 : Int32 → qM → Prop, V l Γ T_Calculator_take d 0 0 [.ref 12, .null] [] (M, L) (q_i L P1) ∧ ∀ (x1 : Int32) (M1 : qM), P1 x1 M1 → ∃ P2 : Int32 → qM → Prop, V l Γ T_Calculator_ahead d 0 0 [.ref 12] [] (M1, L) (q_i L P2) ∧ ∀ (x2 : Int32) (M2 : qM), P2 x2 M2 → (¬ x2 = (iI 34) → ∃ P3 : Int32 → qM → Prop, V l Γ T_Calculator_expression d 0 0 [.ref 12] [] (M2, L) (q_i L P3) ∧ ∀ (x3 : Int32) (M3 : qM), P3 x3 M3 → ((M3 12 2) = 0 → ∃ P4 : qM → Prop, V l Γ T_Sheet_appendNumber d 0 0 [.ref 18, .int x3, .null, .null, .null] [] ((q_up M3 18 1 (iI 0)), L) (q_n L P4) ∧ ∀ (M4 : qM), P4 M4 → ∃ P5 : Int32 → qM → Prop, V l Γ T_Sheet_append d 0 0 [.ref 18, .int (iI 32)] [] (M4, L) (q_i L P5) ∧ ∀ (x5 : Int32) (M5 : qM), P5 x5 M5 → ∃ P6 : Int32 → qM → Prop, V l Γ T_Sheet_hasRoomFor d 0 0 [.ref 16, .int (M5 18 1)] [] (M5, L) (q_i L P6) ∧ ∀ (x6 : Int32) (M6 : qM), P6 x6 M6 → (¬ x6 = 0 → ∃ P7 : qM → Prop, V l Γ T_Sheet_appendSheet d 0 0 [.ref 16, .ref 18, .null] [] (M6, L) (q_n L P7) ∧ ∀ (M7 : qM), P7 M7 → P (iI 0) M7) ∧ (¬ (¬ x6 = 0) → P (iI 7) M6)) ∧ (¬ (M3 12 2) = 0 → P (M3 12 2) M3)) ∧ (¬ (¬ x2 = (iI 34)) → ∃ P8 : Int32 → qM → Prop, V l Γ T_Machine_writeRow d 0 0 [.ref 9, .null, .null, .null] [] (M2, L) (q_i L P8) ∧ ∀ (x8 : Int32) (M8 : qM), P8 x8 M8 → P x8 M8)) : V l Γ T_Machine_write (d + 1) r 0 [.ref 9, .null] [] (M, L) (q_i L P) := by
  refine V.run 2 (pc' := 4) (ls' := [.ref 9, .null]) (st' := [.ref 12]) (S' := (M, L)) rfl ?_
  obtain ⟨P1, hv1, h⟩ := h
  refine V.callVi (T2 := T_Calculator_take) (As := []) (rest := []) rfl rfl g_Calculator_take rfl rfl rfl rfl (Nat.le_of_ble_eq_true rfl) (by simp [Value.category]) (by simp [Value.category]) (Nat.le_of_ble_eq_true rfl) (Nat.le_refl _) hv1 (fun x1 M1 hq => ?_)
  have h := h x1 M1 hq
  refine V.run 3 (pc' := 12) (ls' := [.ref 9, .null]) (st' := [.ref 12]) (S' := (M1, L)) rfl ?_
  obtain ⟨P2, hv2, h⟩ := h
  refine V.callVi (T2 := T_Calculator_ahead) (As := []) (rest := []) rfl rfl g_Calculator_ahead rfl rfl rfl rfl (Nat.le_of_ble_eq_true rfl) (by simp [Value.category]) (by simp [Value.category]) (Nat.le_of_ble_eq_true rfl) (Nat.le_refl _) hv2 (fun x2 M2 hq => ?_)
  have h := h x2 M2 hq
  refine V.run 1 (pc' := 17) (ls' := [.ref 9, .null]) (st' := [.int (iI 34), .int x2]) (S' := (M2, L)) rfl ?_
  refine V.icmp (cd := .ne) rfl (fun hc => ?_) (fun hc => ?_)
  · have h := h.1 hc
    refine V.run 2 (pc' := 29) (ls' := [.ref 9, .null]) (st' := [.ref 12]) (S' := (M2, L)) rfl ?_
    obtain ⟨P3, hv3, h⟩ := h
    refine V.callVi (T2 := T_Calculator_expression) (As := []) (rest := []) rfl rfl g_Calculator_expression rfl rfl rfl rfl (Nat.le_of_ble_eq_true rfl) (by simp [Value.category]) (by simp [Value.category]) (Nat.le_of_ble_eq_true rfl) (Nat.le_refl _) hv3 (fun x3 M3 hq => ?_)
    have h := h x3 M3 hq
    refine V.run 4 (pc' := 40) (ls' := [.ref 9, .int x3]) (st' := [.int (M3 12 2)]) (S' := (M3, L)) rfl ?_
    refine V.ifc (cd := .eq) rfl (fun hc => ?_) (fun hc => ?_)
    · have h := h.1 hc
      refine V.run 7 (pc' := 64) (ls' := [.ref 9, .int x3]) (st' := [.int x3, .ref 18]) (S' := ((q_up M3 18 1 (iI 0)), L)) rfl ?_
      obtain ⟨P4, hv4, h⟩ := h
      refine V.callVv (T2 := T_Sheet_appendNumber) (As := [.int x3]) (rest := []) rfl rfl g_Sheet_appendNumber rfl rfl rfl rfl (Nat.le_of_ble_eq_true rfl) (by simp [Value.category]) (by simp [Value.category]) (Nat.le_of_ble_eq_true rfl) (Nat.le_refl _) hv4 (fun M4 hq => ?_)
      have h := h M4 hq
      refine V.run 3 (pc' := 73) (ls' := [.ref 9, .int x3]) (st' := [.int (iI 32), .ref 18]) (S' := (M4, L)) rfl ?_
      obtain ⟨P5, hv5, h⟩ := h
      refine V.callVi (T2 := T_Sheet_append) (As := [.int (iI 32)]) (rest := []) rfl rfl g_Sheet_append rfl rfl rfl rfl (Nat.le_of_ble_eq_true rfl) (by simp [Value.category]) (by simp [Value.category]) (Nat.le_of_ble_eq_true rfl) (Nat.le_refl _) hv5 (fun x5 M5 hq => ?_)
      have h := h x5 M5 hq
      refine V.run 6 (pc' := 88) (ls' := [.ref 9, .int x3]) (st' := [.int (M5 18 1), .ref 16]) (S' := (M5, L)) rfl ?_
      obtain ⟨P6, hv6, h⟩ := h
      refine V.callVi (T2 := T_Sheet_hasRoomFor) (As := [.int (M5 18 1)]) (rest := []) rfl rfl g_Sheet_hasRoomFor rfl rfl rfl rfl (Nat.le_of_ble_eq_true rfl) (by simp [Value.category]) (by simp [Value.category]) (Nat.le_of_ble_eq_true rfl) (Nat.le_refl _) hv6 (fun x6 M6 hq => ?_)
      have h := h x6 M6 hq
      refine V.ifc (cd := .ne) rfl (fun hc => ?_) (fun hc => ?_)
      · have h := h.1 hc
        refine V.run 4 (pc' := 105) (ls' := [.ref 9, .int x3]) (st' := [.ref 18, .ref 16]) (S' := (M6, L)) rfl ?_
        obtain ⟨P7, hv7, h⟩ := h
        refine V.callVv (T2 := T_Sheet_appendSheet) (As := [.ref 18]) (rest := []) rfl rfl g_Sheet_appendSheet rfl rfl rfl rfl (Nat.le_of_ble_eq_true rfl) (by simp [Value.category]) (by simp [Value.category]) (Nat.le_of_ble_eq_true rfl) (Nat.le_refl _) hv7 (fun M7 hq => ?_)
        have h := h M7 hq
        refine V.run 1 (pc' := 109) (ls' := [.ref 9, .int x3]) (st' := [.int (iI 0)]) (S' := (M7, L)) rfl ?_
        exact V.iret rfl rfl ⟨_, _, rfl, rfl, h⟩
      · have h := h.2 hc
        refine V.run 1 (pc' := 96) (ls' := [.ref 9, .int x3]) (st' := [.int (iI 7)]) (S' := (M6, L)) rfl ?_
        exact V.iret rfl rfl ⟨_, _, rfl, rfl, h⟩
    · have h := h.2 hc
      refine V.run 3 (pc' := 50) (ls' := [.ref 9, .int x3]) (st' := [.int (M3 12 2)]) (S' := (M3, L)) rfl ?_
      exact V.iret rfl rfl ⟨_, _, rfl, rfl, h⟩
  · have h := h.2 hc
    refine V.run 1 (pc' := 21) (ls' := [.ref 9, .null]) (st' := [.ref 9]) (S' := (M2, L)) rfl ?_
    obtain ⟨P8, hv8, h⟩ := h
    refine V.callVi (T2 := T_Machine_writeRow) (As := []) (rest := []) rfl rfl g_Machine_writeRow rfl rfl rfl rfl (Nat.le_of_ble_eq_true rfl) (by simp [Value.category]) (by simp [Value.category]) (Nat.le_of_ble_eq_true rfl) (Nat.le_refl _) hv8 (fun x8 M8 hq => ?_)
    have h := h x8 M8 hq
    exact V.iret rfl rfl ⟨_, _, rfl, rfl, h⟩
set_option maxRecDepth 100000 in
set_option maxHeartbeats 4000000 in
theorem s_Machine_writeRow_0 {l : Launch} {Γ : qG} {d r : Nat} {M : qM} {L : Nat → Int64} {P : Int32 → qM → Prop} (h : ∃ P1 : Int32 → qM → Prop, V l Γ T_Sheet_hasRoomFor d 0 0 [.ref 16, .int (((M 9 14) - (iI 1)) - (((M 9 5) + (iI 2)) + (iI 2)))] [] (M, L) (q_i L P1) ∧ ∀ (x1 : Int32) (M1 : qM), P1 x1 M1 → (¬ x1 = 0 → V l Γ T_Machine_writeRow (d + 1) r 34 [.ref 9, .null, .int ((M 9 14) - (iI 1)), .int (((M 9 5) + (iI 2)) + (iI 2))] [] (M1, L) (q_i L P)) ∧ (¬ (¬ x1 = 0) → P (iI 7) M1)) : V l Γ T_Machine_writeRow (d + 1) r 0 [.ref 9, .null, .null, .null] [] (M, L) (q_i L P) := by
  refine V.run 17 (pc' := 23) (ls' := [.ref 9, .int (((M 9 5) + (iI 2)) + (iI 2)), .int ((M 9 14) - (iI 1)), .null]) (st' := [.int (((M 9 14) - (iI 1)) - (((M 9 5) + (iI 2)) + (iI 2))), .ref 16]) (S' := (M, L)) rfl ?_
  obtain ⟨P1, hv1, h⟩ := h
  refine V.callVi (T2 := T_Sheet_hasRoomFor) (As := [.int (((M 9 14) - (iI 1)) - (((M 9 5) + (iI 2)) + (iI 2)))]) (rest := []) rfl rfl g_Sheet_hasRoomFor rfl rfl rfl rfl (Nat.le_of_ble_eq_true rfl) (by simp [Value.category]) (by simp [Value.category]) (Nat.le_of_ble_eq_true rfl) (Nat.le_refl _) hv1 (fun x1 M1 hq => ?_)
  have h := h x1 M1 hq
  refine V.ifc (cd := .ne) rfl (fun hc => ?_) (fun hc => ?_)
  · have h := h.1 hc
    refine V.run 2 (pc' := 34) (ls' := [.ref 9, .int (((M 9 5) + (iI 2)) + (iI 2)), .int ((M 9 14) - (iI 1)), .int (((M 9 5) + (iI 2)) + (iI 2))]) (st' := []) (S' := (M1, L)) rfl ?_
    refine V.forget (ls' := [.ref 9, .null, .int ((M 9 14) - (iI 1)), .int (((M 9 5) + (iI 2)) + (iI 2))]) ⟨Or.inr rfl, Or.inl rfl, Or.inr rfl, Or.inr rfl, trivial⟩ ?_
    exact h
  · have h := h.2 hc
    refine V.run 1 (pc' := 31) (ls' := [.ref 9, .int (((M 9 5) + (iI 2)) + (iI 2)), .int ((M 9 14) - (iI 1)), .null]) (st' := [.int (iI 7)]) (S' := (M1, L)) rfl ?_
    exact V.iret rfl rfl ⟨_, _, rfl, rfl, h⟩
set_option maxRecDepth 100000 in
set_option maxHeartbeats 4000000 in
theorem s_Machine_writeRow_34 {l : Launch} {Γ : qG} {d r : Nat} {M : qM} {L : Nat → Int64} {P : Int32 → qM → Prop} (v2 v3 : Int32) (h : (v2 ≤ v3 → P (iI 0) M) ∧ (¬ v2 ≤ v3 → vp_in v3 200 ∧ ∃ P1 : Int32 → qM → Prop, V l Γ T_Sheet_append d 0 0 [.ref 16, .int (((M 11 (v3).toNatClampNeg)).toUInt32 % 65536).toInt32] [] (M, L) (q_i L P1) ∧ ∀ (x1 : Int32) (M1 : qM), P1 x1 M1 → V l Γ T_Machine_writeRow (d + 1) r 34 [.ref 9, .null, .int v2, .int (v3 + (iI 1))] [] (M1, L) (q_i L P))) : V l Γ T_Machine_writeRow (d + 1) r 34 [.ref 9, .null, .int v2, .int v3] [] (M, L) (q_i L P) := by
  refine V.run 2 (pc' := 36) (ls' := [.ref 9, .null, .int v2, .int v3]) (st' := [.int v2, .int v3]) (S' := (M, L)) rfl ?_
  refine V.icmp (cd := .ge) rfl (fun hc => ?_) (fun hc => ?_)
  · have h := h.1 hc
    refine V.run 1 (pc' := 64) (ls' := [.ref 9, .null, .int v2, .int v3]) (st' := [.int (iI 0)]) (S' := (M, L)) rfl ?_
    exact V.iret rfl rfl ⟨_, _, rfl, rfl, h⟩
  · have h := h.2 hc
    refine V.run 6 (pc' := 51) (ls' := [.ref 9, .null, .int v2, .int v3]) (st' := [.int v3, .ref 11, .ref 16]) (S' := (M, L)) rfl ?_
    refine V.iald rfl rfl h.1 ?_
    have h := h.2
    refine V.run 1 (pc' := 53) (ls' := [.ref 9, .null, .int v2, .int v3]) (st' := [.int (((M 11 (v3).toNatClampNeg)).toUInt32 % 65536).toInt32, .ref 16]) (S' := (M, L)) rfl ?_
    obtain ⟨P1, hv1, h⟩ := h
    refine V.callVi (T2 := T_Sheet_append) (As := [.int (((M 11 (v3).toNatClampNeg)).toUInt32 % 65536).toInt32]) (rest := []) rfl rfl g_Sheet_append rfl rfl rfl rfl (Nat.le_of_ble_eq_true rfl) (by simp [Value.category]) (by simp [Value.category]) (Nat.le_of_ble_eq_true rfl) (Nat.le_refl _) hv1 (fun x1 M1 hq => ?_)
    have h := h x1 M1 hq
    refine V.run 3 (pc' := 34) (ls' := [.ref 9, .null, .int v2, .int (v3 + (iI 1))]) (st' := []) (S' := (M1, L)) rfl ?_
    exact h
set_option maxRecDepth 100000 in
set_option maxHeartbeats 4000000 in
theorem s_Machine_setCell_0 {l : Launch} {Γ : qG} {d r : Nat} {M : qM} {L : Nat → Int64} {P : Int32 → qM → Prop} (h : ∃ P1 : Int32 → qM → Prop, V l Γ T_Calculator_take d 0 0 [.ref 12, .null] [] (M, L) (q_i L P1) ∧ ∀ (x1 : Int32) (M1 : qM), P1 x1 M1 → ∃ P2 : Int32 → qM → Prop, V l Γ T_Calculator_take d 0 0 [.ref 12, .null] [] (M1, L) (q_i L P2) ∧ ∀ (x2 : Int32) (M2 : qM), P2 x2 M2 → ∃ P3 : Int32 → qM → Prop, V l Γ T_Calculator_expression d 0 0 [.ref 12] [] (M2, L) (q_i L P3) ∧ ∀ (x3 : Int32) (M3 : qM), P3 x3 M3 → ∃ P4 : Int32 → qM → Prop, V l Γ T_Calculator_take d 0 0 [.ref 12, .null] [] (M3, L) (q_i L P4) ∧ ∀ (x4 : Int32) (M4 : qM), P4 x4 M4 → ∃ P5 : Int32 → qM → Prop, V l Γ T_Calculator_take d 0 0 [.ref 12, .null] [] (M4, L) (q_i L P5) ∧ ∀ (x5 : Int32) (M5 : qM), P5 x5 M5 → ∃ P6 : Int32 → qM → Prop, V l Γ T_Calculator_expression d 0 0 [.ref 12] [] (M5, L) (q_i L P6) ∧ ∀ (x6 : Int32) (M6 : qM), P6 x6 M6 → ((M6 12 2) = 0 → (x3 < 0 → P (iI 6) M6) ∧ (¬ x3 < 0 → (x3 < (iI 16) → vp_in x3 16 ∧ P (iI 0) (q_up M6 14 (x3).toNatClampNeg x6)) ∧ (¬ x3 < (iI 16) → P (iI 6) M6))) ∧ (¬ (M6 12 2) = 0 → P (M6 12 2) M6)) : V l Γ T_Machine_setCell (d + 1) r 0 [.ref 9, .null, .null] [] (M, L) (q_i L P) := by
  refine V.run 2 (pc' := 4) (ls' := [.ref 9, .null, .null]) (st' := [.ref 12]) (S' := (M, L)) rfl ?_
  obtain ⟨P1, hv1, h⟩ := h
  refine V.callVi (T2 := T_Calculator_take) (As := []) (rest := []) rfl rfl g_Calculator_take rfl rfl rfl rfl (Nat.le_of_ble_eq_true rfl) (by simp [Value.category]) (by simp [Value.category]) (Nat.le_of_ble_eq_true rfl) (Nat.le_refl _) hv1 (fun x1 M1 hq => ?_)
  have h := h x1 M1 hq
  refine V.run 3 (pc' := 12) (ls' := [.ref 9, .null, .null]) (st' := [.ref 12]) (S' := (M1, L)) rfl ?_
  obtain ⟨P2, hv2, h⟩ := h
  refine V.callVi (T2 := T_Calculator_take) (As := []) (rest := []) rfl rfl g_Calculator_take rfl rfl rfl rfl (Nat.le_of_ble_eq_true rfl) (by simp [Value.category]) (by simp [Value.category]) (Nat.le_of_ble_eq_true rfl) (Nat.le_refl _) hv2 (fun x2 M2 hq => ?_)
  have h := h x2 M2 hq
  refine V.run 3 (pc' := 20) (ls' := [.ref 9, .null, .null]) (st' := [.ref 12]) (S' := (M2, L)) rfl ?_
  obtain ⟨P3, hv3, h⟩ := h
  refine V.callVi (T2 := T_Calculator_expression) (As := []) (rest := []) rfl rfl g_Calculator_expression rfl rfl rfl rfl (Nat.le_of_ble_eq_true rfl) (by simp [Value.category]) (by simp [Value.category]) (Nat.le_of_ble_eq_true rfl) (Nat.le_refl _) hv3 (fun x3 M3 hq => ?_)
  have h := h x3 M3 hq
  refine V.run 3 (pc' := 28) (ls' := [.ref 9, .int x3, .null]) (st' := [.ref 12]) (S' := (M3, L)) rfl ?_
  obtain ⟨P4, hv4, h⟩ := h
  refine V.callVi (T2 := T_Calculator_take) (As := []) (rest := []) rfl rfl g_Calculator_take rfl rfl rfl rfl (Nat.le_of_ble_eq_true rfl) (by simp [Value.category]) (by simp [Value.category]) (Nat.le_of_ble_eq_true rfl) (Nat.le_refl _) hv4 (fun x4 M4 hq => ?_)
  have h := h x4 M4 hq
  refine V.run 3 (pc' := 36) (ls' := [.ref 9, .int x3, .null]) (st' := [.ref 12]) (S' := (M4, L)) rfl ?_
  obtain ⟨P5, hv5, h⟩ := h
  refine V.callVi (T2 := T_Calculator_take) (As := []) (rest := []) rfl rfl g_Calculator_take rfl rfl rfl rfl (Nat.le_of_ble_eq_true rfl) (by simp [Value.category]) (by simp [Value.category]) (Nat.le_of_ble_eq_true rfl) (Nat.le_refl _) hv5 (fun x5 M5 hq => ?_)
  have h := h x5 M5 hq
  refine V.run 3 (pc' := 44) (ls' := [.ref 9, .int x3, .null]) (st' := [.ref 12]) (S' := (M5, L)) rfl ?_
  obtain ⟨P6, hv6, h⟩ := h
  refine V.callVi (T2 := T_Calculator_expression) (As := []) (rest := []) rfl rfl g_Calculator_expression rfl rfl rfl rfl (Nat.le_of_ble_eq_true rfl) (by simp [Value.category]) (by simp [Value.category]) (Nat.le_of_ble_eq_true rfl) (Nat.le_refl _) hv6 (fun x6 M6 hq => ?_)
  have h := h x6 M6 hq
  refine V.run 4 (pc' := 55) (ls' := [.ref 9, .int x3, .int x6]) (st' := [.int (M6 12 2)]) (S' := (M6, L)) rfl ?_
  refine V.ifc (cd := .eq) rfl (fun hc => ?_) (fun hc => ?_)
  · have h := h.1 hc
    refine V.run 1 (pc' := 67) (ls' := [.ref 9, .int x3, .int x6]) (st' := [.int x3]) (S' := (M6, L)) rfl ?_
    refine V.ifc (cd := .lt) rfl (fun hc => ?_) (fun hc => ?_)
    · have h := h.1 hc
      refine V.run 1 (pc' := 78) (ls' := [.ref 9, .int x3, .int x6]) (st' := [.int (iI 6)]) (S' := (M6, L)) rfl ?_
      exact V.iret rfl rfl ⟨_, _, rfl, rfl, h⟩
    · have h := h.2 hc
      refine V.run 2 (pc' := 73) (ls' := [.ref 9, .int x3, .int x6]) (st' := [.int (iI 16), .int x3]) (S' := (M6, L)) rfl ?_
      refine V.icmp (cd := .lt) rfl (fun hc => ?_) (fun hc => ?_)
      · have h := h.1 hc
        refine V.run 4 (pc' := 85) (ls' := [.ref 9, .int x3, .int x6]) (st' := [.int x6, .int x3, .ref 14]) (S' := (M6, L)) rfl ?_
        refine V.iast rfl rfl h.1 ?_
        have h := h.2
        refine V.run 1 (pc' := 87) (ls' := [.ref 9, .int x3, .int x6]) (st' := [.int (iI 0)]) (S' := ((q_up M6 14 (x3).toNatClampNeg x6), L)) rfl ?_
        exact V.iret rfl rfl ⟨_, _, rfl, rfl, h⟩
      · have h := h.2 hc
        refine V.run 1 (pc' := 78) (ls' := [.ref 9, .int x3, .int x6]) (st' := [.int (iI 6)]) (S' := (M6, L)) rfl ?_
        exact V.iret rfl rfl ⟨_, _, rfl, rfl, h⟩
  · have h := h.2 hc
    refine V.run 3 (pc' := 65) (ls' := [.ref 9, .int x3, .int x6]) (st' := [.int (M6 12 2)]) (S' := (M6, L)) rfl ?_
    exact V.iret rfl rfl ⟨_, _, rfl, rfl, h⟩
set_option maxRecDepth 100000 in
set_option maxHeartbeats 4000000 in
theorem s_Machine_setVariable_0 {l : Launch} {Γ : qG} {d r : Nat} {M : qM} {L : Nat → Int64} {P : Int32 → qM → Prop} (h : ∃ P1 : Int32 → qM → Prop, V l Γ T_Calculator_takeVariable d 0 0 [.ref 12] [] (M, L) (q_i L P1) ∧ ∀ (x1 : Int32) (M1 : qM), P1 x1 M1 → ∃ P2 : Int32 → qM → Prop, V l Γ T_Calculator_take d 0 0 [.ref 12, .null] [] (M1, L) (q_i L P2) ∧ ∀ (x2 : Int32) (M2 : qM), P2 x2 M2 → ∃ P3 : Int32 → qM → Prop, V l Γ T_Calculator_expression d 0 0 [.ref 12] [] (M2, L) (q_i L P3) ∧ ∀ (x3 : Int32) (M3 : qM), P3 x3 M3 → ((M3 12 2) = 0 → vp_in x1 8 ∧ P (iI 0) (q_up M3 13 (x1).toNatClampNeg x3)) ∧ (¬ (M3 12 2) = 0 → P (M3 12 2) M3)) : V l Γ T_Machine_setVariable (d + 1) r 0 [.ref 9, .null, .null] [] (M, L) (q_i L P) := by
  refine V.run 2 (pc' := 4) (ls' := [.ref 9, .null, .null]) (st' := [.ref 12]) (S' := (M, L)) rfl ?_
  obtain ⟨P1, hv1, h⟩ := h
  refine V.callVi (T2 := T_Calculator_takeVariable) (As := []) (rest := []) rfl rfl g_Calculator_takeVariable rfl rfl rfl rfl (Nat.le_of_ble_eq_true rfl) (by simp [Value.category]) (by simp [Value.category]) (Nat.le_of_ble_eq_true rfl) (Nat.le_refl _) hv1 (fun x1 M1 hq => ?_)
  have h := h x1 M1 hq
  refine V.run 3 (pc' := 12) (ls' := [.ref 9, .int x1, .null]) (st' := [.ref 12]) (S' := (M1, L)) rfl ?_
  obtain ⟨P2, hv2, h⟩ := h
  refine V.callVi (T2 := T_Calculator_take) (As := []) (rest := []) rfl rfl g_Calculator_take rfl rfl rfl rfl (Nat.le_of_ble_eq_true rfl) (by simp [Value.category]) (by simp [Value.category]) (Nat.le_of_ble_eq_true rfl) (Nat.le_refl _) hv2 (fun x2 M2 hq => ?_)
  have h := h x2 M2 hq
  refine V.run 3 (pc' := 20) (ls' := [.ref 9, .int x1, .null]) (st' := [.ref 12]) (S' := (M2, L)) rfl ?_
  obtain ⟨P3, hv3, h⟩ := h
  refine V.callVi (T2 := T_Calculator_expression) (As := []) (rest := []) rfl rfl g_Calculator_expression rfl rfl rfl rfl (Nat.le_of_ble_eq_true rfl) (by simp [Value.category]) (by simp [Value.category]) (Nat.le_of_ble_eq_true rfl) (Nat.le_refl _) hv3 (fun x3 M3 hq => ?_)
  have h := h x3 M3 hq
  refine V.run 4 (pc' := 31) (ls' := [.ref 9, .int x1, .int x3]) (st' := [.int (M3 12 2)]) (S' := (M3, L)) rfl ?_
  refine V.ifc (cd := .eq) rfl (fun hc => ?_) (fun hc => ?_)
  · have h := h.1 hc
    refine V.run 4 (pc' := 48) (ls' := [.ref 9, .int x1, .int x3]) (st' := [.int x3, .int x1, .ref 13]) (S' := (M3, L)) rfl ?_
    refine V.iast rfl rfl h.1 ?_
    have h := h.2
    refine V.run 1 (pc' := 50) (ls' := [.ref 9, .int x1, .int x3]) (st' := [.int (iI 0)]) (S' := ((q_up M3 13 (x1).toNatClampNeg x3), L)) rfl ?_
    exact V.iret rfl rfl ⟨_, _, rfl, rfl, h⟩
  · have h := h.2 hc
    refine V.run 3 (pc' := 41) (ls' := [.ref 9, .int x1, .int x3]) (st' := [.int (M3 12 2)]) (S' := (M3, L)) rfl ?_
    exact V.iret rfl rfl ⟨_, _, rfl, rfl, h⟩
