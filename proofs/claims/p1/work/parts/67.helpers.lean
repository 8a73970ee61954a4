def tb_law_list : qTb := [(0, .aload_n 2, 1, 0, 0), (1, .iconst 0, 1, 0, 0), (2, .aload_n 0, 1, 0, 0), (3, .iload_n 1, 1, 0, 0), (4, .invokevirtual 7, 3, 4, 0), (7, .i2l, 1, 0, 0), (8, .lastore, 1, 0, 0), (9, .goto 6, 3, 15, 0), (12, .astore_n 3, 1, 0, 0), (13, .iconst 1, 1, 0, 0), (14, .ireturn, 1, 0, 0), (15, .iconst 0, 1, 0, 0), (16, .ireturn, 1, 0, 0)]
def T_law_list : qT := (⟨"TapedLinesLaw", "list", "(LTapedLines;I[J)I"⟩, method_3_code, 4, some .int, tb_law_list)
abbrev hh_list : List (Nat × Nat × Nat × Nat) := [(0, 9, 12, 13)]
set_option maxRecDepth 100000 in
theorem ok_law_list : q_ok T_law_list = true := by decide +kernel
theorem cw_law_list : Cond.codeWith T_law_list.1 T_law_list.2.1 T_law_list.2.2.1 T_law_list.2.2.2.1 hh_list ∈ WG := q_w 605 (by decide +kernel)
set_option maxRecDepth 100000 in
theorem H_list_in {l : Launch} {Γ : qG} {d : Nat} {M : qM} {L : Nat → Int64} {P : Int32 → qM → Prop} (a : Int32) (hv : V l Γ T_TapedLines_list d 1 0 [.ref 0, .int a, .null] [] (M, L) (q_i L P)) : VH l Γ T_law_list hh_list (d + 1) 1 0 [.ref 0, .int a, .ref 42, .null] [] (M, L) (q_h (fun x M' L' => x = iI 0 ∧ ∃ v, P v M' ∧ L' = vp_updL L 0 v.toInt64)) := VH.of (by
  refine V.run 4 (pc' := 4) (ls' := [.ref 0, .int a, .ref 42, .null]) (st' := [.int a, .ref 0, .int (iI 0), .ref 42]) (S' := (M, L)) rfl ?_
  refine V.callV (T2 := T_TapedLines_list) (d2 := d) (r2 := 1) (Q2 := q_i L P) (As := [.int a]) (rest := [.int (iI 0), .ref 42]) rfl rfl g_TapedLines_list rfl rfl rfl rfl (Nat.le_of_ble_eq_true rfl) (by simp [Value.category]) (by simp [Value.category]) (Nat.le_of_ble_eq_true rfl) (Nat.le_refl _) (Nat.le_refl _) (fun ec S h => by obtain ⟨_, _, h, -⟩ := h; cases h) hv (fun v S' h => ?_)
  obtain ⟨x, M', h1, rfl, h2⟩ := h
  cases h1
  refine V.i2l rfl ?_
  refine V.last rfl (iI_in (by decide) (by decide) (by decide)) ?_
  refine V.run 2 (pc' := 16) (ls' := [.ref 0, .int a, .ref 42, .null]) (st' := [.int (iI 0)]) (S' := (M', vp_updL L 0 x.toInt64)) rfl ?_
  exact V.iret rfl rfl ⟨_, _, _, rfl, rfl, rfl, x, h2, rfl⟩)
set_option maxRecDepth 100000 in
set_option maxHeartbeats 4000000 in
theorem H_list_out {l : Launch} {Γ : qG} {d : Nat} {M : qM} {L : Nat → Int64} {E : Nat → qM → Prop} (a : Int32) (hE : ∀ ec M', E ec M' → ec = 0) (hv : V l Γ T_TapedLines_list d 1 0 [.ref 0, .int a, .null] [] (M, L) (q_e L E)) : VH l Γ T_law_list hh_list (d + 1) 1 0 [.ref 0, .int a, .ref 42, .null] [] (M, L) (q_h (fun x M' L' => ((x = iI 1 ∧ E 0 M')) ∧ L' = L)) := by
  intro A p e R s m args below meth c H locs cells slots Lr hok hC hW hL hc1 hc2 hhh
  refine lv_aload_n hC.1 hC.2.1 (q_ok_at hok (show q_ft T_law_list.2.2.2.2 0 = some (.aload_n 2, 1, 0, 0) from rfl)).1 rfl (hL.at (show _ = some (.ref 42) from rfl) (fun q => by cases q)) ?_
  refine lv_iconst hC.1 hC.2.1 (q_ok_at hok (show q_ft T_law_list.2.2.2.2 1 = some (.iconst 0, 1, 0, 0) from rfl)).1 rfl ?_
  refine lv_aload_n hC.1 hC.2.1 (q_ok_at hok (show q_ft T_law_list.2.2.2.2 2 = some (.aload_n 0, 1, 0, 0) from rfl)).1 rfl (hL.at (show _ = some (.ref 0) from rfl) (fun q => by cases q)) ?_
  refine lv_iload_n hC.1 hC.2.1 (q_ok_at hok (show q_ft T_law_list.2.2.2.2 3 = some (.iload_n 1, 1, 0, 0) from rfl)).1 rfl (hL.at (show _ = some (.int a) from rfl) (fun q => by cases q)) ?_
  refine q_callX (T2 := T_TapedLines_list) (d2 := d) (r2 := 1) (Q2 := q_e L E) (S := (M, L)) (o := 0) (As := [.int a]) (rest := [.int (iI 0), .ref 42]) (r := 1) (ls := [.ref 0, .int a, .ref 42, .null]) hok hC hW hL hc1 hc2 rfl rfl g_TapedLines_list rfl rfl rfl rfl (Nat.le_of_ble_eq_true rfl) (by simp [Value.category]) (by simp [Value.category]) (Nat.le_of_ble_eq_true rfl) (Nat.le_refl _) (Nat.le_refl _) (fun v S h => by obtain ⟨_, _, h, -⟩ := h; cases h) hv (fun ec S' adr cell T' L' hq X hW2 hcell hobj hfc => ?_)
  obtain ⟨ec', M', h1, rfl, hE'⟩ := hq
  cases h1
  rcases hE _ _ hE' with rfl
  · exact q_handA (T := T_law_list) (pc := 4) (ls := [.ref 0, .int a, .ref 42, .null]) (S := (M', L)) (z := 1) (ln := 1) hok hC hW2 hL (by omega) (by omega) X hcell hobj hfc (q_w 606 (by decide +kernel)) hhh (by decide) (by decide) (by decide) (Or.inl ⟨3, 0, 0, rfl, by decide, rfl⟩) rfl rfl rfl ⟨_, _, _, rfl, rfl, ⟨rfl, hE'⟩, rfl⟩
def tb_law_programByte : qTb := [(0, .aload_n 2, 1, 0, 0), (1, .iconst 0, 1, 0, 0), (2, .aload_n 0, 1, 0, 0), (3, .iload_n 1, 1, 0, 0), (4, .invokevirtual 15, 3, 5, 0), (7, .i2l, 1, 0, 0), (8, .lastore, 1, 0, 0), (9, .goto 6, 3, 15, 0), (12, .astore_n 3, 1, 0, 0), (13, .iconst 1, 1, 0, 0), (14, .ireturn, 1, 0, 0), (15, .iconst 0, 1, 0, 0), (16, .ireturn, 1, 0, 0)]
def T_law_programByte : qT := (⟨"TapedLinesLaw", "programByte", "(LTapedLines;I[J)I"⟩, method_4_code, 4, some .int, tb_law_programByte)
abbrev hh_programByte : List (Nat × Nat × Nat × Nat) := [(0, 9, 12, 13)]
set_option maxRecDepth 100000 in
theorem ok_law_programByte : q_ok T_law_programByte = true := by decide +kernel
theorem cw_law_programByte : Cond.codeWith T_law_programByte.1 T_law_programByte.2.1 T_law_programByte.2.2.1 T_law_programByte.2.2.2.1 hh_programByte ∈ WG := q_w 688 (by decide +kernel)
set_option maxRecDepth 100000 in
theorem H_programByte_in {l : Launch} {Γ : qG} {d : Nat} {M : qM} {L : Nat → Int64} {P : Int32 → qM → Prop} (a : Int32) (hv : V l Γ T_TapedLines_programByte d 1 0 [.ref 0, .int a] [] (M, L) (q_i L P)) : VH l Γ T_law_programByte hh_programByte (d + 1) 1 0 [.ref 0, .int a, .ref 42, .null] [] (M, L) (q_h (fun x M' L' => x = iI 0 ∧ ∃ v, P v M' ∧ L' = vp_updL L 0 v.toInt64)) := VH.of (by
  refine V.run 4 (pc' := 4) (ls' := [.ref 0, .int a, .ref 42, .null]) (st' := [.int a, .ref 0, .int (iI 0), .ref 42]) (S' := (M, L)) rfl ?_
  refine V.callV (T2 := T_TapedLines_programByte) (d2 := d) (r2 := 1) (Q2 := q_i L P) (As := [.int a]) (rest := [.int (iI 0), .ref 42]) rfl rfl g_TapedLines_programByte rfl rfl rfl rfl (Nat.le_of_ble_eq_true rfl) (by simp [Value.category]) (by simp [Value.category]) (Nat.le_of_ble_eq_true rfl) (Nat.le_refl _) (Nat.le_refl _) (fun ec S h => by obtain ⟨_, _, h, -⟩ := h; cases h) hv (fun v S' h => ?_)
  obtain ⟨x, M', h1, rfl, h2⟩ := h
  cases h1
  refine V.i2l rfl ?_
  refine V.last rfl (iI_in (by decide) (by decide) (by decide)) ?_
  refine V.run 2 (pc' := 16) (ls' := [.ref 0, .int a, .ref 42, .null]) (st' := [.int (iI 0)]) (S' := (M', vp_updL L 0 x.toInt64)) rfl ?_
  exact V.iret rfl rfl ⟨_, _, _, rfl, rfl, rfl, x, h2, rfl⟩)
set_option maxRecDepth 100000 in
set_option maxHeartbeats 4000000 in
theorem H_programByte_out {l : Launch} {Γ : qG} {d : Nat} {M : qM} {L : Nat → Int64} {E : Nat → qM → Prop} (a : Int32) (hE : ∀ ec M', E ec M' → ec = 0) (hv : V l Γ T_TapedLines_programByte d 1 0 [.ref 0, .int a] [] (M, L) (q_e L E)) : VH l Γ T_law_programByte hh_programByte (d + 1) 1 0 [.ref 0, .int a, .ref 42, .null] [] (M, L) (q_h (fun x M' L' => ((x = iI 1 ∧ E 0 M')) ∧ L' = L)) := by
  intro A p e R s m args below meth c H locs cells slots Lr hok hC hW hL hc1 hc2 hhh
  refine lv_aload_n hC.1 hC.2.1 (q_ok_at hok (show q_ft T_law_programByte.2.2.2.2 0 = some (.aload_n 2, 1, 0, 0) from rfl)).1 rfl (hL.at (show _ = some (.ref 42) from rfl) (fun q => by cases q)) ?_
  refine lv_iconst hC.1 hC.2.1 (q_ok_at hok (show q_ft T_law_programByte.2.2.2.2 1 = some (.iconst 0, 1, 0, 0) from rfl)).1 rfl ?_
  refine lv_aload_n hC.1 hC.2.1 (q_ok_at hok (show q_ft T_law_programByte.2.2.2.2 2 = some (.aload_n 0, 1, 0, 0) from rfl)).1 rfl (hL.at (show _ = some (.ref 0) from rfl) (fun q => by cases q)) ?_
  refine lv_iload_n hC.1 hC.2.1 (q_ok_at hok (show q_ft T_law_programByte.2.2.2.2 3 = some (.iload_n 1, 1, 0, 0) from rfl)).1 rfl (hL.at (show _ = some (.int a) from rfl) (fun q => by cases q)) ?_
  refine q_callX (T2 := T_TapedLines_programByte) (d2 := d) (r2 := 1) (Q2 := q_e L E) (S := (M, L)) (o := 0) (As := [.int a]) (rest := [.int (iI 0), .ref 42]) (r := 1) (ls := [.ref 0, .int a, .ref 42, .null]) hok hC hW hL hc1 hc2 rfl rfl g_TapedLines_programByte rfl rfl rfl rfl (Nat.le_of_ble_eq_true rfl) (by simp [Value.category]) (by simp [Value.category]) (Nat.le_of_ble_eq_true rfl) (Nat.le_refl _) (Nat.le_refl _) (fun v S h => by obtain ⟨_, _, h, -⟩ := h; cases h) hv (fun ec S' adr cell T' L' hq X hW2 hcell hobj hfc => ?_)
  obtain ⟨ec', M', h1, rfl, hE'⟩ := hq
  cases h1
  rcases hE _ _ hE' with rfl
  · exact q_handA (T := T_law_programByte) (pc := 4) (ls := [.ref 0, .int a, .ref 42, .null]) (S := (M', L)) (z := 1) (ln := 1) hok hC hW2 hL (by omega) (by omega) X hcell hobj hfc (q_w 606 (by decide +kernel)) hhh (by decide) (by decide) (by decide) (Or.inl ⟨3, 0, 0, rfl, by decide, rfl⟩) rfl rfl rfl ⟨_, _, _, rfl, rfl, ⟨rfl, hE'⟩, rfl⟩
def tb_law_run : qTb := [(0, .aload_n 2, 1, 0, 0), (1, .iconst 0, 1, 0, 0), (2, .aload_n 0, 1, 0, 0), (3, .iload_n 1, 1, 0, 0), (4, .invokevirtual 18, 3, 7, 0), (7, .i2l, 1, 0, 0), (8, .lastore, 1, 0, 0), (9, .goto 9, 3, 18, 0), (12, .astore_n 3, 1, 0, 0), (13, .iconst 1, 1, 0, 0), (14, .ireturn, 1, 0, 0), (15, .astore_n 3, 1, 0, 0), (16, .iconst 2, 1, 0, 0), (17, .ireturn, 1, 0, 0), (18, .iconst 0, 1, 0, 0), (19, .ireturn, 1, 0, 0)]
def T_law_run : qT := (⟨"TapedLinesLaw", "run", "(LTapedLines;I[J)I"⟩, method_5_code, 4, some .int, tb_law_run)
abbrev hh_run : List (Nat × Nat × Nat × Nat) := [(0, 9, 12, 21), (0, 9, 15, 23)]
set_option maxRecDepth 100000 in
theorem ok_law_run : q_ok T_law_run = true := by decide +kernel
theorem cw_law_run : Cond.codeWith T_law_run.1 T_law_run.2.1 T_law_run.2.2.1 T_law_run.2.2.2.1 hh_run ∈ WG := q_w 695 (by decide +kernel)
set_option maxRecDepth 100000 in
theorem H_run_in {l : Launch} {Γ : qG} {d : Nat} {M : qM} {L : Nat → Int64} {P : Int32 → qM → Prop} (a : Int32) (hv : V l Γ T_TapedLines_run d 1 0 [.ref 0, .int a, .null, .null] [] (M, L) (q_i L P)) : VH l Γ T_law_run hh_run (d + 1) 1 0 [.ref 0, .int a, .ref 42, .null] [] (M, L) (q_h (fun x M' L' => x = iI 0 ∧ ∃ v, P v M' ∧ L' = vp_updL L 0 v.toInt64)) := VH.of (by
  refine V.run 4 (pc' := 4) (ls' := [.ref 0, .int a, .ref 42, .null]) (st' := [.int a, .ref 0, .int (iI 0), .ref 42]) (S' := (M, L)) rfl ?_
  refine V.callV (T2 := T_TapedLines_run) (d2 := d) (r2 := 1) (Q2 := q_i L P) (As := [.int a]) (rest := [.int (iI 0), .ref 42]) rfl rfl g_TapedLines_run rfl rfl rfl rfl (Nat.le_of_ble_eq_true rfl) (by simp [Value.category]) (by simp [Value.category]) (Nat.le_of_ble_eq_true rfl) (Nat.le_refl _) (Nat.le_refl _) (fun ec S h => by obtain ⟨_, _, h, -⟩ := h; cases h) hv (fun v S' h => ?_)
  obtain ⟨x, M', h1, rfl, h2⟩ := h
  cases h1
  refine V.i2l rfl ?_
  refine V.last rfl (iI_in (by decide) (by decide) (by decide)) ?_
  refine V.run 2 (pc' := 19) (ls' := [.ref 0, .int a, .ref 42, .null]) (st' := [.int (iI 0)]) (S' := (M', vp_updL L 0 x.toInt64)) rfl ?_
  exact V.iret rfl rfl ⟨_, _, _, rfl, rfl, rfl, x, h2, rfl⟩)
set_option maxRecDepth 100000 in
set_option maxHeartbeats 4000000 in
theorem H_run_out {l : Launch} {Γ : qG} {d : Nat} {M : qM} {L : Nat → Int64} {E : Nat → qM → Prop} (a : Int32) (hE : ∀ ec M', E ec M' → ec = 1 ∨ ec = 2) (hv : V l Γ T_TapedLines_run d 1 0 [.ref 0, .int a, .null, .null] [] (M, L) (q_e L E)) : VH l Γ T_law_run hh_run (d + 1) 1 0 [.ref 0, .int a, .ref 42, .null] [] (M, L) (q_h (fun x M' L' => ((x = iI 1 ∧ E 1 M') ∨ (x = iI 2 ∧ E 2 M')) ∧ L' = L)) := by
  intro A p e R s m args below meth c H locs cells slots Lr hok hC hW hL hc1 hc2 hhh
  refine lv_aload_n hC.1 hC.2.1 (q_ok_at hok (show q_ft T_law_run.2.2.2.2 0 = some (.aload_n 2, 1, 0, 0) from rfl)).1 rfl (hL.at (show _ = some (.ref 42) from rfl) (fun q => by cases q)) ?_
  refine lv_iconst hC.1 hC.2.1 (q_ok_at hok (show q_ft T_law_run.2.2.2.2 1 = some (.iconst 0, 1, 0, 0) from rfl)).1 rfl ?_
  refine lv_aload_n hC.1 hC.2.1 (q_ok_at hok (show q_ft T_law_run.2.2.2.2 2 = some (.aload_n 0, 1, 0, 0) from rfl)).1 rfl (hL.at (show _ = some (.ref 0) from rfl) (fun q => by cases q)) ?_
  refine lv_iload_n hC.1 hC.2.1 (q_ok_at hok (show q_ft T_law_run.2.2.2.2 3 = some (.iload_n 1, 1, 0, 0) from rfl)).1 rfl (hL.at (show _ = some (.int a) from rfl) (fun q => by cases q)) ?_
  refine q_callX (T2 := T_TapedLines_run) (d2 := d) (r2 := 1) (Q2 := q_e L E) (S := (M, L)) (o := 0) (As := [.int a]) (rest := [.int (iI 0), .ref 42]) (r := 1) (ls := [.ref 0, .int a, .ref 42, .null]) hok hC hW hL hc1 hc2 rfl rfl g_TapedLines_run rfl rfl rfl rfl (Nat.le_of_ble_eq_true rfl) (by simp [Value.category]) (by simp [Value.category]) (Nat.le_of_ble_eq_true rfl) (Nat.le_refl _) (Nat.le_refl _) (fun v S h => by obtain ⟨_, _, h, -⟩ := h; cases h) hv (fun ec S' adr cell T' L' hq X hW2 hcell hobj hfc => ?_)
  obtain ⟨ec', M', h1, rfl, hE'⟩ := hq
  cases h1
  rcases hE _ _ hE' with rfl | rfl
  · exact q_handA (T := T_law_run) (pc := 4) (ls := [.ref 0, .int a, .ref 42, .null]) (S := (M', L)) (z := 1) (ln := 1) hok hC hW2 hL (by omega) (by omega) X hcell hobj hfc (q_w 696 (by decide +kernel)) hhh (by decide) (by decide) (by decide) (Or.inl ⟨3, 0, 0, rfl, by decide, rfl⟩) rfl rfl rfl ⟨_, _, _, rfl, rfl, Or.inl ⟨rfl, hE'⟩, rfl⟩
  · exact q_handB (T := T_law_run) (pc := 4) (ls := [.ref 0, .int a, .ref 42, .null]) (S := (M', L)) (ec1 := 1) (z := 2) (ln := 1) hok hC hW2 hL (by omega) (by omega) X hcell hobj hfc (fun c1 hc => hC.2.2.2.2.2.2.2.1.2.2.2.2.2.2.2.2 2 1 (by decide) _ _ hfc hc) (q_w 696 (by decide +kernel)) (q_w 697 (by decide +kernel)) hhh (by decide) (by decide) (by decide) (by decide) (by decide) (by decide) (Or.inl ⟨3, 0, 0, rfl, by decide, rfl⟩) rfl rfl rfl ⟨_, _, _, rfl, rfl, Or.inr ⟨rfl, hE'⟩, rfl⟩
def tb_law_variable : qTb := [(0, .aload_n 2, 1, 0, 0), (1, .iconst 0, 1, 0, 0), (2, .aload_n 0, 1, 0, 0), (3, .iload_n 1, 1, 0, 0), (4, .invokevirtual 25, 3, 10, 0), (7, .i2l, 1, 0, 0), (8, .lastore, 1, 0, 0), (9, .goto 6, 3, 15, 0), (12, .astore_n 3, 1, 0, 0), (13, .iconst 1, 1, 0, 0), (14, .ireturn, 1, 0, 0), (15, .iconst 0, 1, 0, 0), (16, .ireturn, 1, 0, 0)]
def T_law_variable : qT := (⟨"TapedLinesLaw", "variable", "(LTapedLines;I[J)I"⟩, method_6_code, 4, some .int, tb_law_variable)
abbrev hh_variable : List (Nat × Nat × Nat × Nat) := [(0, 9, 12, 13)]
set_option maxRecDepth 100000 in
theorem ok_law_variable : q_ok T_law_variable = true := by decide +kernel
theorem cw_law_variable : Cond.codeWith T_law_variable.1 T_law_variable.2.1 T_law_variable.2.2.1 T_law_variable.2.2.2.1 hh_variable ∈ WG := q_w 846 (by decide +kernel)
set_option maxRecDepth 100000 in
theorem H_variable_in {l : Launch} {Γ : qG} {d : Nat} {M : qM} {L : Nat → Int64} {P : Int32 → qM → Prop} (a : Int32) (hv : V l Γ T_TapedLines_variable d 1 0 [.ref 0, .int a] [] (M, L) (q_i L P)) : VH l Γ T_law_variable hh_variable (d + 1) 1 0 [.ref 0, .int a, .ref 42, .null] [] (M, L) (q_h (fun x M' L' => x = iI 0 ∧ ∃ v, P v M' ∧ L' = vp_updL L 0 v.toInt64)) := VH.of (by
  refine V.run 4 (pc' := 4) (ls' := [.ref 0, .int a, .ref 42, .null]) (st' := [.int a, .ref 0, .int (iI 0), .ref 42]) (S' := (M, L)) rfl ?_
  refine V.callV (T2 := T_TapedLines_variable) (d2 := d) (r2 := 1) (Q2 := q_i L P) (As := [.int a]) (rest := [.int (iI 0), .ref 42]) rfl rfl g_TapedLines_variable rfl rfl rfl rfl (Nat.le_of_ble_eq_true rfl) (by simp [Value.category]) (by simp [Value.category]) (Nat.le_of_ble_eq_true rfl) (Nat.le_refl _) (Nat.le_refl _) (fun ec S h => by obtain ⟨_, _, h, -⟩ := h; cases h) hv (fun v S' h => ?_)
  obtain ⟨x, M', h1, rfl, h2⟩ := h
  cases h1
  refine V.i2l rfl ?_
  refine V.last rfl (iI_in (by decide) (by decide) (by decide)) ?_
  refine V.run 2 (pc' := 16) (ls' := [.ref 0, .int a, .ref 42, .null]) (st' := [.int (iI 0)]) (S' := (M', vp_updL L 0 x.toInt64)) rfl ?_
  exact V.iret rfl rfl ⟨_, _, _, rfl, rfl, rfl, x, h2, rfl⟩)
set_option maxRecDepth 100000 in
set_option maxHeartbeats 4000000 in
theorem H_variable_out {l : Launch} {Γ : qG} {d : Nat} {M : qM} {L : Nat → Int64} {E : Nat → qM → Prop} (a : Int32) (hE : ∀ ec M', E ec M' → ec = 0) (hv : V l Γ T_TapedLines_variable d 1 0 [.ref 0, .int a] [] (M, L) (q_e L E)) : VH l Γ T_law_variable hh_variable (d + 1) 1 0 [.ref 0, .int a, .ref 42, .null] [] (M, L) (q_h (fun x M' L' => ((x = iI 1 ∧ E 0 M')) ∧ L' = L)) := by
  intro A p e R s m args below meth c H locs cells slots Lr hok hC hW hL hc1 hc2 hhh
  refine lv_aload_n hC.1 hC.2.1 (q_ok_at hok (show q_ft T_law_variable.2.2.2.2 0 = some (.aload_n 2, 1, 0, 0) from rfl)).1 rfl (hL.at (show _ = some (.ref 42) from rfl) (fun q => by cases q)) ?_
  refine lv_iconst hC.1 hC.2.1 (q_ok_at hok (show q_ft T_law_variable.2.2.2.2 1 = some (.iconst 0, 1, 0, 0) from rfl)).1 rfl ?_
  refine lv_aload_n hC.1 hC.2.1 (q_ok_at hok (show q_ft T_law_variable.2.2.2.2 2 = some (.aload_n 0, 1, 0, 0) from rfl)).1 rfl (hL.at (show _ = some (.ref 0) from rfl) (fun q => by cases q)) ?_
  refine lv_iload_n hC.1 hC.2.1 (q_ok_at hok (show q_ft T_law_variable.2.2.2.2 3 = some (.iload_n 1, 1, 0, 0) from rfl)).1 rfl (hL.at (show _ = some (.int a) from rfl) (fun q => by cases q)) ?_
  refine q_callX (T2 := T_TapedLines_variable) (d2 := d) (r2 := 1) (Q2 := q_e L E) (S := (M, L)) (o := 0) (As := [.int a]) (rest := [.int (iI 0), .ref 42]) (r := 1) (ls := [.ref 0, .int a, .ref 42, .null]) hok hC hW hL hc1 hc2 rfl rfl g_TapedLines_variable rfl rfl rfl rfl (Nat.le_of_ble_eq_true rfl) (by simp [Value.category]) (by simp [Value.category]) (Nat.le_of_ble_eq_true rfl) (Nat.le_refl _) (Nat.le_refl _) (fun v S h => by obtain ⟨_, _, h, -⟩ := h; cases h) hv (fun ec S' adr cell T' L' hq X hW2 hcell hobj hfc => ?_)
  obtain ⟨ec', M', h1, rfl, hE'⟩ := hq
  cases h1
  rcases hE _ _ hE' with rfl
  · exact q_handA (T := T_law_variable) (pc := 4) (ls := [.ref 0, .int a, .ref 42, .null]) (S := (M', L)) (z := 1) (ln := 1) hok hC hW2 hL (by omega) (by omega) X hcell hobj hfc (q_w 606 (by decide +kernel)) hhh (by decide) (by decide) (by decide) (Or.inl ⟨3, 0, 0, rfl, by decide, rfl⟩) rfl rfl rfl ⟨_, _, _, rfl, rfl, ⟨rfl, hE'⟩, rfl⟩
def tb_law_cell : qTb := [(0, .aload_n 2, 1, 0, 0), (1, .iconst 0, 1, 0, 0), (2, .aload_n 0, 1, 0, 0), (3, .iload_n 1, 1, 0, 0), (4, .invokevirtual 28, 3, 11, 0), (7, .i2l, 1, 0, 0), (8, .lastore, 1, 0, 0), (9, .goto 6, 3, 15, 0), (12, .astore_n 3, 1, 0, 0), (13, .iconst 1, 1, 0, 0), (14, .ireturn, 1, 0, 0), (15, .iconst 0, 1, 0, 0), (16, .ireturn, 1, 0, 0)]
def T_law_cell : qT := (⟨"TapedLinesLaw", "cell", "(LTapedLines;I[J)I"⟩, method_7_code, 4, some .int, tb_law_cell)
abbrev hh_cell : List (Nat × Nat × Nat × Nat) := [(0, 9, 12, 13)]
set_option maxRecDepth 100000 in
theorem ok_law_cell : q_ok T_law_cell = true := by decide +kernel
theorem cw_law_cell : Cond.codeWith T_law_cell.1 T_law_cell.2.1 T_law_cell.2.2.1 T_law_cell.2.2.2.1 hh_cell ∈ WG := q_w 853 (by decide +kernel)
set_option maxRecDepth 100000 in
theorem H_cell_in {l : Launch} {Γ : qG} {d : Nat} {M : qM} {L : Nat → Int64} {P : Int32 → qM → Prop} (a : Int32) (hv : V l Γ T_TapedLines_cell d 1 0 [.ref 0, .int a] [] (M, L) (q_i L P)) : VH l Γ T_law_cell hh_cell (d + 1) 1 0 [.ref 0, .int a, .ref 42, .null] [] (M, L) (q_h (fun x M' L' => x = iI 0 ∧ ∃ v, P v M' ∧ L' = vp_updL L 0 v.toInt64)) := VH.of (by
  refine V.run 4 (pc' := 4) (ls' := [.ref 0, .int a, .ref 42, .null]) (st' := [.int a, .ref 0, .int (iI 0), .ref 42]) (S' := (M, L)) rfl ?_
  refine V.callV (T2 := T_TapedLines_cell) (d2 := d) (r2 := 1) (Q2 := q_i L P) (As := [.int a]) (rest := [.int (iI 0), .ref 42]) rfl rfl g_TapedLines_cell rfl rfl rfl rfl (Nat.le_of_ble_eq_true rfl) (by simp [Value.category]) (by simp [Value.category]) (Nat.le_of_ble_eq_true rfl) (Nat.le_refl _) (Nat.le_refl _) (fun ec S h => by obtain ⟨_, _, h, -⟩ := h; cases h) hv (fun v S' h => ?_)
  obtain ⟨x, M', h1, rfl, h2⟩ := h
  cases h1
  refine V.i2l rfl ?_
  refine V.last rfl (iI_in (by decide) (by decide) (by decide)) ?_
  refine V.run 2 (pc' := 16) (ls' := [.ref 0, .int a, .ref 42, .null]) (st' := [.int (iI 0)]) (S' := (M', vp_updL L 0 x.toInt64)) rfl ?_
  exact V.iret rfl rfl ⟨_, _, _, rfl, rfl, rfl, x, h2, rfl⟩)
set_option maxRecDepth 100000 in
set_option maxHeartbeats 4000000 in
theorem H_cell_out {l : Launch} {Γ : qG} {d : Nat} {M : qM} {L : Nat → Int64} {E : Nat → qM → Prop} (a : Int32) (hE : ∀ ec M', E ec M' → ec = 0) (hv : V l Γ T_TapedLines_cell d 1 0 [.ref 0, .int a] [] (M, L) (q_e L E)) : VH l Γ T_law_cell hh_cell (d + 1) 1 0 [.ref 0, .int a, .ref 42, .null] [] (M, L) (q_h (fun x M' L' => ((x = iI 1 ∧ E 0 M')) ∧ L' = L)) := by
  intro A p e R s m args below meth c H locs cells slots Lr hok hC hW hL hc1 hc2 hhh
  refine lv_aload_n hC.1 hC.2.1 (q_ok_at hok (show q_ft T_law_cell.2.2.2.2 0 = some (.aload_n 2, 1, 0, 0) from rfl)).1 rfl (hL.at (show _ = some (.ref 42) from rfl) (fun q => by cases q)) ?_
  refine lv_iconst hC.1 hC.2.1 (q_ok_at hok (show q_ft T_law_cell.2.2.2.2 1 = some (.iconst 0, 1, 0, 0) from rfl)).1 rfl ?_
  refine lv_aload_n hC.1 hC.2.1 (q_ok_at hok (show q_ft T_law_cell.2.2.2.2 2 = some (.aload_n 0, 1, 0, 0) from rfl)).1 rfl (hL.at (show _ = some (.ref 0) from rfl) (fun q => by cases q)) ?_
  refine lv_iload_n hC.1 hC.2.1 (q_ok_at hok (show q_ft T_law_cell.2.2.2.2 3 = some (.iload_n 1, 1, 0, 0) from rfl)).1 rfl (hL.at (show _ = some (.int a) from rfl) (fun q => by cases q)) ?_
  refine q_callX (T2 := T_TapedLines_cell) (d2 := d) (r2 := 1) (Q2 := q_e L E) (S := (M, L)) (o := 0) (As := [.int a]) (rest := [.int (iI 0), .ref 42]) (r := 1) (ls := [.ref 0, .int a, .ref 42, .null]) hok hC hW hL hc1 hc2 rfl rfl g_TapedLines_cell rfl rfl rfl rfl (Nat.le_of_ble_eq_true rfl) (by simp [Value.category]) (by simp [Value.category]) (Nat.le_of_ble_eq_true rfl) (Nat.le_refl _) (Nat.le_refl _) (fun v S h => by obtain ⟨_, _, h, -⟩ := h; cases h) hv (fun ec S' adr cell T' L' hq X hW2 hcell hobj hfc => ?_)
  obtain ⟨ec', M', h1, rfl, hE'⟩ := hq
  cases h1
  rcases hE _ _ hE' with rfl
  · exact q_handA (T := T_law_cell) (pc := 4) (ls := [.ref 0, .int a, .ref 42, .null]) (S := (M', L)) (z := 1) (ln := 1) hok hC hW2 hL (by omega) (by omega) X hcell hobj hfc (q_w 606 (by decide +kernel)) hhh (by decide) (by decide) (by decide) (Or.inl ⟨3, 0, 0, rfl, by decide, rfl⟩) rfl rfl rfl ⟨_, _, _, rfl, rfl, ⟨rfl, hE'⟩, rfl⟩
def tb_law_wobble : qTb := [(0, .aload_n 0, 1, 0, 0), (1, .iload_n 1, 1, 0, 0), (2, .iload_n 2, 1, 0, 0), (3, .invokevirtual 31, 3, 15, 0), (6, .goto 6, 3, 12, 0), (9, .astore_n 3, 1, 0, 0), (10, .iconst 1, 1, 0, 0), (11, .ireturn, 1, 0, 0), (12, .iconst 0, 1, 0, 0), (13, .ireturn, 1, 0, 0)]
def T_law_wobble : qT := (⟨"TapedLinesLaw", "wobble", "(LTapedLines;II)I"⟩, method_8_code, 4, some .int, tb_law_wobble)
abbrev hh_wobble : List (Nat × Nat × Nat × Nat) := [(0, 6, 9, 21)]
set_option maxRecDepth 100000 in
theorem ok_law_wobble : q_ok T_law_wobble = true := by decide +kernel
theorem cw_law_wobble : Cond.codeWith T_law_wobble.1 T_law_wobble.2.1 T_law_wobble.2.2.1 T_law_wobble.2.2.2.1 hh_wobble ∈ WG := q_w 860 (by decide +kernel)
set_option maxRecDepth 100000 in
theorem H_wobble_in {l : Launch} {Γ : qG} {d : Nat} {M : qM} {L : Nat → Int64} {P : qM → Prop} (a b : Int32) (hv : V l Γ T_TapedLines_wobble d 1 0 [.ref 0, .int a, .int b] [] (M, L) (q_n L P)) : VH l Γ T_law_wobble hh_wobble (d + 1) 1 0 [.ref 0, .int a, .int b, .null] [] (M, L) (q_h (fun x M' L' => x = iI 0 ∧ P M' ∧ L' = L)) := VH.of (by
  refine V.run 3 (pc' := 3) (ls' := [.ref 0, .int a, .int b, .null]) (st' := [.int b, .int a, .ref 0]) (S' := (M, L)) rfl ?_
  refine V.callV (T2 := T_TapedLines_wobble) (d2 := d) (r2 := 1) (Q2 := q_n L P) (As := [.int a, .int b]) (rest := []) rfl rfl g_TapedLines_wobble rfl rfl rfl rfl (Nat.le_of_ble_eq_true rfl) (by simp [Value.category]) (by simp [Value.category]) (Nat.le_of_ble_eq_true rfl) (Nat.le_refl _) (Nat.le_refl _) (fun ec S h => by obtain ⟨_, h, -⟩ := h; cases h) hv (fun v S' h => ?_)
  obtain ⟨M', h1, rfl, h2⟩ := h
  cases h1
  refine V.run 2 (pc' := 13) (ls' := [.ref 0, .int a, .int b, .null]) (st' := [.int (iI 0)]) (S' := (M', L)) rfl ?_
  exact V.iret rfl rfl ⟨_, _, _, rfl, rfl, rfl, h2, rfl⟩)
set_option maxRecDepth 100000 in
set_option maxHeartbeats 4000000 in
theorem H_wobble_out {l : Launch} {Γ : qG} {d : Nat} {M : qM} {L : Nat → Int64} {E : Nat → qM → Prop} (a b : Int32) (hE : ∀ ec M', E ec M' → ec = 1) (hv : V l Γ T_TapedLines_wobble d 1 0 [.ref 0, .int a, .int b] [] (M, L) (q_e L E)) : VH l Γ T_law_wobble hh_wobble (d + 1) 1 0 [.ref 0, .int a, .int b, .null] [] (M, L) (q_h (fun x M' L' => ((x = iI 1 ∧ E 1 M')) ∧ L' = L)) := by
  intro A p e R s m args below meth c H locs cells slots Lr hok hC hW hL hc1 hc2 hhh
  refine lv_aload_n hC.1 hC.2.1 (q_ok_at hok (show q_ft T_law_wobble.2.2.2.2 0 = some (.aload_n 0, 1, 0, 0) from rfl)).1 rfl (hL.at (show _ = some (.ref 0) from rfl) (fun q => by cases q)) ?_
  refine lv_iload_n hC.1 hC.2.1 (q_ok_at hok (show q_ft T_law_wobble.2.2.2.2 1 = some (.iload_n 1, 1, 0, 0) from rfl)).1 rfl (hL.at (show _ = some (.int a) from rfl) (fun q => by cases q)) ?_
  refine lv_iload_n hC.1 hC.2.1 (q_ok_at hok (show q_ft T_law_wobble.2.2.2.2 2 = some (.iload_n 2, 1, 0, 0) from rfl)).1 rfl (hL.at (show _ = some (.int b) from rfl) (fun q => by cases q)) ?_
  refine q_callX (T2 := T_TapedLines_wobble) (d2 := d) (r2 := 1) (Q2 := q_e L E) (S := (M, L)) (o := 0) (As := [.int a, .int b]) (rest := []) (r := 1) (ls := [.ref 0, .int a, .int b, .null]) hok hC hW hL hc1 hc2 rfl rfl g_TapedLines_wobble rfl rfl rfl rfl (Nat.le_of_ble_eq_true rfl) (by simp [Value.category]) (by simp [Value.category]) (Nat.le_of_ble_eq_true rfl) (Nat.le_refl _) (Nat.le_refl _) (fun v S h => by obtain ⟨_, _, h, -⟩ := h; cases h) hv (fun ec S' adr cell T' L' hq X hW2 hcell hobj hfc => ?_)
  obtain ⟨ec', M', h1, rfl, hE'⟩ := hq
  cases h1
  rcases hE _ _ hE' with rfl
  · exact q_handA (T := T_law_wobble) (pc := 3) (ls := [.ref 0, .int a, .int b, .null]) (S := (M', L)) (z := 1) (ln := 1) hok hC hW2 hL (by omega) (by omega) X hcell hobj hfc (q_w 696 (by decide +kernel)) hhh (by decide) (by decide) (by decide) (Or.inl ⟨3, 0, 0, rfl, by decide, rfl⟩) rfl rfl rfl ⟨_, _, _, rfl, rfl, ⟨rfl, hE'⟩, rfl⟩
def tb_law_wave : qTb := [(0, .aload_n 2, 1, 0, 0), (1, .iconst 0, 1, 0, 0), (2, .aload_n 0, 1, 0, 0), (3, .iload_n 1, 1, 0, 0), (4, .invokevirtual 35, 3, 17, 0), (7, .i2l, 1, 0, 0), (8, .lastore, 1, 0, 0), (9, .goto 6, 3, 15, 0), (12, .astore_n 3, 1, 0, 0), (13, .iconst 1, 1, 0, 0), (14, .ireturn, 1, 0, 0), (15, .iconst 0, 1, 0, 0), (16, .ireturn, 1, 0, 0)]
def T_law_wave : qT := (⟨"TapedLinesLaw", "wave", "(LTapedLines;I[J)I"⟩, method_9_code, 4, some .int, tb_law_wave)
abbrev hh_wave : List (Nat × Nat × Nat × Nat) := [(0, 9, 12, 13)]
set_option maxRecDepth 100000 in
theorem ok_law_wave : q_ok T_law_wave = true := by decide +kernel
theorem cw_law_wave : Cond.codeWith T_law_wave.1 T_law_wave.2.1 T_law_wave.2.2.1 T_law_wave.2.2.2.1 hh_wave ∈ WG := q_w 878 (by decide +kernel)
set_option maxRecDepth 100000 in
theorem H_wave_in {l : Launch} {Γ : qG} {d : Nat} {M : qM} {L : Nat → Int64} {P : Int32 → qM → Prop} (a : Int32) (hv : V l Γ T_TapedLines_wave d 1 0 [.ref 0, .int a] [] (M, L) (q_i L P)) : VH l Γ T_law_wave hh_wave (d + 1) 1 0 [.ref 0, .int a, .ref 42, .null] [] (M, L) (q_h (fun x M' L' => x = iI 0 ∧ ∃ v, P v M' ∧ L' = vp_updL L 0 v.toInt64)) := VH.of (by
  refine V.run 4 (pc' := 4) (ls' := [.ref 0, .int a, .ref 42, .null]) (st' := [.int a, .ref 0, .int (iI 0), .ref 42]) (S' := (M, L)) rfl ?_
  refine V.callV (T2 := T_TapedLines_wave) (d2 := d) (r2 := 1) (Q2 := q_i L P) (As := [.int a]) (rest := [.int (iI 0), .ref 42]) rfl rfl g_TapedLines_wave rfl rfl rfl rfl (Nat.le_of_ble_eq_true rfl) (by simp [Value.category]) (by simp [Value.category]) (Nat.le_of_ble_eq_true rfl) (Nat.le_refl _) (Nat.le_refl _) (fun ec S h => by obtain ⟨_, _, h, -⟩ := h; cases h) hv (fun v S' h => ?_)
  obtain ⟨x, M', h1, rfl, h2⟩ := h
  cases h1
  refine V.i2l rfl ?_
  refine V.last rfl (iI_in (by decide) (by decide) (by decide)) ?_
  refine V.run 2 (pc' := 16) (ls' := [.ref 0, .int a, .ref 42, .null]) (st' := [.int (iI 0)]) (S' := (M', vp_updL L 0 x.toInt64)) rfl ?_
  exact V.iret rfl rfl ⟨_, _, _, rfl, rfl, rfl, x, h2, rfl⟩)
set_option maxRecDepth 100000 in
set_option maxHeartbeats 4000000 in
theorem H_wave_out {l : Launch} {Γ : qG} {d : Nat} {M : qM} {L : Nat → Int64} {E : Nat → qM → Prop} (a : Int32) (hE : ∀ ec M', E ec M' → ec = 0) (hv : V l Γ T_TapedLines_wave d 1 0 [.ref 0, .int a] [] (M, L) (q_e L E)) : VH l Γ T_law_wave hh_wave (d + 1) 1 0 [.ref 0, .int a, .ref 42, .null] [] (M, L) (q_h (fun x M' L' => ((x = iI 1 ∧ E 0 M')) ∧ L' = L)) := by
  intro A p e R s m args below meth c H locs cells slots Lr hok hC hW hL hc1 hc2 hhh
  refine lv_aload_n hC.1 hC.2.1 (q_ok_at hok (show q_ft T_law_wave.2.2.2.2 0 = some (.aload_n 2, 1, 0, 0) from rfl)).1 rfl (hL.at (show _ = some (.ref 42) from rfl) (fun q => by cases q)) ?_
  refine lv_iconst hC.1 hC.2.1 (q_ok_at hok (show q_ft T_law_wave.2.2.2.2 1 = some (.iconst 0, 1, 0, 0) from rfl)).1 rfl ?_
  refine lv_aload_n hC.1 hC.2.1 (q_ok_at hok (show q_ft T_law_wave.2.2.2.2 2 = some (.aload_n 0, 1, 0, 0) from rfl)).1 rfl (hL.at (show _ = some (.ref 0) from rfl) (fun q => by cases q)) ?_
  refine lv_iload_n hC.1 hC.2.1 (q_ok_at hok (show q_ft T_law_wave.2.2.2.2 3 = some (.iload_n 1, 1, 0, 0) from rfl)).1 rfl (hL.at (show _ = some (.int a) from rfl) (fun q => by cases q)) ?_
  refine q_callX (T2 := T_TapedLines_wave) (d2 := d) (r2 := 1) (Q2 := q_e L E) (S := (M, L)) (o := 0) (As := [.int a]) (rest := [.int (iI 0), .ref 42]) (r := 1) (ls := [.ref 0, .int a, .ref 42, .null]) hok hC hW hL hc1 hc2 rfl rfl g_TapedLines_wave rfl rfl rfl rfl (Nat.le_of_ble_eq_true rfl) (by simp [Value.category]) (by simp [Value.category]) (Nat.le_of_ble_eq_true rfl) (Nat.le_refl _) (Nat.le_refl _) (fun v S h => by obtain ⟨_, _, h, -⟩ := h; cases h) hv (fun ec S' adr cell T' L' hq X hW2 hcell hobj hfc => ?_)
  obtain ⟨ec', M', h1, rfl, hE'⟩ := hq
  cases h1
  rcases hE _ _ hE' with rfl
  · exact q_handA (T := T_law_wave) (pc := 4) (ls := [.ref 0, .int a, .ref 42, .null]) (S := (M', L)) (z := 1) (ln := 1) hok hC hW2 hL (by omega) (by omega) X hcell hobj hfc (q_w 606 (by decide +kernel)) hhh (by decide) (by decide) (by decide) (Or.inl ⟨3, 0, 0, rfl, by decide, rfl⟩) rfl rfl rfl ⟨_, _, _, rfl, rfl, ⟨rfl, hE'⟩, rfl⟩
def tb_law_setWave : qTb := [(0, .aload_n 3, 1, 0, 0), (1, .iconst 0, 1, 0, 0), (2, .aload_n 0, 1, 0, 0), (3, .iload_n 1, 1, 0, 0), (4, .iload_n 2, 1, 0, 0), (5, .invokevirtual 38, 3, 18, 0), (8, .i2l, 1, 0, 0), (9, .lastore, 1, 0, 0), (10, .goto 11, 3, 21, 0), (13, .astore 4, 2, 0, 0), (15, .iconst 1, 1, 0, 0), (16, .ireturn, 1, 0, 0), (17, .astore 4, 2, 0, 0), (19, .iconst 2, 1, 0, 0), (20, .ireturn, 1, 0, 0), (21, .iconst 0, 1, 0, 0), (22, .ireturn, 1, 0, 0)]
def T_law_setWave : qT := (⟨"TapedLinesLaw", "setWave", "(LTapedLines;II[J)I"⟩, method_10_code, 5, some .int, tb_law_setWave)
abbrev hh_setWave : List (Nat × Nat × Nat × Nat) := [(0, 10, 13, 13), (0, 10, 17, 21)]
set_option maxRecDepth 100000 in
theorem ok_law_setWave : q_ok T_law_setWave = true := by decide +kernel
theorem cw_law_setWave : Cond.codeWith T_law_setWave.1 T_law_setWave.2.1 T_law_setWave.2.2.1 T_law_setWave.2.2.2.1 hh_setWave ∈ WG := q_w 885 (by decide +kernel)
set_option maxRecDepth 100000 in
theorem H_setWave_in {l : Launch} {Γ : qG} {d : Nat} {M : qM} {L : Nat → Int64} {P : Int32 → qM → Prop} (a b : Int32) (hv : V l Γ T_TapedLines_setWave d 1 0 [.ref 0, .int a, .int b, .null] [] (M, L) (q_i L P)) : VH l Γ T_law_setWave hh_setWave (d + 1) 1 0 [.ref 0, .int a, .int b, .ref 42, .null] [] (M, L) (q_h (fun x M' L' => x = iI 0 ∧ ∃ v, P v M' ∧ L' = vp_updL L 0 v.toInt64)) := VH.of (by
  refine V.run 5 (pc' := 5) (ls' := [.ref 0, .int a, .int b, .ref 42, .null]) (st' := [.int b, .int a, .ref 0, .int (iI 0), .ref 42]) (S' := (M, L)) rfl ?_
  refine V.callV (T2 := T_TapedLines_setWave) (d2 := d) (r2 := 1) (Q2 := q_i L P) (As := [.int a, .int b]) (rest := [.int (iI 0), .ref 42]) rfl rfl g_TapedLines_setWave rfl rfl rfl rfl (Nat.le_of_ble_eq_true rfl) (by simp [Value.category]) (by simp [Value.category]) (Nat.le_of_ble_eq_true rfl) (Nat.le_refl _) (Nat.le_refl _) (fun ec S h => by obtain ⟨_, _, h, -⟩ := h; cases h) hv (fun v S' h => ?_)
  obtain ⟨x, M', h1, rfl, h2⟩ := h
  cases h1
  refine V.i2l rfl ?_
  refine V.last rfl (iI_in (by decide) (by decide) (by decide)) ?_
  refine V.run 2 (pc' := 22) (ls' := [.ref 0, .int a, .int b, .ref 42, .null]) (st' := [.int (iI 0)]) (S' := (M', vp_updL L 0 x.toInt64)) rfl ?_
  exact V.iret rfl rfl ⟨_, _, _, rfl, rfl, rfl, x, h2, rfl⟩)
set_option maxRecDepth 100000 in
set_option maxHeartbeats 4000000 in
theorem H_setWave_out {l : Launch} {Γ : qG} {d : Nat} {M : qM} {L : Nat → Int64} {E : Nat → qM → Prop} (a b : Int32) (hE : ∀ ec M', E ec M' → ec = 0 ∨ ec = 1) (hv : V l Γ T_TapedLines_setWave d 1 0 [.ref 0, .int a, .int b, .null] [] (M, L) (q_e L E)) : VH l Γ T_law_setWave hh_setWave (d + 1) 1 0 [.ref 0, .int a, .int b, .ref 42, .null] [] (M, L) (q_h (fun x M' L' => ((x = iI 1 ∧ E 0 M') ∨ (x = iI 2 ∧ E 1 M')) ∧ L' = L)) := by
  intro A p e R s m args below meth c H locs cells slots Lr hok hC hW hL hc1 hc2 hhh
  refine lv_aload_n hC.1 hC.2.1 (q_ok_at hok (show q_ft T_law_setWave.2.2.2.2 0 = some (.aload_n 3, 1, 0, 0) from rfl)).1 rfl (hL.at (show _ = some (.ref 42) from rfl) (fun q => by cases q)) ?_
  refine lv_iconst hC.1 hC.2.1 (q_ok_at hok (show q_ft T_law_setWave.2.2.2.2 1 = some (.iconst 0, 1, 0, 0) from rfl)).1 rfl ?_
  refine lv_aload_n hC.1 hC.2.1 (q_ok_at hok (show q_ft T_law_setWave.2.2.2.2 2 = some (.aload_n 0, 1, 0, 0) from rfl)).1 rfl (hL.at (show _ = some (.ref 0) from rfl) (fun q => by cases q)) ?_
  refine lv_iload_n hC.1 hC.2.1 (q_ok_at hok (show q_ft T_law_setWave.2.2.2.2 3 = some (.iload_n 1, 1, 0, 0) from rfl)).1 rfl (hL.at (show _ = some (.int a) from rfl) (fun q => by cases q)) ?_
  refine lv_iload_n hC.1 hC.2.1 (q_ok_at hok (show q_ft T_law_setWave.2.2.2.2 4 = some (.iload_n 2, 1, 0, 0) from rfl)).1 rfl (hL.at (show _ = some (.int b) from rfl) (fun q => by cases q)) ?_
  refine q_callX (T2 := T_TapedLines_setWave) (d2 := d) (r2 := 1) (Q2 := q_e L E) (S := (M, L)) (o := 0) (As := [.int a, .int b]) (rest := [.int (iI 0), .ref 42]) (r := 1) (ls := [.ref 0, .int a, .int b, .ref 42, .null]) hok hC hW hL hc1 hc2 rfl rfl g_TapedLines_setWave rfl rfl rfl rfl (Nat.le_of_ble_eq_true rfl) (by simp [Value.category]) (by simp [Value.category]) (Nat.le_of_ble_eq_true rfl) (Nat.le_refl _) (Nat.le_refl _) (fun v S h => by obtain ⟨_, _, h, -⟩ := h; cases h) hv (fun ec S' adr cell T' L' hq X hW2 hcell hobj hfc => ?_)
  obtain ⟨ec', M', h1, rfl, hE'⟩ := hq
  cases h1
  rcases hE _ _ hE' with rfl | rfl
  · exact q_handA (T := T_law_setWave) (pc := 5) (ls := [.ref 0, .int a, .int b, .ref 42, .null]) (S := (M', L)) (z := 1) (ln := 2) hok hC hW2 hL (by omega) (by omega) X hcell hobj hfc (q_w 606 (by decide +kernel)) hhh (by decide) (by decide) (by decide) (Or.inr ⟨4, 0, 0, rfl, by decide, rfl⟩) rfl rfl rfl ⟨_, _, _, rfl, rfl, Or.inl ⟨rfl, hE'⟩, rfl⟩
  · exact q_handB (T := T_law_setWave) (pc := 5) (ls := [.ref 0, .int a, .int b, .ref 42, .null]) (S := (M', L)) (ec1 := 0) (z := 2) (ln := 2) hok hC hW2 hL (by omega) (by omega) X hcell hobj hfc (fun c1 hc => hC.2.2.2.2.2.2.2.1.2.2.2.2.2.2.2.2 1 0 (by decide) _ _ hfc hc) (q_w 606 (by decide +kernel)) (q_w 696 (by decide +kernel)) hhh (by decide) (by decide) (by decide) (by decide) (by decide) (by decide) (Or.inr ⟨4, 0, 0, rfl, by decide, rfl⟩) rfl rfl rfl ⟨_, _, _, rfl, rfl, Or.inr ⟨rfl, hE'⟩, rfl⟩
