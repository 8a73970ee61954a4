set_option maxRecDepth 100000 in
set_option maxHeartbeats 4000000 in
theorem s_TapedLinesModel_thrown_0 {l : Launch} {Γ : qG} {d r : Nat} {M : qM} {L : Nat → Int64} {P : Int32 → qM → Prop} (h : P (M 27 0) M) : V l Γ T_TapedLinesModel_thrown d r 0 [.ref 27] [] (M, L) (q_i L P) := by
  refine V.run 2 (pc' := 4) (ls' := [.ref 27]) (st' := [.int (M 27 0)]) (S' := (M, L)) rfl ?_
  exact V.iret rfl rfl ⟨_, _, rfl, rfl, h⟩
set_option maxRecDepth 100000 in
set_option maxHeartbeats 4000000 in
theorem s_TapedLinesModel_refused_0 {l : Launch} {Γ : qG} {d r : Nat} {M : qM} {L : Nat → Int64} {P : Int32 → qM → Prop} (a b : Int32) (h : (a = 0 → (b = 0 → V l Γ T_TapedLinesModel_refused d r 18 [.ref 27, .null, .null] [.int (iI 0), .ref 27] (M, L) (q_i L P)) ∧ (¬ b = 0 → V l Γ T_TapedLinesModel_refused d r 18 [.ref 27, .null, .null] [.int (iI 2), .ref 27] (M, L) (q_i L P))) ∧ (¬ a = 0 → V l Γ T_TapedLinesModel_refused d r 18 [.ref 27, .null, .null] [.int (iI 1), .ref 27] (M, L) (q_i L P))) : V l Γ T_TapedLinesModel_refused d r 0 [.ref 27, .int a, .int b] [] (M, L) (q_i L P) := by
  refine V.run 2 (pc' := 2) (ls' := [.ref 27, .int a, .int b]) (st' := [.int a, .ref 27]) (S' := (M, L)) rfl ?_
  refine V.ifc (cd := .eq) rfl (fun hc => ?_) (fun hc => ?_)
  · have h := h.1 hc
    refine V.run 1 (pc' := 10) (ls' := [.ref 27, .int a, .int b]) (st' := [.int b, .ref 27]) (S' := (M, L)) rfl ?_
    refine V.ifc (cd := .eq) rfl (fun hc => ?_) (fun hc => ?_)
    · have h := h.1 hc
      refine V.run 1 (pc' := 18) (ls' := [.ref 27, .int a, .int b]) (st' := [.int (iI 0), .ref 27]) (S' := (M, L)) rfl ?_
      refine V.forget (ls' := [.ref 27, .null, .null]) ⟨Or.inr rfl, Or.inl rfl, Or.inl rfl, trivial⟩ ?_
      exact h
    · have h := h.2 hc
      refine V.run 2 (pc' := 18) (ls' := [.ref 27, .int a, .int b]) (st' := [.int (iI 2), .ref 27]) (S' := (M, L)) rfl ?_
      refine V.forget (ls' := [.ref 27, .null, .null]) ⟨Or.inr rfl, Or.inl rfl, Or.inl rfl, trivial⟩ ?_
      exact h
  · have h := h.2 hc
    refine V.run 2 (pc' := 18) (ls' := [.ref 27, .int a, .int b]) (st' := [.int (iI 1), .ref 27]) (S' := (M, L)) rfl ?_
    refine V.forget (ls' := [.ref 27, .null, .null]) ⟨Or.inr rfl, Or.inl rfl, Or.inl rfl, trivial⟩ ?_
    exact h
set_option maxRecDepth 100000 in
set_option maxHeartbeats 4000000 in
theorem s_TapedLinesModel_refused_18 {l : Launch} {Γ : qG} {d r : Nat} {M : qM} {L : Nat → Int64} {P : Int32 → qM → Prop} (w0 : Int32) (h : (w0 ≤ 0 → P (iI 0) (q_up M 27 0 w0)) ∧ (¬ w0 ≤ 0 → P (iI 1) (q_up M 27 0 w0))) : V l Γ T_TapedLinesModel_refused d r 18 [.ref 27, .null, .null] [.int w0, .ref 27] (M, L) (q_i L P) := by
  refine V.run 3 (pc' := 25) (ls' := [.ref 27, .null, .null]) (st' := [.int w0]) (S' := ((q_up M 27 0 w0), L)) rfl ?_
  refine V.ifc (cd := .le) rfl (fun hc => ?_) (fun hc => ?_)
  · have h := h.1 hc
    refine V.run 1 (pc' := 33) (ls' := [.ref 27, .null, .null]) (st' := [.int (iI 0)]) (S' := ((q_up M 27 0 w0), L)) rfl ?_
    exact V.zret rfl rfl (by decide) ⟨_, _, rfl, rfl, h⟩
  · have h := h.2 hc
    refine V.run 2 (pc' := 33) (ls' := [.ref 27, .null, .null]) (st' := [.int (iI 1)]) (S' := ((q_up M 27 0 w0), L)) rfl ?_
    exact V.zret rfl rfl (by decide) ⟨_, _, rfl, rfl, h⟩
set_option maxRecDepth 100000 in
set_option maxHeartbeats 4000000 in
theorem s_TapedLinesModel_type_0 {l : Launch} {Γ : qG} {d r : Nat} {M : qM} {L : Nat → Int64} {P : Int32 → qM → Prop} (a : Int32) (h : (a < (iI 32) → P (iI 0) (q_up M 27 0 (iI 0))) ∧ (¬ a < (iI 32) → ((iI 126) < a → P (iI 0) (q_up M 27 0 (iI 0))) ∧ (¬ (iI 126) < a → (¬ (M 27 1) = (iI 60) → vp_in (M 27 1) 60 ∧ P (iI 1) (q_up (q_up (q_up M 27 0 (iI 0)) 28 ((M 27 1)).toNatClampNeg a) 27 1 ((M 27 1) + (iI 1)))) ∧ (¬ (¬ (M 27 1) = (iI 60)) → P (iI 0) (q_up M 27 0 (iI 0)))))) : V l Γ T_TapedLinesModel_type d r 0 [.ref 27, .int a] [] (M, L) (q_i L P) := by
  refine V.run 5 (pc' := 8) (ls' := [.ref 27, .int a]) (st' := [.int (iI 32), .int a]) (S' := ((q_up M 27 0 (iI 0)), L)) rfl ?_
  refine V.icmp (cd := .lt) rfl (fun hc => ?_) (fun hc => ?_)
  · have h := h.1 hc
    refine V.run 1 (pc' := 27) (ls' := [.ref 27, .int a]) (st' := [.int (iI 0)]) (S' := ((q_up M 27 0 (iI 0)), L)) rfl ?_
    exact V.zret rfl rfl (by decide) ⟨_, _, rfl, rfl, h⟩
  · have h := h.2 hc
    refine V.run 2 (pc' := 14) (ls' := [.ref 27, .int a]) (st' := [.int (iI 126), .int a]) (S' := ((q_up M 27 0 (iI 0)), L)) rfl ?_
    refine V.icmp (cd := .gt) rfl (fun hc => ?_) (fun hc => ?_)
    · have h := h.1 hc
      refine V.run 1 (pc' := 27) (ls' := [.ref 27, .int a]) (st' := [.int (iI 0)]) (S' := ((q_up M 27 0 (iI 0)), L)) rfl ?_
      exact V.zret rfl rfl (by decide) ⟨_, _, rfl, rfl, h⟩
    · have h := h.2 hc
      refine V.run 3 (pc' := 23) (ls' := [.ref 27, .int a]) (st' := [.int (iI 60), .int (M 27 1)]) (S' := ((q_up M 27 0 (iI 0)), L)) rfl ?_
      refine V.icmp (cd := .ne) rfl (fun hc => ?_) (fun hc => ?_)
      · have h := h.1 hc
        refine V.run 5 (pc' := 37) (ls' := [.ref 27, .int a]) (st' := [.int a, .int (M 27 1), .ref 28]) (S' := ((q_up M 27 0 (iI 0)), L)) rfl ?_
        refine V.iast rfl rfl h.1 ?_
        have h := h.2
        refine V.run 7 (pc' := 49) (ls' := [.ref 27, .int a]) (st' := [.int (iI 1)]) (S' := ((q_up (q_up (q_up M 27 0 (iI 0)) 28 ((M 27 1)).toNatClampNeg a) 27 1 ((M 27 1) + (iI 1))), L)) rfl ?_
        exact V.zret rfl rfl (by decide) ⟨_, _, rfl, rfl, h⟩
      · have h := h.2 hc
        refine V.run 1 (pc' := 27) (ls' := [.ref 27, .int a]) (st' := [.int (iI 0)]) (S' := ((q_up M 27 0 (iI 0)), L)) rfl ?_
        exact V.zret rfl rfl (by decide) ⟨_, _, rfl, rfl, h⟩
set_option maxRecDepth 100000 in
set_option maxHeartbeats 4000000 in
theorem s_TapedLinesModel_wipe_0 {l : Launch} {Γ : qG} {d r : Nat} {M : qM} {L : Nat → Int64} {P : Int32 → qM → Prop} (h : P (M 27 1) (q_up (q_up M 27 0 (iI 0)) 27 1 (iI 0))) : V l Γ T_TapedLinesModel_wipe d r 0 [.ref 27, .null] [] (M, L) (q_i L P) := by
  refine V.run 10 (pc' := 16) (ls' := [.ref 27, .int (M 27 1)]) (st' := [.int (M 27 1)]) (S' := ((q_up (q_up M 27 0 (iI 0)) 27 1 (iI 0)), L)) rfl ?_
  exact V.iret rfl rfl ⟨_, _, rfl, rfl, h⟩
set_option maxRecDepth 100000 in
set_option maxHeartbeats 4000000 in
theorem s_TapedLinesModel_letter_0 {l : Launch} {Γ : qG} {d r : Nat} {M : qM} {L : Nat → Int64} {P : Int32 → qM → Prop} (a b : Int32) (h : ((a).toInt = 0 → V l Γ T_TapedLinesModel_letter d r 93 [.null, .int b, .int (iI 512487)] [] (M, L) (q_i L P)) ∧ (¬ (a).toInt = 0 → ((a).toInt = 1 → V l Γ T_TapedLinesModel_letter d r 93 [.null, .int b, .int (iI 2805223)] [] (M, L) (q_i L P)) ∧ (¬ (a).toInt = 1 → ((a).toInt = 2 → V l Γ T_TapedLinesModel_letter d r 93 [.null, .int b, .int (iI 489345202)] [] (M, L) (q_i L P)) ∧ (¬ (a).toInt = 2 → ((a).toInt = 3 → V l Γ T_TapedLinesModel_letter d r 93 [.null, .int b, .int (iI 201)] [] (M, L) (q_i L P)) ∧ (¬ (a).toInt = 3 → ((a).toInt = 4 → V l Γ T_TapedLinesModel_letter d r 93 [.null, .int b, .int (iI 18918)] [] (M, L) (q_i L P)) ∧ (¬ (a).toInt = 4 → ((a).toInt = 5 → V l Γ T_TapedLinesModel_letter d r 93 [.null, .int b, .int (iI 500)] [] (M, L) (q_i L P)) ∧ (¬ (a).toInt = 5 → ((a).toInt = 6 → V l Γ T_TapedLinesModel_letter d r 93 [.null, .int b, .int (iI 680110)] [] (M, L) (q_i L P)) ∧ (¬ (a).toInt = 6 → V l Γ T_TapedLinesModel_letter d r 93 [.null, .int b, .int (iI 4549)] [] (M, L) (q_i L P))))))))) : V l Γ T_TapedLinesModel_letter d r 0 [.int a, .int b, .null] [] (M, L) (q_i L P) := by
  refine V.run 3 (pc' := 3) (ls' := [.int a, .int b, .int (iI 0)]) (st' := [.int a]) (S' := (M, L)) rfl ?_
  refine V.swt rfl 89 [(0, 44), (1, 50), (2, 56), (3, 62), (4, 69), (5, 76), (6, 83)] (by decide) (by decide) (by decide) ?_
  refine q_swP.c (fun hc => ?_) (fun hc => ?_)
  · have h := h.1 hc
    refine V.run 3 (pc' := 93) (ls' := [.int a, .int b, .int (iI 512487)]) (st' := []) (S' := (M, L)) rfl ?_
    refine V.forget (ls' := [.null, .int b, .int (iI 512487)]) ⟨Or.inl rfl, Or.inr rfl, Or.inr rfl, trivial⟩ ?_
    exact h
  · have h := h.2 hc
    refine q_swP.c (fun hc => ?_) (fun hc => ?_)
    · have h := h.1 hc
      refine V.run 3 (pc' := 93) (ls' := [.int a, .int b, .int (iI 2805223)]) (st' := []) (S' := (M, L)) rfl ?_
      refine V.forget (ls' := [.null, .int b, .int (iI 2805223)]) ⟨Or.inl rfl, Or.inr rfl, Or.inr rfl, trivial⟩ ?_
      exact h
    · have h := h.2 hc
      refine q_swP.c (fun hc => ?_) (fun hc => ?_)
      · have h := h.1 hc
        refine V.run 3 (pc' := 93) (ls' := [.int a, .int b, .int (iI 489345202)]) (st' := []) (S' := (M, L)) rfl ?_
        refine V.forget (ls' := [.null, .int b, .int (iI 489345202)]) ⟨Or.inl rfl, Or.inr rfl, Or.inr rfl, trivial⟩ ?_
        exact h
      · have h := h.2 hc
        refine q_swP.c (fun hc => ?_) (fun hc => ?_)
        · have h := h.1 hc
          refine V.run 3 (pc' := 93) (ls' := [.int a, .int b, .int (iI 201)]) (st' := []) (S' := (M, L)) rfl ?_
          refine V.forget (ls' := [.null, .int b, .int (iI 201)]) ⟨Or.inl rfl, Or.inr rfl, Or.inr rfl, trivial⟩ ?_
          exact h
        · have h := h.2 hc
          refine q_swP.c (fun hc => ?_) (fun hc => ?_)
          · have h := h.1 hc
            refine V.run 3 (pc' := 93) (ls' := [.int a, .int b, .int (iI 18918)]) (st' := []) (S' := (M, L)) rfl ?_
            refine V.forget (ls' := [.null, .int b, .int (iI 18918)]) ⟨Or.inl rfl, Or.inr rfl, Or.inr rfl, trivial⟩ ?_
            exact h
          · have h := h.2 hc
            refine q_swP.c (fun hc => ?_) (fun hc => ?_)
            · have h := h.1 hc
              refine V.run 3 (pc' := 93) (ls' := [.int a, .int b, .int (iI 500)]) (st' := []) (S' := (M, L)) rfl ?_
              refine V.forget (ls' := [.null, .int b, .int (iI 500)]) ⟨Or.inl rfl, Or.inr rfl, Or.inr rfl, trivial⟩ ?_
              exact h
            · have h := h.2 hc
              refine q_swP.c (fun hc => ?_) (fun hc => ?_)
              · have h := h.1 hc
                refine V.run 3 (pc' := 93) (ls' := [.int a, .int b, .int (iI 680110)]) (st' := []) (S' := (M, L)) rfl ?_
                refine V.forget (ls' := [.null, .int b, .int (iI 680110)]) ⟨Or.inl rfl, Or.inr rfl, Or.inr rfl, trivial⟩ ?_
                exact h
              · have h := h.2 hc
                refine q_swP.e ?_
                refine V.run 2 (pc' := 93) (ls' := [.int a, .int b, .int (iI 4549)]) (st' := []) (S' := (M, L)) rfl ?_
                refine V.forget (ls' := [.null, .int b, .int (iI 4549)]) ⟨Or.inl rfl, Or.inr rfl, Or.inr rfl, trivial⟩ ?_
                exact h
set_option maxRecDepth 100000 in
set_option maxHeartbeats 4000000 in
theorem s_TapedLinesModel_letter_93 {l : Launch} {Γ : qG} {d r : Nat} {M : qM} {L : Nat → Int64} {P : Int32 → qM → Prop} (v1 v2 : Int32) (h : (v1 ≤ (iI 5) → P ((v2 >>> (((iI 5) * v1) &&& 31)) &&& (iI 31)) M) ∧ (¬ v1 ≤ (iI 5) → P (iI 0) M)) : V l Γ T_TapedLinesModel_letter d r 93 [.null, .int v1, .int v2] [] (M, L) (q_i L P) := by
  refine V.run 2 (pc' := 95) (ls' := [.null, .int v1, .int v2]) (st' := [.int (iI 5), .int v1]) (S' := (M, L)) rfl ?_
  refine V.icmp (cd := .le) rfl (fun hc => ?_) (fun hc => ?_)
  · have h := h.1 hc
    refine V.run 7 (pc' := 110) (ls' := [.null, .int v1, .int v2]) (st' := [.int ((v2 >>> (((iI 5) * v1) &&& 31)) &&& (iI 31))]) (S' := (M, L)) rfl ?_
    exact V.iret rfl rfl ⟨_, _, rfl, rfl, h⟩
  · have h := h.2 hc
    refine V.run 2 (pc' := 110) (ls' := [.null, .int v1, .int v2]) (st' := [.int (iI 0)]) (S' := (M, L)) rfl ?_
    exact V.iret rfl rfl ⟨_, _, rfl, rfl, h⟩
set_option maxRecDepth 100000 in
set_option maxHeartbeats 4000000 in
theorem s_TapedLinesModel_isDigit_0 {l : Launch} {Γ : qG} {d r : Nat} {M : qM} {L : Nat → Int64} {P : Int32 → qM → Prop} (a : Int32) (h : (a < (iI 48) → P (iI 0) M) ∧ (¬ a < (iI 48) → ((iI 57) < a → P (iI 0) M) ∧ (¬ (iI 57) < a → P (iI 1) M))) : V l Γ T_TapedLinesModel_isDigit d r 0 [.int a] [] (M, L) (q_i L P) := by
  refine V.run 2 (pc' := 3) (ls' := [.int a]) (st' := [.int (iI 48), .int a]) (S' := (M, L)) rfl ?_
  refine V.icmp (cd := .lt) rfl (fun hc => ?_) (fun hc => ?_)
  · have h := h.1 hc
    refine V.run 1 (pc' := 17) (ls' := [.int a]) (st' := [.int (iI 0)]) (S' := (M, L)) rfl ?_
    exact V.zret rfl rfl (by decide) ⟨_, _, rfl, rfl, h⟩
  · have h := h.2 hc
    refine V.run 2 (pc' := 9) (ls' := [.int a]) (st' := [.int (iI 57), .int a]) (S' := (M, L)) rfl ?_
    refine V.icmp (cd := .gt) rfl (fun hc => ?_) (fun hc => ?_)
    · have h := h.1 hc
      refine V.run 1 (pc' := 17) (ls' := [.int a]) (st' := [.int (iI 0)]) (S' := (M, L)) rfl ?_
      exact V.zret rfl rfl (by decide) ⟨_, _, rfl, rfl, h⟩
    · have h := h.2 hc
      refine V.run 2 (pc' := 17) (ls' := [.int a]) (st' := [.int (iI 1)]) (S' := (M, L)) rfl ?_
      exact V.zret rfl rfl (by decide) ⟨_, _, rfl, rfl, h⟩
set_option maxRecDepth 100000 in
set_option maxHeartbeats 4000000 in
theorem s_TapedLinesModel_isVariable_0 {l : Launch} {Γ : qG} {d r : Nat} {M : qM} {L : Nat → Int64} {P : Int32 → qM → Prop} (a : Int32) (h : (a < (iI 97) → P (iI 0) M) ∧ (¬ a < (iI 97) → ((iI 104) < a → P (iI 0) M) ∧ (¬ (iI 104) < a → P (iI 1) M))) : V l Γ T_TapedLinesModel_isVariable d r 0 [.int a] [] (M, L) (q_i L P) := by
  refine V.run 2 (pc' := 3) (ls' := [.int a]) (st' := [.int (iI 97), .int a]) (S' := (M, L)) rfl ?_
  refine V.icmp (cd := .lt) rfl (fun hc => ?_) (fun hc => ?_)
  · have h := h.1 hc
    refine V.run 1 (pc' := 17) (ls' := [.int a]) (st' := [.int (iI 0)]) (S' := (M, L)) rfl ?_
    exact V.zret rfl rfl (by decide) ⟨_, _, rfl, rfl, h⟩
  · have h := h.2 hc
    refine V.run 2 (pc' := 9) (ls' := [.int a]) (st' := [.int (iI 104), .int a]) (S' := (M, L)) rfl ?_
    refine V.icmp (cd := .gt) rfl (fun hc => ?_) (fun hc => ?_)
    · have h := h.1 hc
      refine V.run 1 (pc' := 17) (ls' := [.int a]) (st' := [.int (iI 0)]) (S' := (M, L)) rfl ?_
      exact V.zret rfl rfl (by decide) ⟨_, _, rfl, rfl, h⟩
    · have h := h.2 hc
      refine V.run 2 (pc' := 17) (ls' := [.int a]) (st' := [.int (iI 1)]) (S' := (M, L)) rfl ?_
      exact V.zret rfl rfl (by decide) ⟨_, _, rfl, rfl, h⟩
set_option maxRecDepth 100000 in
set_option maxHeartbeats 4000000 in
theorem s_TapedLinesModel_go_0 {l : Launch} {Γ : qG} {d r : Nat} {M : qM} {L : Nat → Int64} {P : Int32 → qM → Prop} (a : Int32) (h : P (iI 1) (q_up M 27 3 a)) : V l Γ T_TapedLinesModel_go d r 0 [.ref 27, .int a] [] (M, L) (q_i L P) := by
  refine V.run 4 (pc' := 6) (ls' := [.ref 27, .int a]) (st' := [.int (iI 1)]) (S' := ((q_up M 27 3 a), L)) rfl ?_
  exact V.zret rfl rfl (by decide) ⟨_, _, rfl, rfl, h⟩
set_option maxRecDepth 100000 in
set_option maxHeartbeats 4000000 in
theorem s_TapedLinesModel_keep_0 {l : Launch} {Γ : qG} {d r : Nat} {M : qM} {L : Nat → Int64} {P : qM → Prop} (a : Int32) (h : vp_in (M 27 10) 260 ∧ P (q_up (q_up M 29 ((M 27 10)).toNatClampNeg a) 27 10 ((M 27 10) + (iI 1)))) : V l Γ T_TapedLinesModel_keep d r 0 [.ref 27, .int a] [] (M, L) (q_n L P) := by
  refine V.run 5 (pc' := 9) (ls' := [.ref 27, .int a]) (st' := [.int a, .int (M 27 10), .ref 29]) (S' := (M, L)) rfl ?_
  refine V.iast rfl rfl h.1 ?_
  have h := h.2
  refine V.run 6 (pc' := 20) (ls' := [.ref 27, .int a]) (st' := []) (S' := ((q_up (q_up M 29 ((M 27 10)).toNatClampNeg a) 27 10 ((M 27 10) + (iI 1))), L)) rfl ?_
  exact V.vret rfl rfl ⟨_, rfl, rfl, h⟩
set_option maxRecDepth 100000 in
set_option maxHeartbeats 4000000 in
theorem s_TapedLinesModel_begin_0 {l : Launch} {Γ : qG} {d r : Nat} {M : qM} {L : Nat → Int64} {P : qM → Prop} (a : Int32) (h : P (q_up (q_up (q_up (q_up M 27 3 a) 27 10 (iI 0)) 27 7 (iI 0)) 27 5 (iI 0))) : V l Γ T_TapedLinesModel_begin d r 0 [.ref 27, .int a] [] (M, L) (q_n L P) := by
  refine V.run 12 (pc' := 20) (ls' := [.ref 27, .int a]) (st' := []) (S' := ((q_up (q_up (q_up (q_up M 27 3 a) 27 10 (iI 0)) 27 7 (iI 0)) 27 5 (iI 0)), L)) rfl ?_
  exact V.vret rfl rfl ⟨_, rfl, rfl, h⟩
set_option maxRecDepth 100000 in
set_option maxHeartbeats 4000000 in
theorem s_TapedLinesModel_open_0 {l : Launch} {Γ : qG} {d r : Nat} {M : qM} {L : Nat → Int64} {P : Int32 → qM → Prop} (a : Int32) (h : ∃ P1 : Int32 → qM → Prop, V l Γ T_TapedLinesModel_go d 0 0 [.ref 27, .int (iI 11)] [] ((q_up (q_up M 27 4 a) 27 5 (iI 1)), L) (q_i L P1) ∧ ∀ (x1 : Int32) (M1 : qM), P1 x1 M1 → narrow .boolean (.int x1) = .int x1 ∧ P x1 M1) : V l Γ T_TapedLinesModel_open (d + 1) r 0 [.ref 27, .int a] [] (M, L) (q_i L P) := by
  refine V.run 8 (pc' := 13) (ls' := [.ref 27, .int a]) (st' := [.int (iI 11), .ref 27]) (S' := ((q_up (q_up M 27 4 a) 27 5 (iI 1)), L)) rfl ?_
  obtain ⟨P1, hv1, h⟩ := h
  refine V.callVi (T2 := T_TapedLinesModel_go) (As := [.int (iI 11)]) (rest := []) rfl rfl g_TapedLinesModel_go rfl rfl rfl rfl (Nat.le_of_ble_eq_true rfl) (by simp [Value.category]) (by simp [Value.category]) (Nat.le_of_ble_eq_true rfl) (Nat.le_refl _) hv1 (fun x1 M1 hq => ?_)
  have h := h x1 M1 hq
  exact V.zret rfl rfl h.1 ⟨_, _, rfl, rfl, h.2⟩
set_option maxRecDepth 100000 in
set_option maxHeartbeats 4000000 in
theorem s_TapedLinesModel_possible_0 {l : Launch} {Γ : qG} {d r : Nat} {M : qM} {L : Nat → Int64} {P : Int32 → qM → Prop} (h : (¬ (M 27 3) = (iI 2) → ((M 27 3) = (iI 14) → V l Γ T_TapedLinesModel_possible d r 30 [.ref 27, .null] [] (M, L) (q_i L P)) ∧ (¬ (M 27 3) = (iI 14) → (¬ (M 27 3) = (iI 13) → V l Γ T_TapedLinesModel_possible d r 43 [.ref 27, .null] [.int (iI 0)] (M, L) (q_i L P)) ∧ (¬ (¬ (M 27 3) = (iI 13)) → V l Γ T_TapedLinesModel_possible d r 30 [.ref 27, .null] [] (M, L) (q_i L P)))) ∧ (¬ (¬ (M 27 3) = (iI 2)) → P (iI 223) M)) : V l Γ T_TapedLinesModel_possible d r 0 [.ref 27, .null] [] (M, L) (q_i L P) := by
  refine V.run 3 (pc' := 5) (ls' := [.ref 27, .null]) (st' := [.int (iI 2), .int (M 27 3)]) (S' := (M, L)) rfl ?_
  refine V.icmp (cd := .ne) rfl (fun hc => ?_) (fun hc => ?_)
  · have h := h.1 hc
    refine V.run 3 (pc' := 18) (ls' := [.ref 27, .null]) (st' := [.int (iI 14), .int (M 27 3)]) (S' := (M, L)) rfl ?_
    refine V.icmp (cd := .eq) rfl (fun hc => ?_) (fun hc => ?_)
    · have h := h.1 hc
      exact h
    · have h := h.2 hc
      refine V.run 3 (pc' := 27) (ls' := [.ref 27, .null]) (st' := [.int (iI 13), .int (M 27 3)]) (S' := (M, L)) rfl ?_
      refine V.icmp (cd := .ne) rfl (fun hc => ?_) (fun hc => ?_)
      · have h := h.1 hc
        refine V.run 1 (pc' := 43) (ls' := [.ref 27, .null]) (st' := [.int (iI 0)]) (S' := (M, L)) rfl ?_
        exact h
      · have h := h.2 hc
        exact h
  · have h := h.2 hc
    refine V.run 1 (pc' := 11) (ls' := [.ref 27, .null]) (st' := [.int (iI 223)]) (S' := (M, L)) rfl ?_
    exact V.iret rfl rfl ⟨_, _, rfl, rfl, h⟩
set_option maxRecDepth 100000 in
set_option maxHeartbeats 4000000 in
theorem s_TapedLinesModel_possible_30 {l : Launch} {Γ : qG} {d r : Nat} {M : qM} {L : Nat → Int64} {P : Int32 → qM → Prop} (h : (¬ (M 27 5) = (iI 1) → V l Γ T_TapedLinesModel_possible d r 43 [.ref 27, .null] [.int (iI 0)] (M, L) (q_i L P)) ∧ (¬ (¬ (M 27 5) = (iI 1)) → V l Γ T_TapedLinesModel_possible d r 43 [.ref 27, .null] [.int (iI 1)] (M, L) (q_i L P))) : V l Γ T_TapedLinesModel_possible d r 30 [.ref 27, .null] [] (M, L) (q_i L P) := by
  refine V.run 3 (pc' := 35) (ls' := [.ref 27, .null]) (st' := [.int (iI 1), .int (M 27 5)]) (S' := (M, L)) rfl ?_
  refine V.icmp (cd := .ne) rfl (fun hc => ?_) (fun hc => ?_)
  · have h := h.1 hc
    refine V.run 1 (pc' := 43) (ls' := [.ref 27, .null]) (st' := [.int (iI 0)]) (S' := (M, L)) rfl ?_
    exact h
  · have h := h.2 hc
    refine V.run 2 (pc' := 43) (ls' := [.ref 27, .null]) (st' := [.int (iI 1)]) (S' := (M, L)) rfl ?_
    exact h
set_option maxRecDepth 100000 in
set_option maxHeartbeats 4000000 in
theorem s_TapedLinesModel_possible_43 {l : Launch} {Γ : qG} {d r : Nat} {M : qM} {L : Nat → Int64} {P : Int32 → qM → Prop} (w0 : Int32) (h : (w0 = 0 → V l Γ T_TapedLinesModel_possible d r 60 [.ref 27, .int w0] [] (M, L) (q_i L P)) ∧ (¬ w0 = 0 → (¬ (M 27 4) = (iI 1) → V l Γ T_TapedLinesModel_possible d r 60 [.ref 27, .int w0] [] (M, L) (q_i L P)) ∧ (¬ (¬ (M 27 4) = (iI 1)) → P (iI 1) M))) : V l Γ T_TapedLinesModel_possible d r 43 [.ref 27, .null] [.int w0] (M, L) (q_i L P) := by
  refine V.run 2 (pc' := 45) (ls' := [.ref 27, .int w0]) (st' := [.int w0]) (S' := (M, L)) rfl ?_
  refine V.ifc (cd := .eq) rfl (fun hc => ?_) (fun hc => ?_)
  · have h := h.1 hc
    exact h
  · have h := h.2 hc
    refine V.run 3 (pc' := 53) (ls' := [.ref 27, .int w0]) (st' := [.int (iI 1), .int (M 27 4)]) (S' := (M, L)) rfl ?_
    refine V.icmp (cd := .ne) rfl (fun hc => ?_) (fun hc => ?_)
    · have h := h.1 hc
      exact h
    · have h := h.2 hc
      refine V.run 2 (pc' := 78) (ls' := [.ref 27, .int w0]) (st' := [.int (iI 1)]) (S' := (M, L)) rfl ?_
      exact V.iret rfl rfl ⟨_, _, rfl, rfl, h⟩
set_option maxRecDepth 100000 in
set_option maxHeartbeats 4000000 in
theorem s_TapedLinesModel_possible_60 {l : Launch} {Γ : qG} {d r : Nat} {M : qM} {L : Nat → Int64} {P : Int32 → qM → Prop} (v1 : Int32) (h : (v1 = 0 → P (iI 0) M) ∧ (¬ v1 = 0 → (¬ (M 27 4) = (iI 2) → P (iI 0) M) ∧ (¬ (¬ (M 27 4) = (iI 2)) → P (iI 32) M))) : V l Γ T_TapedLinesModel_possible d r 60 [.ref 27, .int v1] [] (M, L) (q_i L P) := by
  refine V.run 1 (pc' := 61) (ls' := [.ref 27, .int v1]) (st' := [.int v1]) (S' := (M, L)) rfl ?_
  refine V.ifc (cd := .eq) rfl (fun hc => ?_) (fun hc => ?_)
  · have h := h.1 hc
    refine V.run 1 (pc' := 78) (ls' := [.ref 27, .int v1]) (st' := [.int (iI 0)]) (S' := (M, L)) rfl ?_
    exact V.iret rfl rfl ⟨_, _, rfl, rfl, h⟩
  · have h := h.2 hc
    refine V.run 3 (pc' := 69) (ls' := [.ref 27, .int v1]) (st' := [.int (iI 2), .int (M 27 4)]) (S' := (M, L)) rfl ?_
    refine V.icmp (cd := .ne) rfl (fun hc => ?_) (fun hc => ?_)
    · have h := h.1 hc
      refine V.run 1 (pc' := 78) (ls' := [.ref 27, .int v1]) (st' := [.int (iI 0)]) (S' := (M, L)) rfl ?_
      exact V.iret rfl rfl ⟨_, _, rfl, rfl, h⟩
    · have h := h.2 hc
      refine V.run 2 (pc' := 78) (ls' := [.ref 27, .int v1]) (st' := [.int (iI 32)]) (S' := (M, L)) rfl ?_
      exact V.iret rfl rfl ⟨_, _, rfl, rfl, h⟩
set_option maxRecDepth 100000 in
set_option maxHeartbeats 4000000 in
theorem s_TapedLinesModel_pass_0 {l : Launch} {Γ : qG} {d r : Nat} {M : qM} {L : Nat → Int64} {P : Int32 → qM → Prop} (a : Int32) (h : ∃ P1 : qM → Prop, V l Γ T_TapedLinesModel_keep d 0 0 [.ref 27, .int ((iI 128) + a)] [] (M, L) (q_n L P1) ∧ ∀ (M1 : qM), P1 M1 → ((a).toInt = 0 → ∃ P2 : Int32 → qM → Prop, V l Γ T_TapedLinesModel_go d 0 0 [.ref 27, .int (iI 7)] [] (M1, L) (q_i L P2) ∧ ∀ (x2 : Int32) (M2 : qM), P2 x2 M2 → narrow .boolean (.int x2) = .int x2 ∧ P x2 M2) ∧ (¬ (a).toInt = 0 → ((a).toInt = 1 → ∃ P3 : Int32 → qM → Prop, V l Γ T_TapedLinesModel_go d 0 0 [.ref 27, .int (iI 7)] [] (M1, L) (q_i L P3) ∧ ∀ (x3 : Int32) (M3 : qM), P3 x3 M3 → narrow .boolean (.int x3) = .int x3 ∧ P x3 M3) ∧ (¬ (a).toInt = 1 → ((a).toInt = 2 → ∃ P4 : Int32 → qM → Prop, V l Γ T_TapedLinesModel_go d 0 0 [.ref 27, .int (iI 15)] [] (M1, L) (q_i L P4) ∧ ∀ (x4 : Int32) (M4 : qM), P4 x4 M4 → narrow .boolean (.int x4) = .int x4 ∧ P x4 M4) ∧ (¬ (a).toInt = 2 → ((a).toInt = 3 → ∃ P5 : Int32 → qM → Prop, V l Γ T_TapedLinesModel_open d 0 0 [.ref 27, .int (iI 1)] [] (M1, L) (q_i L P5) ∧ ∀ (x5 : Int32) (M5 : qM), P5 x5 M5 → narrow .boolean (.int x5) = .int x5 ∧ P x5 M5) ∧ (¬ (a).toInt = 3 → ((a).toInt = 4 → ∃ P6 : Int32 → qM → Prop, V l Γ T_TapedLinesModel_go d 0 0 [.ref 27, .int (iI 9)] [] (M1, L) (q_i L P6) ∧ ∀ (x6 : Int32) (M6 : qM), P6 x6 M6 → narrow .boolean (.int x6) = .int x6 ∧ P x6 M6) ∧ (¬ (a).toInt = 4 → ((a).toInt = 5 → ∃ P7 : Int32 → qM → Prop, V l Γ T_TapedLinesModel_open d 0 0 [.ref 27, .int (iI 0)] [] (M1, L) (q_i L P7) ∧ ∀ (x7 : Int32) (M7 : qM), P7 x7 M7 → narrow .boolean (.int x7) = .int x7 ∧ P x7 M7) ∧ (¬ (a).toInt = 5 → ((a).toInt = 7 → ∃ P8 : Int32 → qM → Prop, V l Γ T_TapedLinesModel_go d 0 0 [.ref 27, .int (iI 15)] [] (M1, L) (q_i L P8) ∧ ∀ (x8 : Int32) (M8 : qM), P8 x8 M8 → narrow .boolean (.int x8) = .int x8 ∧ P x8 M8) ∧ (¬ (a).toInt = 7 → ∃ P9 : Int32 → qM → Prop, V l Γ T_TapedLinesModel_go d 0 0 [.ref 27, .int (iI 10)] [] (M1, L) (q_i L P9) ∧ ∀ (x9 : Int32) (M9 : qM), P9 x9 M9 → narrow .boolean (.int x9) = .int x9 ∧ P x9 M9)))))))) : V l Γ T_TapedLinesModel_pass (d + 1) r 0 [.ref 27, .int a] [] (M, L) (q_i L P) := by
  refine V.run 4 (pc' := 6) (ls' := [.ref 27, .int a]) (st' := [.int ((iI 128) + a), .ref 27]) (S' := (M, L)) rfl ?_
  obtain ⟨P1, hv1, h⟩ := h
  refine V.callVv (T2 := T_TapedLinesModel_keep) (As := [.int ((iI 128) + a)]) (rest := []) rfl rfl g_TapedLinesModel_keep rfl rfl rfl rfl (Nat.le_of_ble_eq_true rfl) (by simp [Value.category]) (by simp [Value.category]) (Nat.le_of_ble_eq_true rfl) (Nat.le_refl _) hv1 (fun M1 hq => ?_)
  have h := h M1 hq
  refine V.run 1 (pc' := 10) (ls' := [.ref 27, .int a]) (st' := [.int a]) (S' := (M1, L)) rfl ?_
  refine V.swt rfl 89 [(0, 56), (1, 56), (2, 63), (3, 70), (4, 76), (5, 83), (7, 63)] (by decide) (by decide) (by decide) ?_
  refine q_swP.c (fun hc => ?_) (fun hc => ?_)
  · have h := h.1 hc
    refine V.run 2 (pc' := 59) (ls' := [.ref 27, .int a]) (st' := [.int (iI 7), .ref 27]) (S' := (M1, L)) rfl ?_
    obtain ⟨P2, hv2, h⟩ := h
    refine V.callVi (T2 := T_TapedLinesModel_go) (As := [.int (iI 7)]) (rest := []) rfl rfl g_TapedLinesModel_go rfl rfl rfl rfl (Nat.le_of_ble_eq_true rfl) (by simp [Value.category]) (by simp [Value.category]) (Nat.le_of_ble_eq_true rfl) (Nat.le_refl _) hv2 (fun x2 M2 hq => ?_)
    have h := h x2 M2 hq
    exact V.zret rfl rfl h.1 ⟨_, _, rfl, rfl, h.2⟩
  · have h := h.2 hc
    refine q_swP.c (fun hc => ?_) (fun hc => ?_)
    · have h := h.1 hc
      refine V.run 2 (pc' := 59) (ls' := [.ref 27, .int a]) (st' := [.int (iI 7), .ref 27]) (S' := (M1, L)) rfl ?_
      obtain ⟨P3, hv3, h⟩ := h
      refine V.callVi (T2 := T_TapedLinesModel_go) (As := [.int (iI 7)]) (rest := []) rfl rfl g_TapedLinesModel_go rfl rfl rfl rfl (Nat.le_of_ble_eq_true rfl) (by simp [Value.category]) (by simp [Value.category]) (Nat.le_of_ble_eq_true rfl) (Nat.le_refl _) hv3 (fun x3 M3 hq => ?_)
      have h := h x3 M3 hq
      exact V.zret rfl rfl h.1 ⟨_, _, rfl, rfl, h.2⟩
    · have h := h.2 hc
      refine q_swP.c (fun hc => ?_) (fun hc => ?_)
      · have h := h.1 hc
        refine V.run 2 (pc' := 66) (ls' := [.ref 27, .int a]) (st' := [.int (iI 15), .ref 27]) (S' := (M1, L)) rfl ?_
        obtain ⟨P4, hv4, h⟩ := h
        refine V.callVi (T2 := T_TapedLinesModel_go) (As := [.int (iI 15)]) (rest := []) rfl rfl g_TapedLinesModel_go rfl rfl rfl rfl (Nat.le_of_ble_eq_true rfl) (by simp [Value.category]) (by simp [Value.category]) (Nat.le_of_ble_eq_true rfl) (Nat.le_refl _) hv4 (fun x4 M4 hq => ?_)
        have h := h x4 M4 hq
        exact V.zret rfl rfl h.1 ⟨_, _, rfl, rfl, h.2⟩
      · have h := h.2 hc
        refine q_swP.c (fun hc => ?_) (fun hc => ?_)
        · have h := h.1 hc
          refine V.run 2 (pc' := 72) (ls' := [.ref 27, .int a]) (st' := [.int (iI 1), .ref 27]) (S' := (M1, L)) rfl ?_
          obtain ⟨P5, hv5, h⟩ := h
          refine V.callVi (T2 := T_TapedLinesModel_open) (As := [.int (iI 1)]) (rest := []) rfl rfl g_TapedLinesModel_open rfl rfl rfl rfl (Nat.le_of_ble_eq_true rfl) (by simp [Value.category]) (by simp [Value.category]) (Nat.le_of_ble_eq_true rfl) (Nat.le_refl _) hv5 (fun x5 M5 hq => ?_)
          have h := h x5 M5 hq
          exact V.zret rfl rfl h.1 ⟨_, _, rfl, rfl, h.2⟩
        · have h := h.2 hc
          refine q_swP.c (fun hc => ?_) (fun hc => ?_)
          · have h := h.1 hc
            refine V.run 2 (pc' := 79) (ls' := [.ref 27, .int a]) (st' := [.int (iI 9), .ref 27]) (S' := (M1, L)) rfl ?_
            obtain ⟨P6, hv6, h⟩ := h
            refine V.callVi (T2 := T_TapedLinesModel_go) (As := [.int (iI 9)]) (rest := []) rfl rfl g_TapedLinesModel_go rfl rfl rfl rfl (Nat.le_of_ble_eq_true rfl) (by simp [Value.category]) (by simp [Value.category]) (Nat.le_of_ble_eq_true rfl) (Nat.le_refl _) hv6 (fun x6 M6 hq => ?_)
            have h := h x6 M6 hq
            exact V.zret rfl rfl h.1 ⟨_, _, rfl, rfl, h.2⟩
          · have h := h.2 hc
            refine q_swP.c (fun hc => ?_) (fun hc => ?_)
            · have h := h.1 hc
              refine V.run 2 (pc' := 85) (ls' := [.ref 27, .int a]) (st' := [.int (iI 0), .ref 27]) (S' := (M1, L)) rfl ?_
              obtain ⟨P7, hv7, h⟩ := h
              refine V.callVi (T2 := T_TapedLinesModel_open) (As := [.int (iI 0)]) (rest := []) rfl rfl g_TapedLinesModel_open rfl rfl rfl rfl (Nat.le_of_ble_eq_true rfl) (by simp [Value.category]) (by simp [Value.category]) (Nat.le_of_ble_eq_true rfl) (Nat.le_refl _) hv7 (fun x7 M7 hq => ?_)
              have h := h x7 M7 hq
              exact V.zret rfl rfl h.1 ⟨_, _, rfl, rfl, h.2⟩
            · have h := h.2 hc
              refine q_swP.c (fun hc => ?_) (fun hc => ?_)
              · have h := h.1 hc
                refine V.run 2 (pc' := 66) (ls' := [.ref 27, .int a]) (st' := [.int (iI 15), .ref 27]) (S' := (M1, L)) rfl ?_
                obtain ⟨P8, hv8, h⟩ := h
                refine V.callVi (T2 := T_TapedLinesModel_go) (As := [.int (iI 15)]) (rest := []) rfl rfl g_TapedLinesModel_go rfl rfl rfl rfl (Nat.le_of_ble_eq_true rfl) (by simp [Value.category]) (by simp [Value.category]) (Nat.le_of_ble_eq_true rfl) (Nat.le_refl _) hv8 (fun x8 M8 hq => ?_)
                have h := h x8 M8 hq
                exact V.zret rfl rfl h.1 ⟨_, _, rfl, rfl, h.2⟩
              · have h := h.2 hc
                refine q_swP.e ?_
                refine V.run 2 (pc' := 92) (ls' := [.ref 27, .int a]) (st' := [.int (iI 10), .ref 27]) (S' := (M1, L)) rfl ?_
                obtain ⟨P9, hv9, h⟩ := h
                refine V.callVi (T2 := T_TapedLinesModel_go) (As := [.int (iI 10)]) (rest := []) rfl rfl g_TapedLinesModel_go rfl rfl rfl rfl (Nat.le_of_ble_eq_true rfl) (by simp [Value.category]) (by simp [Value.category]) (Nat.le_of_ble_eq_true rfl) (Nat.le_refl _) hv9 (fun x9 M9 hq => ?_)
                have h := h x9 M9 hq
                exact V.zret rfl rfl h.1 ⟨_, _, rfl, rfl, h.2⟩
set_option maxRecDepth 100000 in
set_option maxHeartbeats 4000000 in
theorem s_TapedLinesModel_spell_0 {l : Launch} {Γ : qG} {d r : Nat} {M : qM} {L : Nat → Int64} {P : Int32 → qM → Prop} (a : Int32) (h : V l Γ T_TapedLinesModel_spell (d + 1) r 7 [.ref 27, .int a, .int (iI 0), .int (iI (-1)), .int (iI 0)] [] (M, L) (q_i L P)) : V l Γ T_TapedLinesModel_spell (d + 1) r 0 [.ref 27, .int a, .null, .null, .null] [] (M, L) (q_i L P) := by
  refine V.run 6 (pc' := 7) (ls' := [.ref 27, .int a, .int (iI 0), .int (iI (-1)), .int (iI 0)]) (st' := []) (S' := (M, L)) rfl ?_
  exact h
set_option maxRecDepth 100000 in
set_option maxHeartbeats 4000000 in
theorem s_TapedLinesModel_spell_7 {l : Launch} {Γ : qG} {d r : Nat} {M : qM} {L : Nat → Int64} {P : Int32 → qM → Prop} (v1 v2 v3 v4 : Int32) (h : ((iI 8) ≤ v4 → (v3 < 0 → (v2 ≤ 0 → P (iI 0) (q_up (q_up M 27 8 v2) 27 9 ((M 27 9) + (iI 1)))) ∧ (¬ v2 ≤ 0 → P (iI 1) (q_up (q_up M 27 8 v2) 27 9 ((M 27 9) + (iI 1))))) ∧ (¬ v3 < 0 → ∃ P1 : Int32 → qM → Prop, V l Γ T_TapedLinesModel_pass d 0 0 [.ref 27, .int v3] [] ((q_up (q_up M 27 8 v2) 27 9 ((M 27 9) + (iI 1))), L) (q_i L P1) ∧ ∀ (x1 : Int32) (M1 : qM), P1 x1 M1 → narrow .boolean (.int x1) = .int x1 ∧ P x1 M1)) ∧ (¬ (iI 8) ≤ v4 → (¬ (((M 27 8) >>> (v4 &&& 31)) &&& (iI 1)) = (iI 1) → V l Γ T_TapedLinesModel_spell (d + 1) r 7 [.ref 27, .int v1, .int v2, .int v3, .int (v4 + (iI 1))] [] (M, L) (q_i L P)) ∧ (¬ (¬ (((M 27 8) >>> (v4 &&& 31)) &&& (iI 1)) = (iI 1)) → ∃ P2 : Int32 → qM → Prop, V l Γ T_TapedLinesModel_letter d 0 0 [.int v4, .int (M 27 9), .null] [] (M, L) (q_i L P2) ∧ ∀ (x2 : Int32) (M2 : qM), P2 x2 M2 → (¬ x2 = ((v1 - (iI 65)) + (iI 1)) → V l Γ T_TapedLinesModel_spell (d + 1) r 7 [.ref 27, .int v1, .int v2, .int v3, .int (v4 + (iI 1))] [] (M2, L) (q_i L P)) ∧ (¬ (¬ x2 = ((v1 - (iI 65)) + (iI 1))) → ∃ P3 : Int32 → qM → Prop, V l Γ T_TapedLinesModel_letter d 0 0 [.int v4, .int ((M2 27 9) + (iI 1)), .null] [] (M2, L) (q_i L P3) ∧ ∀ (x3 : Int32) (M3 : qM), P3 x3 M3 → (¬ x3 = 0 → V l Γ T_TapedLinesModel_spell (d + 1) r 7 [.ref 27, .int v1, .int (v2 ||| ((iI 1) <<< (v4 &&& 31))), .int v3, .int (v4 + (iI 1))] [] (M3, L) (q_i L P)) ∧ (¬ (¬ x3 = 0) → V l Γ T_TapedLinesModel_spell (d + 1) r 7 [.ref 27, .int v1, .int (v2 ||| ((iI 1) <<< (v4 &&& 31))), .int v4, .int (v4 + (iI 1))] [] (M3, L) (q_i L P)))))) : V l Γ T_TapedLinesModel_spell (d + 1) r 7 [.ref 27, .int v1, .int v2, .int v3, .int v4] [] (M, L) (q_i L P) := by
  refine V.run 2 (pc' := 11) (ls' := [.ref 27, .int v1, .int v2, .int v3, .int v4]) (st' := [.int (iI 8), .int v4]) (S' := (M, L)) rfl ?_
  refine V.icmp (cd := .ge) rfl (fun hc => ?_) (fun hc => ?_)
  · have h := h.1 hc
    refine V.run 10 (pc' := 95) (ls' := [.ref 27, .int v1, .int v2, .int v3, .int v4]) (st' := [.int v3]) (S' := ((q_up (q_up M 27 8 v2) 27 9 ((M 27 9) + (iI 1))), L)) rfl ?_
    refine V.ifc (cd := .lt) rfl (fun hc => ?_) (fun hc => ?_)
    · have h := h.1 hc
      refine V.run 1 (pc' := 107) (ls' := [.ref 27, .int v1, .int v2, .int v3, .int v4]) (st' := [.int v2]) (S' := ((q_up (q_up M 27 8 v2) 27 9 ((M 27 9) + (iI 1))), L)) rfl ?_
      refine V.ifc (cd := .le) rfl (fun hc => ?_) (fun hc => ?_)
      · have h := h.1 hc
        refine V.run 1 (pc' := 115) (ls' := [.ref 27, .int v1, .int v2, .int v3, .int v4]) (st' := [.int (iI 0)]) (S' := ((q_up (q_up M 27 8 v2) 27 9 ((M 27 9) + (iI 1))), L)) rfl ?_
        exact V.zret rfl rfl (by decide) ⟨_, _, rfl, rfl, h⟩
      · have h := h.2 hc
        refine V.run 2 (pc' := 115) (ls' := [.ref 27, .int v1, .int v2, .int v3, .int v4]) (st' := [.int (iI 1)]) (S' := ((q_up (q_up M 27 8 v2) 27 9 ((M 27 9) + (iI 1))), L)) rfl ?_
        exact V.zret rfl rfl (by decide) ⟨_, _, rfl, rfl, h⟩
    · have h := h.2 hc
      refine V.run 2 (pc' := 100) (ls' := [.ref 27, .int v1, .int v2, .int v3, .int v4]) (st' := [.int v3, .ref 27]) (S' := ((q_up (q_up M 27 8 v2) 27 9 ((M 27 9) + (iI 1))), L)) rfl ?_
      obtain ⟨P1, hv1, h⟩ := h
      refine V.callVi (T2 := T_TapedLinesModel_pass) (As := [.int v3]) (rest := []) rfl rfl g_TapedLinesModel_pass rfl rfl rfl rfl (Nat.le_of_ble_eq_true rfl) (by simp [Value.category]) (by simp [Value.category]) (Nat.le_of_ble_eq_true rfl) (Nat.le_refl _) hv1 (fun x1 M1 hq => ?_)
      have h := h x1 M1 hq
      refine V.run 1 (pc' := 115) (ls' := [.ref 27, .int v1, .int v2, .int v3, .int v4]) (st' := [.int x1]) (S' := (M1, L)) rfl ?_
      exact V.zret rfl rfl h.1 ⟨_, _, rfl, rfl, h.2⟩
  · have h := h.2 hc
    refine V.run 7 (pc' := 24) (ls' := [.ref 27, .int v1, .int v2, .int v3, .int v4]) (st' := [.int (iI 1), .int (((M 27 8) >>> (v4 &&& 31)) &&& (iI 1))]) (S' := (M, L)) rfl ?_
    refine V.icmp (cd := .ne) rfl (fun hc => ?_) (fun hc => ?_)
    · have h := h.1 hc
      refine V.run 2 (pc' := 7) (ls' := [.ref 27, .int v1, .int v2, .int v3, .int (v4 + (iI 1))]) (st' := []) (S' := (M, L)) rfl ?_
      exact h
    · have h := h.2 hc
      refine V.run 3 (pc' := 33) (ls' := [.ref 27, .int v1, .int v2, .int v3, .int v4]) (st' := [.int (M 27 9), .int v4]) (S' := (M, L)) rfl ?_
      obtain ⟨P2, hv2, h⟩ := h
      refine V.callSi (T2 := T_TapedLinesModel_letter) (As := [.int v4, .int (M 27 9)]) (rest := []) rfl rfl g_TapedLinesModel_letter rfl (Nat.le_of_ble_eq_true rfl) (by simp [Value.category]) (by simp [Value.category]) (Nat.le_of_ble_eq_true rfl) (Nat.le_refl _) hv2 (fun x2 M2 hq => ?_)
      have h := h x2 M2 hq
      refine V.run 5 (pc' := 42) (ls' := [.ref 27, .int v1, .int v2, .int v3, .int v4]) (st' := [.int ((v1 - (iI 65)) + (iI 1)), .int x2]) (S' := (M2, L)) rfl ?_
      refine V.icmp (cd := .ne) rfl (fun hc => ?_) (fun hc => ?_)
      · have h := h.1 hc
        refine V.run 2 (pc' := 7) (ls' := [.ref 27, .int v1, .int v2, .int v3, .int (v4 + (iI 1))]) (st' := []) (S' := (M2, L)) rfl ?_
        exact h
      · have h := h.2 hc
        refine V.run 11 (pc' := 60) (ls' := [.ref 27, .int v1, .int (v2 ||| ((iI 1) <<< (v4 &&& 31))), .int v3, .int v4]) (st' := [.int ((M2 27 9) + (iI 1)), .int v4]) (S' := (M2, L)) rfl ?_
        obtain ⟨P3, hv3, h⟩ := h
        refine V.callSi (T2 := T_TapedLinesModel_letter) (As := [.int v4, .int ((M2 27 9) + (iI 1))]) (rest := []) rfl rfl g_TapedLinesModel_letter rfl (Nat.le_of_ble_eq_true rfl) (by simp [Value.category]) (by simp [Value.category]) (Nat.le_of_ble_eq_true rfl) (Nat.le_refl _) hv3 (fun x3 M3 hq => ?_)
        have h := h x3 M3 hq
        refine V.ifc (cd := .ne) rfl (fun hc => ?_) (fun hc => ?_)
        · have h := h.1 hc
          refine V.run 4 (pc' := 7) (ls' := [.ref 27, .int v1, .int (v2 ||| ((iI 1) <<< (v4 &&& 31))), .int v3, .int (v4 + (iI 1))]) (st' := []) (S' := (M3, L)) rfl ?_
          exact h
        · have h := h.2 hc
          refine V.run 5 (pc' := 7) (ls' := [.ref 27, .int v1, .int (v2 ||| ((iI 1) <<< (v4 &&& 31))), .int v4, .int (v4 + (iI 1))]) (st' := []) (S' := (M3, L)) rfl ?_
          exact h
set_option maxRecDepth 100000 in
set_option maxHeartbeats 4000000 in
theorem s_TapedLinesModel_takeOne_0 {l : Launch} {Γ : qG} {d r : Nat} {M : qM} {L : Nat → Int64} {P : Int32 → qM → Prop} (a : Int32) (h : ∃ P1 : qM → Prop, V l Γ T_TapedLinesModel_keep d 0 0 [.ref 27, .int a] [] (M, L) (q_n L P1) ∧ ∀ (M1 : qM), P1 M1 → ∃ P2 : Int32 → qM → Prop, V l Γ T_TapedLinesModel_isDigit d 0 0 [.int a] [] (M1, L) (q_i L P2) ∧ ∀ (x2 : Int32) (M2 : qM), P2 x2 M2 → (x2 = 0 → ∃ P3 : Int32 → qM → Prop, V l Γ T_TapedLinesModel_isVariable d 0 0 [.int a] [] (M2, L) (q_i L P3) ∧ ∀ (x3 : Int32) (M3 : qM), P3 x3 M3 → (x3 = 0 → (¬ a = (iI 40) → V l Γ T_TapedLinesModel_takeOne (d + 1) r 67 [.ref 27, .int a] [] (M3, L) (q_i L P)) ∧ (¬ (¬ a = (iI 40)) → ((iI 4) ≤ (M3 27 5) → V l Γ T_TapedLinesModel_takeOne (d + 1) r 67 [.ref 27, .int a] [] (M3, L) (q_i L P)) ∧ (¬ (iI 4) ≤ (M3 27 5) → P (iI 1) (q_up M3 27 5 ((M3 27 5) + (iI 1)))))) ∧ (¬ x3 = 0 → ∃ P4 : Int32 → qM → Prop, V l Γ T_TapedLinesModel_go d 0 0 [.ref 27, .int (iI 14)] [] (M3, L) (q_i L P4) ∧ ∀ (x4 : Int32) (M4 : qM), P4 x4 M4 → narrow .boolean (.int x4) = .int x4 ∧ P x4 M4)) ∧ (¬ x2 = 0 → ∃ P5 : Int32 → qM → Prop, V l Γ T_TapedLinesModel_go d 0 0 [.ref 27, .int (iI 13)] [] ((q_up M2 27 6 (a - (iI 48))), L) (q_i L P5) ∧ ∀ (x5 : Int32) (M5 : qM), P5 x5 M5 → narrow .boolean (.int x5) = .int x5 ∧ P x5 M5)) : V l Γ T_TapedLinesModel_takeOne (d + 1) r 0 [.ref 27, .int a] [] (M, L) (q_i L P) := by
  refine V.run 2 (pc' := 2) (ls' := [.ref 27, .int a]) (st' := [.int a, .ref 27]) (S' := (M, L)) rfl ?_
  obtain ⟨P1, hv1, h⟩ := h
  refine V.callVv (T2 := T_TapedLinesModel_keep) (As := [.int a]) (rest := []) rfl rfl g_TapedLinesModel_keep rfl rfl rfl rfl (Nat.le_of_ble_eq_true rfl) (by simp [Value.category]) (by simp [Value.category]) (Nat.le_of_ble_eq_true rfl) (Nat.le_refl _) hv1 (fun M1 hq => ?_)
  have h := h M1 hq
  refine V.run 1 (pc' := 6) (ls' := [.ref 27, .int a]) (st' := [.int a]) (S' := (M1, L)) rfl ?_
  obtain ⟨P2, hv2, h⟩ := h
  refine V.callSi (T2 := T_TapedLinesModel_isDigit) (As := [.int a]) (rest := []) rfl rfl g_TapedLinesModel_isDigit rfl (Nat.le_of_ble_eq_true rfl) (by simp [Value.category]) (by simp [Value.category]) (Nat.le_of_ble_eq_true rfl) (Nat.le_refl _) hv2 (fun x2 M2 hq => ?_)
  have h := h x2 M2 hq
  refine V.ifc (cd := .eq) rfl (fun hc => ?_) (fun hc => ?_)
  · have h := h.1 hc
    refine V.run 1 (pc' := 28) (ls' := [.ref 27, .int a]) (st' := [.int a]) (S' := (M2, L)) rfl ?_
    obtain ⟨P3, hv3, h⟩ := h
    refine V.callSi (T2 := T_TapedLinesModel_isVariable) (As := [.int a]) (rest := []) rfl rfl g_TapedLinesModel_isVariable rfl (Nat.le_of_ble_eq_true rfl) (by simp [Value.category]) (by simp [Value.category]) (Nat.le_of_ble_eq_true rfl) (Nat.le_refl _) hv3 (fun x3 M3 hq => ?_)
    have h := h x3 M3 hq
    refine V.ifc (cd := .eq) rfl (fun hc => ?_) (fun hc => ?_)
    · have h := h.1 hc
      refine V.run 2 (pc' := 44) (ls' := [.ref 27, .int a]) (st' := [.int (iI 40), .int a]) (S' := (M3, L)) rfl ?_
      refine V.icmp (cd := .ne) rfl (fun hc => ?_) (fun hc => ?_)
      · have h := h.1 hc
        exact h
      · have h := h.2 hc
        refine V.run 3 (pc' := 52) (ls' := [.ref 27, .int a]) (st' := [.int (iI 4), .int (M3 27 5)]) (S' := (M3, L)) rfl ?_
        refine V.icmp (cd := .ge) rfl (fun hc => ?_) (fun hc => ?_)
        · have h := h.1 hc
          exact h
        · have h := h.2 hc
          refine V.run 7 (pc' := 66) (ls' := [.ref 27, .int a]) (st' := [.int (iI 1)]) (S' := ((q_up M3 27 5 ((M3 27 5) + (iI 1))), L)) rfl ?_
          exact V.zret rfl rfl (by decide) ⟨_, _, rfl, rfl, h⟩
    · have h := h.2 hc
      refine V.run 2 (pc' := 37) (ls' := [.ref 27, .int a]) (st' := [.int (iI 14), .ref 27]) (S' := (M3, L)) rfl ?_
      obtain ⟨P4, hv4, h⟩ := h
      refine V.callVi (T2 := T_TapedLinesModel_go) (As := [.int (iI 14)]) (rest := []) rfl rfl g_TapedLinesModel_go rfl rfl rfl rfl (Nat.le_of_ble_eq_true rfl) (by simp [Value.category]) (by simp [Value.category]) (Nat.le_of_ble_eq_true rfl) (Nat.le_refl _) hv4 (fun x4 M4 hq => ?_)
      have h := h x4 M4 hq
      exact V.zret rfl rfl h.1 ⟨_, _, rfl, rfl, h.2⟩
  · have h := h.2 hc
    refine V.run 7 (pc' := 23) (ls' := [.ref 27, .int a]) (st' := [.int (iI 13), .ref 27]) (S' := ((q_up M2 27 6 (a - (iI 48))), L)) rfl ?_
    obtain ⟨P5, hv5, h⟩ := h
    refine V.callVi (T2 := T_TapedLinesModel_go) (As := [.int (iI 13)]) (rest := []) rfl rfl g_TapedLinesModel_go rfl rfl rfl rfl (Nat.le_of_ble_eq_true rfl) (by simp [Value.category]) (by simp [Value.category]) (Nat.le_of_ble_eq_true rfl) (Nat.le_refl _) hv5 (fun x5 M5 hq => ?_)
    have h := h x5 M5 hq
    exact V.zret rfl rfl h.1 ⟨_, _, rfl, rfl, h.2⟩
set_option maxRecDepth 100000 in
set_option maxHeartbeats 4000000 in
theorem s_TapedLinesModel_takeOne_67 {l : Launch} {Γ : qG} {d r : Nat} {M : qM} {L : Nat → Int64} {P : Int32 → qM → Prop} (v1 : Int32) (h : (¬ v1 = (iI 64) → (¬ v1 = (iI 45) → P (iI 0) M) ∧ (¬ (¬ v1 = (iI 45)) → P (iI 1) M)) ∧ (¬ (¬ v1 = (iI 64)) → ((iI 4) ≤ (M 27 5) → P (iI 0) M) ∧ (¬ (iI 4) ≤ (M 27 5) → ∃ P1 : Int32 → qM → Prop, V l Γ T_TapedLinesModel_go d 0 0 [.ref 27, .int (iI 12)] [] (M, L) (q_i L P1) ∧ ∀ (x1 : Int32) (M1 : qM), P1 x1 M1 → (x1 = 0 → P (iI 0) M1) ∧ (¬ x1 = 0 → P (iI 1) M1)))) : V l Γ T_TapedLinesModel_takeOne (d + 1) r 67 [.ref 27, .int v1] [] (M, L) (q_i L P) := by
  refine V.run 2 (pc' := 70) (ls' := [.ref 27, .int v1]) (st' := [.int (iI 64), .int v1]) (S' := (M, L)) rfl ?_
  refine V.icmp (cd := .ne) rfl (fun hc => ?_) (fun hc => ?_)
  · have h := h.1 hc
    refine V.run 2 (pc' := 101) (ls' := [.ref 27, .int v1]) (st' := [.int (iI 45), .int v1]) (S' := (M, L)) rfl ?_
    refine V.icmp (cd := .ne) rfl (fun hc => ?_) (fun hc => ?_)
    · have h := h.1 hc
      refine V.run 1 (pc' := 109) (ls' := [.ref 27, .int v1]) (st' := [.int (iI 0)]) (S' := (M, L)) rfl ?_
      exact V.zret rfl rfl (by decide) ⟨_, _, rfl, rfl, h⟩
    · have h := h.2 hc
      refine V.run 2 (pc' := 109) (ls' := [.ref 27, .int v1]) (st' := [.int (iI 1)]) (S' := (M, L)) rfl ?_
      exact V.zret rfl rfl (by decide) ⟨_, _, rfl, rfl, h⟩
  · have h := h.2 hc
    refine V.run 3 (pc' := 78) (ls' := [.ref 27, .int v1]) (st' := [.int (iI 4), .int (M 27 5)]) (S' := (M, L)) rfl ?_
    refine V.icmp (cd := .ge) rfl (fun hc => ?_) (fun hc => ?_)
    · have h := h.1 hc
      refine V.run 2 (pc' := 109) (ls' := [.ref 27, .int v1]) (st' := [.int (iI 0)]) (S' := (M, L)) rfl ?_
      exact V.zret rfl rfl (by decide) ⟨_, _, rfl, rfl, h⟩
    · have h := h.2 hc
      refine V.run 2 (pc' := 84) (ls' := [.ref 27, .int v1]) (st' := [.int (iI 12), .ref 27]) (S' := (M, L)) rfl ?_
      obtain ⟨P1, hv1, h⟩ := h
      refine V.callVi (T2 := T_TapedLinesModel_go) (As := [.int (iI 12)]) (rest := []) rfl rfl g_TapedLinesModel_go rfl rfl rfl rfl (Nat.le_of_ble_eq_true rfl) (by simp [Value.category]) (by simp [Value.category]) (Nat.le_of_ble_eq_true rfl) (Nat.le_refl _) hv1 (fun x1 M1 hq => ?_)
      have h := h x1 M1 hq
      refine V.ifc (cd := .eq) rfl (fun hc => ?_) (fun hc => ?_)
      · have h := h.1 hc
        refine V.run 2 (pc' := 109) (ls' := [.ref 27, .int v1]) (st' := [.int (iI 0)]) (S' := (M1, L)) rfl ?_
        exact V.zret rfl rfl (by decide) ⟨_, _, rfl, rfl, h⟩
      · have h := h.2 hc
        refine V.run 2 (pc' := 109) (ls' := [.ref 27, .int v1]) (st' := [.int (iI 1)]) (S' := (M1, L)) rfl ?_
        exact V.zret rfl rfl (by decide) ⟨_, _, rfl, rfl, h⟩
set_option maxRecDepth 100000 in
set_option maxHeartbeats 4000000 in
theorem s_TapedLinesModel_takeBehind_0 {l : Launch} {Γ : qG} {d r : Nat} {M : qM} {L : Nat → Int64} {P : Int32 → qM → Prop} (a : Int32) (h : ∃ P1 : qM → Prop, V l Γ T_TapedLinesModel_keep d 0 0 [.ref 27, .int a] [] (M, L) (q_n L P1) ∧ ∀ (M1 : qM), P1 M1 → (¬ a = (iI 41) → (a = (iI 61) → V l Γ T_TapedLinesModel_takeBehind (d + 1) r 140 [.ref 27, .null, .null, .null] [] (M1, L) (q_i L P)) ∧ (¬ a = (iI 61) → (a = (iI 60) → V l Γ T_TapedLinesModel_takeBehind (d + 1) r 140 [.ref 27, .null, .null, .null] [] (M1, L) (q_i L P)) ∧ (¬ a = (iI 60) → (a = (iI 62) → V l Γ T_TapedLinesModel_takeBehind (d + 1) r 140 [.ref 27, .null, .null, .null] [] (M1, L) (q_i L P)) ∧ (¬ a = (iI 62) → (a = (iI 43) → V l Γ T_TapedLinesModel_takeBehind (d + 1) r 140 [.ref 27, .null, .null, .null] [] (M1, L) (q_i L P)) ∧ (¬ a = (iI 43) → (a = (iI 45) → V l Γ T_TapedLinesModel_takeBehind (d + 1) r 140 [.ref 27, .null, .null, .null] [] (M1, L) (q_i L P)) ∧ (¬ a = (iI 45) → (a = (iI 42) → V l Γ T_TapedLinesModel_takeBehind (d + 1) r 140 [.ref 27, .null, .null, .null] [] (M1, L) (q_i L P)) ∧ (¬ a = (iI 42) → (a = (iI 47) → V l Γ T_TapedLinesModel_takeBehind (d + 1) r 140 [.ref 27, .null, .null, .null] [] (M1, L) (q_i L P)) ∧ (¬ a = (iI 47) → (¬ a = (iI 37) → P (iI 0) M1) ∧ (¬ (¬ a = (iI 37)) → V l Γ T_TapedLinesModel_takeBehind (d + 1) r 140 [.ref 27, .null, .null, .null] [] (M1, L) (q_i L P)))))))))) ∧ (¬ (¬ a = (iI 41)) → (¬ (M1 27 5) = (iI 1) → V l Γ T_TapedLinesModel_takeBehind (d + 1) r 32 [.ref 27, .null, .null, .null] [.int (iI 0)] (M1, L) (q_i L P)) ∧ (¬ (¬ (M1 27 5) = (iI 1)) → (¬ (M1 27 4) = (iI 3) → V l Γ T_TapedLinesModel_takeBehind (d + 1) r 32 [.ref 27, .null, .null, .null] [.int (iI 0)] (M1, L) (q_i L P)) ∧ (¬ (¬ (M1 27 4) = (iI 3)) → V l Γ T_TapedLinesModel_takeBehind (d + 1) r 32 [.ref 27, .null, .null, .null] [.int (iI 1)] (M1, L) (q_i L P))))) : V l Γ T_TapedLinesModel_takeBehind (d + 1) r 0 [.ref 27, .int a, .null, .null] [] (M, L) (q_i L P) := by
  refine V.run 2 (pc' := 2) (ls' := [.ref 27, .int a, .null, .null]) (st' := [.int a, .ref 27]) (S' := (M, L)) rfl ?_
  obtain ⟨P1, hv1, h⟩ := h
  refine V.callVv (T2 := T_TapedLinesModel_keep) (As := [.int a]) (rest := []) rfl rfl g_TapedLinesModel_keep rfl rfl rfl rfl (Nat.le_of_ble_eq_true rfl) (by simp [Value.category]) (by simp [Value.category]) (Nat.le_of_ble_eq_true rfl) (Nat.le_refl _) hv1 (fun M1 hq => ?_)
  have h := h M1 hq
  refine V.run 2 (pc' := 8) (ls' := [.ref 27, .int a, .null, .null]) (st' := [.int (iI 41), .int a]) (S' := (M1, L)) rfl ?_
  refine V.icmp (cd := .ne) rfl (fun hc => ?_) (fun hc => ?_)
  · have h := h.1 hc
    refine V.run 2 (pc' := 95) (ls' := [.ref 27, .int a, .null, .null]) (st' := [.int (iI 61), .int a]) (S' := (M1, L)) rfl ?_
    refine V.icmp (cd := .eq) rfl (fun hc => ?_) (fun hc => ?_)
    · have h := h.1 hc
      refine V.forget (ls' := [.ref 27, .null, .null, .null]) ⟨Or.inr rfl, Or.inl rfl, Or.inl rfl, Or.inl rfl, trivial⟩ ?_
      exact h
    · have h := h.2 hc
      refine V.run 2 (pc' := 101) (ls' := [.ref 27, .int a, .null, .null]) (st' := [.int (iI 60), .int a]) (S' := (M1, L)) rfl ?_
      refine V.icmp (cd := .eq) rfl (fun hc => ?_) (fun hc => ?_)
      · have h := h.1 hc
        refine V.forget (ls' := [.ref 27, .null, .null, .null]) ⟨Or.inr rfl, Or.inl rfl, Or.inl rfl, Or.inl rfl, trivial⟩ ?_
        exact h
      · have h := h.2 hc
        refine V.run 2 (pc' := 107) (ls' := [.ref 27, .int a, .null, .null]) (st' := [.int (iI 62), .int a]) (S' := (M1, L)) rfl ?_
        refine V.icmp (cd := .eq) rfl (fun hc => ?_) (fun hc => ?_)
        · have h := h.1 hc
          refine V.forget (ls' := [.ref 27, .null, .null, .null]) ⟨Or.inr rfl, Or.inl rfl, Or.inl rfl, Or.inl rfl, trivial⟩ ?_
          exact h
        · have h := h.2 hc
          refine V.run 2 (pc' := 113) (ls' := [.ref 27, .int a, .null, .null]) (st' := [.int (iI 43), .int a]) (S' := (M1, L)) rfl ?_
          refine V.icmp (cd := .eq) rfl (fun hc => ?_) (fun hc => ?_)
          · have h := h.1 hc
            refine V.forget (ls' := [.ref 27, .null, .null, .null]) ⟨Or.inr rfl, Or.inl rfl, Or.inl rfl, Or.inl rfl, trivial⟩ ?_
            exact h
          · have h := h.2 hc
            refine V.run 2 (pc' := 119) (ls' := [.ref 27, .int a, .null, .null]) (st' := [.int (iI 45), .int a]) (S' := (M1, L)) rfl ?_
            refine V.icmp (cd := .eq) rfl (fun hc => ?_) (fun hc => ?_)
            · have h := h.1 hc
              refine V.forget (ls' := [.ref 27, .null, .null, .null]) ⟨Or.inr rfl, Or.inl rfl, Or.inl rfl, Or.inl rfl, trivial⟩ ?_
              exact h
            · have h := h.2 hc
              refine V.run 2 (pc' := 125) (ls' := [.ref 27, .int a, .null, .null]) (st' := [.int (iI 42), .int a]) (S' := (M1, L)) rfl ?_
              refine V.icmp (cd := .eq) rfl (fun hc => ?_) (fun hc => ?_)
              · have h := h.1 hc
                refine V.forget (ls' := [.ref 27, .null, .null, .null]) ⟨Or.inr rfl, Or.inl rfl, Or.inl rfl, Or.inl rfl, trivial⟩ ?_
                exact h
              · have h := h.2 hc
                refine V.run 2 (pc' := 131) (ls' := [.ref 27, .int a, .null, .null]) (st' := [.int (iI 47), .int a]) (S' := (M1, L)) rfl ?_
                refine V.icmp (cd := .eq) rfl (fun hc => ?_) (fun hc => ?_)
                · have h := h.1 hc
                  refine V.forget (ls' := [.ref 27, .null, .null, .null]) ⟨Or.inr rfl, Or.inl rfl, Or.inl rfl, Or.inl rfl, trivial⟩ ?_
                  exact h
                · have h := h.2 hc
                  refine V.run 2 (pc' := 137) (ls' := [.ref 27, .int a, .null, .null]) (st' := [.int (iI 37), .int a]) (S' := (M1, L)) rfl ?_
                  refine V.icmp (cd := .ne) rfl (fun hc => ?_) (fun hc => ?_)
                  · have h := h.1 hc
                    refine V.run 1 (pc' := 154) (ls' := [.ref 27, .int a, .null, .null]) (st' := [.int (iI 0)]) (S' := (M1, L)) rfl ?_
                    exact V.zret rfl rfl (by decide) ⟨_, _, rfl, rfl, h⟩
                  · have h := h.2 hc
                    refine V.forget (ls' := [.ref 27, .null, .null, .null]) ⟨Or.inr rfl, Or.inl rfl, Or.inl rfl, Or.inl rfl, trivial⟩ ?_
                    exact h
  · have h := h.2 hc
    refine V.run 3 (pc' := 16) (ls' := [.ref 27, .int a, .null, .null]) (st' := [.int (iI 1), .int (M1 27 5)]) (S' := (M1, L)) rfl ?_
    refine V.icmp (cd := .ne) rfl (fun hc => ?_) (fun hc => ?_)
    · have h := h.1 hc
      refine V.run 1 (pc' := 32) (ls' := [.ref 27, .int a, .null, .null]) (st' := [.int (iI 0)]) (S' := (M1, L)) rfl ?_
      refine V.forget (ls' := [.ref 27, .null, .null, .null]) ⟨Or.inr rfl, Or.inl rfl, Or.inl rfl, Or.inl rfl, trivial⟩ ?_
      exact h
    · have h := h.2 hc
      refine V.run 3 (pc' := 24) (ls' := [.ref 27, .int a, .null, .null]) (st' := [.int (iI 3), .int (M1 27 4)]) (S' := (M1, L)) rfl ?_
      refine V.icmp (cd := .ne) rfl (fun hc => ?_) (fun hc => ?_)
      · have h := h.1 hc
        refine V.run 1 (pc' := 32) (ls' := [.ref 27, .int a, .null, .null]) (st' := [.int (iI 0)]) (S' := (M1, L)) rfl ?_
        refine V.forget (ls' := [.ref 27, .null, .null, .null]) ⟨Or.inr rfl, Or.inl rfl, Or.inl rfl, Or.inl rfl, trivial⟩ ?_
        exact h
      · have h := h.2 hc
        refine V.run 2 (pc' := 32) (ls' := [.ref 27, .int a, .null, .null]) (st' := [.int (iI 1)]) (S' := (M1, L)) rfl ?_
        refine V.forget (ls' := [.ref 27, .null, .null, .null]) ⟨Or.inr rfl, Or.inl rfl, Or.inl rfl, Or.inl rfl, trivial⟩ ?_
        exact h
set_option maxRecDepth 100000 in
set_option maxHeartbeats 4000000 in
theorem s_TapedLinesModel_takeBehind_32 {l : Launch} {Γ : qG} {d r : Nat} {M : qM} {L : Nat → Int64} {P : Int32 → qM → Prop} (w0 : Int32) (h : (w0 = 0 → V l Γ T_TapedLinesModel_takeBehind (d + 1) r 54 [.ref 27, .null, .int w0, .null] [.int (iI 14), .ref 27] ((q_up M 27 5 ((M 27 5) - (iI 1))), L) (q_i L P)) ∧ (¬ w0 = 0 → V l Γ T_TapedLinesModel_takeBehind (d + 1) r 54 [.ref 27, .null, .int w0, .null] [.int (iI 3), .ref 27] ((q_up M 27 5 ((M 27 5) - (iI 1))), L) (q_i L P))) : V l Γ T_TapedLinesModel_takeBehind (d + 1) r 32 [.ref 27, .null, .null, .null] [.int w0] (M, L) (q_i L P) := by
  refine V.run 9 (pc' := 45) (ls' := [.ref 27, .null, .int w0, .null]) (st' := [.int w0, .ref 27]) (S' := ((q_up M 27 5 ((M 27 5) - (iI 1))), L)) rfl ?_
  refine V.ifc (cd := .eq) rfl (fun hc => ?_) (fun hc => ?_)
  · have h := h.1 hc
    refine V.run 1 (pc' := 54) (ls' := [.ref 27, .null, .int w0, .null]) (st' := [.int (iI 14), .ref 27]) (S' := ((q_up M 27 5 ((M 27 5) - (iI 1))), L)) rfl ?_
    exact h
  · have h := h.2 hc
    refine V.run 2 (pc' := 54) (ls' := [.ref 27, .null, .int w0, .null]) (st' := [.int (iI 3), .ref 27]) (S' := ((q_up M 27 5 ((M 27 5) - (iI 1))), L)) rfl ?_
    exact h
set_option maxRecDepth 100000 in
set_option maxHeartbeats 4000000 in
theorem s_TapedLinesModel_takeBehind_54 {l : Launch} {Γ : qG} {d r : Nat} {M : qM} {L : Nat → Int64} {P : Int32 → qM → Prop} (v2 w0 : Int32) (h : (¬ v2 = 0 → V l Γ T_TapedLinesModel_takeBehind (d + 1) r 73 [.ref 27, .null, .int v2, .null] [.int (iI 1)] ((q_up M 27 3 w0), L) (q_i L P)) ∧ (¬ (¬ v2 = 0) → ((M 27 5) ≤ 0 → V l Γ T_TapedLinesModel_takeBehind (d + 1) r 73 [.ref 27, .null, .int v2, .null] [.int (iI 0)] ((q_up M 27 3 w0), L) (q_i L P)) ∧ (¬ (M 27 5) ≤ 0 → V l Γ T_TapedLinesModel_takeBehind (d + 1) r 73 [.ref 27, .null, .int v2, .null] [.int (iI 1)] ((q_up M 27 3 w0), L) (q_i L P)))) : V l Γ T_TapedLinesModel_takeBehind (d + 1) r 54 [.ref 27, .null, .int v2, .null] [.int w0, .ref 27] (M, L) (q_i L P) := by
  refine V.run 2 (pc' := 58) (ls' := [.ref 27, .null, .int v2, .null]) (st' := [.int v2]) (S' := ((q_up M 27 3 w0), L)) rfl ?_
  refine V.ifc (cd := .ne) rfl (fun hc => ?_) (fun hc => ?_)
  · have h := h.1 hc
    refine V.run 2 (pc' := 73) (ls' := [.ref 27, .null, .int v2, .null]) (st' := [.int (iI 1)]) (S' := ((q_up M 27 3 w0), L)) rfl ?_
    exact h
  · have h := h.2 hc
    refine V.run 2 (pc' := 65) (ls' := [.ref 27, .null, .int v2, .null]) (st' := [.int (M 27 5)]) (S' := ((q_up M 27 3 w0), L)) rfl ?_
    refine V.ifc (cd := .le) rfl (fun hc => ?_) (fun hc => ?_)
    · have h := h.1 hc
      refine V.run 1 (pc' := 73) (ls' := [.ref 27, .null, .int v2, .null]) (st' := [.int (iI 0)]) (S' := ((q_up M 27 3 w0), L)) rfl ?_
      exact h
    · have h := h.2 hc
      refine V.run 2 (pc' := 73) (ls' := [.ref 27, .null, .int v2, .null]) (st' := [.int (iI 1)]) (S' := ((q_up M 27 3 w0), L)) rfl ?_
      exact h
set_option maxRecDepth 100000 in
set_option maxHeartbeats 4000000 in
theorem s_TapedLinesModel_takeBehind_73 {l : Launch} {Γ : qG} {d r : Nat} {M : qM} {L : Nat → Int64} {P : Int32 → qM → Prop} (v2 w0 : Int32) (h : (v2 = 0 → narrow .boolean (.int w0) = .int w0 ∧ P w0 (q_up M 27 4 (M 27 4))) ∧ (¬ v2 = 0 → narrow .boolean (.int w0) = .int w0 ∧ P w0 (q_up M 27 4 (iI 0)))) : V l Γ T_TapedLinesModel_takeBehind (d + 1) r 73 [.ref 27, .null, .int v2, .null] [.int w0] (M, L) (q_i L P) := by
  refine V.run 3 (pc' := 76) (ls' := [.ref 27, .null, .int v2, .int w0]) (st' := [.int v2, .ref 27]) (S' := (M, L)) rfl ?_
  refine V.ifc (cd := .eq) rfl (fun hc => ?_) (fun hc => ?_)
  · have h := h.1 hc
    refine V.run 4 (pc' := 91) (ls' := [.ref 27, .null, .int v2, .int w0]) (st' := [.int w0]) (S' := ((q_up M 27 4 (M 27 4)), L)) rfl ?_
    exact V.zret rfl rfl h.1 ⟨_, _, rfl, rfl, h.2⟩
  · have h := h.2 hc
    refine V.run 4 (pc' := 91) (ls' := [.ref 27, .null, .int v2, .int w0]) (st' := [.int w0]) (S' := ((q_up M 27 4 (iI 0)), L)) rfl ?_
    exact V.zret rfl rfl h.1 ⟨_, _, rfl, rfl, h.2⟩
set_option maxRecDepth 100000 in
set_option maxHeartbeats 4000000 in
theorem s_TapedLinesModel_takeBehind_140 {l : Launch} {Γ : qG} {d r : Nat} {M : qM} {L : Nat → Int64} {P : Int32 → qM → Prop} (h : ∃ P1 : Int32 → qM → Prop, V l Γ T_TapedLinesModel_go d 0 0 [.ref 27, .int (iI 11)] [] (M, L) (q_i L P1) ∧ ∀ (x1 : Int32) (M1 : qM), P1 x1 M1 → (x1 = 0 → P (iI 0) M1) ∧ (¬ x1 = 0 → P (iI 1) M1)) : V l Γ T_TapedLinesModel_takeBehind (d + 1) r 140 [.ref 27, .null, .null, .null] [] (M, L) (q_i L P) := by
  refine V.run 2 (pc' := 143) (ls' := [.ref 27, .null, .null, .null]) (st' := [.int (iI 11), .ref 27]) (S' := (M, L)) rfl ?_
  obtain ⟨P1, hv1, h⟩ := h
  refine V.callVi (T2 := T_TapedLinesModel_go) (As := [.int (iI 11)]) (rest := []) rfl rfl g_TapedLinesModel_go rfl rfl rfl rfl (Nat.le_of_ble_eq_true rfl) (by simp [Value.category]) (by simp [Value.category]) (Nat.le_of_ble_eq_true rfl) (Nat.le_refl _) hv1 (fun x1 M1 hq => ?_)
  have h := h x1 M1 hq
  refine V.ifc (cd := .eq) rfl (fun hc => ?_) (fun hc => ?_)
  · have h := h.1 hc
    refine V.run 1 (pc' := 154) (ls' := [.ref 27, .null, .null, .null]) (st' := [.int (iI 0)]) (S' := (M1, L)) rfl ?_
    exact V.zret rfl rfl (by decide) ⟨_, _, rfl, rfl, h⟩
  · have h := h.2 hc
    refine V.run 2 (pc' := 154) (ls' := [.ref 27, .null, .null, .null]) (st' := [.int (iI 1)]) (S' := (M1, L)) rfl ?_
    exact V.zret rfl rfl (by decide) ⟨_, _, rfl, rfl, h⟩
set_option maxRecDepth 100000 in
set_option maxHeartbeats 4000000 in
theorem s_TapedLinesModel_takeBegin_0 {l : Launch} {Γ : qG} {d r : Nat} {M : qM} {L : Nat → Int64} {P : Int32 → qM → Prop} (a : Int32) (h : ∃ P1 : qM → Prop, V l Γ T_TapedLinesModel_keep d 0 0 [.ref 27, .int a] [] (M, L) (q_n L P1) ∧ ∀ (M1 : qM), P1 M1 → ∃ P2 : Int32 → qM → Prop, V l Γ T_TapedLinesModel_isVariable d 0 0 [.int a] [] ((q_up M1 27 4 (iI 0)), L) (q_i L P2) ∧ ∀ (x2 : Int32) (M2 : qM), P2 x2 M2 → (x2 = 0 → (¬ a = (iI 64) → (¬ a = (iI 63) → P (iI 0) M2) ∧ (¬ (¬ a = (iI 63)) → ∃ P3 : Int32 → qM → Prop, V l Γ T_TapedLinesModel_go d 0 0 [.ref 27, .int (iI 5)] [] (M2, L) (q_i L P3) ∧ ∀ (x3 : Int32) (M3 : qM), P3 x3 M3 → (x3 = 0 → P (iI 0) M3) ∧ (¬ x3 = 0 → P (iI 1) M3))) ∧ (¬ (¬ a = (iI 64)) → ∃ P4 : Int32 → qM → Prop, V l Γ T_TapedLinesModel_go d 0 0 [.ref 27, .int (iI 4)] [] (M2, L) (q_i L P4) ∧ ∀ (x4 : Int32) (M4 : qM), P4 x4 M4 → narrow .boolean (.int x4) = .int x4 ∧ P x4 M4)) ∧ (¬ x2 = 0 → ∃ P5 : Int32 → qM → Prop, V l Γ T_TapedLinesModel_go d 0 0 [.ref 27, .int (iI 3)] [] (M2, L) (q_i L P5) ∧ ∀ (x5 : Int32) (M5 : qM), P5 x5 M5 → narrow .boolean (.int x5) = .int x5 ∧ P x5 M5)) : V l Γ T_TapedLinesModel_takeBegin (d + 1) r 0 [.ref 27, .int a] [] (M, L) (q_i L P) := by
  refine V.run 2 (pc' := 2) (ls' := [.ref 27, .int a]) (st' := [.int a, .ref 27]) (S' := (M, L)) rfl ?_
  obtain ⟨P1, hv1, h⟩ := h
  refine V.callVv (T2 := T_TapedLinesModel_keep) (As := [.int a]) (rest := []) rfl rfl g_TapedLinesModel_keep rfl rfl rfl rfl (Nat.le_of_ble_eq_true rfl) (by simp [Value.category]) (by simp [Value.category]) (Nat.le_of_ble_eq_true rfl) (Nat.le_refl _) hv1 (fun M1 hq => ?_)
  have h := h M1 hq
  refine V.run 4 (pc' := 11) (ls' := [.ref 27, .int a]) (st' := [.int a]) (S' := ((q_up M1 27 4 (iI 0)), L)) rfl ?_
  obtain ⟨P2, hv2, h⟩ := h
  refine V.callSi (T2 := T_TapedLinesModel_isVariable) (As := [.int a]) (rest := []) rfl rfl g_TapedLinesModel_isVariable rfl (Nat.le_of_ble_eq_true rfl) (by simp [Value.category]) (by simp [Value.category]) (Nat.le_of_ble_eq_true rfl) (Nat.le_refl _) hv2 (fun x2 M2 hq => ?_)
  have h := h x2 M2 hq
  refine V.ifc (cd := .eq) rfl (fun hc => ?_) (fun hc => ?_)
  · have h := h.1 hc
    refine V.run 2 (pc' := 28) (ls' := [.ref 27, .int a]) (st' := [.int (iI 64), .int a]) (S' := (M2, L)) rfl ?_
    refine V.icmp (cd := .ne) rfl (fun hc => ?_) (fun hc => ?_)
    · have h := h.1 hc
      refine V.run 2 (pc' := 42) (ls' := [.ref 27, .int a]) (st' := [.int (iI 63), .int a]) (S' := (M2, L)) rfl ?_
      refine V.icmp (cd := .ne) rfl (fun hc => ?_) (fun hc => ?_)
      · have h := h.1 hc
        refine V.run 1 (pc' := 58) (ls' := [.ref 27, .int a]) (st' := [.int (iI 0)]) (S' := (M2, L)) rfl ?_
        exact V.zret rfl rfl (by decide) ⟨_, _, rfl, rfl, h⟩
      · have h := h.2 hc
        refine V.run 2 (pc' := 47) (ls' := [.ref 27, .int a]) (st' := [.int (iI 5), .ref 27]) (S' := (M2, L)) rfl ?_
        obtain ⟨P3, hv3, h⟩ := h
        refine V.callVi (T2 := T_TapedLinesModel_go) (As := [.int (iI 5)]) (rest := []) rfl rfl g_TapedLinesModel_go rfl rfl rfl rfl (Nat.le_of_ble_eq_true rfl) (by simp [Value.category]) (by simp [Value.category]) (Nat.le_of_ble_eq_true rfl) (Nat.le_refl _) hv3 (fun x3 M3 hq => ?_)
        have h := h x3 M3 hq
        refine V.ifc (cd := .eq) rfl (fun hc => ?_) (fun hc => ?_)
        · have h := h.1 hc
          refine V.run 1 (pc' := 58) (ls' := [.ref 27, .int a]) (st' := [.int (iI 0)]) (S' := (M3, L)) rfl ?_
          exact V.zret rfl rfl (by decide) ⟨_, _, rfl, rfl, h⟩
        · have h := h.2 hc
          refine V.run 2 (pc' := 58) (ls' := [.ref 27, .int a]) (st' := [.int (iI 1)]) (S' := (M3, L)) rfl ?_
          exact V.zret rfl rfl (by decide) ⟨_, _, rfl, rfl, h⟩
    · have h := h.2 hc
      refine V.run 2 (pc' := 33) (ls' := [.ref 27, .int a]) (st' := [.int (iI 4), .ref 27]) (S' := (M2, L)) rfl ?_
      obtain ⟨P4, hv4, h⟩ := h
      refine V.callVi (T2 := T_TapedLinesModel_go) (As := [.int (iI 4)]) (rest := []) rfl rfl g_TapedLinesModel_go rfl rfl rfl rfl (Nat.le_of_ble_eq_true rfl) (by simp [Value.category]) (by simp [Value.category]) (Nat.le_of_ble_eq_true rfl) (Nat.le_refl _) hv4 (fun x4 M4 hq => ?_)
      have h := h x4 M4 hq
      refine V.run 1 (pc' := 58) (ls' := [.ref 27, .int a]) (st' := [.int x4]) (S' := (M4, L)) rfl ?_
      exact V.zret rfl rfl h.1 ⟨_, _, rfl, rfl, h.2⟩
  · have h := h.2 hc
    refine V.run 2 (pc' := 19) (ls' := [.ref 27, .int a]) (st' := [.int (iI 3), .ref 27]) (S' := (M2, L)) rfl ?_
    obtain ⟨P5, hv5, h⟩ := h
    refine V.callVi (T2 := T_TapedLinesModel_go) (As := [.int (iI 3)]) (rest := []) rfl rfl g_TapedLinesModel_go rfl rfl rfl rfl (Nat.le_of_ble_eq_true rfl) (by simp [Value.category]) (by simp [Value.category]) (Nat.le_of_ble_eq_true rfl) (Nat.le_refl _) hv5 (fun x5 M5 hq => ?_)
    have h := h x5 M5 hq
    refine V.run 1 (pc' := 58) (ls' := [.ref 27, .int a]) (st' := [.int x5]) (S' := (M5, L)) rfl ?_
    exact V.zret rfl rfl h.1 ⟨_, _, rfl, rfl, h.2⟩
set_option maxRecDepth 100000 in
set_option maxHeartbeats 4000000 in
theorem s_TapedLinesModel_lengthen_0 {l : Launch} {Γ : qG} {d r : Nat} {M : qM} {L : Nat → Int64} {P : Int32 → qM → Prop} (a b c : Int32) (h : ((M 27 6) = 0 → P (iI 0) M) ∧ (¬ (M 27 6) = 0 → (((((iI 10) * (M 27 6)) + a) - (iI 48)) ≤ b → (c = 0 → P (iI 1) (q_up M 27 6 ((((iI 10) * (M 27 6)) + a) - (iI 48)))) ∧ (¬ c = 0 → ∃ P1 : qM → Prop, V l Γ T_TapedLinesModel_keep d 0 0 [.ref 27, .int a] [] ((q_up M 27 6 ((((iI 10) * (M 27 6)) + a) - (iI 48))), L) (q_n L P1) ∧ ∀ (M1 : qM), P1 M1 → P (iI 1) M1)) ∧ (¬ ((((iI 10) * (M 27 6)) + a) - (iI 48)) ≤ b → P (iI 0) M))) : V l Γ T_TapedLinesModel_lengthen (d + 1) r 0 [.ref 27, .int a, .int b, .int c] [] (M, L) (q_i L P) := by
  refine V.run 2 (pc' := 4) (ls' := [.ref 27, .int a, .int b, .int c]) (st' := [.int (M 27 6)]) (S' := (M, L)) rfl ?_
  refine V.ifc (cd := .eq) rfl (fun hc => ?_) (fun hc => ?_)
  · have h := h.1 hc
    refine V.run 1 (pc' := 24) (ls' := [.ref 27, .int a, .int b, .int c]) (st' := [.int (iI 0)]) (S' := (M, L)) rfl ?_
    exact V.zret rfl rfl (by decide) ⟨_, _, rfl, rfl, h⟩
  · have h := h.2 hc
    refine V.run 9 (pc' := 20) (ls' := [.ref 27, .int a, .int b, .int c]) (st' := [.int b, .int ((((iI 10) * (M 27 6)) + a) - (iI 48))]) (S' := (M, L)) rfl ?_
    refine V.icmp (cd := .le) rfl (fun hc => ?_) (fun hc => ?_)
    · have h := h.1 hc
      refine V.run 11 (pc' := 42) (ls' := [.ref 27, .int a, .int b, .int c]) (st' := [.int c]) (S' := ((q_up M 27 6 ((((iI 10) * (M 27 6)) + a) - (iI 48))), L)) rfl ?_
      refine V.ifc (cd := .eq) rfl (fun hc => ?_) (fun hc => ?_)
      · have h := h.1 hc
        refine V.run 1 (pc' := 51) (ls' := [.ref 27, .int a, .int b, .int c]) (st' := [.int (iI 1)]) (S' := ((q_up M 27 6 ((((iI 10) * (M 27 6)) + a) - (iI 48))), L)) rfl ?_
        exact V.zret rfl rfl (by decide) ⟨_, _, rfl, rfl, h⟩
      · have h := h.2 hc
        refine V.run 2 (pc' := 47) (ls' := [.ref 27, .int a, .int b, .int c]) (st' := [.int a, .ref 27]) (S' := ((q_up M 27 6 ((((iI 10) * (M 27 6)) + a) - (iI 48))), L)) rfl ?_
        obtain ⟨P1, hv1, h⟩ := h
        refine V.callVv (T2 := T_TapedLinesModel_keep) (As := [.int a]) (rest := []) rfl rfl g_TapedLinesModel_keep rfl rfl rfl rfl (Nat.le_of_ble_eq_true rfl) (by simp [Value.category]) (by simp [Value.category]) (Nat.le_of_ble_eq_true rfl) (Nat.le_refl _) hv1 (fun M1 hq => ?_)
        have h := h M1 hq
        refine V.run 1 (pc' := 51) (ls' := [.ref 27, .int a, .int b, .int c]) (st' := [.int (iI 1)]) (S' := (M1, L)) rfl ?_
        exact V.zret rfl rfl (by decide) ⟨_, _, rfl, rfl, h⟩
    · have h := h.2 hc
      refine V.run 1 (pc' := 24) (ls' := [.ref 27, .int a, .int b, .int c]) (st' := [.int (iI 0)]) (S' := (M, L)) rfl ?_
      exact V.zret rfl rfl (by decide) ⟨_, _, rfl, rfl, h⟩
set_option maxRecDepth 100000 in
set_option maxHeartbeats 4000000 in
theorem s_TapedLinesModel_takeFirst_0 {l : Launch} {Γ : qG} {d r : Nat} {M : qM} {L : Nat → Int64} {P : Int32 → qM → Prop} (a : Int32) (h : (a < (iI 49) → P (iI 0) (q_up (q_up M 27 6 (a - (iI 48))) 27 7 (a - (iI 48)))) ∧ (¬ a < (iI 49) → ((iI 57) < a → P (iI 0) (q_up (q_up M 27 6 (a - (iI 48))) 27 7 (a - (iI 48)))) ∧ (¬ (iI 57) < a → ∃ P1 : Int32 → qM → Prop, V l Γ T_TapedLinesModel_go d 0 0 [.ref 27, .int (iI 1)] [] ((q_up (q_up M 27 6 (a - (iI 48))) 27 7 (a - (iI 48))), L) (q_i L P1) ∧ ∀ (x1 : Int32) (M1 : qM), P1 x1 M1 → (x1 = 0 → P (iI 0) M1) ∧ (¬ x1 = 0 → P (iI 1) M1)))) : V l Γ T_TapedLinesModel_takeFirst (d + 1) r 0 [.ref 27, .int a] [] (M, L) (q_i L P) := by
  refine V.run 11 (pc' := 19) (ls' := [.ref 27, .int a]) (st' := [.int (iI 49), .int a]) (S' := ((q_up (q_up M 27 6 (a - (iI 48))) 27 7 (a - (iI 48))), L)) rfl ?_
  refine V.icmp (cd := .lt) rfl (fun hc => ?_) (fun hc => ?_)
  · have h := h.1 hc
    refine V.run 1 (pc' := 41) (ls' := [.ref 27, .int a]) (st' := [.int (iI 0)]) (S' := ((q_up (q_up M 27 6 (a - (iI 48))) 27 7 (a - (iI 48))), L)) rfl ?_
    exact V.zret rfl rfl (by decide) ⟨_, _, rfl, rfl, h⟩
  · have h := h.2 hc
    refine V.run 2 (pc' := 25) (ls' := [.ref 27, .int a]) (st' := [.int (iI 57), .int a]) (S' := ((q_up (q_up M 27 6 (a - (iI 48))) 27 7 (a - (iI 48))), L)) rfl ?_
    refine V.icmp (cd := .gt) rfl (fun hc => ?_) (fun hc => ?_)
    · have h := h.1 hc
      refine V.run 1 (pc' := 41) (ls' := [.ref 27, .int a]) (st' := [.int (iI 0)]) (S' := ((q_up (q_up M 27 6 (a - (iI 48))) 27 7 (a - (iI 48))), L)) rfl ?_
      exact V.zret rfl rfl (by decide) ⟨_, _, rfl, rfl, h⟩
    · have h := h.2 hc
      refine V.run 2 (pc' := 30) (ls' := [.ref 27, .int a]) (st' := [.int (iI 1), .ref 27]) (S' := ((q_up (q_up M 27 6 (a - (iI 48))) 27 7 (a - (iI 48))), L)) rfl ?_
      obtain ⟨P1, hv1, h⟩ := h
      refine V.callVi (T2 := T_TapedLinesModel_go) (As := [.int (iI 1)]) (rest := []) rfl rfl g_TapedLinesModel_go rfl rfl rfl rfl (Nat.le_of_ble_eq_true rfl) (by simp [Value.category]) (by simp [Value.category]) (Nat.le_of_ble_eq_true rfl) (Nat.le_refl _) hv1 (fun x1 M1 hq => ?_)
      have h := h x1 M1 hq
      refine V.ifc (cd := .eq) rfl (fun hc => ?_) (fun hc => ?_)
      · have h := h.1 hc
        refine V.run 1 (pc' := 41) (ls' := [.ref 27, .int a]) (st' := [.int (iI 0)]) (S' := (M1, L)) rfl ?_
        exact V.zret rfl rfl (by decide) ⟨_, _, rfl, rfl, h⟩
      · have h := h.2 hc
        refine V.run 2 (pc' := 41) (ls' := [.ref 27, .int a]) (st' := [.int (iI 1)]) (S' := (M1, L)) rfl ?_
        exact V.zret rfl rfl (by decide) ⟨_, _, rfl, rfl, h⟩
set_option maxRecDepth 100000 in
set_option maxHeartbeats 4000000 in
theorem s_TapedLinesModel_takeDigit_0 {l : Launch} {Γ : qG} {d r : Nat} {M : qM} {L : Nat → Int64} {P : Int32 → qM → Prop} (a : Int32) (h : (¬ (M 27 3) = (iI 13) → V l Γ T_TapedLinesModel_takeDigit (d + 1) r 19 [.ref 27, .null, .null] [.int (iI 99), .int a, .ref 27] (M, L) (q_i L P)) ∧ (¬ (¬ (M 27 3) = (iI 13)) → V l Γ T_TapedLinesModel_takeDigit (d + 1) r 19 [.ref 27, .null, .null] [.int (iI 32767), .int a, .ref 27] (M, L) (q_i L P))) : V l Γ T_TapedLinesModel_takeDigit (d + 1) r 0 [.ref 27, .int a, .null] [] (M, L) (q_i L P) := by
  refine V.run 5 (pc' := 8) (ls' := [.ref 27, .int a, .null]) (st' := [.int (iI 13), .int (M 27 3), .int a, .ref 27]) (S' := (M, L)) rfl ?_
  refine V.icmp (cd := .ne) rfl (fun hc => ?_) (fun hc => ?_)
  · have h := h.1 hc
    refine V.run 1 (pc' := 19) (ls' := [.ref 27, .int a, .null]) (st' := [.int (iI 99), .int a, .ref 27]) (S' := (M, L)) rfl ?_
    refine V.forget (ls' := [.ref 27, .null, .null]) ⟨Or.inr rfl, Or.inl rfl, Or.inl rfl, trivial⟩ ?_
    exact h
  · have h := h.2 hc
    refine V.run 2 (pc' := 19) (ls' := [.ref 27, .int a, .null]) (st' := [.int (iI 32767), .int a, .ref 27]) (S' := (M, L)) rfl ?_
    refine V.forget (ls' := [.ref 27, .null, .null]) ⟨Or.inr rfl, Or.inl rfl, Or.inl rfl, trivial⟩ ?_
    exact h
set_option maxRecDepth 100000 in
set_option maxHeartbeats 4000000 in
theorem s_TapedLinesModel_takeDigit_19 {l : Launch} {Γ : qG} {d r : Nat} {M : qM} {L : Nat → Int64} {P : Int32 → qM → Prop} (w0 w1 : Int32) (h : ((M 27 3) = (iI 1) → V l Γ T_TapedLinesModel_takeDigit (d + 1) r 32 [.ref 27, .null, .null] [.int (iI 0), .int w0, .int w1, .ref 27] (M, L) (q_i L P)) ∧ (¬ (M 27 3) = (iI 1) → V l Γ T_TapedLinesModel_takeDigit (d + 1) r 32 [.ref 27, .null, .null] [.int (iI 1), .int w0, .int w1, .ref 27] (M, L) (q_i L P))) : V l Γ T_TapedLinesModel_takeDigit (d + 1) r 19 [.ref 27, .null, .null] [.int w0, .int w1, .ref 27] (M, L) (q_i L P) := by
  refine V.run 3 (pc' := 24) (ls' := [.ref 27, .null, .null]) (st' := [.int (iI 1), .int (M 27 3), .int w0, .int w1, .ref 27]) (S' := (M, L)) rfl ?_
  refine V.icmp (cd := .eq) rfl (fun hc => ?_) (fun hc => ?_)
  · have h := h.1 hc
    refine V.run 1 (pc' := 32) (ls' := [.ref 27, .null, .null]) (st' := [.int (iI 0), .int w0, .int w1, .ref 27]) (S' := (M, L)) rfl ?_
    exact h
  · have h := h.2 hc
    refine V.run 2 (pc' := 32) (ls' := [.ref 27, .null, .null]) (st' := [.int (iI 1), .int w0, .int w1, .ref 27]) (S' := (M, L)) rfl ?_
    exact h
set_option maxRecDepth 100000 in
set_option maxHeartbeats 4000000 in
theorem s_TapedLinesModel_takeDigit_32 {l : Launch} {Γ : qG} {d r : Nat} {M : qM} {L : Nat → Int64} {P : Int32 → qM → Prop} (w0 w1 w2 : Int32) (h : ∃ P1 : Int32 → qM → Prop, V l Γ T_TapedLinesModel_lengthen d 0 0 [.ref 27, .int w2, .int w1, .int w0] [] (M, L) (q_i L P1) ∧ ∀ (x1 : Int32) (M1 : qM), P1 x1 M1 → (¬ (M1 27 3) = (iI 1) → narrow .boolean (.int x1) = .int x1 ∧ P x1 (q_up M1 27 7 (M1 27 7))) ∧ (¬ (¬ (M1 27 3) = (iI 1)) → narrow .boolean (.int x1) = .int x1 ∧ P x1 (q_up M1 27 7 (M1 27 6)))) : V l Γ T_TapedLinesModel_takeDigit (d + 1) r 32 [.ref 27, .null, .null] [.int w0, .int w1, .int w2, .ref 27] (M, L) (q_i L P) := by
  obtain ⟨P1, hv1, h⟩ := h
  refine V.callVi (T2 := T_TapedLinesModel_lengthen) (As := [.int w2, .int w1, .int w0]) (rest := []) rfl rfl g_TapedLinesModel_lengthen rfl rfl rfl rfl (Nat.le_of_ble_eq_true rfl) (by simp [Value.category]) (by simp [Value.category]) (Nat.le_of_ble_eq_true rfl) (Nat.le_refl _) hv1 (fun x1 M1 hq => ?_)
  have h := h x1 M1 hq
  refine V.run 5 (pc' := 42) (ls' := [.ref 27, .null, .int x1]) (st' := [.int (iI 1), .int (M1 27 3), .ref 27]) (S' := (M1, L)) rfl ?_
  refine V.icmp (cd := .ne) rfl (fun hc => ?_) (fun hc => ?_)
  · have h := h.1 hc
    refine V.run 4 (pc' := 60) (ls' := [.ref 27, .null, .int x1]) (st' := [.int x1]) (S' := ((q_up M1 27 7 (M1 27 7)), L)) rfl ?_
    exact V.zret rfl rfl h.1 ⟨_, _, rfl, rfl, h.2⟩
  · have h := h.2 hc
    refine V.run 5 (pc' := 60) (ls' := [.ref 27, .null, .int x1]) (st' := [.int x1]) (S' := ((q_up M1 27 7 (M1 27 6)), L)) rfl ?_
    exact V.zret rfl rfl h.1 ⟨_, _, rfl, rfl, h.2⟩
set_option maxRecDepth 100000 in
set_option maxHeartbeats 4000000 in
theorem s_TapedLinesModel_takeSign_0 {l : Launch} {Γ : qG} {d r : Nat} {M : qM} {L : Nat → Int64} {P : Int32 → qM → Prop} (a b c : Int32) (h : ∃ P1 : qM → Prop, V l Γ T_TapedLinesModel_keep d 0 0 [.ref 27, .int a] [] (M, L) (q_n L P1) ∧ ∀ (M1 : qM), P1 M1 → (¬ a = b → P (iI 0) M1) ∧ (¬ (¬ a = b) → ∃ P2 : Int32 → qM → Prop, V l Γ T_TapedLinesModel_go d 0 0 [.ref 27, .int c] [] (M1, L) (q_i L P2) ∧ ∀ (x2 : Int32) (M2 : qM), P2 x2 M2 → (x2 = 0 → P (iI 0) M2) ∧ (¬ x2 = 0 → P (iI 1) M2))) : V l Γ T_TapedLinesModel_takeSign (d + 1) r 0 [.ref 27, .int a, .int b, .int c] [] (M, L) (q_i L P) := by
  refine V.run 2 (pc' := 2) (ls' := [.ref 27, .int a, .int b, .int c]) (st' := [.int a, .ref 27]) (S' := (M, L)) rfl ?_
  obtain ⟨P1, hv1, h⟩ := h
  refine V.callVv (T2 := T_TapedLinesModel_keep) (As := [.int a]) (rest := []) rfl rfl g_TapedLinesModel_keep rfl rfl rfl rfl (Nat.le_of_ble_eq_true rfl) (by simp [Value.category]) (by simp [Value.category]) (Nat.le_of_ble_eq_true rfl) (Nat.le_refl _) hv1 (fun M1 hq => ?_)
  have h := h M1 hq
  refine V.run 2 (pc' := 7) (ls' := [.ref 27, .int a, .int b, .int c]) (st' := [.int b, .int a]) (S' := (M1, L)) rfl ?_
  refine V.icmp (cd := .ne) rfl (fun hc => ?_) (fun hc => ?_)
  · have h := h.1 hc
    refine V.run 1 (pc' := 23) (ls' := [.ref 27, .int a, .int b, .int c]) (st' := [.int (iI 0)]) (S' := (M1, L)) rfl ?_
    exact V.zret rfl rfl (by decide) ⟨_, _, rfl, rfl, h⟩
  · have h := h.2 hc
    refine V.run 2 (pc' := 12) (ls' := [.ref 27, .int a, .int b, .int c]) (st' := [.int c, .ref 27]) (S' := (M1, L)) rfl ?_
    obtain ⟨P2, hv2, h⟩ := h
    refine V.callVi (T2 := T_TapedLinesModel_go) (As := [.int c]) (rest := []) rfl rfl g_TapedLinesModel_go rfl rfl rfl rfl (Nat.le_of_ble_eq_true rfl) (by simp [Value.category]) (by simp [Value.category]) (Nat.le_of_ble_eq_true rfl) (Nat.le_refl _) hv2 (fun x2 M2 hq => ?_)
    have h := h x2 M2 hq
    refine V.ifc (cd := .eq) rfl (fun hc => ?_) (fun hc => ?_)
    · have h := h.1 hc
      refine V.run 1 (pc' := 23) (ls' := [.ref 27, .int a, .int b, .int c]) (st' := [.int (iI 0)]) (S' := (M2, L)) rfl ?_
      exact V.zret rfl rfl (by decide) ⟨_, _, rfl, rfl, h⟩
    · have h := h.2 hc
      refine V.run 2 (pc' := 23) (ls' := [.ref 27, .int a, .int b, .int c]) (st' := [.int (iI 1)]) (S' := (M2, L)) rfl ?_
      exact V.zret rfl rfl (by decide) ⟨_, _, rfl, rfl, h⟩
set_option maxRecDepth 100000 in
set_option maxHeartbeats 4000000 in
theorem s_TapedLinesModel_takeOther_0 {l : Launch} {Γ : qG} {d r : Nat} {M : qM} {L : Nat → Int64} {P : Int32 → qM → Prop} (a : Int32) (h : (((M 27 3)).toInt = 0 → ∃ P1 : Int32 → qM → Prop, V l Γ T_TapedLinesModel_takeFirst d 0 0 [.ref 27, .int a] [] (M, L) (q_i L P1) ∧ ∀ (x1 : Int32) (M1 : qM), P1 x1 M1 → narrow .boolean (.int x1) = .int x1 ∧ P x1 M1) ∧ (¬ ((M 27 3)).toInt = 0 → (((M 27 3)).toInt = 1 → ∃ P2 : Int32 → qM → Prop, V l Γ T_TapedLinesModel_takeBegin d 0 0 [.ref 27, .int a] [] (M, L) (q_i L P2) ∧ ∀ (x2 : Int32) (M2 : qM), P2 x2 M2 → narrow .boolean (.int x2) = .int x2 ∧ P x2 M2) ∧ (¬ ((M 27 3)).toInt = 1 → (((M 27 3)).toInt = 2 → ∃ P3 : Int32 → qM → Prop, V l Γ T_TapedLinesModel_takeBegin d 0 0 [.ref 27, .int a] [] (M, L) (q_i L P3) ∧ ∀ (x3 : Int32) (M3 : qM), P3 x3 M3 → narrow .boolean (.int x3) = .int x3 ∧ P x3 M3) ∧ (¬ ((M 27 3)).toInt = 2 → (((M 27 3)).toInt = 3 → ∃ P4 : qM → Prop, V l Γ T_TapedLinesModel_keep d 0 0 [.ref 27, .int a] [] (M, L) (q_n L P4) ∧ ∀ (M4 : qM), P4 M4 → (¬ a = (iI 61) → P (iI 0) M4) ∧ (¬ (¬ a = (iI 61)) → ∃ P5 : Int32 → qM → Prop, V l Γ T_TapedLinesModel_open d 0 0 [.ref 27, .int (M4 27 4)] [] (M4, L) (q_i L P5) ∧ ∀ (x5 : Int32) (M5 : qM), P5 x5 M5 → (x5 = 0 → P (iI 0) M5) ∧ (¬ x5 = 0 → P (iI 1) M5))) ∧ (¬ ((M 27 3)).toInt = 3 → (((M 27 3)).toInt = 4 → ∃ P6 : qM → Prop, V l Γ T_TapedLinesModel_keep d 0 0 [.ref 27, .int a] [] (M, L) (q_n L P6) ∧ ∀ (M6 : qM), P6 M6 → (¬ a = (iI 40) → P (iI 0) M6) ∧ (¬ (¬ a = (iI 40)) → ∃ P7 : Int32 → qM → Prop, V l Γ T_TapedLinesModel_open d 0 0 [.ref 27, .int (iI 3)] [] (M6, L) (q_i L P7) ∧ ∀ (x7 : Int32) (M7 : qM), P7 x7 M7 → (x7 = 0 → P (iI 0) M7) ∧ (¬ x7 = 0 → P (iI 1) M7))) ∧ (¬ ((M 27 3)).toInt = 4 → (((M 27 3)).toInt = 5 → (¬ a = (iI 34) → ∃ P8 : Int32 → qM → Prop, V l Γ T_TapedLinesModel_open d 0 0 [.ref 27, .int (iI 0)] [] (M, L) (q_i L P8) ∧ ∀ (x8 : Int32) (M8 : qM), P8 x8 M8 → ∃ P9 : Int32 → qM → Prop, V l Γ T_TapedLinesModel_takeOne d 0 0 [.ref 27, .int a] [] (M8, L) (q_i L P9) ∧ ∀ (x9 : Int32) (M9 : qM), P9 x9 M9 → narrow .boolean (.int x9) = .int x9 ∧ P x9 M9) ∧ (¬ (¬ a = (iI 34)) → ∃ P10 : qM → Prop, V l Γ T_TapedLinesModel_keep d 0 0 [.ref 27, .int a] [] (M, L) (q_n L P10) ∧ ∀ (M10 : qM), P10 M10 → ∃ P11 : Int32 → qM → Prop, V l Γ T_TapedLinesModel_go d 0 0 [.ref 27, .int (iI 6)] [] (M10, L) (q_i L P11) ∧ ∀ (x11 : Int32) (M11 : qM), P11 x11 M11 → narrow .boolean (.int x11) = .int x11 ∧ P x11 M11)) ∧ (¬ ((M 27 3)).toInt = 5 → (((M 27 3)).toInt = 7 → ∃ P12 : qM → Prop, V l Γ T_TapedLinesModel_keep d 0 0 [.ref 27, .int a] [] (M, L) (q_n L P12) ∧ ∀ (M12 : qM), P12 M12 → (a < (iI 49) → P (iI 0) (q_up M12 27 6 (a - (iI 48)))) ∧ (¬ a < (iI 49) → ((iI 57) < a → P (iI 0) (q_up M12 27 6 (a - (iI 48)))) ∧ (¬ (iI 57) < a → ∃ P13 : Int32 → qM → Prop, V l Γ T_TapedLinesModel_go d 0 0 [.ref 27, .int (iI 8)] [] ((q_up M12 27 6 (a - (iI 48))), L) (q_i L P13) ∧ ∀ (x13 : Int32) (M13 : qM), P13 x13 M13 → (x13 = 0 → P (iI 0) M13) ∧ (¬ x13 = 0 → P (iI 1) M13)))) ∧ (¬ ((M 27 3)).toInt = 7 → (((M 27 3)).toInt = 9 → ∃ P14 : qM → Prop, V l Γ T_TapedLinesModel_keep d 0 0 [.ref 27, .int a] [] (M, L) (q_n L P14) ∧ ∀ (M14 : qM), P14 M14 → ∃ P15 : Int32 → qM → Prop, V l Γ T_TapedLinesModel_isVariable d 0 0 [.int a] [] ((q_up M14 27 4 (iI 2)), L) (q_i L P15) ∧ ∀ (x15 : Int32) (M15 : qM), P15 x15 M15 → (x15 = 0 → P (iI 0) M15) ∧ (¬ x15 = 0 → ∃ P16 : Int32 → qM → Prop, V l Γ T_TapedLinesModel_go d 0 0 [.ref 27, .int (iI 3)] [] (M15, L) (q_i L P16) ∧ ∀ (x16 : Int32) (M16 : qM), P16 x16 M16 → (x16 = 0 → P (iI 0) M16) ∧ (¬ x16 = 0 → P (iI 1) M16))) ∧ (¬ ((M 27 3)).toInt = 9 → (((M 27 3)).toInt = 10 → ∃ P17 : qM → Prop, V l Γ T_TapedLinesModel_keep d 0 0 [.ref 27, .int a] [] (M, L) (q_n L P17) ∧ ∀ (M17 : qM), P17 M17 → ∃ P18 : Int32 → qM → Prop, V l Γ T_TapedLinesModel_isVariable d 0 0 [.int a] [] (M17, L) (q_i L P18) ∧ ∀ (x18 : Int32) (M18 : qM), P18 x18 M18 → (x18 = 0 → P (iI 0) M18) ∧ (¬ x18 = 0 → ∃ P19 : Int32 → qM → Prop, V l Γ T_TapedLinesModel_go d 0 0 [.ref 27, .int (iI 15)] [] (M18, L) (q_i L P19) ∧ ∀ (x19 : Int32) (M19 : qM), P19 x19 M19 → (x19 = 0 → P (iI 0) M19) ∧ (¬ x19 = 0 → P (iI 1) M19))) ∧ (¬ ((M 27 3)).toInt = 10 → (((M 27 3)).toInt = 11 → ∃ P20 : Int32 → qM → Prop, V l Γ T_TapedLinesModel_takeOne d 0 0 [.ref 27, .int a] [] (M, L) (q_i L P20) ∧ ∀ (x20 : Int32) (M20 : qM), P20 x20 M20 → narrow .boolean (.int x20) = .int x20 ∧ P x20 M20) ∧ (¬ ((M 27 3)).toInt = 11 → (((M 27 3)).toInt = 12 → ((iI 5) ≤ ((M 27 5) + (iI 1)) → P (iI 0) (q_up M 27 5 ((M 27 5) + (iI 1)))) ∧ (¬ (iI 5) ≤ ((M 27 5) + (iI 1)) → ∃ P21 : Int32 → qM → Prop, V l Γ T_TapedLinesModel_takeSign d 0 0 [.ref 27, .int a, .int (iI 40), .int (iI 11)] [] ((q_up M 27 5 ((M 27 5) + (iI 1))), L) (q_i L P21) ∧ ∀ (x21 : Int32) (M21 : qM), P21 x21 M21 → (x21 = 0 → P (iI 0) M21) ∧ (¬ x21 = 0 → P (iI 1) M21))) ∧ (¬ ((M 27 3)).toInt = 12 → (((M 27 3)).toInt = 13 → ∃ P22 : Int32 → qM → Prop, V l Γ T_TapedLinesModel_takeBehind d 0 0 [.ref 27, .int a, .null, .null] [] (M, L) (q_i L P22) ∧ ∀ (x22 : Int32) (M22 : qM), P22 x22 M22 → narrow .boolean (.int x22) = .int x22 ∧ P x22 M22) ∧ (¬ ((M 27 3)).toInt = 13 → (((M 27 3)).toInt = 14 → ∃ P23 : Int32 → qM → Prop, V l Γ T_TapedLinesModel_takeBehind d 0 0 [.ref 27, .int a, .null, .null] [] (M, L) (q_i L P23) ∧ ∀ (x23 : Int32) (M23 : qM), P23 x23 M23 → narrow .boolean (.int x23) = .int x23 ∧ P x23 M23) ∧ (¬ ((M 27 3)).toInt = 14 → P (iI 0) M)))))))))))))) : V l Γ T_TapedLinesModel_takeOther (d + 1) r 0 [.ref 27, .int a] [] (M, L) (q_i L P) := by
  refine V.run 2 (pc' := 4) (ls' := [.ref 27, .int a]) (st' := [.int (M 27 3)]) (S' := (M, L)) rfl ?_
  refine V.swt rfl 321 [(0, 80), (1, 86), (2, 86), (3, 92), (4, 120), (5, 145), (7, 175), (9, 215), (10, 246), (11, 273), (12, 279), (13, 315), (14, 315)] (by decide) (by decide) (by decide) ?_
  refine q_swP.c (fun hc => ?_) (fun hc => ?_)
  · have h := h.1 hc
    refine V.run 2 (pc' := 82) (ls' := [.ref 27, .int a]) (st' := [.int a, .ref 27]) (S' := (M, L)) rfl ?_
    obtain ⟨P1, hv1, h⟩ := h
    refine V.callVi (T2 := T_TapedLinesModel_takeFirst) (As := [.int a]) (rest := []) rfl rfl g_TapedLinesModel_takeFirst rfl rfl rfl rfl (Nat.le_of_ble_eq_true rfl) (by simp [Value.category]) (by simp [Value.category]) (Nat.le_of_ble_eq_true rfl) (Nat.le_refl _) hv1 (fun x1 M1 hq => ?_)
    have h := h x1 M1 hq
    exact V.zret rfl rfl h.1 ⟨_, _, rfl, rfl, h.2⟩
  · have h := h.2 hc
    refine q_swP.c (fun hc => ?_) (fun hc => ?_)
    · have h := h.1 hc
      refine V.run 2 (pc' := 88) (ls' := [.ref 27, .int a]) (st' := [.int a, .ref 27]) (S' := (M, L)) rfl ?_
      obtain ⟨P2, hv2, h⟩ := h
      refine V.callVi (T2 := T_TapedLinesModel_takeBegin) (As := [.int a]) (rest := []) rfl rfl g_TapedLinesModel_takeBegin rfl rfl rfl rfl (Nat.le_of_ble_eq_true rfl) (by simp [Value.category]) (by simp [Value.category]) (Nat.le_of_ble_eq_true rfl) (Nat.le_refl _) hv2 (fun x2 M2 hq => ?_)
      have h := h x2 M2 hq
      exact V.zret rfl rfl h.1 ⟨_, _, rfl, rfl, h.2⟩
    · have h := h.2 hc
      refine q_swP.c (fun hc => ?_) (fun hc => ?_)
      · have h := h.1 hc
        refine V.run 2 (pc' := 88) (ls' := [.ref 27, .int a]) (st' := [.int a, .ref 27]) (S' := (M, L)) rfl ?_
        obtain ⟨P3, hv3, h⟩ := h
        refine V.callVi (T2 := T_TapedLinesModel_takeBegin) (As := [.int a]) (rest := []) rfl rfl g_TapedLinesModel_takeBegin rfl rfl rfl rfl (Nat.le_of_ble_eq_true rfl) (by simp [Value.category]) (by simp [Value.category]) (Nat.le_of_ble_eq_true rfl) (Nat.le_refl _) hv3 (fun x3 M3 hq => ?_)
        have h := h x3 M3 hq
        exact V.zret rfl rfl h.1 ⟨_, _, rfl, rfl, h.2⟩
      · have h := h.2 hc
        refine q_swP.c (fun hc => ?_) (fun hc => ?_)
        · have h := h.1 hc
          refine V.run 2 (pc' := 94) (ls' := [.ref 27, .int a]) (st' := [.int a, .ref 27]) (S' := (M, L)) rfl ?_
          obtain ⟨P4, hv4, h⟩ := h
          refine V.callVv (T2 := T_TapedLinesModel_keep) (As := [.int a]) (rest := []) rfl rfl g_TapedLinesModel_keep rfl rfl rfl rfl (Nat.le_of_ble_eq_true rfl) (by simp [Value.category]) (by simp [Value.category]) (Nat.le_of_ble_eq_true rfl) (Nat.le_refl _) hv4 (fun M4 hq => ?_)
          have h := h M4 hq
          refine V.run 2 (pc' := 100) (ls' := [.ref 27, .int a]) (st' := [.int (iI 61), .int a]) (S' := (M4, L)) rfl ?_
          refine V.icmp (cd := .ne) rfl (fun hc => ?_) (fun hc => ?_)
          · have h := h.1 hc
            refine V.run 1 (pc' := 119) (ls' := [.ref 27, .int a]) (st' := [.int (iI 0)]) (S' := (M4, L)) rfl ?_
            exact V.zret rfl rfl (by decide) ⟨_, _, rfl, rfl, h⟩
          · have h := h.2 hc
            refine V.run 3 (pc' := 108) (ls' := [.ref 27, .int a]) (st' := [.int (M4 27 4), .ref 27]) (S' := (M4, L)) rfl ?_
            obtain ⟨P5, hv5, h⟩ := h
            refine V.callVi (T2 := T_TapedLinesModel_open) (As := [.int (M4 27 4)]) (rest := []) rfl rfl g_TapedLinesModel_open rfl rfl rfl rfl (Nat.le_of_ble_eq_true rfl) (by simp [Value.category]) (by simp [Value.category]) (Nat.le_of_ble_eq_true rfl) (Nat.le_refl _) hv5 (fun x5 M5 hq => ?_)
            have h := h x5 M5 hq
            refine V.ifc (cd := .eq) rfl (fun hc => ?_) (fun hc => ?_)
            · have h := h.1 hc
              refine V.run 1 (pc' := 119) (ls' := [.ref 27, .int a]) (st' := [.int (iI 0)]) (S' := (M5, L)) rfl ?_
              exact V.zret rfl rfl (by decide) ⟨_, _, rfl, rfl, h⟩
            · have h := h.2 hc
              refine V.run 2 (pc' := 119) (ls' := [.ref 27, .int a]) (st' := [.int (iI 1)]) (S' := (M5, L)) rfl ?_
              exact V.zret rfl rfl (by decide) ⟨_, _, rfl, rfl, h⟩
        · have h := h.2 hc
          refine q_swP.c (fun hc => ?_) (fun hc => ?_)
          · have h := h.1 hc
            refine V.run 2 (pc' := 122) (ls' := [.ref 27, .int a]) (st' := [.int a, .ref 27]) (S' := (M, L)) rfl ?_
            obtain ⟨P6, hv6, h⟩ := h
            refine V.callVv (T2 := T_TapedLinesModel_keep) (As := [.int a]) (rest := []) rfl rfl g_TapedLinesModel_keep rfl rfl rfl rfl (Nat.le_of_ble_eq_true rfl) (by simp [Value.category]) (by simp [Value.category]) (Nat.le_of_ble_eq_true rfl) (Nat.le_refl _) hv6 (fun M6 hq => ?_)
            have h := h M6 hq
            refine V.run 2 (pc' := 128) (ls' := [.ref 27, .int a]) (st' := [.int (iI 40), .int a]) (S' := (M6, L)) rfl ?_
            refine V.icmp (cd := .ne) rfl (fun hc => ?_) (fun hc => ?_)
            · have h := h.1 hc
              refine V.run 1 (pc' := 144) (ls' := [.ref 27, .int a]) (st' := [.int (iI 0)]) (S' := (M6, L)) rfl ?_
              exact V.zret rfl rfl (by decide) ⟨_, _, rfl, rfl, h⟩
            · have h := h.2 hc
              refine V.run 2 (pc' := 133) (ls' := [.ref 27, .int a]) (st' := [.int (iI 3), .ref 27]) (S' := (M6, L)) rfl ?_
              obtain ⟨P7, hv7, h⟩ := h
              refine V.callVi (T2 := T_TapedLinesModel_open) (As := [.int (iI 3)]) (rest := []) rfl rfl g_TapedLinesModel_open rfl rfl rfl rfl (Nat.le_of_ble_eq_true rfl) (by simp [Value.category]) (by simp [Value.category]) (Nat.le_of_ble_eq_true rfl) (Nat.le_refl _) hv7 (fun x7 M7 hq => ?_)
              have h := h x7 M7 hq
              refine V.ifc (cd := .eq) rfl (fun hc => ?_) (fun hc => ?_)
              · have h := h.1 hc
                refine V.run 1 (pc' := 144) (ls' := [.ref 27, .int a]) (st' := [.int (iI 0)]) (S' := (M7, L)) rfl ?_
                exact V.zret rfl rfl (by decide) ⟨_, _, rfl, rfl, h⟩
              · have h := h.2 hc
                refine V.run 2 (pc' := 144) (ls' := [.ref 27, .int a]) (st' := [.int (iI 1)]) (S' := (M7, L)) rfl ?_
                exact V.zret rfl rfl (by decide) ⟨_, _, rfl, rfl, h⟩
          · have h := h.2 hc
            refine q_swP.c (fun hc => ?_) (fun hc => ?_)
            · have h := h.1 hc
              refine V.run 2 (pc' := 148) (ls' := [.ref 27, .int a]) (st' := [.int (iI 34), .int a]) (S' := (M, L)) rfl ?_
              refine V.icmp (cd := .ne) rfl (fun hc => ?_) (fun hc => ?_)
              · have h := h.1 hc
                refine V.run 2 (pc' := 165) (ls' := [.ref 27, .int a]) (st' := [.int (iI 0), .ref 27]) (S' := (M, L)) rfl ?_
                obtain ⟨P8, hv8, h⟩ := h
                refine V.callVi (T2 := T_TapedLinesModel_open) (As := [.int (iI 0)]) (rest := []) rfl rfl g_TapedLinesModel_open rfl rfl rfl rfl (Nat.le_of_ble_eq_true rfl) (by simp [Value.category]) (by simp [Value.category]) (Nat.le_of_ble_eq_true rfl) (Nat.le_refl _) hv8 (fun x8 M8 hq => ?_)
                have h := h x8 M8 hq
                refine V.run 3 (pc' := 171) (ls' := [.ref 27, .int a]) (st' := [.int a, .ref 27]) (S' := (M8, L)) rfl ?_
                obtain ⟨P9, hv9, h⟩ := h
                refine V.callVi (T2 := T_TapedLinesModel_takeOne) (As := [.int a]) (rest := []) rfl rfl g_TapedLinesModel_takeOne rfl rfl rfl rfl (Nat.le_of_ble_eq_true rfl) (by simp [Value.category]) (by simp [Value.category]) (Nat.le_of_ble_eq_true rfl) (Nat.le_refl _) hv9 (fun x9 M9 hq => ?_)
                have h := h x9 M9 hq
                exact V.zret rfl rfl h.1 ⟨_, _, rfl, rfl, h.2⟩
              · have h := h.2 hc
                refine V.run 2 (pc' := 153) (ls' := [.ref 27, .int a]) (st' := [.int a, .ref 27]) (S' := (M, L)) rfl ?_
                obtain ⟨P10, hv10, h⟩ := h
                refine V.callVv (T2 := T_TapedLinesModel_keep) (As := [.int a]) (rest := []) rfl rfl g_TapedLinesModel_keep rfl rfl rfl rfl (Nat.le_of_ble_eq_true rfl) (by simp [Value.category]) (by simp [Value.category]) (Nat.le_of_ble_eq_true rfl) (Nat.le_refl _) hv10 (fun M10 hq => ?_)
                have h := h M10 hq
                refine V.run 2 (pc' := 159) (ls' := [.ref 27, .int a]) (st' := [.int (iI 6), .ref 27]) (S' := (M10, L)) rfl ?_
                obtain ⟨P11, hv11, h⟩ := h
                refine V.callVi (T2 := T_TapedLinesModel_go) (As := [.int (iI 6)]) (rest := []) rfl rfl g_TapedLinesModel_go rfl rfl rfl rfl (Nat.le_of_ble_eq_true rfl) (by simp [Value.category]) (by simp [Value.category]) (Nat.le_of_ble_eq_true rfl) (Nat.le_refl _) hv11 (fun x11 M11 hq => ?_)
                have h := h x11 M11 hq
                exact V.zret rfl rfl h.1 ⟨_, _, rfl, rfl, h.2⟩
            · have h := h.2 hc
              refine q_swP.c (fun hc => ?_) (fun hc => ?_)
              · have h := h.1 hc
                refine V.run 2 (pc' := 177) (ls' := [.ref 27, .int a]) (st' := [.int a, .ref 27]) (S' := (M, L)) rfl ?_
                obtain ⟨P12, hv12, h⟩ := h
                refine V.callVv (T2 := T_TapedLinesModel_keep) (As := [.int a]) (rest := []) rfl rfl g_TapedLinesModel_keep rfl rfl rfl rfl (Nat.le_of_ble_eq_true rfl) (by simp [Value.category]) (by simp [Value.category]) (Nat.le_of_ble_eq_true rfl) (Nat.le_refl _) hv12 (fun M12 hq => ?_)
                have h := h M12 hq
                refine V.run 7 (pc' := 191) (ls' := [.ref 27, .int a]) (st' := [.int (iI 49), .int a]) (S' := ((q_up M12 27 6 (a - (iI 48))), L)) rfl ?_
                refine V.icmp (cd := .lt) rfl (fun hc => ?_) (fun hc => ?_)
                · have h := h.1 hc
                  refine V.run 1 (pc' := 214) (ls' := [.ref 27, .int a]) (st' := [.int (iI 0)]) (S' := ((q_up M12 27 6 (a - (iI 48))), L)) rfl ?_
                  exact V.zret rfl rfl (by decide) ⟨_, _, rfl, rfl, h⟩
                · have h := h.2 hc
                  refine V.run 2 (pc' := 197) (ls' := [.ref 27, .int a]) (st' := [.int (iI 57), .int a]) (S' := ((q_up M12 27 6 (a - (iI 48))), L)) rfl ?_
                  refine V.icmp (cd := .gt) rfl (fun hc => ?_) (fun hc => ?_)
                  · have h := h.1 hc
                    refine V.run 1 (pc' := 214) (ls' := [.ref 27, .int a]) (st' := [.int (iI 0)]) (S' := ((q_up M12 27 6 (a - (iI 48))), L)) rfl ?_
                    exact V.zret rfl rfl (by decide) ⟨_, _, rfl, rfl, h⟩
                  · have h := h.2 hc
                    refine V.run 2 (pc' := 203) (ls' := [.ref 27, .int a]) (st' := [.int (iI 8), .ref 27]) (S' := ((q_up M12 27 6 (a - (iI 48))), L)) rfl ?_
                    obtain ⟨P13, hv13, h⟩ := h
                    refine V.callVi (T2 := T_TapedLinesModel_go) (As := [.int (iI 8)]) (rest := []) rfl rfl g_TapedLinesModel_go rfl rfl rfl rfl (Nat.le_of_ble_eq_true rfl) (by simp [Value.category]) (by simp [Value.category]) (Nat.le_of_ble_eq_true rfl) (Nat.le_refl _) hv13 (fun x13 M13 hq => ?_)
                    have h := h x13 M13 hq
                    refine V.ifc (cd := .eq) rfl (fun hc => ?_) (fun hc => ?_)
                    · have h := h.1 hc
                      refine V.run 1 (pc' := 214) (ls' := [.ref 27, .int a]) (st' := [.int (iI 0)]) (S' := (M13, L)) rfl ?_
                      exact V.zret rfl rfl (by decide) ⟨_, _, rfl, rfl, h⟩
                    · have h := h.2 hc
                      refine V.run 2 (pc' := 214) (ls' := [.ref 27, .int a]) (st' := [.int (iI 1)]) (S' := (M13, L)) rfl ?_
                      exact V.zret rfl rfl (by decide) ⟨_, _, rfl, rfl, h⟩
              · have h := h.2 hc
                refine q_swP.c (fun hc => ?_) (fun hc => ?_)
                · have h := h.1 hc
                  refine V.run 2 (pc' := 217) (ls' := [.ref 27, .int a]) (st' := [.int a, .ref 27]) (S' := (M, L)) rfl ?_
                  obtain ⟨P14, hv14, h⟩ := h
                  refine V.callVv (T2 := T_TapedLinesModel_keep) (As := [.int a]) (rest := []) rfl rfl g_TapedLinesModel_keep rfl rfl rfl rfl (Nat.le_of_ble_eq_true rfl) (by simp [Value.category]) (by simp [Value.category]) (Nat.le_of_ble_eq_true rfl) (Nat.le_refl _) hv14 (fun M14 hq => ?_)
                  have h := h M14 hq
                  refine V.run 4 (pc' := 226) (ls' := [.ref 27, .int a]) (st' := [.int a]) (S' := ((q_up M14 27 4 (iI 2)), L)) rfl ?_
                  obtain ⟨P15, hv15, h⟩ := h
                  refine V.callSi (T2 := T_TapedLinesModel_isVariable) (As := [.int a]) (rest := []) rfl rfl g_TapedLinesModel_isVariable rfl (Nat.le_of_ble_eq_true rfl) (by simp [Value.category]) (by simp [Value.category]) (Nat.le_of_ble_eq_true rfl) (Nat.le_refl _) hv15 (fun x15 M15 hq => ?_)
                  have h := h x15 M15 hq
                  refine V.ifc (cd := .eq) rfl (fun hc => ?_) (fun hc => ?_)
                  · have h := h.1 hc
                    refine V.run 1 (pc' := 245) (ls' := [.ref 27, .int a]) (st' := [.int (iI 0)]) (S' := (M15, L)) rfl ?_
                    exact V.zret rfl rfl (by decide) ⟨_, _, rfl, rfl, h⟩
                  · have h := h.2 hc
                    refine V.run 2 (pc' := 234) (ls' := [.ref 27, .int a]) (st' := [.int (iI 3), .ref 27]) (S' := (M15, L)) rfl ?_
                    obtain ⟨P16, hv16, h⟩ := h
                    refine V.callVi (T2 := T_TapedLinesModel_go) (As := [.int (iI 3)]) (rest := []) rfl rfl g_TapedLinesModel_go rfl rfl rfl rfl (Nat.le_of_ble_eq_true rfl) (by simp [Value.category]) (by simp [Value.category]) (Nat.le_of_ble_eq_true rfl) (Nat.le_refl _) hv16 (fun x16 M16 hq => ?_)
                    have h := h x16 M16 hq
                    refine V.ifc (cd := .eq) rfl (fun hc => ?_) (fun hc => ?_)
                    · have h := h.1 hc
                      refine V.run 1 (pc' := 245) (ls' := [.ref 27, .int a]) (st' := [.int (iI 0)]) (S' := (M16, L)) rfl ?_
                      exact V.zret rfl rfl (by decide) ⟨_, _, rfl, rfl, h⟩
                    · have h := h.2 hc
                      refine V.run 2 (pc' := 245) (ls' := [.ref 27, .int a]) (st' := [.int (iI 1)]) (S' := (M16, L)) rfl ?_
                      exact V.zret rfl rfl (by decide) ⟨_, _, rfl, rfl, h⟩
                · have h := h.2 hc
                  refine q_swP.c (fun hc => ?_) (fun hc => ?_)
                  · have h := h.1 hc
                    refine V.run 2 (pc' := 248) (ls' := [.ref 27, .int a]) (st' := [.int a, .ref 27]) (S' := (M, L)) rfl ?_
                    obtain ⟨P17, hv17, h⟩ := h
                    refine V.callVv (T2 := T_TapedLinesModel_keep) (As := [.int a]) (rest := []) rfl rfl g_TapedLinesModel_keep rfl rfl rfl rfl (Nat.le_of_ble_eq_true rfl) (by simp [Value.category]) (by simp [Value.category]) (Nat.le_of_ble_eq_true rfl) (Nat.le_refl _) hv17 (fun M17 hq => ?_)
                    have h := h M17 hq
                    refine V.run 1 (pc' := 252) (ls' := [.ref 27, .int a]) (st' := [.int a]) (S' := (M17, L)) rfl ?_
                    obtain ⟨P18, hv18, h⟩ := h
                    refine V.callSi (T2 := T_TapedLinesModel_isVariable) (As := [.int a]) (rest := []) rfl rfl g_TapedLinesModel_isVariable rfl (Nat.le_of_ble_eq_true rfl) (by simp [Value.category]) (by simp [Value.category]) (Nat.le_of_ble_eq_true rfl) (Nat.le_refl _) hv18 (fun x18 M18 hq => ?_)
                    have h := h x18 M18 hq
                    refine V.ifc (cd := .eq) rfl (fun hc => ?_) (fun hc => ?_)
                    · have h := h.1 hc
                      refine V.run 1 (pc' := 272) (ls' := [.ref 27, .int a]) (st' := [.int (iI 0)]) (S' := (M18, L)) rfl ?_
                      exact V.zret rfl rfl (by decide) ⟨_, _, rfl, rfl, h⟩
                    · have h := h.2 hc
                      refine V.run 2 (pc' := 261) (ls' := [.ref 27, .int a]) (st' := [.int (iI 15), .ref 27]) (S' := (M18, L)) rfl ?_
                      obtain ⟨P19, hv19, h⟩ := h
                      refine V.callVi (T2 := T_TapedLinesModel_go) (As := [.int (iI 15)]) (rest := []) rfl rfl g_TapedLinesModel_go rfl rfl rfl rfl (Nat.le_of_ble_eq_true rfl) (by simp [Value.category]) (by simp [Value.category]) (Nat.le_of_ble_eq_true rfl) (Nat.le_refl _) hv19 (fun x19 M19 hq => ?_)
                      have h := h x19 M19 hq
                      refine V.ifc (cd := .eq) rfl (fun hc => ?_) (fun hc => ?_)
                      · have h := h.1 hc
                        refine V.run 1 (pc' := 272) (ls' := [.ref 27, .int a]) (st' := [.int (iI 0)]) (S' := (M19, L)) rfl ?_
                        exact V.zret rfl rfl (by decide) ⟨_, _, rfl, rfl, h⟩
                      · have h := h.2 hc
                        refine V.run 2 (pc' := 272) (ls' := [.ref 27, .int a]) (st' := [.int (iI 1)]) (S' := (M19, L)) rfl ?_
                        exact V.zret rfl rfl (by decide) ⟨_, _, rfl, rfl, h⟩
                  · have h := h.2 hc
                    refine q_swP.c (fun hc => ?_) (fun hc => ?_)
                    · have h := h.1 hc
                      refine V.run 2 (pc' := 275) (ls' := [.ref 27, .int a]) (st' := [.int a, .ref 27]) (S' := (M, L)) rfl ?_
                      obtain ⟨P20, hv20, h⟩ := h
                      refine V.callVi (T2 := T_TapedLinesModel_takeOne) (As := [.int a]) (rest := []) rfl rfl g_TapedLinesModel_takeOne rfl rfl rfl rfl (Nat.le_of_ble_eq_true rfl) (by simp [Value.category]) (by simp [Value.category]) (Nat.le_of_ble_eq_true rfl) (Nat.le_refl _) hv20 (fun x20 M20 hq => ?_)
                      have h := h x20 M20 hq
                      exact V.zret rfl rfl h.1 ⟨_, _, rfl, rfl, h.2⟩
                    · have h := h.2 hc
                      refine q_swP.c (fun hc => ?_) (fun hc => ?_)
                      · have h := h.1 hc
                        refine V.run 9 (pc' := 294) (ls' := [.ref 27, .int a]) (st' := [.int (iI 5), .int ((M 27 5) + (iI 1))]) (S' := ((q_up M 27 5 ((M 27 5) + (iI 1))), L)) rfl ?_
                        refine V.icmp (cd := .ge) rfl (fun hc => ?_) (fun hc => ?_)
                        · have h := h.1 hc
                          refine V.run 1 (pc' := 314) (ls' := [.ref 27, .int a]) (st' := [.int (iI 0)]) (S' := ((q_up M 27 5 ((M 27 5) + (iI 1))), L)) rfl ?_
                          exact V.zret rfl rfl (by decide) ⟨_, _, rfl, rfl, h⟩
                        · have h := h.2 hc
                          refine V.run 4 (pc' := 303) (ls' := [.ref 27, .int a]) (st' := [.int (iI 11), .int (iI 40), .int a, .ref 27]) (S' := ((q_up M 27 5 ((M 27 5) + (iI 1))), L)) rfl ?_
                          obtain ⟨P21, hv21, h⟩ := h
                          refine V.callVi (T2 := T_TapedLinesModel_takeSign) (As := [.int a, .int (iI 40), .int (iI 11)]) (rest := []) rfl rfl g_TapedLinesModel_takeSign rfl rfl rfl rfl (Nat.le_of_ble_eq_true rfl) (by simp [Value.category]) (by simp [Value.category]) (Nat.le_of_ble_eq_true rfl) (Nat.le_refl _) hv21 (fun x21 M21 hq => ?_)
                          have h := h x21 M21 hq
                          refine V.ifc (cd := .eq) rfl (fun hc => ?_) (fun hc => ?_)
                          · have h := h.1 hc
                            refine V.run 1 (pc' := 314) (ls' := [.ref 27, .int a]) (st' := [.int (iI 0)]) (S' := (M21, L)) rfl ?_
                            exact V.zret rfl rfl (by decide) ⟨_, _, rfl, rfl, h⟩
                          · have h := h.2 hc
                            refine V.run 2 (pc' := 314) (ls' := [.ref 27, .int a]) (st' := [.int (iI 1)]) (S' := (M21, L)) rfl ?_
                            exact V.zret rfl rfl (by decide) ⟨_, _, rfl, rfl, h⟩
                      · have h := h.2 hc
                        refine q_swP.c (fun hc => ?_) (fun hc => ?_)
                        · have h := h.1 hc
                          refine V.run 2 (pc' := 317) (ls' := [.ref 27, .int a]) (st' := [.int a, .ref 27]) (S' := (M, L)) rfl ?_
                          obtain ⟨P22, hv22, h⟩ := h
                          refine V.callVi (T2 := T_TapedLinesModel_takeBehind) (As := [.int a]) (rest := []) rfl rfl g_TapedLinesModel_takeBehind rfl rfl rfl rfl (Nat.le_of_ble_eq_true rfl) (by simp [Value.category]) (by simp [Value.category]) (Nat.le_of_ble_eq_true rfl) (Nat.le_refl _) hv22 (fun x22 M22 hq => ?_)
                          have h := h x22 M22 hq
                          exact V.zret rfl rfl h.1 ⟨_, _, rfl, rfl, h.2⟩
                        · have h := h.2 hc
                          refine q_swP.c (fun hc => ?_) (fun hc => ?_)
                          · have h := h.1 hc
                            refine V.run 2 (pc' := 317) (ls' := [.ref 27, .int a]) (st' := [.int a, .ref 27]) (S' := (M, L)) rfl ?_
                            obtain ⟨P23, hv23, h⟩ := h
                            refine V.callVi (T2 := T_TapedLinesModel_takeBehind) (As := [.int a]) (rest := []) rfl rfl g_TapedLinesModel_takeBehind rfl rfl rfl rfl (Nat.le_of_ble_eq_true rfl) (by simp [Value.category]) (by simp [Value.category]) (Nat.le_of_ble_eq_true rfl) (Nat.le_refl _) hv23 (fun x23 M23 hq => ?_)
                            have h := h x23 M23 hq
                            exact V.zret rfl rfl h.1 ⟨_, _, rfl, rfl, h.2⟩
                          · have h := h.2 hc
                            refine q_swP.e ?_
                            refine V.run 1 (pc' := 322) (ls' := [.ref 27, .int a]) (st' := [.int (iI 0)]) (S' := (M, L)) rfl ?_
                            exact V.zret rfl rfl (by decide) ⟨_, _, rfl, rfl, h⟩
set_option maxRecDepth 100000 in
set_option maxHeartbeats 4000000 in
theorem s_TapedLinesModel_takeQuoted_0 {l : Launch} {Γ : qG} {d r : Nat} {M : qM} {L : Nat → Int64} {P : Int32 → qM → Prop} (a : Int32) (h : ∃ P1 : qM → Prop, V l Γ T_TapedLinesModel_keep d 0 0 [.ref 27, .int a] [] (M, L) (q_n L P1) ∧ ∀ (M1 : qM), P1 M1 → (a < (iI 32) → P (iI 0) M1) ∧ (¬ a < (iI 32) → ((iI 126) < a → P (iI 0) M1) ∧ (¬ (iI 126) < a → (¬ a = (iI 34) → P (iI 1) M1) ∧ (¬ (¬ a = (iI 34)) → ∃ P2 : Int32 → qM → Prop, V l Γ T_TapedLinesModel_go d 0 0 [.ref 27, .int (iI 15)] [] (M1, L) (q_i L P2) ∧ ∀ (x2 : Int32) (M2 : qM), P2 x2 M2 → (x2 = 0 → P (iI 0) M2) ∧ (¬ x2 = 0 → P (iI 1) M2))))) : V l Γ T_TapedLinesModel_takeQuoted (d + 1) r 0 [.ref 27, .int a] [] (M, L) (q_i L P) := by
  refine V.run 2 (pc' := 2) (ls' := [.ref 27, .int a]) (st' := [.int a, .ref 27]) (S' := (M, L)) rfl ?_
  obtain ⟨P1, hv1, h⟩ := h
  refine V.callVv (T2 := T_TapedLinesModel_keep) (As := [.int a]) (rest := []) rfl rfl g_TapedLinesModel_keep rfl rfl rfl rfl (Nat.le_of_ble_eq_true rfl) (by simp [Value.category]) (by simp [Value.category]) (Nat.le_of_ble_eq_true rfl) (Nat.le_refl _) hv1 (fun M1 hq => ?_)
  have h := h M1 hq
  refine V.run 2 (pc' := 8) (ls' := [.ref 27, .int a]) (st' := [.int (iI 32), .int a]) (S' := (M1, L)) rfl ?_
  refine V.icmp (cd := .lt) rfl (fun hc => ?_) (fun hc => ?_)
  · have h := h.1 hc
    refine V.run 1 (pc' := 37) (ls' := [.ref 27, .int a]) (st' := [.int (iI 0)]) (S' := (M1, L)) rfl ?_
    exact V.zret rfl rfl (by decide) ⟨_, _, rfl, rfl, h⟩
  · have h := h.2 hc
    refine V.run 2 (pc' := 14) (ls' := [.ref 27, .int a]) (st' := [.int (iI 126), .int a]) (S' := (M1, L)) rfl ?_
    refine V.icmp (cd := .gt) rfl (fun hc => ?_) (fun hc => ?_)
    · have h := h.1 hc
      refine V.run 1 (pc' := 37) (ls' := [.ref 27, .int a]) (st' := [.int (iI 0)]) (S' := (M1, L)) rfl ?_
      exact V.zret rfl rfl (by decide) ⟨_, _, rfl, rfl, h⟩
    · have h := h.2 hc
      refine V.run 2 (pc' := 20) (ls' := [.ref 27, .int a]) (st' := [.int (iI 34), .int a]) (S' := (M1, L)) rfl ?_
      refine V.icmp (cd := .ne) rfl (fun hc => ?_) (fun hc => ?_)
      · have h := h.1 hc
        refine V.run 2 (pc' := 37) (ls' := [.ref 27, .int a]) (st' := [.int (iI 1)]) (S' := (M1, L)) rfl ?_
        exact V.zret rfl rfl (by decide) ⟨_, _, rfl, rfl, h⟩
      · have h := h.2 hc
        refine V.run 2 (pc' := 26) (ls' := [.ref 27, .int a]) (st' := [.int (iI 15), .ref 27]) (S' := (M1, L)) rfl ?_
        obtain ⟨P2, hv2, h⟩ := h
        refine V.callVi (T2 := T_TapedLinesModel_go) (As := [.int (iI 15)]) (rest := []) rfl rfl g_TapedLinesModel_go rfl rfl rfl rfl (Nat.le_of_ble_eq_true rfl) (by simp [Value.category]) (by simp [Value.category]) (Nat.le_of_ble_eq_true rfl) (Nat.le_refl _) hv2 (fun x2 M2 hq => ?_)
        have h := h x2 M2 hq
        refine V.ifc (cd := .eq) rfl (fun hc => ?_) (fun hc => ?_)
        · have h := h.1 hc
          refine V.run 1 (pc' := 37) (ls' := [.ref 27, .int a]) (st' := [.int (iI 0)]) (S' := (M2, L)) rfl ?_
          exact V.zret rfl rfl (by decide) ⟨_, _, rfl, rfl, h⟩
        · have h := h.2 hc
          refine V.run 2 (pc' := 37) (ls' := [.ref 27, .int a]) (st' := [.int (iI 1)]) (S' := (M2, L)) rfl ?_
          exact V.zret rfl rfl (by decide) ⟨_, _, rfl, rfl, h⟩
set_option maxRecDepth 100000 in
set_option maxHeartbeats 4000000 in
theorem s_TapedLinesModel_takeSpace_0 {l : Launch} {Γ : qG} {d r : Nat} {M : qM} {L : Nat → Int64} {P : Int32 → qM → Prop} (h : (¬ (M 27 3) = (iI 1) → (¬ (M 27 3) = (iI 13) → (¬ (M 27 3) = (iI 8) → V l Γ T_TapedLinesModel_takeSpace d r 45 [.ref 27] [.int (M 27 3), .ref 27] (M, L) (q_i L P)) ∧ (¬ (¬ (M 27 3) = (iI 8)) → V l Γ T_TapedLinesModel_takeSpace d r 45 [.ref 27] [.int (iI 15), .ref 27] (M, L) (q_i L P))) ∧ (¬ (¬ (M 27 3) = (iI 13)) → V l Γ T_TapedLinesModel_takeSpace d r 45 [.ref 27] [.int (iI 14), .ref 27] (M, L) (q_i L P))) ∧ (¬ (¬ (M 27 3) = (iI 1)) → V l Γ T_TapedLinesModel_takeSpace d r 45 [.ref 27] [.int (iI 2), .ref 27] (M, L) (q_i L P))) : V l Γ T_TapedLinesModel_takeSpace d r 0 [.ref 27] [] (M, L) (q_i L P) := by
  refine V.run 4 (pc' := 6) (ls' := [.ref 27]) (st' := [.int (iI 1), .int (M 27 3), .ref 27]) (S' := (M, L)) rfl ?_
  refine V.icmp (cd := .ne) rfl (fun hc => ?_) (fun hc => ?_)
  · have h := h.1 hc
    refine V.run 3 (pc' := 19) (ls' := [.ref 27]) (st' := [.int (iI 13), .int (M 27 3), .ref 27]) (S' := (M, L)) rfl ?_
    refine V.icmp (cd := .ne) rfl (fun hc => ?_) (fun hc => ?_)
    · have h := h.1 hc
      refine V.run 3 (pc' := 33) (ls' := [.ref 27]) (st' := [.int (iI 8), .int (M 27 3), .ref 27]) (S' := (M, L)) rfl ?_
      refine V.icmp (cd := .ne) rfl (fun hc => ?_) (fun hc => ?_)
      · have h := h.1 hc
        refine V.run 2 (pc' := 45) (ls' := [.ref 27]) (st' := [.int (M 27 3), .ref 27]) (S' := (M, L)) rfl ?_
        exact h
      · have h := h.2 hc
        refine V.run 2 (pc' := 45) (ls' := [.ref 27]) (st' := [.int (iI 15), .ref 27]) (S' := (M, L)) rfl ?_
        exact h
    · have h := h.2 hc
      refine V.run 2 (pc' := 45) (ls' := [.ref 27]) (st' := [.int (iI 14), .ref 27]) (S' := (M, L)) rfl ?_
      exact h
  · have h := h.2 hc
    refine V.run 2 (pc' := 45) (ls' := [.ref 27]) (st' := [.int (iI 2), .ref 27]) (S' := (M, L)) rfl ?_
    exact h
set_option maxRecDepth 100000 in
set_option maxHeartbeats 4000000 in
theorem s_TapedLinesModel_takeSpace_45 {l : Launch} {Γ : qG} {d r : Nat} {M : qM} {L : Nat → Int64} {P : Int32 → qM → Prop} (w0 : Int32) (h : (w0 = (iI 16) → P (iI 0) (q_up M 27 3 w0)) ∧ (¬ w0 = (iI 16) → P (iI 1) (q_up M 27 3 w0))) : V l Γ T_TapedLinesModel_takeSpace d r 45 [.ref 27] [.int w0, .ref 27] (M, L) (q_i L P) := by
  refine V.run 4 (pc' := 54) (ls' := [.ref 27]) (st' := [.int (iI 16), .int w0]) (S' := ((q_up M 27 3 w0), L)) rfl ?_
  refine V.icmp (cd := .eq) rfl (fun hc => ?_) (fun hc => ?_)
  · have h := h.1 hc
    refine V.run 1 (pc' := 62) (ls' := [.ref 27]) (st' := [.int (iI 0)]) (S' := ((q_up M 27 3 w0), L)) rfl ?_
    exact V.zret rfl rfl (by decide) ⟨_, _, rfl, rfl, h⟩
  · have h := h.2 hc
    refine V.run 2 (pc' := 62) (ls' := [.ref 27]) (st' := [.int (iI 1)]) (S' := ((q_up M 27 3 w0), L)) rfl ?_
    exact V.zret rfl rfl (by decide) ⟨_, _, rfl, rfl, h⟩
set_option maxRecDepth 100000 in
set_option maxHeartbeats 4000000 in
theorem s_TapedLinesModel_take_0 {l : Launch} {Γ : qG} {d r : Nat} {M : qM} {L : Nat → Int64} {P : Int32 → qM → Prop} (a : Int32) (h : (¬ (M 27 3) = (iI 6) → (¬ (M 27 3) = (iI 16) → (¬ a = (iI 32) → ∃ P1 : Int32 → qM → Prop, V l Γ T_TapedLinesModel_isDigit d 0 0 [.int a] [] (M, L) (q_i L P1) ∧ ∀ (x1 : Int32) (M1 : qM), P1 x1 M1 → (x1 = 0 → V l Γ T_TapedLinesModel_take (d + 1) r 80 [.ref 27, .int a] [] (M1, L) (q_i L P)) ∧ (¬ x1 = 0 → ((M1 27 3) = (iI 1) → ∃ P2 : Int32 → qM → Prop, V l Γ T_TapedLinesModel_takeDigit d 0 0 [.ref 27, .int a, .null] [] (M1, L) (q_i L P2) ∧ ∀ (x2 : Int32) (M2 : qM), P2 x2 M2 → narrow .boolean (.int x2) = .int x2 ∧ P x2 M2) ∧ (¬ (M1 27 3) = (iI 1) → ((M1 27 3) = (iI 13) → ∃ P3 : Int32 → qM → Prop, V l Γ T_TapedLinesModel_takeDigit d 0 0 [.ref 27, .int a, .null] [] (M1, L) (q_i L P3) ∧ ∀ (x3 : Int32) (M3 : qM), P3 x3 M3 → narrow .boolean (.int x3) = .int x3 ∧ P x3 M3) ∧ (¬ (M1 27 3) = (iI 13) → (¬ (M1 27 3) = (iI 8) → V l Γ T_TapedLinesModel_take (d + 1) r 80 [.ref 27, .int a] [] (M1, L) (q_i L P)) ∧ (¬ (¬ (M1 27 3) = (iI 8)) → ∃ P4 : Int32 → qM → Prop, V l Γ T_TapedLinesModel_takeDigit d 0 0 [.ref 27, .int a, .null] [] (M1, L) (q_i L P4) ∧ ∀ (x4 : Int32) (M4 : qM), P4 x4 M4 → narrow .boolean (.int x4) = .int x4 ∧ P x4 M4))))) ∧ (¬ (¬ a = (iI 32)) → ∃ P5 : Int32 → qM → Prop, V l Γ T_TapedLinesModel_takeSpace d 0 0 [.ref 27] [] (M, L) (q_i L P5) ∧ ∀ (x5 : Int32) (M5 : qM), P5 x5 M5 → narrow .boolean (.int x5) = .int x5 ∧ P x5 M5)) ∧ (¬ (¬ (M 27 3) = (iI 16)) → ∃ P6 : Int32 → qM → Prop, V l Γ T_TapedLinesModel_spell d 0 0 [.ref 27, .int a, .null, .null, .null] [] (M, L) (q_i L P6) ∧ ∀ (x6 : Int32) (M6 : qM), P6 x6 M6 → narrow .boolean (.int x6) = .int x6 ∧ P x6 M6)) ∧ (¬ (¬ (M 27 3) = (iI 6)) → ∃ P7 : Int32 → qM → Prop, V l Γ T_TapedLinesModel_takeQuoted d 0 0 [.ref 27, .int a] [] (M, L) (q_i L P7) ∧ ∀ (x7 : Int32) (M7 : qM), P7 x7 M7 → narrow .boolean (.int x7) = .int x7 ∧ P x7 M7)) : V l Γ T_TapedLinesModel_take (d + 1) r 0 [.ref 27, .int a] [] (M, L) (q_i L P) := by
  refine V.run 3 (pc' := 6) (ls' := [.ref 27, .int a]) (st' := [.int (iI 6), .int (M 27 3)]) (S' := (M, L)) rfl ?_
  refine V.icmp (cd := .ne) rfl (fun hc => ?_) (fun hc => ?_)
  · have h := h.1 hc
    refine V.run 3 (pc' := 21) (ls' := [.ref 27, .int a]) (st' := [.int (iI 16), .int (M 27 3)]) (S' := (M, L)) rfl ?_
    refine V.icmp (cd := .ne) rfl (fun hc => ?_) (fun hc => ?_)
    · have h := h.1 hc
      refine V.run 2 (pc' := 33) (ls' := [.ref 27, .int a]) (st' := [.int (iI 32), .int a]) (S' := (M, L)) rfl ?_
      refine V.icmp (cd := .ne) rfl (fun hc => ?_) (fun hc => ?_)
      · have h := h.1 hc
        refine V.run 1 (pc' := 42) (ls' := [.ref 27, .int a]) (st' := [.int a]) (S' := (M, L)) rfl ?_
        obtain ⟨P1, hv1, h⟩ := h
        refine V.callSi (T2 := T_TapedLinesModel_isDigit) (As := [.int a]) (rest := []) rfl rfl g_TapedLinesModel_isDigit rfl (Nat.le_of_ble_eq_true rfl) (by simp [Value.category]) (by simp [Value.category]) (Nat.le_of_ble_eq_true rfl) (Nat.le_refl _) hv1 (fun x1 M1 hq => ?_)
        have h := h x1 M1 hq
        refine V.ifc (cd := .eq) rfl (fun hc => ?_) (fun hc => ?_)
        · have h := h.1 hc
          exact h
        · have h := h.2 hc
          refine V.run 3 (pc' := 53) (ls' := [.ref 27, .int a]) (st' := [.int (iI 1), .int (M1 27 3)]) (S' := (M1, L)) rfl ?_
          refine V.icmp (cd := .eq) rfl (fun hc => ?_) (fun hc => ?_)
          · have h := h.1 hc
            refine V.run 2 (pc' := 76) (ls' := [.ref 27, .int a]) (st' := [.int a, .ref 27]) (S' := (M1, L)) rfl ?_
            obtain ⟨P2, hv2, h⟩ := h
            refine V.callVi (T2 := T_TapedLinesModel_takeDigit) (As := [.int a]) (rest := []) rfl rfl g_TapedLinesModel_takeDigit rfl rfl rfl rfl (Nat.le_of_ble_eq_true rfl) (by simp [Value.category]) (by simp [Value.category]) (Nat.le_of_ble_eq_true rfl) (Nat.le_refl _) hv2 (fun x2 M2 hq => ?_)
            have h := h x2 M2 hq
            exact V.zret rfl rfl h.1 ⟨_, _, rfl, rfl, h.2⟩
          · have h := h.2 hc
            refine V.run 3 (pc' := 62) (ls' := [.ref 27, .int a]) (st' := [.int (iI 13), .int (M1 27 3)]) (S' := (M1, L)) rfl ?_
            refine V.icmp (cd := .eq) rfl (fun hc => ?_) (fun hc => ?_)
            · have h := h.1 hc
              refine V.run 2 (pc' := 76) (ls' := [.ref 27, .int a]) (st' := [.int a, .ref 27]) (S' := (M1, L)) rfl ?_
              obtain ⟨P3, hv3, h⟩ := h
              refine V.callVi (T2 := T_TapedLinesModel_takeDigit) (As := [.int a]) (rest := []) rfl rfl g_TapedLinesModel_takeDigit rfl rfl rfl rfl (Nat.le_of_ble_eq_true rfl) (by simp [Value.category]) (by simp [Value.category]) (Nat.le_of_ble_eq_true rfl) (Nat.le_refl _) hv3 (fun x3 M3 hq => ?_)
              have h := h x3 M3 hq
              exact V.zret rfl rfl h.1 ⟨_, _, rfl, rfl, h.2⟩
            · have h := h.2 hc
              refine V.run 3 (pc' := 71) (ls' := [.ref 27, .int a]) (st' := [.int (iI 8), .int (M1 27 3)]) (S' := (M1, L)) rfl ?_
              refine V.icmp (cd := .ne) rfl (fun hc => ?_) (fun hc => ?_)
              · have h := h.1 hc
                exact h
              · have h := h.2 hc
                refine V.run 2 (pc' := 76) (ls' := [.ref 27, .int a]) (st' := [.int a, .ref 27]) (S' := (M1, L)) rfl ?_
                obtain ⟨P4, hv4, h⟩ := h
                refine V.callVi (T2 := T_TapedLinesModel_takeDigit) (As := [.int a]) (rest := []) rfl rfl g_TapedLinesModel_takeDigit rfl rfl rfl rfl (Nat.le_of_ble_eq_true rfl) (by simp [Value.category]) (by simp [Value.category]) (Nat.le_of_ble_eq_true rfl) (Nat.le_refl _) hv4 (fun x4 M4 hq => ?_)
                have h := h x4 M4 hq
                exact V.zret rfl rfl h.1 ⟨_, _, rfl, rfl, h.2⟩
      · have h := h.2 hc
        refine V.run 1 (pc' := 37) (ls' := [.ref 27, .int a]) (st' := [.ref 27]) (S' := (M, L)) rfl ?_
        obtain ⟨P5, hv5, h⟩ := h
        refine V.callVi (T2 := T_TapedLinesModel_takeSpace) (As := []) (rest := []) rfl rfl g_TapedLinesModel_takeSpace rfl rfl rfl rfl (Nat.le_of_ble_eq_true rfl) (by simp [Value.category]) (by simp [Value.category]) (Nat.le_of_ble_eq_true rfl) (Nat.le_refl _) hv5 (fun x5 M5 hq => ?_)
        have h := h x5 M5 hq
        exact V.zret rfl rfl h.1 ⟨_, _, rfl, rfl, h.2⟩
    · have h := h.2 hc
      refine V.run 2 (pc' := 26) (ls' := [.ref 27, .int a]) (st' := [.int a, .ref 27]) (S' := (M, L)) rfl ?_
      obtain ⟨P6, hv6, h⟩ := h
      refine V.callVi (T2 := T_TapedLinesModel_spell) (As := [.int a]) (rest := []) rfl rfl g_TapedLinesModel_spell rfl rfl rfl rfl (Nat.le_of_ble_eq_true rfl) (by simp [Value.category]) (by simp [Value.category]) (Nat.le_of_ble_eq_true rfl) (Nat.le_refl _) hv6 (fun x6 M6 hq => ?_)
      have h := h x6 M6 hq
      exact V.zret rfl rfl h.1 ⟨_, _, rfl, rfl, h.2⟩
  · have h := h.2 hc
    refine V.run 2 (pc' := 11) (ls' := [.ref 27, .int a]) (st' := [.int a, .ref 27]) (S' := (M, L)) rfl ?_
    obtain ⟨P7, hv7, h⟩ := h
    refine V.callVi (T2 := T_TapedLinesModel_takeQuoted) (As := [.int a]) (rest := []) rfl rfl g_TapedLinesModel_takeQuoted rfl rfl rfl rfl (Nat.le_of_ble_eq_true rfl) (by simp [Value.category]) (by simp [Value.category]) (Nat.le_of_ble_eq_true rfl) (Nat.le_refl _) hv7 (fun x7 M7 hq => ?_)
    have h := h x7 M7 hq
    exact V.zret rfl rfl h.1 ⟨_, _, rfl, rfl, h.2⟩
set_option maxRecDepth 100000 in
set_option maxHeartbeats 4000000 in
theorem s_TapedLinesModel_take_80 {l : Launch} {Γ : qG} {d r : Nat} {M : qM} {L : Nat → Int64} {P : Int32 → qM → Prop} (v1 : Int32) (h : (¬ (M 27 3) = (iI 1) → V l Γ T_TapedLinesModel_take (d + 1) r 97 [.ref 27, .int v1] [.int (M 27 3), .ref 27] (M, L) (q_i L P)) ∧ (¬ (¬ (M 27 3) = (iI 1)) → V l Γ T_TapedLinesModel_take (d + 1) r 97 [.ref 27, .int v1] [.int (iI 2), .ref 27] (M, L) (q_i L P))) : V l Γ T_TapedLinesModel_take (d + 1) r 80 [.ref 27, .int v1] [] (M, L) (q_i L P) := by
  refine V.run 4 (pc' := 86) (ls' := [.ref 27, .int v1]) (st' := [.int (iI 1), .int (M 27 3), .ref 27]) (S' := (M, L)) rfl ?_
  refine V.icmp (cd := .ne) rfl (fun hc => ?_) (fun hc => ?_)
  · have h := h.1 hc
    refine V.run 2 (pc' := 97) (ls' := [.ref 27, .int v1]) (st' := [.int (M 27 3), .ref 27]) (S' := (M, L)) rfl ?_
    exact h
  · have h := h.2 hc
    refine V.run 2 (pc' := 97) (ls' := [.ref 27, .int v1]) (st' := [.int (iI 2), .ref 27]) (S' := (M, L)) rfl ?_
    exact h
set_option maxRecDepth 100000 in
set_option maxHeartbeats 4000000 in
theorem s_TapedLinesModel_take_97 {l : Launch} {Γ : qG} {d r : Nat} {M : qM} {L : Nat → Int64} {P : Int32 → qM → Prop} (v1 w0 : Int32) (h : (v1 < (iI 65) → ∃ P1 : Int32 → qM → Prop, V l Γ T_TapedLinesModel_takeOther d 0 0 [.ref 27, .int v1] [] ((q_up M 27 3 w0), L) (q_i L P1) ∧ ∀ (x1 : Int32) (M1 : qM), P1 x1 M1 → narrow .boolean (.int x1) = .int x1 ∧ P x1 M1) ∧ (¬ v1 < (iI 65) → ((iI 90) < v1 → ∃ P2 : Int32 → qM → Prop, V l Γ T_TapedLinesModel_takeOther d 0 0 [.ref 27, .int v1] [] ((q_up M 27 3 w0), L) (q_i L P2) ∧ ∀ (x2 : Int32) (M2 : qM), P2 x2 M2 → narrow .boolean (.int x2) = .int x2 ∧ P x2 M2) ∧ (¬ (iI 90) < v1 → ∃ P3 : Int32 → qM → Prop, V l Γ T_TapedLinesModel_possible d 0 0 [.ref 27, .null] [] ((q_up M 27 3 w0), L) (q_i L P3) ∧ ∀ (x3 : Int32) (M3 : qM), P3 x3 M3 → ∃ P4 : Int32 → qM → Prop, V l Γ T_TapedLinesModel_spell d 0 0 [.ref 27, .int v1, .null, .null, .null] [] ((q_up (q_up (q_up M3 27 8 x3) 27 9 (iI 0)) 27 3 (iI 16)), L) (q_i L P4) ∧ ∀ (x4 : Int32) (M4 : qM), P4 x4 M4 → narrow .boolean (.int x4) = .int x4 ∧ P x4 M4))) : V l Γ T_TapedLinesModel_take (d + 1) r 97 [.ref 27, .int v1] [.int w0, .ref 27] (M, L) (q_i L P) := by
  refine V.run 3 (pc' := 103) (ls' := [.ref 27, .int v1]) (st' := [.int (iI 65), .int v1]) (S' := ((q_up M 27 3 w0), L)) rfl ?_
  refine V.icmp (cd := .lt) rfl (fun hc => ?_) (fun hc => ?_)
  · have h := h.1 hc
    refine V.run 2 (pc' := 139) (ls' := [.ref 27, .int v1]) (st' := [.int v1, .ref 27]) (S' := ((q_up M 27 3 w0), L)) rfl ?_
    obtain ⟨P1, hv1, h⟩ := h
    refine V.callVi (T2 := T_TapedLinesModel_takeOther) (As := [.int v1]) (rest := []) rfl rfl g_TapedLinesModel_takeOther rfl rfl rfl rfl (Nat.le_of_ble_eq_true rfl) (by simp [Value.category]) (by simp [Value.category]) (Nat.le_of_ble_eq_true rfl) (Nat.le_refl _) hv1 (fun x1 M1 hq => ?_)
    have h := h x1 M1 hq
    exact V.zret rfl rfl h.1 ⟨_, _, rfl, rfl, h.2⟩
  · have h := h.2 hc
    refine V.run 2 (pc' := 109) (ls' := [.ref 27, .int v1]) (st' := [.int (iI 90), .int v1]) (S' := ((q_up M 27 3 w0), L)) rfl ?_
    refine V.icmp (cd := .gt) rfl (fun hc => ?_) (fun hc => ?_)
    · have h := h.1 hc
      refine V.run 2 (pc' := 139) (ls' := [.ref 27, .int v1]) (st' := [.int v1, .ref 27]) (S' := ((q_up M 27 3 w0), L)) rfl ?_
      obtain ⟨P2, hv2, h⟩ := h
      refine V.callVi (T2 := T_TapedLinesModel_takeOther) (As := [.int v1]) (rest := []) rfl rfl g_TapedLinesModel_takeOther rfl rfl rfl rfl (Nat.le_of_ble_eq_true rfl) (by simp [Value.category]) (by simp [Value.category]) (Nat.le_of_ble_eq_true rfl) (Nat.le_refl _) hv2 (fun x2 M2 hq => ?_)
      have h := h x2 M2 hq
      exact V.zret rfl rfl h.1 ⟨_, _, rfl, rfl, h.2⟩
    · have h := h.2 hc
      refine V.run 2 (pc' := 114) (ls' := [.ref 27, .int v1]) (st' := [.ref 27, .ref 27]) (S' := ((q_up M 27 3 w0), L)) rfl ?_
      obtain ⟨P3, hv3, h⟩ := h
      refine V.callVi (T2 := T_TapedLinesModel_possible) (As := []) (rest := [.ref 27]) rfl rfl g_TapedLinesModel_possible rfl rfl rfl rfl (Nat.le_of_ble_eq_true rfl) (by simp [Value.category]) (by simp [Value.category]) (Nat.le_of_ble_eq_true rfl) (Nat.le_refl _) hv3 (fun x3 M3 hq => ?_)
      have h := h x3 M3 hq
      refine V.run 9 (pc' := 133) (ls' := [.ref 27, .int v1]) (st' := [.int v1, .ref 27]) (S' := ((q_up (q_up (q_up M3 27 8 x3) 27 9 (iI 0)) 27 3 (iI 16)), L)) rfl ?_
      obtain ⟨P4, hv4, h⟩ := h
      refine V.callVi (T2 := T_TapedLinesModel_spell) (As := [.int v1]) (rest := []) rfl rfl g_TapedLinesModel_spell rfl rfl rfl rfl (Nat.le_of_ble_eq_true rfl) (by simp [Value.category]) (by simp [Value.category]) (Nat.le_of_ble_eq_true rfl) (Nat.le_refl _) hv4 (fun x4 M4 hq => ?_)
      have h := h x4 M4 hq
      exact V.zret rfl rfl h.1 ⟨_, _, rfl, rfl, h.2⟩
set_option maxRecDepth 100000 in
set_option maxHeartbeats 4000000 in
theorem s_TapedLinesModel_isWhole_0 {l : Launch} {Γ : qG} {d r : Nat} {M : qM} {L : Nat → Int64} {P : Int32 → qM → Prop} (h : ((M 27 3) = (iI 14) → V l Γ T_TapedLinesModel_isWhole d r 18 [.ref 27, .null] [] (M, L) (q_i L P)) ∧ (¬ (M 27 3) = (iI 14) → (¬ (M 27 3) = (iI 13) → V l Γ T_TapedLinesModel_isWhole d r 38 [.ref 27, .null] [.int (iI 0)] (M, L) (q_i L P)) ∧ (¬ (¬ (M 27 3) = (iI 13)) → V l Γ T_TapedLinesModel_isWhole d r 18 [.ref 27, .null] [] (M, L) (q_i L P)))) : V l Γ T_TapedLinesModel_isWhole d r 0 [.ref 27, .null] [] (M, L) (q_i L P) := by
  refine V.run 3 (pc' := 6) (ls' := [.ref 27, .null]) (st' := [.int (iI 14), .int (M 27 3)]) (S' := (M, L)) rfl ?_
  refine V.icmp (cd := .eq) rfl (fun hc => ?_) (fun hc => ?_)
  · have h := h.1 hc
    exact h
  · have h := h.2 hc
    refine V.run 3 (pc' := 15) (ls' := [.ref 27, .null]) (st' := [.int (iI 13), .int (M 27 3)]) (S' := (M, L)) rfl ?_
    refine V.icmp (cd := .ne) rfl (fun hc => ?_) (fun hc => ?_)
    · have h := h.1 hc
      refine V.run 1 (pc' := 38) (ls' := [.ref 27, .null]) (st' := [.int (iI 0)]) (S' := (M, L)) rfl ?_
      exact h
    · have h := h.2 hc
      exact h
set_option maxRecDepth 100000 in
set_option maxHeartbeats 4000000 in
theorem s_TapedLinesModel_isWhole_18 {l : Launch} {Γ : qG} {d r : Nat} {M : qM} {L : Nat → Int64} {P : Int32 → qM → Prop} (h : (¬ (M 27 5) = (iI 1) → V l Γ T_TapedLinesModel_isWhole d r 38 [.ref 27, .null] [.int (iI 0)] (M, L) (q_i L P)) ∧ (¬ (¬ (M 27 5) = (iI 1)) → (¬ (M 27 4) = 0 → V l Γ T_TapedLinesModel_isWhole d r 38 [.ref 27, .null] [.int (iI 0)] (M, L) (q_i L P)) ∧ (¬ (¬ (M 27 4) = 0) → V l Γ T_TapedLinesModel_isWhole d r 38 [.ref 27, .null] [.int (iI 1)] (M, L) (q_i L P)))) : V l Γ T_TapedLinesModel_isWhole d r 18 [.ref 27, .null] [] (M, L) (q_i L P) := by
  refine V.run 3 (pc' := 23) (ls' := [.ref 27, .null]) (st' := [.int (iI 1), .int (M 27 5)]) (S' := (M, L)) rfl ?_
  refine V.icmp (cd := .ne) rfl (fun hc => ?_) (fun hc => ?_)
  · have h := h.1 hc
    refine V.run 1 (pc' := 38) (ls' := [.ref 27, .null]) (st' := [.int (iI 0)]) (S' := (M, L)) rfl ?_
    exact h
  · have h := h.2 hc
    refine V.run 2 (pc' := 30) (ls' := [.ref 27, .null]) (st' := [.int (M 27 4)]) (S' := (M, L)) rfl ?_
    refine V.ifc (cd := .ne) rfl (fun hc => ?_) (fun hc => ?_)
    · have h := h.1 hc
      refine V.run 1 (pc' := 38) (ls' := [.ref 27, .null]) (st' := [.int (iI 0)]) (S' := (M, L)) rfl ?_
      exact h
    · have h := h.2 hc
      refine V.run 2 (pc' := 38) (ls' := [.ref 27, .null]) (st' := [.int (iI 1)]) (S' := (M, L)) rfl ?_
      exact h
set_option maxRecDepth 100000 in
set_option maxHeartbeats 4000000 in
theorem s_TapedLinesModel_isWhole_38 {l : Launch} {Γ : qG} {d r : Nat} {M : qM} {L : Nat → Int64} {P : Int32 → qM → Prop} (w0 : Int32) (h : ((M 27 3) = (iI 1) → P (iI 1) M) ∧ (¬ (M 27 3) = (iI 1) → ((M 27 3) = (iI 2) → P (iI 1) M) ∧ (¬ (M 27 3) = (iI 2) → ((M 27 3) = (iI 15) → P (iI 1) M) ∧ (¬ (M 27 3) = (iI 15) → ((M 27 3) = (iI 8) → P (iI 1) M) ∧ (¬ (M 27 3) = (iI 8) → (w0 = 0 → P (iI 0) M) ∧ (¬ w0 = 0 → P (iI 1) M)))))) : V l Γ T_TapedLinesModel_isWhole d r 38 [.ref 27, .null] [.int w0] (M, L) (q_i L P) := by
  refine V.run 4 (pc' := 44) (ls' := [.ref 27, .int w0]) (st' := [.int (iI 1), .int (M 27 3)]) (S' := (M, L)) rfl ?_
  refine V.icmp (cd := .eq) rfl (fun hc => ?_) (fun hc => ?_)
  · have h := h.1 hc
    refine V.run 2 (pc' := 82) (ls' := [.ref 27, .int w0]) (st' := [.int (iI 1)]) (S' := (M, L)) rfl ?_
    exact V.zret rfl rfl (by decide) ⟨_, _, rfl, rfl, h⟩
  · have h := h.2 hc
    refine V.run 3 (pc' := 52) (ls' := [.ref 27, .int w0]) (st' := [.int (iI 2), .int (M 27 3)]) (S' := (M, L)) rfl ?_
    refine V.icmp (cd := .eq) rfl (fun hc => ?_) (fun hc => ?_)
    · have h := h.1 hc
      refine V.run 2 (pc' := 82) (ls' := [.ref 27, .int w0]) (st' := [.int (iI 1)]) (S' := (M, L)) rfl ?_
      exact V.zret rfl rfl (by decide) ⟨_, _, rfl, rfl, h⟩
    · have h := h.2 hc
      refine V.run 3 (pc' := 61) (ls' := [.ref 27, .int w0]) (st' := [.int (iI 15), .int (M 27 3)]) (S' := (M, L)) rfl ?_
      refine V.icmp (cd := .eq) rfl (fun hc => ?_) (fun hc => ?_)
      · have h := h.1 hc
        refine V.run 2 (pc' := 82) (ls' := [.ref 27, .int w0]) (st' := [.int (iI 1)]) (S' := (M, L)) rfl ?_
        exact V.zret rfl rfl (by decide) ⟨_, _, rfl, rfl, h⟩
      · have h := h.2 hc
        refine V.run 3 (pc' := 70) (ls' := [.ref 27, .int w0]) (st' := [.int (iI 8), .int (M 27 3)]) (S' := (M, L)) rfl ?_
        refine V.icmp (cd := .eq) rfl (fun hc => ?_) (fun hc => ?_)
        · have h := h.1 hc
          refine V.run 2 (pc' := 82) (ls' := [.ref 27, .int w0]) (st' := [.int (iI 1)]) (S' := (M, L)) rfl ?_
          exact V.zret rfl rfl (by decide) ⟨_, _, rfl, rfl, h⟩
        · have h := h.2 hc
          refine V.run 1 (pc' := 74) (ls' := [.ref 27, .int w0]) (st' := [.int w0]) (S' := (M, L)) rfl ?_
          refine V.ifc (cd := .eq) rfl (fun hc => ?_) (fun hc => ?_)
          · have h := h.1 hc
            refine V.run 1 (pc' := 82) (ls' := [.ref 27, .int w0]) (st' := [.int (iI 0)]) (S' := (M, L)) rfl ?_
            exact V.zret rfl rfl (by decide) ⟨_, _, rfl, rfl, h⟩
          · have h := h.2 hc
            refine V.run 2 (pc' := 82) (ls' := [.ref 27, .int w0]) (st' := [.int (iI 1)]) (S' := (M, L)) rfl ?_
            exact V.zret rfl rfl (by decide) ⟨_, _, rfl, rfl, h⟩
set_option maxRecDepth 100000 in
set_option maxHeartbeats 4000000 in
theorem s_TapedLinesModel_takeByte_0 {l : Launch} {Γ : qG} {d r : Nat} {M : qM} {L : Nat → Int64} {P : Int32 → qM → Prop} (a : Int32) (h : (¬ (M 27 3) = (iI 6) → (a < (iI 128) → ∃ P1 : Int32 → qM → Prop, V l Γ T_TapedLinesModel_isDigit d 0 0 [.int a] [] (M, L) (q_i L P1) ∧ ∀ (x1 : Int32) (M1 : qM), P1 x1 M1 → (x1 = 0 → ∃ P2 : Int32 → qM → Prop, V l Γ T_TapedLinesModel_takeOther d 0 0 [.ref 27, .int a] [] (M1, L) (q_i L P2) ∧ ∀ (x2 : Int32) (M2 : qM), P2 x2 M2 → narrow .boolean (.int x2) = .int x2 ∧ P x2 M2) ∧ (¬ x1 = 0 → ((M1 27 3) = (iI 13) → ∃ P3 : Int32 → qM → Prop, V l Γ T_TapedLinesModel_takeDigit d 0 0 [.ref 27, .int a, .null] [] (M1, L) (q_i L P3) ∧ ∀ (x3 : Int32) (M3 : qM), P3 x3 M3 → narrow .boolean (.int x3) = .int x3 ∧ P x3 M3) ∧ (¬ (M1 27 3) = (iI 13) → (¬ (M1 27 3) = (iI 8) → ∃ P4 : Int32 → qM → Prop, V l Γ T_TapedLinesModel_takeOther d 0 0 [.ref 27, .int a] [] (M1, L) (q_i L P4) ∧ ∀ (x4 : Int32) (M4 : qM), P4 x4 M4 → narrow .boolean (.int x4) = .int x4 ∧ P x4 M4) ∧ (¬ (¬ (M1 27 3) = (iI 8)) → ∃ P5 : Int32 → qM → Prop, V l Γ T_TapedLinesModel_takeDigit d 0 0 [.ref 27, .int a, .null] [] (M1, L) (q_i L P5) ∧ ∀ (x5 : Int32) (M5 : qM), P5 x5 M5 → narrow .boolean (.int x5) = .int x5 ∧ P x5 M5)))) ∧ (¬ a < (iI 128) → ((iI 136) ≤ a → P (iI 0) M) ∧ (¬ (iI 136) ≤ a → ∃ P6 : Int32 → qM → Prop, V l Γ T_TapedLinesModel_possible d 0 0 [.ref 27, .null] [] (M, L) (q_i L P6) ∧ ∀ (x6 : Int32) (M6 : qM), P6 x6 M6 → (¬ ((x6 >>> ((a - (iI 128)) &&& 31)) &&& (iI 1)) = (iI 1) → P (iI 0) M6) ∧ (¬ (¬ ((x6 >>> ((a - (iI 128)) &&& 31)) &&& (iI 1)) = (iI 1)) → ∃ P7 : Int32 → qM → Prop, V l Γ T_TapedLinesModel_pass d 0 0 [.ref 27, .int (a - (iI 128))] [] (M6, L) (q_i L P7) ∧ ∀ (x7 : Int32) (M7 : qM), P7 x7 M7 → (x7 = 0 → P (iI 0) M7) ∧ (¬ x7 = 0 → P (iI 1) M7))))) ∧ (¬ (¬ (M 27 3) = (iI 6)) → ∃ P8 : Int32 → qM → Prop, V l Γ T_TapedLinesModel_takeQuoted d 0 0 [.ref 27, .int a] [] (M, L) (q_i L P8) ∧ ∀ (x8 : Int32) (M8 : qM), P8 x8 M8 → narrow .boolean (.int x8) = .int x8 ∧ P x8 M8)) : V l Γ T_TapedLinesModel_takeByte (d + 1) r 0 [.ref 27, .int a] [] (M, L) (q_i L P) := by
  refine V.run 3 (pc' := 6) (ls' := [.ref 27, .int a]) (st' := [.int (iI 6), .int (M 27 3)]) (S' := (M, L)) rfl ?_
  refine V.icmp (cd := .ne) rfl (fun hc => ?_) (fun hc => ?_)
  · have h := h.1 hc
    refine V.run 2 (pc' := 19) (ls' := [.ref 27, .int a]) (st' := [.int (iI 128), .int a]) (S' := (M, L)) rfl ?_
    refine V.icmp (cd := .lt) rfl (fun hc => ?_) (fun hc => ?_)
    · have h := h.1 hc
      refine V.run 1 (pc' := 64) (ls' := [.ref 27, .int a]) (st' := [.int a]) (S' := (M, L)) rfl ?_
      obtain ⟨P1, hv1, h⟩ := h
      refine V.callSi (T2 := T_TapedLinesModel_isDigit) (As := [.int a]) (rest := []) rfl rfl g_TapedLinesModel_isDigit rfl (Nat.le_of_ble_eq_true rfl) (by simp [Value.category]) (by simp [Value.category]) (Nat.le_of_ble_eq_true rfl) (Nat.le_refl _) hv1 (fun x1 M1 hq => ?_)
      have h := h x1 M1 hq
      refine V.ifc (cd := .eq) rfl (fun hc => ?_) (fun hc => ?_)
      · have h := h.1 hc
        refine V.run 2 (pc' := 96) (ls' := [.ref 27, .int a]) (st' := [.int a, .ref 27]) (S' := (M1, L)) rfl ?_
        obtain ⟨P2, hv2, h⟩ := h
        refine V.callVi (T2 := T_TapedLinesModel_takeOther) (As := [.int a]) (rest := []) rfl rfl g_TapedLinesModel_takeOther rfl rfl rfl rfl (Nat.le_of_ble_eq_true rfl) (by simp [Value.category]) (by simp [Value.category]) (Nat.le_of_ble_eq_true rfl) (Nat.le_refl _) hv2 (fun x2 M2 hq => ?_)
        have h := h x2 M2 hq
        exact V.zret rfl rfl h.1 ⟨_, _, rfl, rfl, h.2⟩
      · have h := h.2 hc
        refine V.run 3 (pc' := 76) (ls' := [.ref 27, .int a]) (st' := [.int (iI 13), .int (M1 27 3)]) (S' := (M1, L)) rfl ?_
        refine V.icmp (cd := .eq) rfl (fun hc => ?_) (fun hc => ?_)
        · have h := h.1 hc
          refine V.run 2 (pc' := 90) (ls' := [.ref 27, .int a]) (st' := [.int a, .ref 27]) (S' := (M1, L)) rfl ?_
          obtain ⟨P3, hv3, h⟩ := h
          refine V.callVi (T2 := T_TapedLinesModel_takeDigit) (As := [.int a]) (rest := []) rfl rfl g_TapedLinesModel_takeDigit rfl rfl rfl rfl (Nat.le_of_ble_eq_true rfl) (by simp [Value.category]) (by simp [Value.category]) (Nat.le_of_ble_eq_true rfl) (Nat.le_refl _) hv3 (fun x3 M3 hq => ?_)
          have h := h x3 M3 hq
          exact V.zret rfl rfl h.1 ⟨_, _, rfl, rfl, h.2⟩
        · have h := h.2 hc
          refine V.run 3 (pc' := 85) (ls' := [.ref 27, .int a]) (st' := [.int (iI 8), .int (M1 27 3)]) (S' := (M1, L)) rfl ?_
          refine V.icmp (cd := .ne) rfl (fun hc => ?_) (fun hc => ?_)
          · have h := h.1 hc
            refine V.run 2 (pc' := 96) (ls' := [.ref 27, .int a]) (st' := [.int a, .ref 27]) (S' := (M1, L)) rfl ?_
            obtain ⟨P4, hv4, h⟩ := h
            refine V.callVi (T2 := T_TapedLinesModel_takeOther) (As := [.int a]) (rest := []) rfl rfl g_TapedLinesModel_takeOther rfl rfl rfl rfl (Nat.le_of_ble_eq_true rfl) (by simp [Value.category]) (by simp [Value.category]) (Nat.le_of_ble_eq_true rfl) (Nat.le_refl _) hv4 (fun x4 M4 hq => ?_)
            have h := h x4 M4 hq
            exact V.zret rfl rfl h.1 ⟨_, _, rfl, rfl, h.2⟩
          · have h := h.2 hc
            refine V.run 2 (pc' := 90) (ls' := [.ref 27, .int a]) (st' := [.int a, .ref 27]) (S' := (M1, L)) rfl ?_
            obtain ⟨P5, hv5, h⟩ := h
            refine V.callVi (T2 := T_TapedLinesModel_takeDigit) (As := [.int a]) (rest := []) rfl rfl g_TapedLinesModel_takeDigit rfl rfl rfl rfl (Nat.le_of_ble_eq_true rfl) (by simp [Value.category]) (by simp [Value.category]) (Nat.le_of_ble_eq_true rfl) (Nat.le_refl _) hv5 (fun x5 M5 hq => ?_)
            have h := h x5 M5 hq
            exact V.zret rfl rfl h.1 ⟨_, _, rfl, rfl, h.2⟩
    · have h := h.2 hc
      refine V.run 2 (pc' := 26) (ls' := [.ref 27, .int a]) (st' := [.int (iI 136), .int a]) (S' := (M, L)) rfl ?_
      refine V.icmp (cd := .ge) rfl (fun hc => ?_) (fun hc => ?_)
      · have h := h.1 hc
        refine V.run 1 (pc' := 62) (ls' := [.ref 27, .int a]) (st' := [.int (iI 0)]) (S' := (M, L)) rfl ?_
        exact V.zret rfl rfl (by decide) ⟨_, _, rfl, rfl, h⟩
      · have h := h.2 hc
        refine V.run 1 (pc' := 30) (ls' := [.ref 27, .int a]) (st' := [.ref 27]) (S' := (M, L)) rfl ?_
        obtain ⟨P6, hv6, h⟩ := h
        refine V.callVi (T2 := T_TapedLinesModel_possible) (As := []) (rest := []) rfl rfl g_TapedLinesModel_possible rfl rfl rfl rfl (Nat.le_of_ble_eq_true rfl) (by simp [Value.category]) (by simp [Value.category]) (Nat.le_of_ble_eq_true rfl) (Nat.le_refl _) hv6 (fun x6 M6 hq => ?_)
        have h := h x6 M6 hq
        refine V.run 7 (pc' := 42) (ls' := [.ref 27, .int a]) (st' := [.int (iI 1), .int ((x6 >>> ((a - (iI 128)) &&& 31)) &&& (iI 1))]) (S' := (M6, L)) rfl ?_
        refine V.icmp (cd := .ne) rfl (fun hc => ?_) (fun hc => ?_)
        · have h := h.1 hc
          refine V.run 1 (pc' := 62) (ls' := [.ref 27, .int a]) (st' := [.int (iI 0)]) (S' := (M6, L)) rfl ?_
          exact V.zret rfl rfl (by decide) ⟨_, _, rfl, rfl, h⟩
        · have h := h.2 hc
          refine V.run 4 (pc' := 51) (ls' := [.ref 27, .int a]) (st' := [.int (a - (iI 128)), .ref 27]) (S' := (M6, L)) rfl ?_
          obtain ⟨P7, hv7, h⟩ := h
          refine V.callVi (T2 := T_TapedLinesModel_pass) (As := [.int (a - (iI 128))]) (rest := []) rfl rfl g_TapedLinesModel_pass rfl rfl rfl rfl (Nat.le_of_ble_eq_true rfl) (by simp [Value.category]) (by simp [Value.category]) (Nat.le_of_ble_eq_true rfl) (Nat.le_refl _) hv7 (fun x7 M7 hq => ?_)
          have h := h x7 M7 hq
          refine V.ifc (cd := .eq) rfl (fun hc => ?_) (fun hc => ?_)
          · have h := h.1 hc
            refine V.run 1 (pc' := 62) (ls' := [.ref 27, .int a]) (st' := [.int (iI 0)]) (S' := (M7, L)) rfl ?_
            exact V.zret rfl rfl (by decide) ⟨_, _, rfl, rfl, h⟩
          · have h := h.2 hc
            refine V.run 2 (pc' := 62) (ls' := [.ref 27, .int a]) (st' := [.int (iI 1)]) (S' := (M7, L)) rfl ?_
            exact V.zret rfl rfl (by decide) ⟨_, _, rfl, rfl, h⟩
  · have h := h.2 hc
    refine V.run 2 (pc' := 11) (ls' := [.ref 27, .int a]) (st' := [.int a, .ref 27]) (S' := (M, L)) rfl ?_
    obtain ⟨P8, hv8, h⟩ := h
    refine V.callVi (T2 := T_TapedLinesModel_takeQuoted) (As := [.int a]) (rest := []) rfl rfl g_TapedLinesModel_takeQuoted rfl rfl rfl rfl (Nat.le_of_ble_eq_true rfl) (by simp [Value.category]) (by simp [Value.category]) (Nat.le_of_ble_eq_true rfl) (Nat.le_refl _) hv8 (fun x8 M8 hq => ?_)
    have h := h x8 M8 hq
    exact V.zret rfl rfl h.1 ⟨_, _, rfl, rfl, h.2⟩
