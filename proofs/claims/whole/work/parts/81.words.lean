theorem wLn_eq : ∀ k, k < 8 → q_len.getD k 0 = (wl k).length := by decide
theorem wCh_eq : ∀ k, k < 8 → ∀ j, j < (wl k).length → (q_byt.getD k []).getD j 0 = iI (lt k j + 64) := by decide +kernel
section Words
variable {l : Launch} {Γ : qG} {T T2 : qT} {d d2 r pc index μ n y x1 x2 : Nat} {ls rest As : List Value} {S : qS} {Q : qO → qS → Prop}
theorem V.wlenW (hf : q_ft T.2.2.2.2 pc = some (.invokevirtual index, 3, x1, x2)) (hy : 60 ≤ y ∧ y < 68) (hw : Cond.methodLink T.1.cls index y_length ∈ WG) (hd3 : 3 ≤ d) (hrc : ∀ v ∈ rest, v.category = 1) (hrl : rest.length ≤ 8) (hk2 : V l Γ T d r (pc + 3) ls (.int (iI (wl (y - 60)).length) :: rest) S Q) : V l Γ T d r pc ls (.ref y :: rest) S Q := by
  obtain ⟨k, rfl⟩ : ∃ k, y = 60 + k := ⟨y - 60, by omega⟩
  have hk : k < 8 := by omega
  rw [show 60 + k - 60 = k by omega, ← wLn_eq k hk] at hk2
  exact V.wlen hf hk hw hd3 hrc hrl hk2
theorem V.wcharW {i : Int32} (hf : q_ft T.2.2.2.2 pc = some (.invokevirtual index, 3, x1, x2)) (hy : 60 ≤ y ∧ y < 68) (h0 : 0 ≤ i.toInt) (h1 : i.toInt < (wl (y - 60)).length) (hw : Cond.methodLink T.1.cls index y_charAt ∈ WG) (hd3 : 5 ≤ d) (hrc : ∀ v ∈ rest, v.category = 1) (hrl : rest.length ≤ 8) (hk2 : V l Γ T d r (pc + 3) ls (.int (iI (lt (y - 60) i.toInt.toNat + 64)) :: rest) S Q) : V l Γ T d r pc ls (.int i :: .ref y :: rest) S Q := by
  obtain ⟨k, rfl⟩ : ∃ k, y = 60 + k := ⟨y - 60, by omega⟩
  have hk : k < 8 := by omega
  rw [show 60 + k - 60 = k by omega] at h1 hk2
  refine V.wchar hf hk h0 (by rw [wLn_eq k hk]; exact h1) hw hd3 hrc hrl ?_
  rw [clampI, wCh_eq k hk _ (by omega)]
  exact hk2
theorem V.callSr {Pk : Nat → qM → Prop} {M : qM} {L : Nat → Int64} (hf : q_ft T.2.2.2.2 pc = some (.invokestatic index, 3, μ, 2)) (hm : mN[μ]? = some (T2.1, n)) (hg : q_good T2) (hn : As.length = n) (hmax : (As).length ≤ T2.2.2.1) (hcat : ∀ v ∈ As, v.category = 1) (hrcat : ∀ v ∈ rest, v.category = 1) (hrl : rest.length ≤ 8) (hd2 : d2 + 1 ≤ d)
    (hv : V l Γ T2 d2 0 0 ((As) ++ List.replicate (T2.2.2.1 - (As).length) .null) [] (M, L) (q_r L Pk)) (hk : ∀ (x : Nat) (M' : qM), Pk x M' → V l Γ T d r (pc + 3) ls (.ref x :: rest) (M', L) Q) : V l Γ T d r pc ls (As.reverse ++ rest) (M, L) Q := by
  refine V.callS hf hm hg hn hmax hcat hrcat hrl hd2 (Nat.zero_le r) (fun ec S h => by obtain ⟨_, _, h, -⟩ := h; cases h) hv (fun v S' h => ?_)
  obtain ⟨x, M', h1, rfl, h2⟩ := h
  cases h1
  exact hk x M' h2
theorem V.callSNr {Pk : Nat → qM → Prop} {M : qM} {L : Nat → Int64} (hf : q_ft T.2.2.2.2 pc = some (.invokestatic index, 3, μ, 3)) (hm : mN[μ]? = some (T2.1, n)) (hg : q_good T2) (hn : As.length = n) (hmax : (As).length ≤ T2.2.2.1) (hcat : ∀ v ∈ As, v.category = 1) (hrcat : ∀ v ∈ rest, v.category = 1) (hrl : rest.length ≤ 8) (hd2 : d2 + 1 ≤ d)
    (hv : V l Γ T2 d2 0 0 ((As) ++ List.replicate (T2.2.2.1 - (As).length) .null) [] (M, L) (q_r L Pk)) (hk : ∀ (x : Nat) (M' : qM), Pk x M' → V l Γ T d r (pc + 3) ls (.ref x :: rest) (M', L) Q) : V l Γ T d r pc ls (As.reverse ++ rest) (M, L) Q := by
  refine V.callSN hf hm hg hn hmax hcat hrcat hrl hd2 (Nat.zero_le r) (fun ec S h => by obtain ⟨_, _, h, -⟩ := h; cases h) hv (fun v S' h => ?_)
  obtain ⟨x, M', h1, rfl, h2⟩ := h
  cases h1
  exact hk x M' h2
end Words
set_option maxRecDepth 100000 in
set_option maxHeartbeats 4000000 in
theorem s_TapedLines_spelling_0 {l : Launch} {Γ : qG} {d r : Nat} {M : qM} {L : Nat → Int64} {P : Nat → qM → Prop} (a : Int32) (h : ((a).toInt = 128 → P 60 M) ∧ (¬ (a).toInt = 128 → ((a).toInt = 129 → P 61 M) ∧ (¬ (a).toInt = 129 → ((a).toInt = 130 → P 62 M) ∧ (¬ (a).toInt = 130 → ((a).toInt = 131 → P 63 M) ∧ (¬ (a).toInt = 131 → ((a).toInt = 132 → P 64 M) ∧ (¬ (a).toInt = 132 → ((a).toInt = 133 → P 65 M) ∧ (¬ (a).toInt = 133 → ((a).toInt = 134 → P 66 M) ∧ (¬ (a).toInt = 134 → P 67 M)))))))) : V l Γ T_TapedLines_spelling d r 0 [.int a] [] (M, L) (q_r L P) := by
  refine V.run 1 (pc' := 1) (ls' := [.int a]) (st' := [.int a]) (S' := (M, L)) rfl ?_
  refine V.swt rfl 65 [(128, 44), (129, 47), (130, 50), (131, 53), (132, 56), (133, 59), (134, 62)] (by decide) (by decide) (by decide) ?_
  refine q_swP.c (fun hc => ?_) (fun hc => ?_)
  · have h := h.1 hc
    refine V.run 1 (pc' := 46) (ls' := [.int a]) (st' := [.ref 60]) (S' := (M, L)) rfl ?_
    exact V.aret rfl rfl ⟨_, _, rfl, rfl, h⟩
  · have h := h.2 hc
    refine q_swP.c (fun hc => ?_) (fun hc => ?_)
    · have h := h.1 hc
      refine V.run 1 (pc' := 49) (ls' := [.int a]) (st' := [.ref 61]) (S' := (M, L)) rfl ?_
      exact V.aret rfl rfl ⟨_, _, rfl, rfl, h⟩
    · have h := h.2 hc
      refine q_swP.c (fun hc => ?_) (fun hc => ?_)
      · have h := h.1 hc
        refine V.run 1 (pc' := 52) (ls' := [.int a]) (st' := [.ref 62]) (S' := (M, L)) rfl ?_
        exact V.aret rfl rfl ⟨_, _, rfl, rfl, h⟩
      · have h := h.2 hc
        refine q_swP.c (fun hc => ?_) (fun hc => ?_)
        · have h := h.1 hc
          refine V.run 1 (pc' := 55) (ls' := [.int a]) (st' := [.ref 63]) (S' := (M, L)) rfl ?_
          exact V.aret rfl rfl ⟨_, _, rfl, rfl, h⟩
        · have h := h.2 hc
          refine q_swP.c (fun hc => ?_) (fun hc => ?_)
          · have h := h.1 hc
            refine V.run 1 (pc' := 58) (ls' := [.int a]) (st' := [.ref 64]) (S' := (M, L)) rfl ?_
            exact V.aret rfl rfl ⟨_, _, rfl, rfl, h⟩
          · have h := h.2 hc
            refine q_swP.c (fun hc => ?_) (fun hc => ?_)
            · have h := h.1 hc
              refine V.run 1 (pc' := 61) (ls' := [.int a]) (st' := [.ref 65]) (S' := (M, L)) rfl ?_
              exact V.aret rfl rfl ⟨_, _, rfl, rfl, h⟩
            · have h := h.2 hc
              refine q_swP.c (fun hc => ?_) (fun hc => ?_)
              · have h := h.1 hc
                refine V.run 1 (pc' := 64) (ls' := [.int a]) (st' := [.ref 66]) (S' := (M, L)) rfl ?_
                exact V.aret rfl rfl ⟨_, _, rfl, rfl, h⟩
              · have h := h.2 hc
                refine q_swP.e ?_
                refine V.run 1 (pc' := 67) (ls' := [.int a]) (st' := [.ref 67]) (S' := (M, L)) rfl ?_
                exact V.aret rfl rfl ⟨_, _, rfl, rfl, h⟩
set_option maxRecDepth 100000 in
set_option maxHeartbeats 4000000 in
theorem s_Sheet_appendWord_0 {l : Launch} {Γ : qG} {d r : Nat} {M : qM} {L : Nat → Int64} {P : qM → Prop} (o : Nat) (ho : (o = 3) ∨ (o = 7)) (b c : Int32) (y : Nat) (hd5 : 5 ≤ d) (h : (b = 0 → V l Γ T_Sheet_appendWord (d + 1) r 14 [.ref o, .ref y, .null, .int c, .int (iI 0)] [] (M, L) (q_n L P)) ∧ (¬ b = 0 → ∃ P1 : Int32 → qM → Prop, V l Γ T_Sheet_append d 0 0 [.ref o, .int (iI 32)] [] (M, L) (q_i L P1) ∧ ∀ (x1 : Int32) (M1 : qM), P1 x1 M1 → V l Γ T_Sheet_appendWord (d + 1) r 14 [.ref o, .ref y, .null, .int c, .int (iI 0)] [] (M1, L) (q_n L P))) : V l Γ T_Sheet_appendWord (d + 1) r 0 [.ref o, .ref y, .int b, .int c, .null] [] (M, L) (q_n L P) := by
  rcases ho with rfl | rfl
  · refine V.run 1 (pc' := 1) (ls' := [.ref 3, .ref y, .int b, .int c, .null]) (st' := [.int b]) (S' := (M, L)) rfl ?_
    refine V.ifc (cd := .eq) rfl (fun hc => ?_) (fun hc => ?_)
    · have h := h.1 hc
      refine V.run 2 (pc' := 14) (ls' := [.ref 3, .ref y, .int b, .int c, .int (iI 0)]) (st' := []) (S' := (M, L)) rfl ?_
      refine V.forget (ls' := [.ref 3, .ref y, .null, .int c, .int (iI 0)]) ⟨Or.inr rfl, Or.inr rfl, Or.inl rfl, Or.inr rfl, Or.inr rfl, trivial⟩ ?_
      exact h
    · have h := h.2 hc
      refine V.run 2 (pc' := 7) (ls' := [.ref 3, .ref y, .int b, .int c, .null]) (st' := [.int (iI 32), .ref 3]) (S' := (M, L)) rfl ?_
      obtain ⟨P1, hv1, h⟩ := h
      refine V.callVi (T2 := T_Sheet_append) (As := [.int (iI 32)]) (rest := []) rfl rfl g_Sheet_append rfl rfl rfl rfl (Nat.le_of_ble_eq_true rfl) (by simp [Value.category]) (by simp [Value.category]) (Nat.le_of_ble_eq_true rfl) (Nat.le_refl _) hv1 (fun x1 M1 hq => ?_)
      have h := h x1 M1 hq
      refine V.run 3 (pc' := 14) (ls' := [.ref 3, .ref y, .int b, .int c, .int (iI 0)]) (st' := []) (S' := (M1, L)) rfl ?_
      refine V.forget (ls' := [.ref 3, .ref y, .null, .int c, .int (iI 0)]) ⟨Or.inr rfl, Or.inr rfl, Or.inl rfl, Or.inr rfl, Or.inr rfl, trivial⟩ ?_
      exact h
  · refine V.run 1 (pc' := 1) (ls' := [.ref 7, .ref y, .int b, .int c, .null]) (st' := [.int b]) (S' := (M, L)) rfl ?_
    refine V.ifc (cd := .eq) rfl (fun hc => ?_) (fun hc => ?_)
    · have h := h.1 hc
      refine V.run 2 (pc' := 14) (ls' := [.ref 7, .ref y, .int b, .int c, .int (iI 0)]) (st' := []) (S' := (M, L)) rfl ?_
      refine V.forget (ls' := [.ref 7, .ref y, .null, .int c, .int (iI 0)]) ⟨Or.inr rfl, Or.inr rfl, Or.inl rfl, Or.inr rfl, Or.inr rfl, trivial⟩ ?_
      exact h
    · have h := h.2 hc
      refine V.run 2 (pc' := 7) (ls' := [.ref 7, .ref y, .int b, .int c, .null]) (st' := [.int (iI 32), .ref 7]) (S' := (M, L)) rfl ?_
      obtain ⟨P1, hv1, h⟩ := h
      refine V.callVi (T2 := T_Sheet_append) (As := [.int (iI 32)]) (rest := []) rfl rfl g_Sheet_append rfl rfl rfl rfl (Nat.le_of_ble_eq_true rfl) (by simp [Value.category]) (by simp [Value.category]) (Nat.le_of_ble_eq_true rfl) (Nat.le_refl _) hv1 (fun x1 M1 hq => ?_)
      have h := h x1 M1 hq
      refine V.run 3 (pc' := 14) (ls' := [.ref 7, .ref y, .int b, .int c, .int (iI 0)]) (st' := []) (S' := (M1, L)) rfl ?_
      refine V.forget (ls' := [.ref 7, .ref y, .null, .int c, .int (iI 0)]) ⟨Or.inr rfl, Or.inr rfl, Or.inl rfl, Or.inr rfl, Or.inr rfl, trivial⟩ ?_
      exact h
set_option maxRecDepth 100000 in
set_option maxHeartbeats 4000000 in
theorem s_Sheet_appendWord_14 {l : Launch} {Γ : qG} {d r : Nat} {M : qM} {L : Nat → Int64} {P : qM → Prop} (o : Nat) (ho : (o = 3) ∨ (o = 7)) (v3 v4 : Int32) (y : Nat) (hd5 : 5 ≤ d) (h : (60 ≤ y ∧ y < 68) ∧ ((iI (wl (y - 60)).length) ≤ v4 → (v3 = 0 → P M) ∧ (¬ v3 = 0 → ∃ P1 : Int32 → qM → Prop, V l Γ T_Sheet_append d 0 0 [.ref o, .int (iI 32)] [] (M, L) (q_i L P1) ∧ ∀ (x1 : Int32) (M1 : qM), P1 x1 M1 → P M1)) ∧ (¬ (iI (wl (y - 60)).length) ≤ v4 → (60 ≤ y ∧ y < 68) ∧ (0 ≤ (v4).toInt ∧ (v4).toInt < (wl (y - 60)).length) ∧ ∃ P2 : Int32 → qM → Prop, V l Γ T_Sheet_append d 0 0 [.ref o, .int (iI (lt (y - 60) (v4).toInt.toNat + 64))] [] (M, L) (q_i L P2) ∧ ∀ (x2 : Int32) (M2 : qM), P2 x2 M2 → V l Γ T_Sheet_appendWord (d + 1) r 14 [.ref o, .ref y, .null, .int v3, .int (v4 + (iI 1))] [] (M2, L) (q_n L P))) : V l Γ T_Sheet_appendWord (d + 1) r 14 [.ref o, .ref y, .null, .int v3, .int v4] [] (M, L) (q_n L P) := by
  rcases ho with rfl | rfl
  · refine V.run 2 (pc' := 17) (ls' := [.ref 3, .ref y, .null, .int v3, .int v4]) (st' := [.ref y, .int v4]) (S' := (M, L)) rfl ?_
    refine V.wlenW rfl h.1 (q_in_spec (by decide +kernel)) (by omega) (by simp [Value.category]) (Nat.le_of_ble_eq_true rfl) ?_
    have h := h.2
    refine V.icmp (cd := .ge) rfl (fun hc => ?_) (fun hc => ?_)
    · have h := h.1 hc
      refine V.run 1 (pc' := 41) (ls' := [.ref 3, .ref y, .null, .int v3, .int v4]) (st' := [.int v3]) (S' := (M, L)) rfl ?_
      refine V.ifc (cd := .eq) rfl (fun hc => ?_) (fun hc => ?_)
      · have h := h.1 hc
        exact V.vret rfl rfl ⟨_, rfl, rfl, h⟩
      · have h := h.2 hc
        refine V.run 2 (pc' := 47) (ls' := [.ref 3, .ref y, .null, .int v3, .int v4]) (st' := [.int (iI 32), .ref 3]) (S' := (M, L)) rfl ?_
        obtain ⟨P1, hv1, h⟩ := h
        refine V.callVi (T2 := T_Sheet_append) (As := [.int (iI 32)]) (rest := []) rfl rfl g_Sheet_append rfl rfl rfl rfl (Nat.le_of_ble_eq_true rfl) (by simp [Value.category]) (by simp [Value.category]) (Nat.le_of_ble_eq_true rfl) (Nat.le_refl _) hv1 (fun x1 M1 hq => ?_)
        have h := h x1 M1 hq
        refine V.run 1 (pc' := 51) (ls' := [.ref 3, .ref y, .null, .int v3, .int v4]) (st' := []) (S' := (M1, L)) rfl ?_
        exact V.vret rfl rfl ⟨_, rfl, rfl, h⟩
    · have h := h.2 hc
      refine V.run 3 (pc' := 27) (ls' := [.ref 3, .ref y, .null, .int v3, .int v4]) (st' := [.int v4, .ref y, .ref 3]) (S' := (M, L)) rfl ?_
      refine V.wcharW rfl h.1 h.2.1.1 h.2.1.2 (q_in_spec (by decide +kernel)) (by omega) (by simp [Value.category]) (Nat.le_of_ble_eq_true rfl) ?_
      have h := h.2.2
      obtain ⟨P2, hv2, h⟩ := h
      refine V.callVi (T2 := T_Sheet_append) (As := [.int (iI (lt (y - 60) (v4).toInt.toNat + 64))]) (rest := []) rfl rfl g_Sheet_append rfl rfl rfl rfl (Nat.le_of_ble_eq_true rfl) (by simp [Value.category]) (by simp [Value.category]) (Nat.le_of_ble_eq_true rfl) (Nat.le_refl _) hv2 (fun x2 M2 hq => ?_)
      have h := h x2 M2 hq
      refine V.run 3 (pc' := 14) (ls' := [.ref 3, .ref y, .null, .int v3, .int (v4 + (iI 1))]) (st' := []) (S' := (M2, L)) rfl ?_
      exact h
  · refine V.run 2 (pc' := 17) (ls' := [.ref 7, .ref y, .null, .int v3, .int v4]) (st' := [.ref y, .int v4]) (S' := (M, L)) rfl ?_
    refine V.wlenW rfl h.1 (q_in_spec (by decide +kernel)) (by omega) (by simp [Value.category]) (Nat.le_of_ble_eq_true rfl) ?_
    have h := h.2
    refine V.icmp (cd := .ge) rfl (fun hc => ?_) (fun hc => ?_)
    · have h := h.1 hc
      refine V.run 1 (pc' := 41) (ls' := [.ref 7, .ref y, .null, .int v3, .int v4]) (st' := [.int v3]) (S' := (M, L)) rfl ?_
      refine V.ifc (cd := .eq) rfl (fun hc => ?_) (fun hc => ?_)
      · have h := h.1 hc
        exact V.vret rfl rfl ⟨_, rfl, rfl, h⟩
      · have h := h.2 hc
        refine V.run 2 (pc' := 47) (ls' := [.ref 7, .ref y, .null, .int v3, .int v4]) (st' := [.int (iI 32), .ref 7]) (S' := (M, L)) rfl ?_
        obtain ⟨P1, hv1, h⟩ := h
        refine V.callVi (T2 := T_Sheet_append) (As := [.int (iI 32)]) (rest := []) rfl rfl g_Sheet_append rfl rfl rfl rfl (Nat.le_of_ble_eq_true rfl) (by simp [Value.category]) (by simp [Value.category]) (Nat.le_of_ble_eq_true rfl) (Nat.le_refl _) hv1 (fun x1 M1 hq => ?_)
        have h := h x1 M1 hq
        refine V.run 1 (pc' := 51) (ls' := [.ref 7, .ref y, .null, .int v3, .int v4]) (st' := []) (S' := (M1, L)) rfl ?_
        exact V.vret rfl rfl ⟨_, rfl, rfl, h⟩
    · have h := h.2 hc
      refine V.run 3 (pc' := 27) (ls' := [.ref 7, .ref y, .null, .int v3, .int v4]) (st' := [.int v4, .ref y, .ref 7]) (S' := (M, L)) rfl ?_
      refine V.wcharW rfl h.1 h.2.1.1 h.2.1.2 (q_in_spec (by decide +kernel)) (by omega) (by simp [Value.category]) (Nat.le_of_ble_eq_true rfl) ?_
      have h := h.2.2
      obtain ⟨P2, hv2, h⟩ := h
      refine V.callVi (T2 := T_Sheet_append) (As := [.int (iI (lt (y - 60) (v4).toInt.toNat + 64))]) (rest := []) rfl rfl g_Sheet_append rfl rfl rfl rfl (Nat.le_of_ble_eq_true rfl) (by simp [Value.category]) (by simp [Value.category]) (Nat.le_of_ble_eq_true rfl) (Nat.le_refl _) hv2 (fun x2 M2 hq => ?_)
      have h := h x2 M2 hq
      refine V.run 3 (pc' := 14) (ls' := [.ref 7, .ref y, .null, .int v3, .int (v4 + (iI 1))]) (st' := []) (S' := (M2, L)) rfl ?_
      exact h
set_option maxRecDepth 100000 in
set_option maxHeartbeats 4000000 in
theorem s_Sheet_spell_0 {l : Launch} {Γ : qG} {d r : Nat} {M : qM} {L : Nat → Int64} {P : qM → Prop} (o w : Nat) (ho : (o = 3 ∧ w = 11) ∨ (o = 7 ∧ w = 26)) (b c : Int32) (h : V l Γ T_Sheet_spell (d + 1) r 3 [.ref o, .ref w, .int b, .int c, .int (iI 0), .null] [] (M, L) (q_n L P)) : V l Γ T_Sheet_spell (d + 1) r 0 [.ref o, .ref w, .int b, .int c, .null, .null] [] (M, L) (q_n L P) := by
  rcases ho with ⟨rfl, rfl⟩ | ⟨rfl, rfl⟩
  · refine V.run 2 (pc' := 3) (ls' := [.ref 3, .ref 11, .int b, .int c, .int (iI 0), .null]) (st' := []) (S' := (M, L)) rfl ?_
    exact h
  · refine V.run 2 (pc' := 3) (ls' := [.ref 7, .ref 26, .int b, .int c, .int (iI 0), .null]) (st' := []) (S' := (M, L)) rfl ?_
    exact h
set_option maxRecDepth 100000 in
set_option maxHeartbeats 4000000 in
theorem s_Sheet_spell_3 {l : Launch} {Γ : qG} {d r : Nat} {M : qM} {L : Nat → Int64} {P : qM → Prop} (o w : Nat) (ho : (o = 3 ∧ w = 11) ∨ (o = 7 ∧ w = 26)) (v2 v3 v4 : Int32) (h : (v3 ≤ v4 → P M) ∧ (¬ v3 ≤ v4 → vp_in (v2 + v4) (cp w) ∧ ((M w ((v2 + v4)).toNatClampNeg) < (iI 128) → ∃ P1 : Int32 → qM → Prop, V l Γ T_Sheet_append d 0 0 [.ref o, .int (((M w ((v2 + v4)).toNatClampNeg)).toUInt32 % 65536).toInt32] [] (M, L) (q_i L P1) ∧ ∀ (x1 : Int32) (M1 : qM), P1 x1 M1 → V l Γ T_Sheet_spell (d + 1) r 3 [.ref o, .ref w, .int v2, .int v3, .int (v4 + (iI 1)), .null] [] (M1, L) (q_n L P)) ∧ (¬ (M w ((v2 + v4)).toNatClampNeg) < (iI 128) → ((M w ((v2 + v4)).toNatClampNeg) ≤ (iI 135) → ∃ P2 : Nat → qM → Prop, V l Γ T_TapedLines_spelling d 0 0 [.int (M w ((v2 + v4)).toNatClampNeg)] [] (M, L) (q_r L P2) ∧ ∀ (y : Nat) (M2 : qM), P2 y M2 → (v4 ≤ 0 → V l Γ T_Sheet_spell (d + 1) r 60 [.ref o, .ref w, .int v2, .int v3, .int v4, .null] [.int (iI 0), .ref y, .ref o] (M2, L) (q_n L P)) ∧ (¬ v4 ≤ 0 → V l Γ T_Sheet_spell (d + 1) r 60 [.ref o, .ref w, .int v2, .int v3, .int v4, .null] [.int (iI 1), .ref y, .ref o] (M2, L) (q_n L P))) ∧ (¬ (M w ((v2 + v4)).toNatClampNeg) ≤ (iI 135) → ∃ P3 : Int32 → qM → Prop, V l Γ T_Sheet_append d 0 0 [.ref o, .int (((M w ((v2 + v4)).toNatClampNeg)).toUInt32 % 65536).toInt32] [] (M, L) (q_i L P3) ∧ ∀ (x3 : Int32) (M3 : qM), P3 x3 M3 → V l Γ T_Sheet_spell (d + 1) r 3 [.ref o, .ref w, .int v2, .int v3, .int (v4 + (iI 1)), .null] [] (M3, L) (q_n L P))))) : V l Γ T_Sheet_spell (d + 1) r 3 [.ref o, .ref w, .int v2, .int v3, .int v4, .null] [] (M, L) (q_n L P) := by
  rcases ho with ⟨rfl, rfl⟩ | ⟨rfl, rfl⟩
  · refine V.run 2 (pc' := 6) (ls' := [.ref 3, .ref 11, .int v2, .int v3, .int v4, .null]) (st' := [.int v3, .int v4]) (S' := (M, L)) rfl ?_
    refine V.icmp (cd := .ge) rfl (fun hc => ?_) (fun hc => ?_)
    · have h := h.1 hc
      exact V.vret rfl rfl ⟨_, rfl, rfl, h⟩
    · have h := h.2 hc
      refine V.run 4 (pc' := 14) (ls' := [.ref 3, .ref 11, .int v2, .int v3, .int v4, .null]) (st' := [.int (v2 + v4), .ref 11]) (S' := (M, L)) rfl ?_
      refine V.iald rfl rfl h.1 ?_
      have h := h.2
      refine V.run 3 (pc' := 22) (ls' := [.ref 3, .ref 11, .int v2, .int v3, .int v4, .int (M 11 ((v2 + v4)).toNatClampNeg)]) (st' := [.int (iI 128), .int (M 11 ((v2 + v4)).toNatClampNeg)]) (S' := (M, L)) rfl ?_
      refine V.icmp (cd := .lt) rfl (fun hc => ?_) (fun hc => ?_)
      · have h := h.1 hc
        refine V.run 3 (pc' := 37) (ls' := [.ref 3, .ref 11, .int v2, .int v3, .int v4, .int (M 11 ((v2 + v4)).toNatClampNeg)]) (st' := [.int (((M 11 ((v2 + v4)).toNatClampNeg)).toUInt32 % 65536).toInt32, .ref 3]) (S' := (M, L)) rfl ?_
        obtain ⟨P1, hv1, h⟩ := h
        refine V.callVi (T2 := T_Sheet_append) (As := [.int (((M 11 ((v2 + v4)).toNatClampNeg)).toUInt32 % 65536).toInt32]) (rest := []) rfl rfl g_Sheet_append rfl rfl rfl rfl (Nat.le_of_ble_eq_true rfl) (by simp [Value.category]) (by simp [Value.category]) (Nat.le_of_ble_eq_true rfl) (Nat.le_refl _) hv1 (fun x1 M1 hq => ?_)
        have h := h x1 M1 hq
        refine V.run 4 (pc' := 3) (ls' := [.ref 3, .ref 11, .int v2, .int v3, .int (v4 + (iI 1)), .int (M 11 ((v2 + v4)).toNatClampNeg)]) (st' := []) (S' := (M1, L)) rfl ?_
        refine V.forget (ls' := [.ref 3, .ref 11, .int v2, .int v3, .int (v4 + (iI 1)), .null]) ⟨Or.inr rfl, Or.inr rfl, Or.inr rfl, Or.inr rfl, Or.inr rfl, Or.inl rfl, trivial⟩ ?_
        exact h
      · have h := h.2 hc
        refine V.run 2 (pc' := 30) (ls' := [.ref 3, .ref 11, .int v2, .int v3, .int v4, .int (M 11 ((v2 + v4)).toNatClampNeg)]) (st' := [.int (iI 135), .int (M 11 ((v2 + v4)).toNatClampNeg)]) (S' := (M, L)) rfl ?_
        refine V.icmp (cd := .le) rfl (fun hc => ?_) (fun hc => ?_)
        · have h := h.1 hc
          refine V.run 2 (pc' := 47) (ls' := [.ref 3, .ref 11, .int v2, .int v3, .int v4, .int (M 11 ((v2 + v4)).toNatClampNeg)]) (st' := [.int (M 11 ((v2 + v4)).toNatClampNeg), .ref 3]) (S' := (M, L)) rfl ?_
          obtain ⟨P2, hv2, h⟩ := h
          refine V.callSNr (T2 := T_TapedLines_spelling) (As := [.int (M 11 ((v2 + v4)).toNatClampNeg)]) (rest := [.ref 3]) rfl rfl g_TapedLines_spelling rfl (Nat.le_of_ble_eq_true rfl) (by simp [Value.category]) (by simp [Value.category]) (Nat.le_of_ble_eq_true rfl) (Nat.le_refl _) hv2 (fun y M2 hq => ?_)
          have h := h y M2 hq
          refine V.run 1 (pc' := 52) (ls' := [.ref 3, .ref 11, .int v2, .int v3, .int v4, .int (M 11 ((v2 + v4)).toNatClampNeg)]) (st' := [.int v4, .ref y, .ref 3]) (S' := (M2, L)) rfl ?_
          refine V.ifc (cd := .le) rfl (fun hc => ?_) (fun hc => ?_)
          · have h := h.1 hc
            refine V.run 1 (pc' := 60) (ls' := [.ref 3, .ref 11, .int v2, .int v3, .int v4, .int (M 11 ((v2 + v4)).toNatClampNeg)]) (st' := [.int (iI 0), .ref y, .ref 3]) (S' := (M2, L)) rfl ?_
            refine V.forget (ls' := [.ref 3, .ref 11, .int v2, .int v3, .int v4, .null]) ⟨Or.inr rfl, Or.inr rfl, Or.inr rfl, Or.inr rfl, Or.inr rfl, Or.inl rfl, trivial⟩ ?_
            exact h
          · have h := h.2 hc
            refine V.run 2 (pc' := 60) (ls' := [.ref 3, .ref 11, .int v2, .int v3, .int v4, .int (M 11 ((v2 + v4)).toNatClampNeg)]) (st' := [.int (iI 1), .ref y, .ref 3]) (S' := (M2, L)) rfl ?_
            refine V.forget (ls' := [.ref 3, .ref 11, .int v2, .int v3, .int v4, .null]) ⟨Or.inr rfl, Or.inr rfl, Or.inr rfl, Or.inr rfl, Or.inr rfl, Or.inl rfl, trivial⟩ ?_
            exact h
        · have h := h.2 hc
          refine V.run 3 (pc' := 37) (ls' := [.ref 3, .ref 11, .int v2, .int v3, .int v4, .int (M 11 ((v2 + v4)).toNatClampNeg)]) (st' := [.int (((M 11 ((v2 + v4)).toNatClampNeg)).toUInt32 % 65536).toInt32, .ref 3]) (S' := (M, L)) rfl ?_
          obtain ⟨P3, hv3, h⟩ := h
          refine V.callVi (T2 := T_Sheet_append) (As := [.int (((M 11 ((v2 + v4)).toNatClampNeg)).toUInt32 % 65536).toInt32]) (rest := []) rfl rfl g_Sheet_append rfl rfl rfl rfl (Nat.le_of_ble_eq_true rfl) (by simp [Value.category]) (by simp [Value.category]) (Nat.le_of_ble_eq_true rfl) (Nat.le_refl _) hv3 (fun x3 M3 hq => ?_)
          have h := h x3 M3 hq
          refine V.run 4 (pc' := 3) (ls' := [.ref 3, .ref 11, .int v2, .int v3, .int (v4 + (iI 1)), .int (M 11 ((v2 + v4)).toNatClampNeg)]) (st' := []) (S' := (M3, L)) rfl ?_
          refine V.forget (ls' := [.ref 3, .ref 11, .int v2, .int v3, .int (v4 + (iI 1)), .null]) ⟨Or.inr rfl, Or.inr rfl, Or.inr rfl, Or.inr rfl, Or.inr rfl, Or.inl rfl, trivial⟩ ?_
          exact h
  · refine V.run 2 (pc' := 6) (ls' := [.ref 7, .ref 26, .int v2, .int v3, .int v4, .null]) (st' := [.int v3, .int v4]) (S' := (M, L)) rfl ?_
    refine V.icmp (cd := .ge) rfl (fun hc => ?_) (fun hc => ?_)
    · have h := h.1 hc
      exact V.vret rfl rfl ⟨_, rfl, rfl, h⟩
    · have h := h.2 hc
      refine V.run 4 (pc' := 14) (ls' := [.ref 7, .ref 26, .int v2, .int v3, .int v4, .null]) (st' := [.int (v2 + v4), .ref 26]) (S' := (M, L)) rfl ?_
      refine V.iald rfl rfl h.1 ?_
      have h := h.2
      refine V.run 3 (pc' := 22) (ls' := [.ref 7, .ref 26, .int v2, .int v3, .int v4, .int (M 26 ((v2 + v4)).toNatClampNeg)]) (st' := [.int (iI 128), .int (M 26 ((v2 + v4)).toNatClampNeg)]) (S' := (M, L)) rfl ?_
      refine V.icmp (cd := .lt) rfl (fun hc => ?_) (fun hc => ?_)
      · have h := h.1 hc
        refine V.run 3 (pc' := 37) (ls' := [.ref 7, .ref 26, .int v2, .int v3, .int v4, .int (M 26 ((v2 + v4)).toNatClampNeg)]) (st' := [.int (((M 26 ((v2 + v4)).toNatClampNeg)).toUInt32 % 65536).toInt32, .ref 7]) (S' := (M, L)) rfl ?_
        obtain ⟨P1, hv1, h⟩ := h
        refine V.callVi (T2 := T_Sheet_append) (As := [.int (((M 26 ((v2 + v4)).toNatClampNeg)).toUInt32 % 65536).toInt32]) (rest := []) rfl rfl g_Sheet_append rfl rfl rfl rfl (Nat.le_of_ble_eq_true rfl) (by simp [Value.category]) (by simp [Value.category]) (Nat.le_of_ble_eq_true rfl) (Nat.le_refl _) hv1 (fun x1 M1 hq => ?_)
        have h := h x1 M1 hq
        refine V.run 4 (pc' := 3) (ls' := [.ref 7, .ref 26, .int v2, .int v3, .int (v4 + (iI 1)), .int (M 26 ((v2 + v4)).toNatClampNeg)]) (st' := []) (S' := (M1, L)) rfl ?_
        refine V.forget (ls' := [.ref 7, .ref 26, .int v2, .int v3, .int (v4 + (iI 1)), .null]) ⟨Or.inr rfl, Or.inr rfl, Or.inr rfl, Or.inr rfl, Or.inr rfl, Or.inl rfl, trivial⟩ ?_
        exact h
      · have h := h.2 hc
        refine V.run 2 (pc' := 30) (ls' := [.ref 7, .ref 26, .int v2, .int v3, .int v4, .int (M 26 ((v2 + v4)).toNatClampNeg)]) (st' := [.int (iI 135), .int (M 26 ((v2 + v4)).toNatClampNeg)]) (S' := (M, L)) rfl ?_
        refine V.icmp (cd := .le) rfl (fun hc => ?_) (fun hc => ?_)
        · have h := h.1 hc
          refine V.run 2 (pc' := 47) (ls' := [.ref 7, .ref 26, .int v2, .int v3, .int v4, .int (M 26 ((v2 + v4)).toNatClampNeg)]) (st' := [.int (M 26 ((v2 + v4)).toNatClampNeg), .ref 7]) (S' := (M, L)) rfl ?_
          obtain ⟨P2, hv2, h⟩ := h
          refine V.callSNr (T2 := T_TapedLines_spelling) (As := [.int (M 26 ((v2 + v4)).toNatClampNeg)]) (rest := [.ref 7]) rfl rfl g_TapedLines_spelling rfl (Nat.le_of_ble_eq_true rfl) (by simp [Value.category]) (by simp [Value.category]) (Nat.le_of_ble_eq_true rfl) (Nat.le_refl _) hv2 (fun y M2 hq => ?_)
          have h := h y M2 hq
          refine V.run 1 (pc' := 52) (ls' := [.ref 7, .ref 26, .int v2, .int v3, .int v4, .int (M 26 ((v2 + v4)).toNatClampNeg)]) (st' := [.int v4, .ref y, .ref 7]) (S' := (M2, L)) rfl ?_
          refine V.ifc (cd := .le) rfl (fun hc => ?_) (fun hc => ?_)
          · have h := h.1 hc
            refine V.run 1 (pc' := 60) (ls' := [.ref 7, .ref 26, .int v2, .int v3, .int v4, .int (M 26 ((v2 + v4)).toNatClampNeg)]) (st' := [.int (iI 0), .ref y, .ref 7]) (S' := (M2, L)) rfl ?_
            refine V.forget (ls' := [.ref 7, .ref 26, .int v2, .int v3, .int v4, .null]) ⟨Or.inr rfl, Or.inr rfl, Or.inr rfl, Or.inr rfl, Or.inr rfl, Or.inl rfl, trivial⟩ ?_
            exact h
          · have h := h.2 hc
            refine V.run 2 (pc' := 60) (ls' := [.ref 7, .ref 26, .int v2, .int v3, .int v4, .int (M 26 ((v2 + v4)).toNatClampNeg)]) (st' := [.int (iI 1), .ref y, .ref 7]) (S' := (M2, L)) rfl ?_
            refine V.forget (ls' := [.ref 7, .ref 26, .int v2, .int v3, .int v4, .null]) ⟨Or.inr rfl, Or.inr rfl, Or.inr rfl, Or.inr rfl, Or.inr rfl, Or.inl rfl, trivial⟩ ?_
            exact h
        · have h := h.2 hc
          refine V.run 3 (pc' := 37) (ls' := [.ref 7, .ref 26, .int v2, .int v3, .int v4, .int (M 26 ((v2 + v4)).toNatClampNeg)]) (st' := [.int (((M 26 ((v2 + v4)).toNatClampNeg)).toUInt32 % 65536).toInt32, .ref 7]) (S' := (M, L)) rfl ?_
          obtain ⟨P3, hv3, h⟩ := h
          refine V.callVi (T2 := T_Sheet_append) (As := [.int (((M 26 ((v2 + v4)).toNatClampNeg)).toUInt32 % 65536).toInt32]) (rest := []) rfl rfl g_Sheet_append rfl rfl rfl rfl (Nat.le_of_ble_eq_true rfl) (by simp [Value.category]) (by simp [Value.category]) (Nat.le_of_ble_eq_true rfl) (Nat.le_refl _) hv3 (fun x3 M3 hq => ?_)
          have h := h x3 M3 hq
          refine V.run 4 (pc' := 3) (ls' := [.ref 7, .ref 26, .int v2, .int v3, .int (v4 + (iI 1)), .int (M 26 ((v2 + v4)).toNatClampNeg)]) (st' := []) (S' := (M3, L)) rfl ?_
          refine V.forget (ls' := [.ref 7, .ref 26, .int v2, .int v3, .int (v4 + (iI 1)), .null]) ⟨Or.inr rfl, Or.inr rfl, Or.inr rfl, Or.inr rfl, Or.inr rfl, Or.inl rfl, trivial⟩ ?_
          exact h
set_option maxRecDepth 100000 in
set_option maxHeartbeats 4000000 in
theorem s_Sheet_spell_60 {l : Launch} {Γ : qG} {d r : Nat} {M : qM} {L : Nat → Int64} {P : qM → Prop} (o w : Nat) (ho : (o = 3 ∧ w = 11) ∨ (o = 7 ∧ w = 26)) (v2 v3 v4 w0 : Int32) (y : Nat) (h : ((v3 - (iI 1)) ≤ v4 → ∃ P1 : qM → Prop, V l Γ T_Sheet_appendWord d 0 0 [.ref o, .ref y, .int w0, .int (iI 0), .null] [] (M, L) (q_n L P1) ∧ ∀ (M1 : qM), P1 M1 → V l Γ T_Sheet_spell (d + 1) r 3 [.ref o, .ref w, .int v2, .int v3, .int (v4 + (iI 1)), .null] [] (M1, L) (q_n L P)) ∧ (¬ (v3 - (iI 1)) ≤ v4 → ∃ P2 : qM → Prop, V l Γ T_Sheet_appendWord d 0 0 [.ref o, .ref y, .int w0, .int (iI 1), .null] [] (M, L) (q_n L P2) ∧ ∀ (M2 : qM), P2 M2 → V l Γ T_Sheet_spell (d + 1) r 3 [.ref o, .ref w, .int v2, .int v3, .int (v4 + (iI 1)), .null] [] (M2, L) (q_n L P))) : V l Γ T_Sheet_spell (d + 1) r 60 [.ref o, .ref w, .int v2, .int v3, .int v4, .null] [.int w0, .ref y, .ref o] (M, L) (q_n L P) := by
  rcases ho with ⟨rfl, rfl⟩ | ⟨rfl, rfl⟩
  · refine V.run 4 (pc' := 65) (ls' := [.ref 3, .ref 11, .int v2, .int v3, .int v4, .null]) (st' := [.int (v3 - (iI 1)), .int v4, .int w0, .ref y, .ref 3]) (S' := (M, L)) rfl ?_
    refine V.icmp (cd := .ge) rfl (fun hc => ?_) (fun hc => ?_)
    · have h := h.1 hc
      refine V.run 1 (pc' := 73) (ls' := [.ref 3, .ref 11, .int v2, .int v3, .int v4, .null]) (st' := [.int (iI 0), .int w0, .ref y, .ref 3]) (S' := (M, L)) rfl ?_
      obtain ⟨P1, hv1, h⟩ := h
      refine V.callVv (T2 := T_Sheet_appendWord) (As := [.ref y, .int w0, .int (iI 0)]) (rest := []) rfl rfl g_Sheet_appendWord rfl rfl rfl rfl (Nat.le_of_ble_eq_true rfl) (by simp [Value.category]) (by simp [Value.category]) (Nat.le_of_ble_eq_true rfl) (Nat.le_refl _) hv1 (fun M1 hq => ?_)
      have h := h M1 hq
      refine V.run 2 (pc' := 3) (ls' := [.ref 3, .ref 11, .int v2, .int v3, .int (v4 + (iI 1)), .null]) (st' := []) (S' := (M1, L)) rfl ?_
      exact h
    · have h := h.2 hc
      refine V.run 2 (pc' := 73) (ls' := [.ref 3, .ref 11, .int v2, .int v3, .int v4, .null]) (st' := [.int (iI 1), .int w0, .ref y, .ref 3]) (S' := (M, L)) rfl ?_
      obtain ⟨P2, hv2, h⟩ := h
      refine V.callVv (T2 := T_Sheet_appendWord) (As := [.ref y, .int w0, .int (iI 1)]) (rest := []) rfl rfl g_Sheet_appendWord rfl rfl rfl rfl (Nat.le_of_ble_eq_true rfl) (by simp [Value.category]) (by simp [Value.category]) (Nat.le_of_ble_eq_true rfl) (Nat.le_refl _) hv2 (fun M2 hq => ?_)
      have h := h M2 hq
      refine V.run 2 (pc' := 3) (ls' := [.ref 3, .ref 11, .int v2, .int v3, .int (v4 + (iI 1)), .null]) (st' := []) (S' := (M2, L)) rfl ?_
      exact h
  · refine V.run 4 (pc' := 65) (ls' := [.ref 7, .ref 26, .int v2, .int v3, .int v4, .null]) (st' := [.int (v3 - (iI 1)), .int v4, .int w0, .ref y, .ref 7]) (S' := (M, L)) rfl ?_
    refine V.icmp (cd := .ge) rfl (fun hc => ?_) (fun hc => ?_)
    · have h := h.1 hc
      refine V.run 1 (pc' := 73) (ls' := [.ref 7, .ref 26, .int v2, .int v3, .int v4, .null]) (st' := [.int (iI 0), .int w0, .ref y, .ref 7]) (S' := (M, L)) rfl ?_
      obtain ⟨P1, hv1, h⟩ := h
      refine V.callVv (T2 := T_Sheet_appendWord) (As := [.ref y, .int w0, .int (iI 0)]) (rest := []) rfl rfl g_Sheet_appendWord rfl rfl rfl rfl (Nat.le_of_ble_eq_true rfl) (by simp [Value.category]) (by simp [Value.category]) (Nat.le_of_ble_eq_true rfl) (Nat.le_refl _) hv1 (fun M1 hq => ?_)
      have h := h M1 hq
      refine V.run 2 (pc' := 3) (ls' := [.ref 7, .ref 26, .int v2, .int v3, .int (v4 + (iI 1)), .null]) (st' := []) (S' := (M1, L)) rfl ?_
      exact h
    · have h := h.2 hc
      refine V.run 2 (pc' := 73) (ls' := [.ref 7, .ref 26, .int v2, .int v3, .int v4, .null]) (st' := [.int (iI 1), .int w0, .ref y, .ref 7]) (S' := (M, L)) rfl ?_
      obtain ⟨P2, hv2, h⟩ := h
      refine V.callVv (T2 := T_Sheet_appendWord) (As := [.ref y, .int w0, .int (iI 1)]) (rest := []) rfl rfl g_Sheet_appendWord rfl rfl rfl rfl (Nat.le_of_ble_eq_true rfl) (by simp [Value.category]) (by simp [Value.category]) (Nat.le_of_ble_eq_true rfl) (Nat.le_refl _) hv2 (fun M2 hq => ?_)
      have h := h M2 hq
      refine V.run 2 (pc' := 3) (ls' := [.ref 7, .ref 26, .int v2, .int v3, .int (v4 + (iI 1)), .null]) (st' := []) (S' := (M2, L)) rfl ?_
      exact h
set_option maxRecDepth 100000 in
set_option maxHeartbeats 4000000 in
theorem s_LineReader_readWord_0 {l : Launch} {Γ : qG} {d r : Nat} {M : qM} {L : Nat → Int64} {P : Int32 → qM → Prop} (t : Nat) (ho : (t = 1) ∨ (t = 7)) (a : Int32) (hd5 : 5 ≤ d) (h : ∃ P1 : qM → Prop, V l Γ T_LineReader_skipSpaces d 0 0 [.ref 5] [] (M, L) (q_n L P1) ∧ ∀ (M1 : qM), P1 M1 → ∃ P2 : Nat → qM → Prop, V l Γ T_TapedLines_spelling d 0 0 [.int a] [] (M1, L) (q_r L P2) ∧ ∀ (y : Nat) (M2 : qM), P2 y M2 → V l Γ T_LineReader_readWord (d + 1) r 11 [.ref 5, .int a, .ref y, .int (iI 0)] [] (M2, L) (q_i L P)) : V l Γ T_LineReader_readWord (d + 1) r 0 [.ref 5, .int a, .null, .null] [] (M, L) (q_i L P) := by
  rcases ho with rfl | rfl
  · refine V.run 1 (pc' := 1) (ls' := [.ref 5, .int a, .null, .null]) (st' := [.ref 5]) (S' := (M, L)) rfl ?_
    obtain ⟨P1, hv1, h⟩ := h
    refine V.callVv (T2 := T_LineReader_skipSpaces) (As := []) (rest := []) rfl rfl g_LineReader_skipSpaces rfl rfl rfl rfl (Nat.le_of_ble_eq_true rfl) (by simp [Value.category]) (by simp [Value.category]) (Nat.le_of_ble_eq_true rfl) (Nat.le_refl _) hv1 (fun M1 hq => ?_)
    have h := h M1 hq
    refine V.run 1 (pc' := 5) (ls' := [.ref 5, .int a, .null, .null]) (st' := [.int a]) (S' := (M1, L)) rfl ?_
    obtain ⟨P2, hv2, h⟩ := h
    refine V.callSNr (T2 := T_TapedLines_spelling) (As := [.int a]) (rest := []) rfl rfl g_TapedLines_spelling rfl (Nat.le_of_ble_eq_true rfl) (by simp [Value.category]) (by simp [Value.category]) (Nat.le_of_ble_eq_true rfl) (Nat.le_refl _) hv2 (fun y M2 hq => ?_)
    have h := h y M2 hq
    refine V.run 3 (pc' := 11) (ls' := [.ref 5, .int a, .ref y, .int (iI 0)]) (st' := []) (S' := (M2, L)) rfl ?_
    exact h
  · refine V.run 1 (pc' := 1) (ls' := [.ref 5, .int a, .null, .null]) (st' := [.ref 5]) (S' := (M, L)) rfl ?_
    obtain ⟨P1, hv1, h⟩ := h
    refine V.callVv (T2 := T_LineReader_skipSpaces) (As := []) (rest := []) rfl rfl g_LineReader_skipSpaces rfl rfl rfl rfl (Nat.le_of_ble_eq_true rfl) (by simp [Value.category]) (by simp [Value.category]) (Nat.le_of_ble_eq_true rfl) (Nat.le_refl _) hv1 (fun M1 hq => ?_)
    have h := h M1 hq
    refine V.run 1 (pc' := 5) (ls' := [.ref 5, .int a, .null, .null]) (st' := [.int a]) (S' := (M1, L)) rfl ?_
    obtain ⟨P2, hv2, h⟩ := h
    refine V.callSNr (T2 := T_TapedLines_spelling) (As := [.int a]) (rest := []) rfl rfl g_TapedLines_spelling rfl (Nat.le_of_ble_eq_true rfl) (by simp [Value.category]) (by simp [Value.category]) (Nat.le_of_ble_eq_true rfl) (Nat.le_refl _) hv2 (fun y M2 hq => ?_)
    have h := h y M2 hq
    refine V.run 3 (pc' := 11) (ls' := [.ref 5, .int a, .ref y, .int (iI 0)]) (st' := []) (S' := (M2, L)) rfl ?_
    exact h
set_option maxRecDepth 100000 in
set_option maxHeartbeats 4000000 in
theorem s_LineReader_readWord_11 {l : Launch} {Γ : qG} {d r : Nat} {M : qM} {L : Nat → Int64} {P : Int32 → qM → Prop} (t : Nat) (ho : (t = 1) ∨ (t = 7)) (v1 v3 : Int32) (y : Nat) (hd5 : 5 ≤ d) (h : (60 ≤ y ∧ y < 68) ∧ ((iI (wl (y - 60)).length) ≤ v3 → ∃ P1 : qM → Prop, V l Γ T_LineReader_put d 0 0 [.ref 5, .int v1] [] (M, L) (q_n L P1) ∧ ∀ (M1 : qM), P1 M1 → P (iI 1) M1) ∧ (¬ (iI (wl (y - 60)).length) ≤ v3 → ∃ P2 : Int32 → qM → Prop, V l Γ T_LineReader_ahead d 0 0 [.ref 5, .int (iI 0)] [] (M, L) (q_i L P2) ∧ ∀ (x2 : Int32) (M2 : qM), P2 x2 M2 → (60 ≤ y ∧ y < 68) ∧ (0 ≤ (v3).toInt ∧ (v3).toInt < (wl (y - 60)).length) ∧ (x2 = (iI (lt (y - 60) (v3).toInt.toNat + 64)) → V l Γ T_LineReader_readWord (d + 1) r 11 [.ref 5, .int v1, .ref y, .int (v3 + (iI 1))] [] ((q_up M2 5 3 ((M2 5 3) + (iI 1))), L) (q_i L P)) ∧ (¬ x2 = (iI (lt (y - 60) (v3).toInt.toNat + 64)) → P (iI 0) M2))) : V l Γ T_LineReader_readWord (d + 1) r 11 [.ref 5, .int v1, .ref y, .int v3] [] (M, L) (q_i L P) := by
  rcases ho with rfl | rfl
  · refine V.run 2 (pc' := 13) (ls' := [.ref 5, .int v1, .ref y, .int v3]) (st' := [.ref y, .int v3]) (S' := (M, L)) rfl ?_
    refine V.wlenW rfl h.1 (q_in_spec (by decide +kernel)) (by omega) (by simp [Value.category]) (Nat.le_of_ble_eq_true rfl) ?_
    have h := h.2
    refine V.icmp (cd := .ge) rfl (fun hc => ?_) (fun hc => ?_)
    · have h := h.1 hc
      refine V.run 2 (pc' := 52) (ls' := [.ref 5, .int v1, .ref y, .int v3]) (st' := [.int v1, .ref 5]) (S' := (M, L)) rfl ?_
      obtain ⟨P1, hv1, h⟩ := h
      refine V.callVv (T2 := T_LineReader_put) (As := [.int v1]) (rest := []) rfl rfl g_LineReader_put rfl rfl rfl rfl (Nat.le_of_ble_eq_true rfl) (by simp [Value.category]) (by simp [Value.category]) (Nat.le_of_ble_eq_true rfl) (Nat.le_refl _) hv1 (fun M1 hq => ?_)
      have h := h M1 hq
      refine V.run 1 (pc' := 56) (ls' := [.ref 5, .int v1, .ref y, .int v3]) (st' := [.int (iI 1)]) (S' := (M1, L)) rfl ?_
      exact V.zret rfl rfl (by decide) ⟨_, _, rfl, rfl, h⟩
    · have h := h.2 hc
      refine V.run 2 (pc' := 21) (ls' := [.ref 5, .int v1, .ref y, .int v3]) (st' := [.int (iI 0), .ref 5]) (S' := (M, L)) rfl ?_
      obtain ⟨P2, hv2, h⟩ := h
      refine V.callVi (T2 := T_LineReader_ahead) (As := [.int (iI 0)]) (rest := []) rfl rfl g_LineReader_ahead rfl rfl rfl rfl (Nat.le_of_ble_eq_true rfl) (by simp [Value.category]) (by simp [Value.category]) (Nat.le_of_ble_eq_true rfl) (Nat.le_refl _) hv2 (fun x2 M2 hq => ?_)
      have h := h x2 M2 hq
      refine V.run 2 (pc' := 26) (ls' := [.ref 5, .int v1, .ref y, .int v3]) (st' := [.int v3, .ref y, .int x2]) (S' := (M2, L)) rfl ?_
      refine V.wcharW rfl h.1 h.2.1.1 h.2.1.2 (q_in_spec (by decide +kernel)) (by omega) (by simp [Value.category]) (Nat.le_of_ble_eq_true rfl) ?_
      have h := h.2.2
      refine V.icmp (cd := .eq) rfl (fun hc => ?_) (fun hc => ?_)
      · have h := h.1 hc
        refine V.run 8 (pc' := 11) (ls' := [.ref 5, .int v1, .ref y, .int (v3 + (iI 1))]) (st' := []) (S' := ((q_up M2 5 3 ((M2 5 3) + (iI 1))), L)) rfl ?_
        exact h
      · have h := h.2 hc
        refine V.run 1 (pc' := 33) (ls' := [.ref 5, .int v1, .ref y, .int v3]) (st' := [.int (iI 0)]) (S' := (M2, L)) rfl ?_
        exact V.zret rfl rfl (by decide) ⟨_, _, rfl, rfl, h⟩
  · refine V.run 2 (pc' := 13) (ls' := [.ref 5, .int v1, .ref y, .int v3]) (st' := [.ref y, .int v3]) (S' := (M, L)) rfl ?_
    refine V.wlenW rfl h.1 (q_in_spec (by decide +kernel)) (by omega) (by simp [Value.category]) (Nat.le_of_ble_eq_true rfl) ?_
    have h := h.2
    refine V.icmp (cd := .ge) rfl (fun hc => ?_) (fun hc => ?_)
    · have h := h.1 hc
      refine V.run 2 (pc' := 52) (ls' := [.ref 5, .int v1, .ref y, .int v3]) (st' := [.int v1, .ref 5]) (S' := (M, L)) rfl ?_
      obtain ⟨P1, hv1, h⟩ := h
      refine V.callVv (T2 := T_LineReader_put) (As := [.int v1]) (rest := []) rfl rfl g_LineReader_put rfl rfl rfl rfl (Nat.le_of_ble_eq_true rfl) (by simp [Value.category]) (by simp [Value.category]) (Nat.le_of_ble_eq_true rfl) (Nat.le_refl _) hv1 (fun M1 hq => ?_)
      have h := h M1 hq
      refine V.run 1 (pc' := 56) (ls' := [.ref 5, .int v1, .ref y, .int v3]) (st' := [.int (iI 1)]) (S' := (M1, L)) rfl ?_
      exact V.zret rfl rfl (by decide) ⟨_, _, rfl, rfl, h⟩
    · have h := h.2 hc
      refine V.run 2 (pc' := 21) (ls' := [.ref 5, .int v1, .ref y, .int v3]) (st' := [.int (iI 0), .ref 5]) (S' := (M, L)) rfl ?_
      obtain ⟨P2, hv2, h⟩ := h
      refine V.callVi (T2 := T_LineReader_ahead) (As := [.int (iI 0)]) (rest := []) rfl rfl g_LineReader_ahead rfl rfl rfl rfl (Nat.le_of_ble_eq_true rfl) (by simp [Value.category]) (by simp [Value.category]) (Nat.le_of_ble_eq_true rfl) (Nat.le_refl _) hv2 (fun x2 M2 hq => ?_)
      have h := h x2 M2 hq
      refine V.run 2 (pc' := 26) (ls' := [.ref 5, .int v1, .ref y, .int v3]) (st' := [.int v3, .ref y, .int x2]) (S' := (M2, L)) rfl ?_
      refine V.wcharW rfl h.1 h.2.1.1 h.2.1.2 (q_in_spec (by decide +kernel)) (by omega) (by simp [Value.category]) (Nat.le_of_ble_eq_true rfl) ?_
      have h := h.2.2
      refine V.icmp (cd := .eq) rfl (fun hc => ?_) (fun hc => ?_)
      · have h := h.1 hc
        refine V.run 8 (pc' := 11) (ls' := [.ref 5, .int v1, .ref y, .int (v3 + (iI 1))]) (st' := []) (S' := ((q_up M2 5 3 ((M2 5 3) + (iI 1))), L)) rfl ?_
        exact h
      · have h := h.2 hc
        refine V.run 1 (pc' := 33) (ls' := [.ref 5, .int v1, .ref y, .int v3]) (st' := [.int (iI 0)]) (S' := (M2, L)) rfl ?_
        exact V.zret rfl rfl (by decide) ⟨_, _, rfl, rfl, h⟩
