section Refused
variable {l : Launch} {Γ : qG} {M : qM} {L : Nat → Int64} {R : qM → Prop}
theorem c_lineAt_at {d r : Nat} {pr : List (Int × List Int)} (h : cPr M pr) (a : Int32) : ∀ (n i : Nat), i + n = pr.length → ¬ (0 ≤ a.toInt ∧ a.toInt < i) →
    V l Γ T_Program_lineAt d r 4 [.ref 10, .int a, .int (iI i), .int (iI (off pr i))] [] (M, L) (q_i L (fun x M' => x = (if 0 ≤ a.toInt ∧ a.toInt < pr.length then iI (off pr a.toInt.toNat) else iI (-1)) ∧ M' = M)) := by
  obtain ⟨h1, h2, h3⟩ := h
  intro n
  induction n with
  | zero =>
    intro i hi hno
    have e : i = pr.length := by omega
    subst e
    have hoff := off_end pr
    refine s_Program_lineAt_4 _ _ _ ?_
    rw [h1, iI_le (by omega) (by omega) (by omega) (by omega), if_neg hno]
    exact ⟨fun _ => ⟨rfl, rfl⟩, fun q => absurd (by omega) q⟩
  | succ n ih =>
    intro i hi hno
    have hlt : i < pr.length := by omega
    have hl := off_lt hlt
    have hs := off_s hlt
    have hple : pr.length ≤ (enc pr).length := by
      have : ∀ q : List (Int × List Int), q.length ≤ (enc q).length := by
        intro q
        induction q with
        | nil => exact Nat.le_refl _
        | cons x t ih2 => simp [enc]; omega
      exact this pr
    have e1 : iI (off pr i : Int) + iI 1 = iI ((off pr i + 1 : Nat) : Int) := by rw [iI_add]; rfl
    have e2 : M 11 (iI ((off pr i + 1 : Nat) : Int)).toNatClampNeg = iI ((pr[i]).2.length : Int) := by
      rw [iI_nat (by omega) (by omega), Int.toNat_natCast, h3 _ (by omega), enc_len hlt]
    have e3 : (off pr i : Int) + (2 + ((pr[i]).2.length : Int)) = ((off pr (i + 1) : Nat) : Int) := by rw [hs]; omega
    have eq : iI (i : Int) = a ↔ a.toInt = i := by
      rw [← xeq (by omega) (by omega)]
      exact ⟨Eq.symm, Eq.symm⟩
    refine s_Program_lineAt_4 _ _ _ ?_
    rw [h1, iI_le (by omega) (by omega) (by omega) (by omega), eq, e1, e2, iI_add, iI_add, iI_add, e3]
    refine ⟨fun q => by omega, fun _ => ⟨fun q => ⟨iI_in (by omega) (by omega) (by omega), ih (i + 1) (by omega) (by omega)⟩, fun q => ?_⟩⟩
    have q := Classical.not_not.mp q
    rw [if_pos (by omega), q]
    exact ⟨rfl, rfl⟩
theorem c_lineAt {d r : Nat} {pr : List (Int × List Int)} (h : cPr M pr) (a : Int32) :
    V l Γ T_Program_lineAt d r 0 [.ref 10, .int a, .null, .null] [] (M, L) (q_i L (fun x M' => x = (if 0 ≤ a.toInt ∧ a.toInt < pr.length then iI (off pr a.toInt.toNat) else iI (-1)) ∧ M' = M)) :=
  s_Program_lineAt_0 _ (c_lineAt_at h a pr.length 0 (by omega) (by omega))
theorem pair_list_out {pr : List (Int × List Int)} (htr : l.stackTraces = false) (c1 : cPr M pr) (m1 : mPr M pr) (a : Int32) (hout : ¬ (0 ≤ a.toInt ∧ a.toInt < pr.length)) (hR : R (q_up M 27 0 (iI 1))) :
    pairH l Γ 99 L T_law_list hh_list T_TapedLinesModel_list [.ref 0, .int a, .ref 42, .null] [.ref 27, .int a, .null, .null, .null, .null] M R := by
  have hple : pr.length ≤ 200 := by
    have : ∀ q : List (Int × List Int), q.length ≤ (enc q).length := by
      intro q
      induction q with
      | nil => exact Nat.le_refl _
      | cons x t ih2 => simp [enc]; omega
    have := this pr
    have := c1.2.1
    omega
  refine ⟨_, H_list_out a (E := fun ec M' => ec = 0 ∧ M' = M) (fun ec M' z => z.1) (V.tout (s_TapedLines_list_0 a htr (by decide) (by decide) ⟨_, c_lineAt c1 a, ?_⟩)), ?_⟩
  · rintro x M1 ⟨rfl, rfl⟩
    rw [if_neg hout]
    exact ⟨fun q => absurd rfl q, fun _ => ⟨rfl, rfl⟩⟩
  rintro x1 M1 L1 ⟨⟨rfl, -, rfl⟩, rfl⟩
  have k18 : V l Γ T_TapedLinesModel_list 99 0 18 [.ref 27, .int a, .null, .null, .null, .null] [.int (iI 1), .ref 27] (M1, L1) (q_i L1 (fun x M' => M' = q_up M1 27 0 (iI 1))) := by
    refine s_TapedLinesModel_list_18 _ _ ⟨_, cm_refused true false, ?_⟩
    rintro x M' ⟨rfl, rfl⟩
    exact ⟨fun z => absurd z (by decide), fun _ => rfl⟩
  refine ⟨fun x M' => M' = q_up M1 27 0 (iI 1), s_TapedLinesModel_list_0 a ⟨fun _ => k18, fun q => ⟨_, cm_countLines m1, ?_⟩⟩, ?_⟩
  · rintro x M' ⟨rfl, rfl⟩
    rw [xlt (by omega) (by omega)]
    rw [x0lt] at q
    exact ⟨fun q2 => by omega, fun _ => k18⟩
  · rintro x2 M2 rfl
    exact ⟨q_up_s, fun z => absurd z (by decide), hR⟩
theorem pair_run_out {z : Int} (htr : l.stackTraces = false) (e1 : M 9 4 = iI z) (e2 : M 27 14 = iI z) (hz : 0 ≤ z ∧ z ≤ 17) (a : Int32) (hout : ¬ ((1 ≤ a.toInt ∧ a.toInt ≤ 1000) ∧ z = 1)) (hR : ∀ v, R (q_up M 27 0 v)) :
    pairH l Γ 99 L T_law_run hh_run T_TapedLinesModel_run [.ref 0, .int a, .ref 42, .null] [.ref 27, .int a, .null] M R := by
  have k31 : ∀ (u v : Bool) (L : Nat → Int64), ¬ (u = false ∧ v = false) → V l Γ T_TapedLinesModel_run 99 0 31 [.ref 27, .int a, .null] [.int (b2 v), .int (b2 u), .ref 27] (M, L) (q_i L (fun x M' => M' = q_up M 27 0 (if u = true then iI 1 else iI 2))) := by
    intro u v L huv
    refine s_TapedLinesModel_run_31 _ _ _ ⟨_, cm_refused u v, ?_⟩
    rintro x M' ⟨rfl, rfl⟩
    cases u with
    | true => exact ⟨fun q => absurd (show b2 true = 0 from q) (by decide), fun _ => rfl⟩
    | false =>
      cases v with
      | true => exact ⟨fun q => absurd q (by decide), fun _ => rfl⟩
      | false => exact absurd ⟨rfl, rfl⟩ huv
  have k18 : ∀ (u : Bool) (L : Nat → Int64), ¬ (u = false ∧ z = 1) → V l Γ T_TapedLinesModel_run 99 0 18 [.ref 27, .int a, .null] [.int (b2 u), .ref 27] (M, L) (q_i L (fun x M' => M' = q_up M 27 0 (if u = true then iI 1 else iI 2))) := by
    intro u L hu
    refine s_TapedLinesModel_run_18 _ _ ?_
    rw [e2, iI_eq (by omega) (by omega) (by omega) (by omega)]
    exact ⟨fun q => k31 u false L (fun w => hu ⟨w.1, q⟩), fun q => k31 u true L (fun w => by cases w.2)⟩
  by_cases hin : 1 ≤ a.toInt ∧ a.toInt ≤ 1000
  · have hz1 : ¬ z = 1 := fun q => hout ⟨hin, q⟩
    refine ⟨_, H_run_out a (E := fun ec M' => ec = 2 ∧ M' = M) (fun ec M' w => Or.inr w.1) (V.tout (s_TapedLines_run_0 a htr (by decide) (by decide) ?_)), ?_⟩
    · rw [e1, iI_eq (by omega) (by omega) (by omega) (by omega), xlt (by decide) (by decide), xle (by decide) (by decide)]
      exact ⟨fun q => by omega, fun _ => ⟨fun _ => ⟨fun q => absurd q hz1, fun _ => ⟨rfl, rfl⟩⟩, fun q => by omega⟩⟩
    rintro x1 M1 L1 ⟨⟨rfl, w, -⟩ | ⟨rfl, -, rfl⟩, rfl⟩
    · cases w
    · refine ⟨fun x M' => M' = q_up M1 27 0 (iI 2), s_TapedLinesModel_run_0 a ?_, ?_⟩
      · rw [xlt (by decide) (by decide), xle (by decide) (by decide)]
        exact ⟨fun q => by omega, fun _ => ⟨fun _ => k18 false _ (fun w => hz1 w.2), fun q => by omega⟩⟩
      · rintro x2 M2 rfl
        exact ⟨q_up_s, fun q => absurd q (by decide), hR _⟩
  · refine ⟨_, H_run_out a (E := fun ec M' => ec = 1 ∧ M' = M) (fun ec M' w => Or.inl w.1) (V.tout (s_TapedLines_run_0 a htr (by decide) (by decide) ?_)), ?_⟩
    · rw [xlt (by decide) (by decide), xle (by decide) (by decide)]
      exact ⟨fun _ => ⟨rfl, rfl⟩, fun _ => ⟨fun q => by omega, fun _ => ⟨rfl, rfl⟩⟩⟩
    rintro x1 M1 L1 ⟨⟨rfl, -, rfl⟩ | ⟨rfl, w, -⟩, rfl⟩
    · refine ⟨fun x M' => M' = q_up M1 27 0 (iI 1), s_TapedLinesModel_run_0 a ?_, ?_⟩
      · rw [xlt (by decide) (by decide), xle (by decide) (by decide)]
        exact ⟨fun _ => k18 true _ (fun w => by cases w.1), fun _ => ⟨fun q => by omega, fun _ => k18 true _ (fun w => by cases w.1)⟩⟩
      · rintro x2 M2 rfl
        exact ⟨q_up_s, fun q => absurd q (by decide), hR _⟩
    · cases w
end Refused
section Fresh
variable {l : Launch} {Γ : qG} {M : qM} {L : Nat → Int64}
theorem c_enter0 (h : M 1 1 = iI 0) : V l Γ T_TapedLines_enter 99 0 0 [.ref 0, .null] [] (M, L) (q_i L (fun x M' => x = iI (-1) ∧ fr [1, 5] M M')) := by
  have h0 : (iI 0 : Int32) ≤ iI 0 := by decide
  refine s_TapedLines_enter_0 ⟨fun x M' => x = iI 0 ∧ M' 5 3 = iI 0 ∧ fr [1, 5] M M', ?_, ?_⟩
  · refine s_LineReader_readLine_0 1 (Or.inl rfl) ⟨fun M1 => M1 = q_up (q_up (q_up M 5 4 (Int32.ofNat 1)) 5 3 (iI 0)) 5 1 (iI 0), s_LineReader_open_0 1 (Or.inl rfl) rfl, ?_⟩
    rintro M1 hM1
    have e54 : (M1 5 4).toNatClampNeg = 1 := by
      rw [hM1, q_up_k (by decide), q_up_k (by decide), q_up_s]
      decide
    have e53 : M1 5 3 = iI 0 := by rw [hM1, q_up_k (by decide), q_up_s]
    have e11 : M1 1 1 = iI 0 := by
      rw [hM1, q_up_o (by decide), q_up_o (by decide), q_up_o (by decide)]
      exact h
    have f : fr [1, 5] M M1 := by
      rw [hM1]
      exact ((fr.rf.up (by simp)).up (by simp)).up (by simp)
    refine ⟨fun x M' => x = iI (-1) ∧ M' = M1, ?_, ?_⟩
    · refine s_LineReader_readNumber_0 1 (Or.inl rfl) _ _ ⟨fun M' => M' = M1, s_LineReader_skipSpaces_0 1 (Or.inl rfl) ⟨e54, fun _ => rfl, fun q => absurd (by rw [e11, e53]; exact h0) q⟩, ?_⟩
      rintro M2 rfl
      exact s_LineReader_readNumber_12 1 (Or.inl rfl) _ _ _ _ ⟨e54, fun _ => ⟨rfl, rfl⟩, fun q => absurd (by rw [e11, e53]; exact h0) q⟩
    · rintro x M2 ⟨rfl, rfl⟩
      refine ⟨fun q => absurd rfl q, fun _ => ⟨rfl, ?_, (f.up (by simp)).up (by simp)⟩⟩
      rw [q_up_k (by decide), q_up_k (by decide)]
      exact e53
  · rintro x M1 ⟨rfl, e53, f⟩
    refine ⟨fun q => absurd (by decide) q, fun _ => ⟨?_, f.up (by simp)⟩⟩
    rw [e53]
    decide
theorem cm_enter0 (h : M 27 1 = iI 0) : V l Γ T_TapedLinesModel_enter 99 0 0 [.ref 27, .null, .null, .null, .null] [] (M, L) (q_i L (fun x M' => x = iI (-1))) := by
  refine s_TapedLinesModel_enter_0 ⟨fun M1 => M1 27 3 = iI 0, s_TapedLinesModel_begin_0 _ ?_, ?_⟩
  · rw [q_up_k (by decide), q_up_k (by decide), q_up_k (by decide), q_up_s]
  intro M1 e3
  rw [h]
  have k38 : V l Γ T_TapedLinesModel_isWhole 98 0 38 [.ref 27, .null] [.int (iI 0)] (M1, L) (q_i L (fun x M' => x = iI 0)) := by
    refine s_TapedLinesModel_isWhole_38 _ ?_
    rw [e3]
    exact ⟨fun q => absurd q (by decide), fun _ => ⟨fun q => absurd q (by decide), fun _ => ⟨fun q => absurd q (by decide), fun _ => ⟨fun q => absurd q (by decide), fun _ => ⟨fun _ => rfl, fun q => absurd (by decide) q⟩⟩⟩⟩⟩
  refine s_TapedLinesModel_enter_22 _ _ ⟨fun _ => ⟨fun x M' => x = iI 0, s_TapedLinesModel_isWhole_0 ?_, ?_⟩, fun q => absurd (by decide) q⟩
  · rw [e3]
    exact ⟨fun q => absurd q (by decide), fun _ => ⟨fun _ => k38, fun q => absurd (show ¬ iI 0 = iI 13 by decide) q⟩⟩
  · rintro x M2 rfl
    exact ⟨fun q => absurd (by decide) q, fun _ => by decide⟩
theorem hByte0 (f : Nat → Int32) : hByte 0 f 0 = none := by
  have h : hBit 0 f 0 = none := by
    cases hb : hBit 0 f 0 with
    | none => rfl
    | some q => have := hBit_le (b := q.1) (a' := q.2) hb; omega
  unfold hByte
  rw [hSkip, h]
theorem c_load0 (h : M 24 2 = iI 0) : V l Γ T_TapedLines_load 99 0 0 [.ref 0, .null] [] (M, L) (q_i L (fun x M' => x = iI (-2) ∧ fr [24] M M')) := by
  refine s_TapedLines_load_0 ⟨fun x M' => x = iI (-2) ∧ fr [24] M M', s_Tape_hear_0 ⟨_, c_hearByte (n := 0) (a := 0) (by omega) (by rw [q_up_k (by decide)]; exact h) q_up_s (by omega), ?_⟩, ?_⟩
  · rintro x M1 hM
    rcases hM with ⟨v, a3, e, -⟩ | ⟨-, rfl, z, rfl⟩
    · rw [hByte0] at e
      cases e
    · exact ⟨fun q => absurd rfl q, fun _ => ⟨rfl, (fr.rf.up (by simp)).up (by simp)⟩⟩
  · rintro x M1 ⟨rfl, f⟩
    exact ⟨fun q => absurd rfl q, fun _ => ⟨rfl, f⟩⟩
theorem cm_load0 (h : M 27 33 = iI 0) : V l Γ T_TapedLinesModel_load 99 0 0 [.ref 27, .null, .null, .null, .null] [] (M, L) (q_i L (fun x M' => x = iI (-2))) := by
  refine s_TapedLinesModel_load_0 ⟨_, cm_readByte (n := 0) (a := 0) (by omega) (by rw [q_up_k (by decide), q_up_k (by decide), q_up_k (by decide)]; exact h) (by rw [q_up_k (by decide), q_up_s]; rfl) (by omega) q_up_s, ?_⟩
  rintro x M1 ⟨hM | ⟨-, ht⟩, -⟩
  · obtain ⟨v, a3, e, -⟩ := hM
    rw [hByte0] at e
    cases e
  have k66 : V l Γ T_TapedLinesModel_load 99 0 66 [.ref 27, .int x, .int (iI 0), .null, .null] [] (M1, L) (q_i L (fun x M' => x = iI (-2))) := by
    refine s_TapedLinesModel_load_66 _ _ ⟨_, cm_readByte_torn ht, ?_⟩
    rintro x2 M2 ⟨ht2, -⟩
    refine ⟨_, cm_readByte_torn ht2, ?_⟩
    rintro x3 M3 ⟨ht3, -⟩
    exact ⟨fun q => absurd (ht3.symm.trans q) (by decide), fun _ => rfl⟩
  exact s_TapedLinesModel_load_24 _ _ _ ⟨fun _ => k66, fun _ => ⟨fun _ => k66, fun q => absurd (show ¬ M1 27 36 = 0 by rw [ht]; decide) q⟩⟩
end Fresh
