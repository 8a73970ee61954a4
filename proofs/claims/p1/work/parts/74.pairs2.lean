section PairsB
variable {l : Launch} {Γ : qG} {M : qM} {okS : List Int → Prop}
theorem enc_pos {pr : List (Int × List Int)} (h : 0 < (enc pr).length) : 0 < pr.length := by
  cases pr with
  | nil => simp [enc] at h
  | cons q t => simp
theorem pair_start (h : Rel okS M) : p_start l Γ 99 M (Rel okS) := by
  intro L
  obtain ⟨h1, h2, h3, h4, h5, pr, c1, m1, hok, hst⟩ := h
  refine ⟨_, c_start, ?_⟩
  rintro M1 ⟨v1, v2, a1, a2, a3, a4, a5, f1⟩
  have f1 := f1.fm (by decide)
  refine ⟨_, cm_start, ?_⟩
  rintro M2 ⟨w1, w2, b1, b2, b3, b4, b5, f2⟩
  have f : fm [9, 13, 14, 16, 31, 32] [0, 14, 15, 18, 22, 24] M M2 := (f1.wk (by simp) (by simp)).tr (f2.wk (by simp) (by simp))
  have hl := c1.2.1
  have g9 : M2 9 = M1 9 := f2.1 9 (by decide) (by decide)
  have g16 : M2 16 = M1 16 := f2.1 16 (by decide) (by decide)
  have cP : cPr M2 pr := by
    unfold cPr
    rw [f.1 10 (by decide) (by decide), f.1 11 (by decide) (by decide)]
    exact c1
  have mP : mPr M2 pr := m1.keep (f.2 12 (by decide)) (f.1 30 (by decide) (by decide))
  have hz : isSh (iI 0) := by unfold isSh; decide
  refine ⟨h1.keep f (by decide) (by decide), ⟨[], ⟨?_, Nat.zero_le _, rw_nil _⟩, ⟨b5, rw_nil _⟩, by simp⟩, h3.keep f (by decide) (by decide), h4.keep f (by decide) (by decide), ⟨fun k hk => ?_, fun k hk => ?_⟩, pr, cP, mP, hok, ?_⟩
  · rw [g16]; exact a3
  · rw [f2.1 13 (by decide) (by decide), v1 k hk, w2 k hk]; exact ⟨rfl, hz⟩
  · rw [f2.1 14 (by decide) (by decide), v2 k hk, w1 k hk]; exact ⟨rfl, hz⟩
  · refine ⟨if (enc pr).length = 0 then 2 else 1, ?_, ?_, ?_, ?_, ?_⟩
    · have e : iI ((enc pr).length : Int) ≤ iI 0 ↔ ((enc pr).length : Int) ≤ 0 := iI_le (by omega) (by omega) (by omega) (by omega)
      rw [g9, a5, c1.1]
      by_cases q : (enc pr).length = 0
      · rw [if_pos q, if_pos (e.mpr (by omega))]
      · rw [if_neg q, if_neg (fun z => q (by have := e.mp z; omega))]
    · have e : iI ((enc pr).length : Int) = 0 ↔ ((enc pr).length : Int) = 0 := by rw [x0eq, iI_toInt (by omega) (by omega)]
      rw [b1, f1.2 12 (by simp), m1.1]
      by_cases q : (enc pr).length = 0
      · rw [if_pos q, if_pos (e.mpr (by omega))]
      · rw [if_neg q, if_neg (fun z => q (by have := e.mp z; omega))]
    · by_cases q : (enc pr).length = 0
      · rw [if_pos q]; omega
      · rw [if_neg q]; omega
    · intro hq
      by_cases q : (enc pr).length = 0
      · rw [if_pos q] at hq; omega
      · exact ⟨0, enc_pos (by omega), by rw [g9]; exact a4, b2⟩
    · intro _
      exact ⟨⟨0, by omega, by rw [g9]; exact a1, b3, fun k hk => by omega, fun j k hj => by omega⟩, 0, by omega, by rw [g9]; exact a2, b4, fun k hk => by omega⟩
theorem upd0 (L : Nat → Int64) (v : Int64) : vp_updL L 0 v 0 = v := by
  unfold vp_updL
  rw [if_pos rfl]
theorem pair_variable (htr : l.stackTraces = false) (h : Rel okS M) : p_variable l Γ 99 M (Rel okS) := by
  intro L a
  have hv := h.2.2.2.2.1.1
  have k16 : ∀ (L : Nat → Int64) (b : Bool), V l Γ T_TapedLinesModel_variable 99 0 16 [.ref 27, .int a] [.int (b2 b), .ref 27] (M, L) (q_i L (fun x M' => (b = true → M' = q_up M 27 0 (iI 1)) ∧ (b = false → x = M 31 a.toNatClampNeg ∧ M' = q_up M 27 0 (iI 0)))) ∨ (b = false ∧ ¬ (0 ≤ a.toInt ∧ a.toInt < 8)) := by
    intro L b
    cases b with
    | true =>
      refine Or.inl (s_TapedLinesModel_variable_16 _ _ ⟨_, cm_refused true false, ?_⟩)
      rintro x M' ⟨rfl, rfl⟩
      exact ⟨fun z => absurd z (by decide), fun _ => ⟨fun _ => rfl, (fun z => by cases z)⟩⟩
    | false =>
      by_cases hin : 0 ≤ a.toInt ∧ a.toInt < 8
      · refine Or.inl (s_TapedLinesModel_variable_16 _ _ ⟨_, cm_refused false false, ?_⟩)
        rintro x M' ⟨rfl, rfl⟩
        refine ⟨fun _ => ⟨?_, (fun z => by cases z), fun _ => ⟨?_, rfl⟩⟩, fun z => absurd (by decide) z⟩
        · rw [vp_in_iff]; omega
        · rw [q_up_o (by decide)]
      · exact Or.inr ⟨rfl, hin⟩
  by_cases hin : 0 ≤ a.toInt ∧ a.toInt < 8
  · have hk : a.toNatClampNeg < 8 := by rw [clampI]; omega
    refine ⟨_, H_variable_in a (V.tin (s_TapedLines_variable_0 a (P := fun x M' => x = M 13 a.toNatClampNeg ∧ M' = M) htr (by decide) (by decide) ?_)), ?_⟩
    · rw [x0lt, xlt (by decide) (by decide)]
      refine ⟨fun q => by omega, fun _ => ⟨fun _ => ⟨?_, rfl, rfl⟩, fun q => by omega⟩⟩
      rw [vp_in_iff]; omega
    rintro x1 M1 L1 ⟨rfl, v, ⟨rfl, rfl⟩, rfl⟩
    have km := fun Lx => (k16 Lx false).resolve_right (fun z => z.2 hin)
    refine ⟨fun x M' => x = M1 31 a.toNatClampNeg ∧ M' = q_up M1 27 0 (iI 0), s_TapedLinesModel_variable_0 a ?_, ?_⟩
    · have km2 := fun Lx => V.wi (P := fun x M' => x = M1 31 a.toNatClampNeg ∧ M' = q_up M1 27 0 (iI 0)) (km Lx) (fun x M' z => z.2 rfl)
      rw [x0lt, xle (by decide) (by decide)]
      exact ⟨fun q => by omega, fun _ => ⟨fun _ => km2 _, fun q => by omega⟩⟩
    rintro x2 M2 ⟨rfl, rfl⟩
    exact ⟨q_up_s, fun _ => by rw [upd0, (hv _ hk).1], h.fault _⟩
  · refine ⟨_, H_variable_out a (E := fun ec M' => ec = 0 ∧ M' = M) (fun ec M' z => z.1) (V.tout (s_TapedLines_variable_0 a htr (by decide) (by decide) ?_)), ?_⟩
    · rw [x0lt, xlt (by decide) (by decide)]
      exact ⟨fun _ => ⟨rfl, rfl⟩, fun _ => ⟨fun q => by omega, fun _ => ⟨rfl, rfl⟩⟩⟩
    rintro x1 M1 L1 ⟨⟨rfl, -, rfl⟩, rfl⟩
    have km := fun Lx => (k16 Lx true).resolve_right (fun z => by cases z.1)
    refine ⟨fun x M' => M' = q_up M1 27 0 (iI 1), s_TapedLinesModel_variable_0 a ?_, ?_⟩
    · have km2 := fun Lx => V.wi (P := fun x M' => M' = q_up M1 27 0 (iI 1)) (km Lx) (fun x M' z => z.1 rfl)
      rw [x0lt, xle (by decide) (by decide)]
      exact ⟨fun _ => km2 _, fun _ => ⟨fun q => by omega, fun _ => km2 _⟩⟩
    rintro x2 M2 rfl
    exact ⟨q_up_s, fun z => absurd z (by decide), h.fault _⟩
theorem pair_cell (htr : l.stackTraces = false) (h : Rel okS M) : p_cell l Γ 99 M (Rel okS) := by
  intro L a
  have hv := h.2.2.2.2.1.2
  have k16 : ∀ (L : Nat → Int64) (b : Bool), V l Γ T_TapedLinesModel_cell 99 0 16 [.ref 27, .int a] [.int (b2 b), .ref 27] (M, L) (q_i L (fun x M' => (b = true → M' = q_up M 27 0 (iI 1)) ∧ (b = false → x = M 32 a.toNatClampNeg ∧ M' = q_up M 27 0 (iI 0)))) ∨ (b = false ∧ ¬ (0 ≤ a.toInt ∧ a.toInt < 16)) := by
    intro L b
    cases b with
    | true =>
      refine Or.inl (s_TapedLinesModel_cell_16 _ _ ⟨_, cm_refused true false, ?_⟩)
      rintro x M' ⟨rfl, rfl⟩
      exact ⟨fun z => absurd z (by decide), fun _ => ⟨fun _ => rfl, (fun z => by cases z)⟩⟩
    | false =>
      by_cases hin : 0 ≤ a.toInt ∧ a.toInt < 16
      · refine Or.inl (s_TapedLinesModel_cell_16 _ _ ⟨_, cm_refused false false, ?_⟩)
        rintro x M' ⟨rfl, rfl⟩
        refine ⟨fun _ => ⟨?_, (fun z => by cases z), fun _ => ⟨?_, rfl⟩⟩, fun z => absurd (by decide) z⟩
        · rw [vp_in_iff]; omega
        · rw [q_up_o (by decide)]
      · exact Or.inr ⟨rfl, hin⟩
  by_cases hin : 0 ≤ a.toInt ∧ a.toInt < 16
  · have hk : a.toNatClampNeg < 16 := by rw [clampI]; omega
    refine ⟨_, H_cell_in a (V.tin (s_TapedLines_cell_0 a (P := fun x M' => x = M 14 a.toNatClampNeg ∧ M' = M) htr (by decide) (by decide) ?_)), ?_⟩
    · rw [x0lt, xlt (by decide) (by decide)]
      refine ⟨fun q => by omega, fun _ => ⟨fun _ => ⟨?_, rfl, rfl⟩, fun q => by omega⟩⟩
      rw [vp_in_iff]; omega
    rintro x1 M1 L1 ⟨rfl, v, ⟨rfl, rfl⟩, rfl⟩
    have km := fun Lx => (k16 Lx false).resolve_right (fun z => z.2 hin)
    refine ⟨fun x M' => x = M1 32 a.toNatClampNeg ∧ M' = q_up M1 27 0 (iI 0), s_TapedLinesModel_cell_0 a ?_, ?_⟩
    · have km2 := fun Lx => V.wi (P := fun x M' => x = M1 32 a.toNatClampNeg ∧ M' = q_up M1 27 0 (iI 0)) (km Lx) (fun x M' z => z.2 rfl)
      rw [x0lt, xle (by decide) (by decide)]
      exact ⟨fun q => by omega, fun _ => ⟨fun _ => km2 _, fun q => by omega⟩⟩
    rintro x2 M2 ⟨rfl, rfl⟩
    exact ⟨q_up_s, fun _ => by rw [upd0, (hv _ hk).1], h.fault _⟩
  · refine ⟨_, H_cell_out a (E := fun ec M' => ec = 0 ∧ M' = M) (fun ec M' z => z.1) (V.tout (s_TapedLines_cell_0 a htr (by decide) (by decide) ?_)), ?_⟩
    · rw [x0lt, xlt (by decide) (by decide)]
      exact ⟨fun _ => ⟨rfl, rfl⟩, fun _ => ⟨fun q => by omega, fun _ => ⟨rfl, rfl⟩⟩⟩
    rintro x1 M1 L1 ⟨⟨rfl, -, rfl⟩, rfl⟩
    have km := fun Lx => (k16 Lx true).resolve_right (fun z => by cases z.1)
    refine ⟨fun x M' => M' = q_up M1 27 0 (iI 1), s_TapedLinesModel_cell_0 a ?_, ?_⟩
    · have km2 := fun Lx => V.wi (P := fun x M' => M' = q_up M1 27 0 (iI 1)) (km Lx) (fun x M' z => z.1 rfl)
      rw [x0lt, xle (by decide) (by decide)]
      exact ⟨fun _ => km2 _, fun _ => ⟨fun q => by omega, fun _ => km2 _⟩⟩
    rintro x2 M2 rfl
    exact ⟨q_up_s, fun z => absurd z (by decide), h.fault _⟩
theorem pair_wave (htr : l.stackTraces = false) (h : Rel okS M) : p_wave l Γ 99 M (Rel okS) := by
  intro L a
  obtain ⟨n, hn, e1, e2, hv⟩ := h.2.2.2.1
  have k18 : ∀ (L : Nat → Int64) (b : Bool), V l Γ T_TapedLinesModel_wave 99 0 18 [.ref 27, .int a] [.int (b2 b), .ref 27] (M, L) (q_i L (fun x M' => (b = true → M' = q_up M 27 0 (iI 1)) ∧ (b = false → x = M 40 a.toNatClampNeg ∧ M' = q_up M 27 0 (iI 0)))) ∨ (b = false ∧ ¬ (0 ≤ a.toInt ∧ a.toInt < n)) := by
    intro L b
    cases b with
    | true =>
      refine Or.inl (s_TapedLinesModel_wave_18 _ _ ⟨_, cm_refused true false, ?_⟩)
      rintro x M' ⟨rfl, rfl⟩
      exact ⟨fun z => absurd z (by decide), fun _ => ⟨fun _ => rfl, (fun z => by cases z)⟩⟩
    | false =>
      by_cases hin : 0 ≤ a.toInt ∧ a.toInt < n
      · refine Or.inl (s_TapedLinesModel_wave_18 _ _ ⟨_, cm_refused false false, ?_⟩)
        rintro x M' ⟨rfl, rfl⟩
        refine ⟨fun _ => ⟨?_, (fun z => by cases z), fun _ => ⟨?_, rfl⟩⟩, fun z => absurd (by decide) z⟩
        · rw [vp_in_iff]; omega
        · rw [q_up_o (by decide)]
      · exact Or.inr ⟨rfl, hin⟩
  by_cases hin : 0 ≤ a.toInt ∧ a.toInt < n
  · have hk : a.toNatClampNeg < n := by rw [clampI]; omega
    refine ⟨_, H_wave_in a (V.tin (s_TapedLines_wave_0 a (P := fun x M' => x = M 25 a.toNatClampNeg ∧ M' = M) htr (by decide) (by decide) ?_)), ?_⟩
    · rw [e1, x0lt, xlt (by omega) (by omega)]
      refine ⟨fun q => by omega, fun _ => ⟨fun _ => ⟨?_, rfl, rfl⟩, fun q => by omega⟩⟩
      rw [vp_in_iff]; omega
    rintro x1 M1 L1 ⟨rfl, v, ⟨rfl, rfl⟩, rfl⟩
    have km := fun Lx => (k18 Lx false).resolve_right (fun z => z.2 hin)
    refine ⟨fun x M' => x = M1 40 a.toNatClampNeg ∧ M' = q_up M1 27 0 (iI 0), s_TapedLinesModel_wave_0 a ?_, ?_⟩
    · have km2 := fun Lx => V.wi (P := fun x M' => x = M1 40 a.toNatClampNeg ∧ M' = q_up M1 27 0 (iI 0)) (km Lx) (fun x M' z => z.2 rfl)
      rw [e2, x0lt, xlt (by omega) (by omega)]
      exact ⟨fun q => by omega, fun _ => ⟨fun _ => km2 _, fun q => by omega⟩⟩
    rintro x2 M2 ⟨rfl, rfl⟩
    exact ⟨q_up_s, fun _ => by rw [upd0, hv _ hk], h.fault _⟩
  · refine ⟨_, H_wave_out a (E := fun ec M' => ec = 0 ∧ M' = M) (fun ec M' z => z.1) (V.tout (s_TapedLines_wave_0 a htr (by decide) (by decide) ?_)), ?_⟩
    · rw [e1, x0lt, xlt (by omega) (by omega)]
      exact ⟨fun _ => ⟨rfl, rfl⟩, fun _ => ⟨fun q => by omega, fun _ => ⟨rfl, rfl⟩⟩⟩
    rintro x1 M1 L1 ⟨⟨rfl, -, rfl⟩, rfl⟩
    have km := fun Lx => (k18 Lx true).resolve_right (fun z => by cases z.1)
    refine ⟨fun x M' => M' = q_up M1 27 0 (iI 1), s_TapedLinesModel_wave_0 a ?_, ?_⟩
    · have km2 := fun Lx => V.wi (P := fun x M' => M' = q_up M1 27 0 (iI 1)) (km Lx) (fun x M' z => z.1 rfl)
      rw [e2, x0lt, xlt (by omega) (by omega)]
      exact ⟨fun _ => km2 _, fun _ => ⟨fun q => by omega, fun _ => km2 _⟩⟩
    rintro x2 M2 rfl
    exact ⟨q_up_s, fun z => absurd z (by decide), h.fault _⟩
theorem pair_programByte (htr : l.stackTraces = false) (h : Rel okS M) : p_programByte l Γ 99 M (Rel okS) := by
  intro L a
  obtain ⟨pr, c1, m1, -⟩ := h.2.2.2.2.2
  have hn := c1.2.1
  have k18 : ∀ (L : Nat → Int64) (b : Bool), V l Γ T_TapedLinesModel_programByte 99 0 18 [.ref 27, .int a] [.int (b2 b), .ref 27] (M, L) (q_i L (fun x M' => (b = true → M' = q_up M 27 0 (iI 1)) ∧ (b = false → x = M 30 a.toNatClampNeg ∧ M' = q_up M 27 0 (iI 0)))) ∨ (b = false ∧ ¬ (0 ≤ a.toInt ∧ a.toInt < (enc pr).length)) := by
    intro L b
    cases b with
    | true =>
      refine Or.inl (s_TapedLinesModel_programByte_18 _ _ ⟨_, cm_refused true false, ?_⟩)
      rintro x M' ⟨rfl, rfl⟩
      exact ⟨fun z => absurd z (by decide), fun _ => ⟨fun _ => rfl, (fun z => by cases z)⟩⟩
    | false =>
      by_cases hin : 0 ≤ a.toInt ∧ a.toInt < (enc pr).length
      · refine Or.inl (s_TapedLinesModel_programByte_18 _ _ ⟨_, cm_refused false false, ?_⟩)
        rintro x M' ⟨rfl, rfl⟩
        refine ⟨fun _ => ⟨?_, (fun z => by cases z), fun _ => ⟨?_, rfl⟩⟩, fun z => absurd (by decide) z⟩
        · rw [vp_in_iff]; omega
        · rw [q_up_o (by decide)]
      · exact Or.inr ⟨rfl, hin⟩
  by_cases hin : 0 ≤ a.toInt ∧ a.toInt < (enc pr).length
  · have hk : a.toNatClampNeg < (enc pr).length := by rw [clampI]; omega
    refine ⟨_, H_programByte_in a (V.tin (s_TapedLines_programByte_0 a (P := fun x M' => x = M 11 a.toNatClampNeg ∧ M' = M) htr (by decide) (by decide) ?_)), ?_⟩
    · rw [c1.1, x0lt, xlt (by omega) (by omega)]
      refine ⟨fun q => by omega, fun _ => ⟨fun _ => ⟨?_, rfl, rfl⟩, fun q => by omega⟩⟩
      rw [vp_in_iff]; omega
    rintro x1 M1 L1 ⟨rfl, v, ⟨rfl, rfl⟩, rfl⟩
    have km := fun Lx => (k18 Lx false).resolve_right (fun z => z.2 hin)
    refine ⟨fun x M' => x = M1 30 a.toNatClampNeg ∧ M' = q_up M1 27 0 (iI 0), s_TapedLinesModel_programByte_0 a ?_, ?_⟩
    · have km2 := fun Lx => V.wi (P := fun x M' => x = M1 30 a.toNatClampNeg ∧ M' = q_up M1 27 0 (iI 0)) (km Lx) (fun x M' z => z.2 rfl)
      rw [m1.1, x0lt, xlt (by omega) (by omega)]
      exact ⟨fun q => by omega, fun _ => ⟨fun _ => km2 _, fun q => by omega⟩⟩
    rintro x2 M2 ⟨rfl, rfl⟩
    exact ⟨q_up_s, fun _ => by rw [upd0, c1.2.2 _ hk, m1.2.2 _ hk], h.fault _⟩
  · refine ⟨_, H_programByte_out a (E := fun ec M' => ec = 0 ∧ M' = M) (fun ec M' z => z.1) (V.tout (s_TapedLines_programByte_0 a htr (by decide) (by decide) ?_)), ?_⟩
    · rw [c1.1, x0lt, xlt (by omega) (by omega)]
      exact ⟨fun _ => ⟨rfl, rfl⟩, fun _ => ⟨fun q => by omega, fun _ => ⟨rfl, rfl⟩⟩⟩
    rintro x1 M1 L1 ⟨⟨rfl, -, rfl⟩, rfl⟩
    have km := fun Lx => (k18 Lx true).resolve_right (fun z => by cases z.1)
    refine ⟨fun x M' => M' = q_up M1 27 0 (iI 1), s_TapedLinesModel_programByte_0 a ?_, ?_⟩
    · have km2 := fun Lx => V.wi (P := fun x M' => M' = q_up M1 27 0 (iI 1)) (km Lx) (fun x M' z => z.1 rfl)
      rw [m1.1, x0lt, xlt (by omega) (by omega)]
      exact ⟨fun _ => km2 _, fun _ => ⟨fun q => by omega, fun _ => km2 _⟩⟩
    rintro x2 M2 rfl
    exact ⟨q_up_s, fun z => absurd z (by decide), h.fault _⟩
end PairsB
