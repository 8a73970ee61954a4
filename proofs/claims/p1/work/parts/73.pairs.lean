section PairsA
variable {l : Launch} {Γ : qG} {M : qM} {okS : List Int → Prop}
theorem Rel.fault (h : Rel okS M) (v : Int32) : Rel okS (q_up M 27 0 v) := by
  have f : fm [] [0] M (q_up M 27 0 v) := fm.rf.upk (by simp)
  exact ⟨h.1.keep f (by decide) (by decide), h.2.1.keep f (by decide) (by decide), h.2.2.1.keep f (by decide) (by decide), h.2.2.2.1.keep f (by decide) (by decide), h.2.2.2.2.1.keep f (by decide), h.2.2.2.2.2.keep f (by decide) (by decide)⟩
theorem clampI (a : Int32) : a.toNatClampNeg = a.toInt.toNat := rfl
theorem pair_type (h : Rel okS M) : p_type l Γ 99 M (Rel okS) := by
  intro L a
  obtain ⟨c, h0, h1, e⟩ := i2c_char a
  rw [e]
  obtain ⟨⟨t, ht, hm, hc⟩, hr⟩ := h
  refine ⟨_, c_type ht h0 h1, ?_⟩
  rintro x1 M1 ⟨rfl, rfl⟩
  have f1 : fm [1, 2] [] M (if isC c = true then shApp M 1 t c else M) := by
    split
    · exact shApp_fr.fm (by decide)
    · exact fm.rf
  have hm1 : mText (if isC c = true then shApp M 1 t c else M) t := by
    unfold mText
    rw [f1.2 1 (by decide), f1.1 28 (by decide) (by decide)]
    exact hm
  refine ⟨_, cm_type hm1 h0 h1, ?_⟩
  rintro x2 M2 ⟨rfl, rfl⟩
  refine ⟨rfl, ?_⟩
  have e60 : cp (1 + 1) = 60 := by decide
  by_cases hin : isC c = true ∧ t.length < 60
  · rw [if_pos hin]
    rw [if_pos hin.1] at f1 hm1 ⊢
    have f2 : fm [1, 2, 28] [0, 1] M (mApp (shApp M 1 t c) t c) := by
      unfold mApp
      exact (((f1.wk (by simp) (by simp)).upk (by simp)).upo (by simp) (by decide)).upk (by simp)
    have hs := shApp_is (c := c) ht
    rw [e60, if_pos hin.2] at hs
    have hcc : 32 ≤ c ∧ c ≤ 126 := by have := hin.1; simpa [isC] using this
    refine ⟨⟨t ++ [c], hs.keep ?_ ?_, ?_, ?_⟩, hr.1.keep f2 (by decide) (by decide), hr.2.1.keep f2 (by decide) (by decide), hr.2.2.1.keep f2 (by decide) (by decide), hr.2.2.2.1.keep f2 (by decide), hr.2.2.2.2.keep f2 (by decide) (by decide)⟩
    · unfold mApp
      rw [q_up_o (by decide), q_up_o (by decide), q_up_o (by decide)]
    · unfold mApp
      rw [q_up_o (by decide), q_up_o (by decide), q_up_o (by decide)]
    · have hrow : rowIs (q_up (shApp M 1 t c) 27 0 (iI 0)) 27 1 28 t := ⟨by rw [q_up_k (by decide)]; exact hm1.1, by rw [q_up_o (by decide)]; exact hm1.2.2⟩
      have hp := hrow.push (c := c) (by decide)
      exact ⟨hp.1, by rw [List.length_append, List.length_singleton]; omega, hp.2⟩
    · intro c' hc'
      rcases List.mem_append.mp hc' with q | q
      · exact hc c' q
      · rw [List.mem_singleton.mp q]; exact hcc
  · rw [if_neg hin]
    refine Rel.fault ?_ _
    by_cases hic : isC c = true
    · have hnl : ¬ t.length < 60 := fun q => hin ⟨hic, q⟩
      rw [if_pos hic]
      unfold shApp
      rw [e60, if_neg hnl]
      exact ⟨⟨t, ht, hm, hc⟩, hr⟩
    · rw [if_neg hic]
      exact ⟨⟨t, ht, hm, hc⟩, hr⟩
theorem pair_wipe (h : Rel okS M) : p_wipe l Γ 99 M (Rel okS) := by
  intro L
  obtain ⟨⟨t, ht, hm, hc⟩, hr⟩ := h
  refine ⟨fun x M' => x = iI t.length ∧ M' = q_up M 1 1 (iI 0), s_TapedLines_wipe_0 ⟨ht.1, rfl⟩, ?_⟩
  rintro x1 M1 ⟨rfl, rfl⟩
  refine ⟨fun x M' => x = iI t.length ∧ M' = q_up (q_up (q_up M 1 1 (iI 0)) 27 0 (iI 0)) 27 1 (iI 0), s_TapedLinesModel_wipe_0 ⟨by rw [q_up_o (by decide)]; exact hm.1, rfl⟩, ?_⟩
  rintro x2 M2 ⟨rfl, rfl⟩
  have f : fm [1] [0, 1] M (q_up (q_up (q_up M 1 1 (iI 0)) 27 0 (iI 0)) 27 1 (iI 0)) := ((fm.rf.upo (by simp) (by decide)).upk (by simp)).upk (by simp)
  refine ⟨rfl, ⟨[], ⟨?_, Nat.zero_le _, rw_nil _⟩, ⟨q_up_s, Nat.zero_le _, rw_nil _⟩, by simp⟩, hr.1.keep f (by decide) (by decide), hr.2.1.keep f (by decide) (by decide), hr.2.2.1.keep f (by decide) (by decide), hr.2.2.2.1.keep f (by decide), hr.2.2.2.2.keep f (by decide) (by decide)⟩
  rw [q_up_o (by decide), q_up_o (by decide), q_up_s]
  rfl
theorem pair_lines (h : Rel okS M) : p_lines l Γ 99 M (Rel okS) := by
  intro L
  obtain ⟨pr, h1, h2, -⟩ := h.2.2.2.2.2
  refine ⟨_, c_lines h1, ?_⟩
  rintro x1 M1 ⟨rfl, rfl⟩
  refine ⟨_, cm_lines h2, ?_⟩
  rintro x2 M2 ⟨rfl, rfl⟩
  exact ⟨rfl, h.fault _⟩
theorem pair_state (h : Rel okS M) : p_state l Γ 99 M (Rel okS) := by
  intro L
  obtain ⟨pr, h1, h2, h3, z, e1, e2, -⟩ := h.2.2.2.2.2
  refine ⟨fun x M' => x = iI z ∧ M' = M, s_TapedLines_state_0 ⟨e1, rfl⟩, ?_⟩
  rintro x1 M1 ⟨rfl, rfl⟩
  refine ⟨fun x M' => x = iI z ∧ M' = q_up M1 27 0 (iI 0), s_TapedLinesModel_state_0 ⟨e2, rfl⟩, ?_⟩
  rintro x2 M2 ⟨rfl, rfl⟩
  exact ⟨rfl, h.fault _⟩
theorem pair_place (h : Rel okS M) : p_place l Γ 99 M (Rel okS) := by
  intro L
  obtain ⟨pr, h1, h2, h3, z, e1, e2, hz, hp, -⟩ := h.2.2.2.2.2
  have hl := h1.2.1
  by_cases hs : z = 1 ∨ 11 ≤ z
  · obtain ⟨i, hi, f1, f2⟩ := hp hs
    have ho := off_lt hi
    have hv : vp_in (iI (off pr i : Int)) 200 := iI_in (by omega) (by omega) (by omega)
    have hv2 : vp_in (iI (off pr i : Int)) 260 := iI_in (by omega) (by omega) (by omega)
    have g1 : M 11 (iI (off pr i : Int)).toNatClampNeg = iI ((enc pr).getD (off pr i) 0) := by rw [iI_nat (by omega) (by omega), Int.toNat_natCast, h1.2.2 _ (by omega)]
    have g2 : M 30 (iI (off pr i : Int)).toNatClampNeg = iI ((enc pr).getD (off pr i) 0) := by rw [iI_nat (by omega) (by omega), Int.toNat_natCast, h2.2.2 _ (by omega)]
    have k28 : V l Γ T_TapedLines_place 99 0 28 [.ref 0, .null] [.int (iI 1)] (M, L) (q_i L (fun x M' => x = iI ((enc pr).getD (off pr i) 0) ∧ M' = M)) := by
      refine s_TapedLines_place_28 _ ⟨fun q => absurd q (by decide), fun _ => ?_⟩
      rw [f1]
      exact ⟨hv, g1, rfl⟩
    refine ⟨_, s_TapedLines_place_0 (P := fun x M' => x = iI ((enc pr).getD (off pr i) 0) ∧ M' = M) ?_, ?_⟩
    · rw [e1, iI_eq (by omega) (by omega) (by omega) (by omega), iI_le (by omega) (by omega) (by omega) (by omega)]
      exact ⟨fun _ => k28, fun q => ⟨fun q2 => by omega, fun _ => k28⟩⟩
    rintro x1 M1 ⟨rfl, rfl⟩
    refine ⟨fun x M' => x = iI ((enc pr).getD (off pr i) 0) ∧ M' = q_up M1 27 0 (iI 0), s_TapedLinesModel_place_0 ?_, ?_⟩
    · rw [e2, f2, iI_eq (a := z) (b := 2) (by omega) (by omega) (by omega) (by omega), x0eq, iI_toInt (by omega) (by omega)]
      exact ⟨fun q => by omega, fun _ => ⟨fun _ => ⟨hv2, g2, rfl⟩, fun q => by omega⟩⟩
    rintro x2 M2 ⟨rfl, rfl⟩
    exact ⟨rfl, h.fault _⟩
  · clear hp
    have k28 : V l Γ T_TapedLines_place 99 0 28 [.ref 0, .null] [.int (iI 0)] (M, L) (q_i L (fun x M' => x = iI (-1) ∧ M' = M)) := s_TapedLines_place_28 _ ⟨fun _ => ⟨rfl, rfl⟩, fun q => absurd (by decide) q⟩
    refine ⟨_, s_TapedLines_place_0 (P := fun x M' => x = iI (-1) ∧ M' = M) ?_, ?_⟩
    · rw [e1, iI_eq (by omega) (by omega) (by omega) (by omega), iI_le (by omega) (by omega) (by omega) (by omega)]
      exact ⟨fun q => by omega, fun q => ⟨fun _ => k28, fun q2 => by omega⟩⟩
    rintro x1 M1 ⟨rfl, rfl⟩
    refine ⟨fun x M' => x = iI (-1) ∧ M' = q_up M1 27 0 (iI 0), s_TapedLinesModel_place_0 ?_, ?_⟩
    · rw [e2, iI_eq (a := z) (b := 2) (by omega) (by omega) (by omega) (by omega), x0eq, iI_toInt (by omega) (by omega)]
      exact ⟨fun _ => ⟨rfl, rfl⟩, fun q => ⟨fun q2 => by omega, fun _ => ⟨rfl, rfl⟩⟩⟩
    rintro x2 M2 ⟨rfl, rfl⟩
    exact ⟨rfl, h.fault _⟩
theorem pair_output (h : Rel okS M) : p_output l Γ 99 M (Rel okS) := by
  intro L
  obtain ⟨h1, ⟨o, ho, hm, hc⟩, hr⟩ := h
  have hl : o.length ≤ 100 := ho.2.1
  refine ⟨_, c_output (t := []) ho hc, ?_⟩
  rintro x1 M1 ⟨rfl, g1, f1⟩
  have f1 := f1.fm (by decide)
  refine ⟨_, cm_output (hm.keep (f1.2 24 (by simp)) (f1.1 37 (by decide) (by decide))) hl, ?_⟩
  rintro x2 M2 ⟨rfl, g2, f2⟩
  have f : fm [3, 4, 41] [0, 37] M M2 := (f1.wk (by simp) (by simp)).tr (f2.wk (by simp) (by simp))
  exact ⟨rfl, h1.keep f (by decide) (by decide), (show R_out M from ⟨o, ho, hm, hc⟩).keep f (by decide) (by decide), ⟨o, g1.keep (f2.1 3 (by decide) (by decide)) (f2.1 4 (by decide) (by decide)), g2, hc⟩, hr.2.1.keep f (by decide) (by decide), hr.2.2.1.keep f (by decide), hr.2.2.2.keep f (by decide) (by decide)⟩
theorem pair_save (h : Rel okS M) : p_save l Γ 99 M (Rel okS) := by
  intro L
  obtain ⟨h1, h2, h3, h4, h5, h6⟩ := h
  obtain ⟨pr, c1, m1, hh⟩ := h6
  refine ⟨_, c_save c1, ?_⟩
  rintro x1 M1 ⟨rfl, g1, f1⟩
  have f1 := f1.fm (by decide)
  refine ⟨_, cm_save (m1.keep (f1.2 12 (by simp)) (f1.1 30 (by decide) (by decide))), ?_⟩
  rintro x2 M2 ⟨rfl, g2, f2⟩
  have f : fm [24, 25, 40] [0, 33] M M2 := (f1.wk (by simp) (by simp)).tr (f2.wk (by simp) (by simp))
  have hlen : (tapeW (enc pr)).length ≤ 7754 := by
    have z1 := leadW_len 10
    have z2 := byW_len (iI (enc pr).length)
    have z3 := byWs_len (enc pr)
    have z4 := sumW_len (enc pr)
    have z5 := c1.2.1
    unfold tapeW
    rw [List.length_append, List.length_append, List.length_append]
    omega
  refine ⟨rfl, h1.keep f (by decide) (by decide), h2.keep f (by decide) (by decide), h3.keep f (by decide) (by decide), ⟨(tapeW (enc pr)).length, hlen, ?_, g2.1, fun j hj => ?_⟩, h5.keep f (by decide), (show R_prog okS M from ⟨pr, c1, m1, hh⟩).keep f (by decide) (by decide)⟩
  · rw [f2.1 24 (by decide) (by decide)]
    exact g1.1
  · rw [f2.1 25 (by decide) (by decide), g1.2 j hj, g2.2 j hj]
theorem pair_waves (h : Rel okS M) : p_waves l Γ 99 M (Rel okS) := by
  intro L
  obtain ⟨n, -, e1, e2, -⟩ := h.2.2.2.1
  refine ⟨fun x M' => x = iI n ∧ M' = M, s_TapedLines_waves_0 ⟨e1, rfl⟩, ?_⟩
  rintro x1 M1 ⟨rfl, rfl⟩
  refine ⟨fun x M' => x = iI n ∧ M' = q_up M1 27 0 (iI 0), s_TapedLinesModel_waves_0 ⟨e2, rfl⟩, ?_⟩
  rintro x2 M2 ⟨rfl, rfl⟩
  exact ⟨rfl, h.fault _⟩
theorem pair_length (h : Rel okS M) : p_length l Γ 99 M (Rel okS) := by
  intro L
  obtain ⟨g, e1, e2, -⟩ := h.2.2.1
  refine ⟨fun x M' => x = iI g.length ∧ M' = M, s_TapedLines_length_0 ⟨e1.1, rfl⟩, ?_⟩
  rintro x1 M1 ⟨rfl, rfl⟩
  refine ⟨fun x M' => x = iI g.length ∧ M' = q_up M1 27 0 (iI 0), s_TapedLinesModel_length_0 ⟨e2.1, rfl⟩, ?_⟩
  rintro x2 M2 ⟨rfl, rfl⟩
  exact ⟨rfl, h.fault _⟩
theorem char_iI {c : Int} (h0 : 0 ≤ c) (h1 : c < 65536) : ((iI c).toUInt32 % 65536).toInt32 = iI c ∧ narrow .char (.int (iI c)) = .int (iI c) := by
  have e : iI c = nI c.toNat := by rw [iI_nI]; congr 1; omega
  rw [e]
  have h := pk_charN (q := c.toNat) (by omega)
  refine ⟨?_, ?_⟩
  · obtain ⟨w, q0, q1, q2⟩ := i2c_char (nI c.toNat)
    rw [q2]
    have e3 : (((nI c.toNat).toUInt32 % 65536).toInt32).toInt = (iI w).toInt := by rw [q2]
    rw [iI_toInt (by omega) (by omega)] at e3
    have e4 : ((nI c.toNat).toUInt32 % 65536).toNat = c.toNat := by
      have e5 : (nI c.toNat).toUInt32.toNat = c.toNat := by
        show (BitVec.ofNat 32 c.toNat).toNat = c.toNat
        rw [BitVec.toNat_ofNat, Nat.mod_eq_of_lt (by omega)]
      rw [UInt32.toNat_mod, e5]
      show c.toNat % 65536 = c.toNat
      omega
    have e6 : (((nI c.toNat).toUInt32 % 65536).toInt32).toInt = (c.toNat : Int) := by
      show ((nI c.toNat).toUInt32 % 65536).toBitVec.toInt = _
      rw [BitVec.toInt_eq_toNat_of_lt (by show 2 * ((nI c.toNat).toUInt32 % 65536).toNat < 2 ^ 32; omega)]
      show (((nI c.toNat).toUInt32 % 65536).toNat : Int) = _
      rw [e4]
    rw [iI_nI]
    congr 1
    omega
  · rw [h.1]
theorem pair_charAt (h : Rel okS M) : p_charAt l Γ 99 M (Rel okS) := by
  intro L a
  obtain ⟨g, e1, e2, hc⟩ := h.2.2.1
  have hl : g.length ≤ 256 := e1.2.1
  by_cases hin : 0 ≤ a.toInt ∧ a.toInt < g.length
  · have hk : a.toNatClampNeg < g.length := by rw [clampI]; omega
    have hcc := hc (g.getD a.toNatClampNeg 0) (by rw [List.getD_eq_getElem?_getD, List.getElem?_eq_getElem hk]; exact List.getElem_mem hk)
    have hch := char_iI hcc.1 hcc.2
    refine ⟨fun x M' => x = iI (g.getD a.toNatClampNeg 0) ∧ M' = M, s_TapedLines_charAt_0 _ ?_, ?_⟩
    · rw [e1.1, x0lt, lex (by omega) (by omega), e1.2.2 _ hk]
      refine ⟨fun q => by omega, fun _ => ⟨fun q => by omega, fun _ => ⟨?_, hch.2, rfl, rfl⟩⟩⟩
      rw [vp_in_iff]; omega
    rintro x1 M1 ⟨rfl, rfl⟩
    refine ⟨fun x M' => x = iI (g.getD a.toNatClampNeg 0) ∧ M' = q_up M1 27 0 (iI 0), s_TapedLinesModel_charAt_0 _ ?_, ?_⟩
    · rw [e2.1, x0lt, xlt (by omega) (by omega), e2.2 _ hk, hch.1]
      refine ⟨fun q => by omega, fun _ => ⟨fun _ => ⟨?_, hch.2, rfl, rfl⟩, fun q => by omega⟩⟩
      rw [vp_in_iff]; omega
    rintro x2 M2 ⟨rfl, rfl⟩
    exact ⟨rfl, h.fault _⟩
  · refine ⟨fun x M' => x = iI 32 ∧ M' = M, s_TapedLines_charAt_0 _ ?_, ?_⟩
    · rw [e1.1, x0lt, lex (by omega) (by omega)]
      exact ⟨fun _ => ⟨rfl, rfl⟩, fun _ => ⟨fun _ => ⟨rfl, rfl⟩, fun q => by omega⟩⟩
    rintro x1 M1 ⟨rfl, rfl⟩
    refine ⟨fun x M' => x = iI 32 ∧ M' = q_up M1 27 0 (iI 0), s_TapedLinesModel_charAt_0 _ ?_, ?_⟩
    · rw [e2.1, x0lt, xlt (by omega) (by omega)]
      exact ⟨fun _ => ⟨rfl, rfl⟩, fun _ => ⟨fun q => by omega, fun _ => ⟨rfl, rfl⟩⟩⟩
    rintro x2 M2 ⟨rfl, rfl⟩
    exact ⟨rfl, h.fault _⟩
end PairsA
