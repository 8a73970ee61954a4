-- the reference works an expression out
section MWork
variable {l : Launch} {Γ : qG} {d r : Nat} {L : Nat → Int64}
theorem m_workOne_20 {M : qM} {e p : Nat} (he : e ≤ 200) {vs : List Int32} {ss : List Int} (h : mS M vs ss) (hv : vs.length ≤ 240) : ∀ (u : List Int) (v : Int), cB (M 30) e u → V l Γ T_TapedLinesModel_workOne (d + 1) r 20 [.ref 27, .int (iI p), .int (iI e), .null, .int (iI ((e - u.length : Nat) : Int)), .int (iI v)] [] (M, L) (q_i L (fun x M' => x = iI (((e - (numV v u).2.length : Nat) : Int) - p) ∧ mS M' (sh (iI (numV v u).1) :: vs) ss ∧ fm [38] [29] M M')) := by
  intro u
  induction u with
  | nil =>
    intro v hB
    refine s_TapedLinesModel_workOne_20 _ _ _ _ ?_
    rw [iI_le (by omega) (by omega) (by omega) (by omega)]
    refine ⟨fun _ => ⟨_, m_push h (by omega) _, ?_⟩, fun q => by simp at q⟩
    rintro M1 ⟨m1, f1⟩
    exact ⟨by rw [iI_sub]; rfl, m1, f1⟩
  | cons c t ih =>
    intro v hB
    obtain ⟨k1, k2, k3, k4⟩ := hB.hd
    refine s_TapedLinesModel_workOne_20 _ _ _ _ ?_
    simp only [List.length_cons]
    rw [iI_le (by omega) (by omega) (by omega) (by omega), iI_nat (by omega) (by omega), Int.toNat_natCast, k1, iI_add]
    refine ⟨fun q => by omega, fun _ => ⟨iI_in (by omega) (by omega) (by omega), _, cm_isDigit _, ?_⟩⟩
    rintro x1 M1 ⟨rfl, rfl⟩
    rw [iI_toInt (by omega) (by omega), b2_0, k1, iI_mul, iI_add, iI_sub (10 * v + c) 48]
    unfold numV
    refine ⟨fun q => ?_, fun q => ?_⟩
    · rw [if_neg (by rw [q]; decide)]
      refine ⟨_, m_push h (by omega) _, ?_⟩
      rintro M1 ⟨m1, f1⟩
      exact ⟨by rw [iI_sub]; rfl, m1, f1⟩
    · rw [if_pos (by simpa using q), show ((e - (t.length + 1) : Nat) : Int) + 1 = ((e - t.length : Nat) : Int) by omega]
      exact ⟨iI_in (by omega) (by omega) (by omega), ih _ hB.tl⟩
theorem m_workOne_d {M : qM} {e : Nat} (he : e ≤ 200) {vs : List Int32} {ss : List Int} (h : mS M vs ss) (hv : vs.length ≤ 240) {c : Int} {t : List Int} (hB : cB (M 30) e (c :: t)) (hc : isD c = true) : V l Γ T_TapedLinesModel_workOne (d + 1) r 0 [.ref 27, .int (iI ((e - (t.length + 1) : Nat) : Int)), .int (iI e), .null, .null, .null] [] (M, L) (q_i L (fun x M' => x = iI (((e - (numV 0 (c :: t)).2.length : Nat) : Int) - ((e - (t.length + 1) : Nat) : Int)) ∧ mS M' (sh (iI (numV 0 (c :: t)).1) :: vs) ss ∧ fm [38] [29] M M')) := by
  obtain ⟨k1, k2, k3, k4⟩ := hB.hd
  refine s_TapedLinesModel_workOne_0 _ _ ?_
  rw [iI_nat (by omega) (by omega), Int.toNat_natCast, k1]
  refine ⟨iI_in (by omega) (by omega) (by omega), _, cm_isDigit _, ?_⟩
  rintro x1 M1 ⟨rfl, rfl⟩
  rw [iI_toInt (by omega) (by omega), b2_0]
  refine ⟨fun q => (by rw [hc] at q; cases q), fun _ => ?_⟩
  exact m_workOne_20 (p := e - (t.length + 1)) he h hv (c :: t) 0 hB
theorem m_workOne_v {M : qM} {e : Nat} (he : e ≤ 200) {vs : List Int32} {ss : List Int} (h : mS M vs ss) (hv : vs.length ≤ 240) {c : Int} {t : List Int} (hB : cB (M 30) e (c :: t)) (hd : isD c = false) (hc : isV c = true) : V l Γ T_TapedLinesModel_workOne (d + 1) r 0 [.ref 27, .int (iI ((e - (t.length + 1) : Nat) : Int)), .int (iI e), .null, .null, .null] [] (M, L) (q_i L (fun x M' => x = iI 1 ∧ mS M' (sh (M 31 (c - 97).toNat) :: vs) ss ∧ fm [38] [29] M M')) := by
  obtain ⟨k1, k2, k3, k4⟩ := hB.hd
  have hcv : 97 ≤ c ∧ c ≤ 104 := by simpa [isV] using hc
  refine s_TapedLinesModel_workOne_0 _ _ ?_
  rw [iI_nat (by omega) (by omega), Int.toNat_natCast, k1]
  refine ⟨iI_in (by omega) (by omega) (by omega), _, cm_isDigit _, ?_⟩
  rintro x1 M1 ⟨rfl, rfl⟩
  rw [iI_toInt (by omega) (by omega), b2_0]
  refine ⟨fun _ => ⟨_, cm_isVariable _, ?_⟩, fun q => absurd hd q⟩
  rintro x2 M2 ⟨rfl, rfl⟩
  rw [iI_toInt (by omega) (by omega), b2_0, iI_sub, iI_nat (by omega) (by omega)]
  refine ⟨fun q => (by rw [hc] at q; cases q), fun _ => ⟨iI_in (by omega) (by omega) (by omega), _, m_push h (by omega) _, ?_⟩⟩
  rintro M3 ⟨m3, f3⟩
  exact ⟨rfl, m3, f3⟩
theorem m_workOne_s {M : qM} {e : Nat} (he : e ≤ 200) {vs : List Int32} {ss : List Int} (h : mS M vs ss) (hl : ss.length ≤ 240) {c : Int} {t : List Int} (hB : cB (M 30) e (c :: t)) (hd : isD c = false) (hc : isV c = false) : V l Γ T_TapedLinesModel_workOne (d + 1) r 0 [.ref 27, .int (iI ((e - (t.length + 1) : Nat) : Int)), .int (iI e), .null, .null, .null] [] (M, L) (q_i L (fun x M' => x = iI (if c = 64 then 2 else 1) ∧ mS M' vs ((if c = 45 then 109 else c) :: ss) ∧ fm [39] [31] M M')) := by
  obtain ⟨k1, k2, k3, k4⟩ := hB.hd
  obtain ⟨h1, h2, h3, h4⟩ := h
  have k116 : ∀ w : Int, (0 ≤ w ∧ w < 256) → w = (if c = 45 then 109 else c) → V l Γ T_TapedLinesModel_workOne (d + 1) r 116 [.ref 27, .null, .null, .int (iI c), .null, .null] [.int (iI w), .int (iI ss.length), .ref 39] (M, L) (q_i L (fun x M' => x = iI (if c = 64 then 2 else 1) ∧ mS M' vs ((if c = 45 then 109 else c) :: ss) ∧ fm [39] [31] M M')) := by
    intro w hwb hw
    rw [← hw]
    refine s_TapedLinesModel_workOne_116 _ _ _ ?_
    rw [h2, iI_nat (by omega) (by omega), Int.toNat_natCast, iI_add, iI_eq (by omega) (by omega) (by omega) (by omega)]
    have hm : mS (q_up (q_up M 39 ss.length (iI w)) 27 31 (iI ((ss.length : Int) + 1))) vs (w :: ss) := by
      refine ⟨?_, q_up_s, ?_, ?_, hwb, ?_⟩
      · rw [q_up_k (by decide), q_up_o (by decide)]; exact h1
      · rw [q_up_o (by decide), q_up_o (by decide)]; exact h3
      · rw [q_up_o (by decide), q_up_s]
      · refine stS_keep ss h4 (fun k hk => ?_)
        rw [q_up_o (by decide), q_up_k (by omega)]
    have hf : fm [39] [31] M (q_up (q_up M 39 ss.length (iI w)) 27 31 (iI ((ss.length : Int) + 1))) := (fm.rf.upo (by simp) (by decide)).upk (by simp)
    refine ⟨iI_in (by omega) (by omega) (by omega), fun q => ⟨by rw [if_neg q], hm, hf⟩, fun q => ⟨by rw [if_pos (Classical.not_not.mp q)], hm, hf⟩⟩
  refine s_TapedLinesModel_workOne_0 _ _ ?_
  rw [iI_nat (by omega) (by omega), Int.toNat_natCast, k1]
  refine ⟨iI_in (by omega) (by omega) (by omega), _, cm_isDigit _, ?_⟩
  rintro x1 M1 ⟨rfl, rfl⟩
  rw [iI_toInt (by omega) (by omega), b2_0]
  refine ⟨fun _ => ⟨_, cm_isVariable _, ?_⟩, fun q => absurd hd q⟩
  rintro x2 M2 ⟨rfl, rfl⟩
  rw [iI_toInt (by omega) (by omega), b2_0, h2, iI_eq (by omega) (by omega) (by omega) (by omega)]
  refine ⟨fun _ => ⟨fun q => k116 c ⟨k3, k4⟩ (by rw [if_neg q]), fun q => k116 109 (by decide) (by rw [if_pos (Classical.not_not.mp q)])⟩, fun q => absurd hc q⟩
/-- what a closing mark leaves -/
def clo (ce : Nat → Int32) (vs : List Int32) (ss : List Int) : Option (Except Int (List Int32 × List Int)) := match apD 1 ss vs with
  | none => none
  | some (.error e) => some (.error e)
  | some (.ok (_, [])) => none
  | some (.ok (vs', s :: ss')) => if s = 64 then (match vs' with
    | [] => none
    | i :: vt => if i < 0 ∨ ¬ i ≤ iI 15 then some (.error 6) else some (.ok (sh (ce i.toNatClampNeg) :: vt, ss'))) else some (.ok (vs', ss'))
theorem m_close {M : qM} {vs : List Int32} {ss : List Int} {ra : Except Int (List Int32 × List Int)} (h : mS M vs ss) (hv : vs.length ≤ 240) (hl : ss.length ≤ 240) (h26 : M 27 26 = iI 0) (ha : clo (M 32) vs ss = some ra) (hb : ∀ vs' ss', apD 1 ss vs = some (.ok (vs', ss')) → vs'.length ≤ 240 ∧ ss'.length ≤ 240) : V l Γ T_TapedLinesModel_close (d + 1 + 1 + 1) r 0 [.ref 27, .null] [] (M, L) (q_n L (mAd M ra)) := by
  unfold clo at ha
  rcases ea : apD 1 ss vs with _ | r1
  · rw [ea] at ha; cases ha
  rw [ea] at ha
  refine s_TapedLinesModel_close_0 ⟨_, m_applyDown (by decide) ss vs M r1 h hv hl h26 ea, ?_⟩
  rintro M1 ⟨f1, h1⟩
  rcases r1 with er | ⟨vs', ss'⟩
  · simp only at ha
    cases ha
    exact ⟨fun q => absurd q h1.pos, fun _ => ⟨f1, h1⟩⟩
  obtain ⟨b1, b2'⟩ := hb vs' ss' ea
  rcases ss' with _ | ⟨s, ss'⟩
  · cases ha
  simp only at ha
  obtain ⟨⟨g1, g2, g3, g4, g5, g6⟩, g26⟩ := h1
  simp only [List.length_cons] at b2' g2
  have e31 : iI ((ss'.length + 1 : Nat) : Int) - iI 1 = iI ss'.length := by rw [iI_sub]; exact congrArg iI (by omega)
  rw [g26, g2, e31, iI_nat (z := (ss'.length : Int)) (by omega) (by omega), Int.toNat_natCast, g4, iI_eq (by omega) (by omega) (by omega) (by omega)]
  refine ⟨fun _ => ⟨iI_in (by omega) (by omega) (by omega), fun q => ?_, fun q => ?_⟩, fun q => absurd (by decide) q⟩
  · rw [if_neg q] at ha
    cases ha
    refine ⟨f1.upk (by simp), ⟨?_, q_up_s, ?_, ?_⟩, ?_⟩
    · rw [q_up_k (by decide)]; exact g1
    · rw [q_up_o (by decide)]; exact g3
    · rw [q_up_o (by decide)]; exact g6
    · rw [q_up_k (by decide)]; exact g26
  · rw [if_pos (Classical.not_not.mp q)] at ha
    rcases vs' with _ | ⟨i, vt⟩
    · cases ha
    simp only at ha
    obtain ⟨g3a, g3b⟩ := g3
    simp only [List.length_cons] at b1 g1
    have e29 : iI ((vt.length + 1 : Nat) : Int) - iI 1 = iI vt.length := by rw [iI_sub]; exact congrArg iI (by omega)
    rw [g1, e29, iI_nat (z := (vt.length : Int)) (by omega) (by omega), Int.toNat_natCast, g3a]
    have hm : ∀ w : Int32, mS (q_up (q_up (q_up M1 27 31 (iI ss'.length)) 27 29 (iI vt.length)) 27 26 w) vt ss' := by
      intro w
      refine ⟨?_, ?_, ?_, ?_⟩
      · rw [q_up_k (by decide), q_up_s]
      · rw [q_up_k (by decide), q_up_k (by decide), q_up_s]
      · rw [q_up_o (by decide), q_up_o (by decide), q_up_o (by decide)]; exact g3b
      · rw [q_up_o (by decide), q_up_o (by decide), q_up_o (by decide)]; exact g6
    have hf : ∀ w : Int32, fm [38] [26, 29, 31] M (q_up (q_up (q_up M1 27 31 (iI ss'.length)) 27 29 (iI vt.length)) 27 26 w) := fun w => ((f1.upk (by simp)).upk (by simp)).upk (by simp)
    have bad : (i < 0 ∨ ¬ i ≤ iI 15) → V l Γ T_TapedLinesModel_close (d + 1 + 1 + 1) r 74 [.ref 27, .int i] [.int (iI 6), .ref 27] (q_up (q_up M1 27 31 (iI ss'.length)) 27 29 (iI vt.length), L) (q_n L (mAd M ra)) := by
      intro hi
      rw [if_pos hi] at ha
      cases ha
      refine s_TapedLinesModel_close_74 _ _ ⟨fun _ => ⟨_, m_push (hm _) (by omega) _, ?_⟩, fun q => absurd (by decide) q⟩
      rintro M2 ⟨m2, f2⟩
      refine ⟨(hf _).tr (f2.wk (by simp) (by simp)), ?_, Or.inr rfl, ss'.length, by omega, m2.2.1⟩
      rw [f2.2 26 (by decide), q_up_s]
    refine ⟨iI_in (by omega) (by omega) (by omega), fun q2 => bad (Or.inl q2), fun q2 => ⟨fun q3 => ?_, fun q3 => bad (Or.inr q3)⟩⟩
    rw [if_neg (by rintro (z | z); exact q2 z; exact z q3)] at ha
    cases ha
    have i1 : ¬ i.toInt < 0 := fun z => q2 (Int32.lt_iff_toInt_lt.mpr z)
    have i2 : i.toInt ≤ 15 := by
      have := Int32.le_iff_toInt_le.mp q3
      rw [iI_toInt (by decide) (by decide)] at this
      exact this
    have i3 : vp_in i 16 := by
      have e1 : i = iI i.toInt := by
        apply Int32.toInt_inj.mp
        rw [iI_toInt (by omega) (by omega)]
      rw [e1]
      exact iI_in (by omega) (by omega) (by omega)
    refine s_TapedLinesModel_close_74 _ _ ⟨fun q4 => absurd rfl q4, fun _ => ⟨i3, _, m_push (hm _) (by omega) _, ?_⟩⟩
    rintro M2 ⟨m2, f2⟩
    rw [q_up_o (by decide), q_up_o (by decide), f1.1 32 (by decide) (by decide)] at m2
    refine ⟨(hf _).tr (f2.wk (by simp) (by simp)), m2, ?_⟩
    rw [f2.2 26 (by decide), q_up_s]
end MWork
