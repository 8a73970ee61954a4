-- cells and writing: the reference
section MDoing3
variable {l : Launch} {Γ : qG} {d r : Nat} {L : Nat → Int64} {pr : List (Int × List Int)} {s : rS}
theorem m_cell_29 {M M0 : qM} {i : Nat} (f : fm mFo mFk M0 M) (g14 : M 27 14 = M0 27 14) (hR : mR M pr s) (x : Int32) (res : Except Int Int32) (h : match res with
    | .error er => M 27 26 = iI er ∧ (er = 5 ∨ er = 6)
    | .ok y => M 27 26 = iI 0 ∧ M 27 27 = y) : V l Γ T_TapedLinesModel_doCell (d + 1) r 29 [.ref 27, .null, .null, .int x] [] (M, L) (q_n L (wQ M0 pr s (match res with
    | .error er => .error er
    | .ok y => doC i x y s))) := by
  obtain ⟨va, ce, lo, re, ou⟩ := s
  have hRR := hR
  obtain ⟨a1, a2, a3, a4, a5⟩ := hR
  refine s_TapedLinesModel_doCell_29 _ ?_
  rcases res with er | y
  · have hne : ¬ M 27 26 = 0 := er_ne h
    refine ⟨fun _ => s_TapedLinesModel_doCell_56 _ _ ⟨fun _ => ?_, fun q => absurd hne q⟩, fun q => absurd hne q⟩
    exact ⟨f.upk (by decide), by rw [q_up_k (by decide)]; exact g14, by rw [q_up_s]; exact h.1, hRR.keep (fun o ho => q_up_o (by simp at ho; omega)) (fun k hk => q_up_k (by simp at hk; omega))⟩
  · obtain ⟨h26, h27⟩ := h
    simp only
    unfold doC
    simp only
    have hx15 : x ≤ iI 15 ↔ x < iI 16 := by
      rw [Int32.le_iff_toInt_le, Int32.lt_iff_toInt_lt, iI_toInt (by decide) (by decide), iI_toInt (by decide) (by decide)]
      omega
    have bad : (x < 0 ∨ ¬ x < iI 16) → V l Γ T_TapedLinesModel_doCell (d + 1) r 56 [.ref 27, .null, .null, .int x] [.int (iI 6), .ref 27] (M, L) (q_n L (wQ M0 pr (va, ce, lo, re, ou) (if x < 0 ∨ ¬ x < iI 16 then .error 6 else .ok (i + 1, va, va_up ce x.toNatClampNeg y, lo, re, ou)))) := by
      intro hb
      rw [if_pos hb]
      refine s_TapedLinesModel_doCell_56 _ _ ⟨fun _ => ?_, fun q => absurd (by decide) q⟩
      exact ⟨f.upk (by decide), by rw [q_up_k (by decide)]; exact g14, q_up_s, hRR.keep (fun o ho => q_up_o (by simp at ho; omega)) (fun k hk => q_up_k (by simp at hk; omega))⟩
    refine ⟨fun q => absurd h26 q, fun _ => ⟨fun q => bad (Or.inl q), fun q => ⟨fun q2 => ?_, fun q2 => bad (Or.inr (fun z => q2 (hx15.mpr z)))⟩⟩⟩
    have hx : ¬ (x < 0 ∨ ¬ x < iI 16) := by rintro (z | z); exact q z; exact z (hx15.mp q2)
    have hk := i16 hx
    have i1 : ¬ x.toInt < 0 := fun z => q (Int32.lt_iff_toInt_lt.mpr z)
    have i2 : x.toInt < 16 := by
      have := Int32.lt_iff_toInt_lt.mp (hx15.mp q2)
      rw [iI_toInt (by decide) (by decide)] at this
      exact this
    have i3 : vp_in x 16 := by
      have e1 : x = iI x.toInt := by
        apply Int32.toInt_inj.mp
        rw [iI_toInt (by omega) (by omega)]
      rw [e1]
      exact iI_in (by omega) (by omega) (by omega)
    rw [if_neg hx, h26]
    refine s_TapedLinesModel_doCell_56 _ _ ⟨fun q3 => absurd rfl q3, fun _ => ⟨i3, ?_⟩⟩
    rw [h27]
    refine ⟨(f.upk (by decide)).upo (by decide) (by decide), ?_, ?_, ?_, ?_, ⟨?_, ?_⟩, ⟨?_, ?_⟩, ?_⟩
    · rw [q_up_o (by decide), q_up_k (by decide)]; exact g14
    · rw [q_up_o (by decide), q_up_s]
    · rw [q_up_o (by decide), q_up_o (by decide)]; exact a1
    · rw [q_up_row, q_up_o (by decide), N16_up hk, a2]
    · rw [q_up_o (by decide), q_up_k (by decide)]; exact a3.1
    · rw [q_up_o (by decide), q_up_o (by decide), q_up_o (by decide), q_up_o (by decide), q_up_o (by decide), q_up_o (by decide)]; exact a3.2
    · rw [q_up_o (by decide), q_up_k (by decide)]; exact a4.1
    · rw [q_up_o (by decide), q_up_o (by decide)]; exact a4.2
    · exact a5.keep (by rw [q_up_o (by decide), q_up_k (by decide)]) (by rw [q_up_o (by decide), q_up_o (by decide)])
theorem m_cell {M : qM} {e i : Nat} (he : e ≤ 200) {u : List Int} (hB : cB (M 30) e u) (ht : tbs (11, 3, 1, 0, 0, 0, 0) u = true) (h26 : M 27 26 = iI 0) (hR : mR M pr s) (hg : gds pr s) : V l Γ T_TapedLinesModel_doCell (d + 4 + 1) r 0 [.ref 27, .int (iI ((e - u.length : Nat) : Int)), .int (iI e), .null] [] (M, L) (q_n L (wQ M pr s (exE (sE s u) (fun x r => exE (sE s r.tail.tail) (fun v _ => doC i x v s))))) := by
  have hl := hB.1
  refine s_TapedLinesModel_doCell_0 _ _ ⟨_, m_E he hB h26 hR hg ht, ?_⟩
  rintro M1 hw
  have hR1 := hw.R hR
  obtain ⟨f1, hq⟩ := hw
  have f1' : fm mFo mFk M M1 := f1.wk (by decide) (by decide)
  have g14 : M1 27 14 = M 27 14 := f1.2 14 (by decide)
  rcases E_end (e := e) (by omega) hg ht with ⟨er, ee, he'⟩ | ⟨v, rr, ee, hv, h14, htr, hll⟩
  · rw [ee] at hq ⊢
    have hne : ¬ M1 27 26 = 0 := er_ne ⟨hq.1, hq.2.1⟩
    exact ⟨fun _ => m_cell_29 (d := d + 4) (i := i) f1' g14 hR1 _ (.error er) ⟨hq.1, hq.2.1⟩, fun q => absurd hne q⟩
  · obtain ⟨r', rfl, h11⟩ := end_3 h14 htr
    rw [ee] at hq ⊢
    obtain ⟨q26, q27, q28, qB⟩ := hq
    have hle := qB.1
    simp only [List.length_cons] at hle hll
    rw [exE, List.tail_cons, List.tail_cons, q28, iI_add, show (((e - (41 :: 61 :: r').length : Nat) : Int) + 2) = ((e - r'.length : Nat) : Int) by simp only [List.length_cons]; omega]
    have hB1 : cB (M1 30) e r' := by rw [f1.1 30 (by decide) (by decide)]; exact qB.tl.tl
    refine ⟨fun q => absurd q26 q, fun _ => ⟨_, m_E he hB1 q26 hR1 hg h11, ?_⟩⟩
    rintro M2 hw2
    have hR2 := hw2.R hR1
    obtain ⟨f2, hq2⟩ := hw2
    have f2' : fm mFo mFk M M2 := f1'.tr (f2.wk (by decide) (by decide))
    have g142 : M2 27 14 = M 27 14 := by rw [f2.2 14 (by decide)]; exact g14
    rw [q27]
    rcases E_end (e := e) (by omega) hg h11 with ⟨er, ee2, he'⟩ | ⟨v2, r2, ee2, hv2, h142, htr2, hll2⟩
    · rw [ee2] at hq2 ⊢
      exact m_cell_29 (d := d + 4) (i := i) f2' g142 hR2 v (.error er) ⟨hq2.1, hq2.2.1⟩
    · rw [ee2] at hq2 ⊢
      exact m_cell_29 (d := d + 4) (i := i) f2' g142 hR2 v (.ok v2) ⟨hq2.1, hq2.2.1⟩
theorem m_show {M : qM} {ou : List Int} (h : rowIs M 27 24 37 ou) (hl : ou.length < 100) (c : Int) : V l Γ T_TapedLinesModel_show d r 0 [.ref 27, .int (iI c)] [] (M, L) (q_n L (fun M' => rowIs M' 27 24 37 (ou ++ [c]) ∧ fm [37] [24] M M')) := by
  refine s_TapedLinesModel_show_0 _ ?_
  rw [h.1, iI_nat (by omega) (by omega), Int.toNat_natCast, iI_add]
  exact ⟨iI_in (by omega) (by omega) (by omega), h.push (by decide), (fm.rf.upo (by simp) (by decide)).upk (by simp)⟩
theorem m_print_40 {e : Nat} (he : e ≤ 200) : ∀ (t : List Int) (M : qM) (ou : List Int), t ≠ [] → cB (M 30) e t → rowIs M 27 24 37 ou → M 27 26 = iI 0 → ou.length + (t.length - 1) ≤ 100 → V l Γ T_TapedLinesModel_doPrint (d + 1) r 40 [.ref 27, .null, .int (iI e), .int (iI ((e - t.length : Nat) : Int)), .null, .null] [] (M, L) (q_n L (fun M' => rowIs M' 27 24 37 (ou ++ t.take (t.length - 1)) ∧ fm [37] [24] M M')) := by
  intro t
  induction t with
  | nil => intro M ou h; exact absurd rfl h
  | cons c t ih =>
    intro M ou _ hB hs h26 hl
    obtain ⟨k1, k2, k3, k4⟩ := hB.hd
    refine s_TapedLinesModel_doPrint_40 _ _ ?_
    simp only [List.length_cons] at hl ⊢
    rw [iI_sub, iI_le (by omega) (by omega) (by omega) (by omega), iI_nat (by omega) (by omega), Int.toNat_natCast, k1, iI_add]
    rcases t with _ | ⟨c2, t2⟩
    · refine ⟨fun _ => ⟨?_, fm.rf⟩, fun q => by simp at q; omega⟩
      simp
      exact hs
    · simp only [List.length_cons] at k2 hl ⊢
      refine ⟨fun q => by omega, fun _ => ⟨fun q => absurd h26 q, fun _ => ⟨iI_in (by omega) (by omega) (by omega), _, m_show hs (by omega) c, ?_⟩⟩⟩
      rintro M1 ⟨s1, f1⟩
      have := ih M1 (ou ++ [c]) (by simp) (by rw [f1.1 30 (by decide) (by decide)]; exact hB.tl) s1 (by rw [f1.2 26 (by decide)]; exact h26) (by simp; omega)
      simp only [List.length_cons] at this
      rw [show ((e - (t2.length + 1 + 1) : Nat) : Int) + 1 = ((e - (t2.length + 1) : Nat) : Int) by omega]
      refine this.wn (fun M' hM => ⟨?_, f1.tr hM.2⟩)
      have a := hM.1
      rw [List.append_assoc] at a
      exact a
theorem m_print_189 {n : Nat} (hn : n ≤ 32768) : ∀ (k : Nat) (M : qM) (ou : List Int), k ≤ 4 → rowIs M 27 24 37 ou → ou.length + (k + 2) ≤ 100 → V l Γ T_TapedLinesModel_doPrint (d + 1) r 189 [.ref 27, .null, .null, .int (iI n), .int (iI ((10 ^ k : Nat) : Int)), .null] [] (M, L) (q_n L (fun M' => rowIs M' 27 24 37 (ou ++ (dgl n k ++ [32])) ∧ fm [37] [24] M M')) := by
  intro k
  induction k with
  | zero =>
    intro M ou hk hs hl
    refine s_TapedLinesModel_doPrint_189 _ _ ⟨fun q => absurd q (by decide), fun _ => ⟨by decide, ?_⟩⟩
    rw [show (iI ((10 ^ 0 : Nat) : Int)) = iI ((1 : Nat) : Int) from rfl, iI_ndiv (by omega) (by omega), show iI (10 : Int) = iI ((10 : Nat) : Int) from rfl, iI_nrem (by omega) (by omega), iI_add, iI_ndiv (by omega) (by omega)]
    refine ⟨_, m_show hs (by omega) _, ?_⟩
    rintro M2 ⟨s2, f2⟩
    refine s_TapedLinesModel_doPrint_189 _ _ ⟨fun _ => ⟨_, m_show s2 (by rw [List.length_append, List.length_singleton]; omega) 32, ?_⟩, fun q => absurd (by decide) q⟩
    rintro M3 ⟨s3, f3⟩
    refine ⟨?_, f2.tr f3⟩
    rw [List.append_assoc] at s3
    exact s3
  | succ k ih =>
    intro M ou hk hs hl
    have h10 := p10 (k + 1) (by omega)
    have h10' := p10 k (by omega)
    refine s_TapedLinesModel_doPrint_189 _ _ ?_
    rw [iI_0, iI_le (by omega) (by omega) (by omega) (by omega), iI_eq (by omega) (by omega) (by omega) (by omega), iI_ndiv (by omega) (by omega), show iI (10 : Int) = iI ((10 : Nat) : Int) from rfl, iI_nrem (a := n / 10 ^ (k + 1)) (b := 10) (by have := Nat.div_le_self n (10 ^ (k + 1)); omega) (by omega), iI_add, iI_ndiv (by omega) (by omega)]
    refine ⟨fun q => by omega, fun _ => ⟨by omega, _, m_show hs (by omega) _, ?_⟩⟩
    rintro M2 ⟨s2, f2⟩
    rw [show 10 ^ (k + 1) / 10 = 10 ^ k by rw [Nat.pow_succ]; omega]
    refine (ih M2 _ (by omega) s2 (by rw [List.length_append, List.length_singleton]; omega)).wn (fun M' hM => ⟨?_, f2.tr hM.2⟩)
    have a := hM.1
    rw [List.append_assoc] at a
    exact a
theorem m_print_165 {M M0 : qM} {i : Nat} {va ce : Nat → Int32} {lo : List (Int × Int32 × Nat)} {re : List Nat} {ou : List Int} (f : fm mFo mFk M0 M) (g14 : M 27 14 = M0 27 14) (hR : mR M pr (va, ce, lo, re, ou)) {v : Int} (hv : -32768 ≤ v ∧ v ≤ 32767) (h27 : M 27 27 = iI v) {k : Nat} (hk : k ≤ 4) (hd : dec v.natAbs = dgl v.natAbs k) (hl : ou.length + (sgn v ++ [32]).length ≤ 100) : V l Γ T_TapedLinesModel_doPrint (d + 1) r 165 [.ref 27, .null, .null, .int (iI v.natAbs), .int (iI ((10 ^ k : Nat) : Int)), .null] [.int (iI 0), .ref 27] (M, L) (q_n L (wQ M0 pr (va, ce, lo, re, ou) (.ok (i + 1, va, ce, lo, re, ou ++ (sgn v ++ [32]))))) := by
  obtain ⟨a1, a2, a3, a4, a5⟩ := hR
  have hsl : (sgn v ++ [32]).length = (if v < 0 then 1 else 0) + (k + 1) + 1 := by
    unfold sgn
    rw [hd, List.length_append, List.length_append, dgl_len]
    split <;> simp
  rw [hsl] at hl
  have fin : ∀ M' : qM, fm [37] [24, 26] M M' → M' 27 26 = iI 0 → rowIs M' 27 24 37 (ou ++ (sgn v ++ [32])) → wQ M0 pr (va, ce, lo, re, ou) (.ok (i + 1, va, ce, lo, re, ou ++ (sgn v ++ [32]))) M' := by
    intro M' f' h26 hs
    refine ⟨f.tr (f'.wk (by decide) (by decide)), by rw [f'.2 14 (by decide)]; exact g14, h26, ?_, ?_, ?_, ?_, hs⟩
    · rw [f'.1 31 (by decide) (by decide)]; exact a1
    · rw [f'.1 32 (by decide) (by decide)]; exact a2
    · rw [f'.2 18 (by decide), f'.1 33 (by decide) (by decide), f'.1 34 (by decide) (by decide), f'.1 35 (by decide) (by decide)]; exact a3
    · rw [f'.2 22 (by decide), f'.1 36 (by decide) (by decide)]; exact a4
  refine s_TapedLinesModel_doPrint_165 _ _ _ ⟨fun _ => ?_, fun q => absurd (by decide) q⟩
  rw [h27, iI_0, iI_le (by omega) (by omega) (by omega) (by omega)]
  have s0 : rowIs (q_up M 27 26 (iI 0)) 27 24 37 ou := a5.keep (q_up_k (by decide)) (q_up_o (by decide))
  have f0 : fm [37] [24, 26] M (q_up M 27 26 (iI 0)) := fm.rf.upk (by simp)
  refine ⟨fun q => ?_, fun q => ?_⟩
  · rw [if_neg (by omega)] at hl
    refine (m_print_189 (by omega) k _ ou hk s0 (by omega)).wn (fun M' hM => fin M' (f0.tr (hM.2.wk (by simp) (by simp))) ?_ ?_)
    · rw [hM.2.2 26 (by decide), q_up_s]
    · have e : sgn v = dgl v.natAbs k := by
        unfold sgn
        rw [if_neg (by omega), hd]
        rfl
      rw [e]
      exact hM.1
  · rw [if_pos (by omega)] at hl
    refine ⟨_, m_show s0 (by omega) 45, ?_⟩
    rintro M1 ⟨s1, f1⟩
    refine (m_print_189 (by omega) k M1 _ hk s1 (by rw [List.length_append, List.length_singleton]; omega)).wn (fun M' hM => fin M' ((f0.tr (f1.wk (by simp) (by simp))).tr (hM.2.wk (by simp) (by simp))) ?_ ?_)
    · rw [hM.2.2 26 (by decide), f1.2 26 (by decide), q_up_s]
    · have e : sgn v = [45] ++ dgl v.natAbs k := by
        unfold sgn
        rw [if_pos (by omega), hd]
      have a := hM.1
      rw [List.append_assoc] at a
      rw [e, List.append_assoc]
      exact a
theorem m_print_114 {M M0 : qM} {i : Nat} {va ce : Nat → Int32} {lo : List (Int × Int32 × Nat)} {re : List Nat} {ou : List Int} (f : fm mFo mFk M0 M) (g14 : M 27 14 = M0 27 14) (hR : mR M pr (va, ce, lo, re, ou)) (hg : gds pr (va, ce, lo, re, ou)) {v : Int} (hv : -32768 ≤ v ∧ v ≤ 32767) (h26 : M 27 26 = iI 0) (h27 : M 27 27 = iI v) : ∀ (j k : Nat), k + j = 4 → upD v.natAbs 4 0 = upD v.natAbs j k → V l Γ T_TapedLinesModel_doPrint (d + 1) r 114 [.ref 27, .null, .null, .int (iI v.natAbs), .int (iI ((10 ^ k : Nat) : Int)), .int (iI ((k : Int) + (if v < 0 then 3 else 2)))] [] (M, L) (q_n L (wQ M0 pr (va, ce, lo, re, ou) (doW i (sgn v ++ [32]) (va, ce, lo, re, ou)))) := by
  have a5 := hR.2.2.2.2
  have hou := hg.2.2.2.2.1
  have stop : ∀ k : Nat, k ≤ 4 → upD v.natAbs 4 0 = k → v.natAbs / 10 ^ k ≤ 9 → V l Γ T_TapedLinesModel_doPrint (d + 1) r 114 [.ref 27, .null, .null, .int (iI v.natAbs), .int (iI ((10 ^ k : Nat) : Int)), .int (iI ((k : Int) + (if v < 0 then 3 else 2)))] [] (M, L) (q_n L (wQ M0 pr (va, ce, lo, re, ou) (doW i (sgn v ++ [32]) (va, ce, lo, re, ou)))) := by
    intro k hk hu hn
    have h10 := p10 k (by omega)
    have hd : dec v.natAbs = dgl v.natAbs k := by unfold dec; rw [hu]
    have hsl : (sgn v ++ [32]).length = (if v < 0 then 1 else 0) + (k + 1) + 1 := by
      unfold sgn
      rw [hd, List.length_append, List.length_append, dgl_len]
      split <;> simp
    refine s_TapedLinesModel_doPrint_114 _ _ _ ?_
    obtain ⟨w, hw⟩ : ∃ w, w = v.natAbs / 10 ^ k := ⟨_, rfl⟩
    rw [← hw] at hn
    rw [iI_0, iI_eq (by omega) (by omega) (by omega) (by omega), iI_ndiv (by omega) (by omega), ← hw, iI_le (by omega) (by omega) (by omega) (by omega), a5.1, iI_add]
    have hb : (k : Int) + (if v < 0 then 3 else 2) = (((if v < 0 then 1 else 0) + (k + 1) + 1 : Nat) : Int) := by split <;> omega
    rw [hb, ← hsl]
    have hsl2 : (sgn v ++ [32]).length ≤ 10 := by rw [hsl]; split <;> omega
    rw [iI_le (by omega) (by omega) (by omega) (by omega)]
    unfold doW
    simp only
    refine ⟨by omega, fun _ => ⟨fun q => absurd h26 q, fun _ => ⟨fun q => ?_, fun q => ?_⟩⟩, fun q => by omega⟩
    · rw [if_pos (by omega), h26]
      exact m_print_165 f g14 hR hv h27 hk hd (by omega)
    · rw [if_neg (by omega)]
      refine s_TapedLinesModel_doPrint_165 _ _ _ ⟨fun q2 => absurd q2 (by decide), fun _ => ?_⟩
      exact ⟨f.upk (by decide), by rw [q_up_k (by decide)]; exact g14, q_up_s, hR.keep (fun o ho => q_up_o (by simp at ho; omega)) (fun k hk => q_up_k (by simp at hk; omega))⟩
  intro j
  induction j with
  | zero =>
    intro k hk hu
    have e : k = 4 := by omega
    subst e
    exact stop 4 (by omega) hu (by have : v.natAbs ≤ 32768 := by omega
                                   omega)
  | succ j ih =>
    intro k hk hu
    have h10 := p10 k (by omega)
    have h10' := p10 (k + 1) (by omega)
    unfold upD at hu
    by_cases hlt : v.natAbs < 10 ^ k * 10
    · rw [if_pos hlt] at hu
      exact stop k (by omega) hu (by have := (Nat.div_lt_iff_lt_mul (by omega : 0 < 10 ^ k)).mpr (show v.natAbs < 10 * 10 ^ k by omega); omega)
    · rw [if_neg hlt] at hu
      have hge : ¬ v.natAbs / 10 ^ k ≤ 9 := by
        have := (Nat.le_div_iff_mul_le (by omega : 0 < 10 ^ k)).mpr (show 10 * 10 ^ k ≤ v.natAbs by omega)
        omega
      refine s_TapedLinesModel_doPrint_114 _ _ _ ?_
      have hds := Nat.div_le_self v.natAbs (10 ^ k)
      obtain ⟨w, hw⟩ : ∃ w, w = v.natAbs / 10 ^ k := ⟨_, rfl⟩
      rw [← hw] at hge hds
      rw [iI_0, iI_eq (by omega) (by omega) (by omega) (by omega), iI_ndiv (by omega) (by omega), ← hw, iI_le (by omega) (by omega) (by omega) (by omega), iI_mul, iI_add]
      refine ⟨by omega, fun q => by omega, fun _ => ?_⟩
      have := ih (k + 1) (by omega) hu
      rw [show ((k + 1 : Nat) : Int) + (if v < 0 then 3 else 2) = (k : Int) + (if v < 0 then 3 else 2) + 1 by omega] at this
      rw [show (10 : Int) * ((10 ^ k : Nat) : Int) = ((10 ^ (k + 1) : Nat) : Int) by rw [Nat.pow_succ]; omega]
      exact this
theorem m_print {M : qM} {e i : Nat} (he : e ≤ 200) {u : List Int} (hB : cB (M 30) e u) (hu : (∃ t, u = 34 :: t ∧ t ≠ [] ∧ ∀ c ∈ t, 32 ≤ c ∧ c ≤ 126) ∨ (u.headD 0 ≠ 34 ∧ tbs (11, 0, 1, 0, 0, 0, 0) u = true)) (h26 : M 27 26 = iI 0) (hR : mR M pr s) (hg : gds pr s) : V l Γ T_TapedLinesModel_doPrint (d + 4 + 1) r 0 [.ref 27, .int (iI ((e - u.length : Nat) : Int)), .int (iI e), .null, .null, .null] [] (M, L) (q_n L (wQ M pr s (if u.headD 0 = 34 then doW i (u.tail.take (u.tail.length - 1)) s else exE (sE s u) (fun v _ => doW i (sgn v.toInt ++ [32]) s)))) := by
  have hl := hB.1
  refine s_TapedLinesModel_doPrint_0 _ _ ?_
  have hne0 : u ≠ [] := by
    rcases hu with ⟨t, rfl, -⟩ | ⟨-, ht⟩
    · simp
    · obtain ⟨c, t, rfl, -⟩ := tbs_11 ht
      simp
  rcases u with _ | ⟨c, t⟩
  · exact absurd rfl hne0
  obtain ⟨k1, k2, k3, k4⟩ := hB.hd
  simp only [List.length_cons] at hl ⊢
  rw [iI_nat (by omega) (by omega), Int.toNat_natCast, k1, iI_eq (by omega) (by omega) (by omega) (by omega), List.headD_cons, List.tail_cons]
  refine ⟨iI_in (by omega) (by omega) (by omega), fun q => ?_, fun q => ?_⟩
  · rw [if_neg q]
    have ht : tbs (11, 0, 1, 0, 0, 0, 0) (c :: t) = true := by
      rcases hu with ⟨t', e1, -⟩ | ⟨-, ht⟩
      · cases e1; exact absurd rfl q
      · exact ht
    have hE := m_E (l := l) (Γ := Γ) (d := d) (r := 0) (L := L) he hB h26 hR hg ht
    simp only [List.length_cons] at hE
    refine ⟨_, hE, ?_⟩
    rintro M1 hw
    have hR1 := hw.R hR
    obtain ⟨f1, hq⟩ := hw
    have f1' : fm mFo mFk M M1 := f1.wk (by decide) (by decide)
    have g14 : M1 27 14 = M 27 14 := f1.2 14 (by decide)
    rcases E_end (e := e) (by simp only [List.length_cons]; omega) hg ht with ⟨er, ee, he'⟩ | ⟨v, rr, ee, hv, h14, htr, hll⟩
    · rw [ee] at hq ⊢
      obtain ⟨q26, qer, q27⟩ := hq
      have hne : ¬ M1 27 26 = 0 := er_ne ⟨q26, qer⟩
      rw [q27]
      refine ⟨fun _ => s_TapedLinesModel_doPrint_96 _ ⟨fun _ => s_TapedLinesModel_doPrint_114 _ _ _ ⟨by decide, fun _ => ⟨fun _ => ?_, fun q2 => absurd hne q2⟩, fun q2 => absurd (by decide) q2⟩, fun q2 => absurd (by rw [q27]; decide) q2⟩, fun q2 => absurd (by decide) q2⟩
      refine s_TapedLinesModel_doPrint_165 _ _ _ ⟨fun q2 => ?_, fun _ => ?_⟩
      · rw [q26, iI_0, iI_le (by omega) (by omega) (by omega) (by omega)] at q2
        omega
      · exact ⟨f1'.upk (by decide), by rw [q_up_k (by decide)]; exact g14, by rw [q_up_s]; exact q26, hR1.keep (fun o ho => q_up_o (by simp at ho; omega)) (fun k hk => q_up_k (by simp at hk; omega))⟩
    · rw [ee] at hq ⊢
      obtain ⟨q26, q27, q28, qB⟩ := hq
      obtain ⟨va, ce, lo, re, ou⟩ := s
      unfold isSh at hv
      have ex : v = iI v.toInt := by
        apply Int32.toInt_inj.mp
        rw [iI_toInt (by omega) (by omega)]
      have q27' : M1 27 27 = iI v.toInt := by rw [q27]; exact ex
      have h114 := m_print_114 (l := l) (Γ := Γ) (d := d + 4) (r := r) (L := L) (i := i) f1' g14 hR1 hg hv q26 q27' 4 0 rfl rfl
      rw [q27', exE]
      rw [iI_0, iI_le (by omega) (by omega) (by omega) (by omega)]
      refine ⟨fun q2 => s_TapedLinesModel_doPrint_96 _ ?_, fun q2 => s_TapedLinesModel_doPrint_96 _ ?_⟩
      · rw [q27', iI_0, iI_le (by omega) (by omega) (by omega) (by omega)]
        refine ⟨fun _ => ?_, fun q3 => by omega⟩
        rw [if_neg (by omega), show ((v.toInt.natAbs : Nat) : Int) = v.toInt by omega] at h114
        exact h114
      · rw [q27', iI_0, iI_le (by omega) (by omega) (by omega) (by omega)]
        refine ⟨fun q3 => by omega, fun _ => ?_⟩
        rw [if_pos (by omega), show ((v.toInt.natAbs : Nat) : Int) = -v.toInt by omega] at h114
        rw [show -iI v.toInt = iI (-v.toInt) from (iI_neg _)]
        exact h114
  · have q := Classical.not_not.mp q
    subst q
    rw [if_pos rfl]
    have htn : t ≠ [] := by
      rcases hu with ⟨t', e1, e2, -⟩ | ⟨hn, -⟩
      · cases e1; exact e2
      · exact absurd rfl hn
    have htl : 0 < t.length := List.length_pos_iff.mpr htn
    obtain ⟨va, ce, lo, re, ou⟩ := s
    have hRR := hR
    obtain ⟨a1, a2, a3, a4, a5⟩ := hR
    have hou := hg.2.2.2.2.1
    rw [a5.1, iI_add, iI_sub, iI_sub, iI_add, show ((e - (t.length + 1) : Nat) : Int) + 1 = ((e - t.length : Nat) : Int) by omega, iI_le (by omega) (by omega) (by omega) (by omega)]
    unfold doW
    simp only
    rw [List.length_take, show min (t.length - 1) t.length = t.length - 1 by omega]
    refine ⟨fun q => ?_, fun q => ?_⟩
    · rw [if_pos (by omega)]
      refine (m_print_40 (d := d + 4) he t (q_up M 27 26 (iI 0)) ou htn (by rw [q_up_o (by decide)]; exact hB.tl) (a5.keep (q_up_k (by decide)) (q_up_o (by decide))) q_up_s (by omega)).wn (fun M' hM => ?_)
      obtain ⟨hs, f'⟩ := hM
      refine ⟨(fm.rf.upk (by decide)).tr (f'.wk (by decide) (by decide)), by rw [f'.2 14 (by decide), q_up_k (by decide)], by rw [f'.2 26 (by decide), q_up_s], ?_, ?_, ?_, ?_, hs⟩
      · rw [f'.1 31 (by decide) (by decide), q_up_o (by decide)]; exact a1
      · rw [f'.1 32 (by decide) (by decide), q_up_o (by decide)]; exact a2
      · rw [f'.2 18 (by decide), f'.1 33 (by decide) (by decide), f'.1 34 (by decide) (by decide), f'.1 35 (by decide) (by decide), q_up_k (by decide), q_up_o (by decide), q_up_o (by decide), q_up_o (by decide)]; exact a3
      · rw [f'.2 22 (by decide), f'.1 36 (by decide) (by decide), q_up_k (by decide), q_up_o (by decide)]; exact a4
    · rw [if_neg (by omega)]
      have hx : wQ M pr (va, ce, lo, re, ou) (.error 7) (q_up M 27 26 (iI 7)) := ⟨fm.rf.upk (by decide), q_up_k (by decide), q_up_s, hRR.keep (fun o ho => q_up_o (by simp at ho; omega)) (fun k hk => q_up_k (by simp at hk; omega))⟩
      exact s_TapedLinesModel_doPrint_40 _ _ ⟨fun _ => hx, fun _ => ⟨fun _ => hx, fun q2 => absurd (by rw [q_up_s]; decide) q2⟩⟩
end MDoing3
