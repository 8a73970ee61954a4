-- loops, cells, writing: the reference
theorem loI_at {v : Int} : ∀ lo : List (Int × Int32 × Nat), loI v lo < lo.length → (lo.getD (loI v lo) dL).1 = v := by
  intro lo
  induction lo with
  | nil => intro h; unfold loI at h; simp at h
  | cons q t ih =>
    intro h
    unfold loI at h ⊢
    by_cases hq : q.1 = v
    · rw [if_pos hq]
      exact hq
    · rw [if_neg hq] at h ⊢
      exact ih (by simp at h; omega)
section MDoing2
variable {l : Launch} {Γ : qG} {d r : Nat} {L : Nat → Int64} {pr : List (Int × List Int)} {s : rS}
theorem m_loopOf_4 {M : qM} {lo : List (Int × Int32 × Nat)} (h6 : lo.length ≤ 6) (h18 : M 27 18 = iI lo.length) (h33 : ∀ k, k < lo.length → M 33 k = iI (lo.getD k dL).1) (hb : ∀ k, k < lo.length → 0 ≤ (lo.getD k dL).1 ∧ (lo.getD k dL).1 < 8) (hd : ∀ j k, j < lo.length → k < lo.length → (lo.getD j dL).1 = (lo.getD k dL).1 → j = k) {v : Int} (hv : 0 ≤ v ∧ v < 8) : ∀ (n k : Nat), k + n = lo.length → V l Γ T_TapedLinesModel_loopOf d r 4 [.ref 27, .int (iI v), .int (iI (if loI v lo < k then (loI v lo : Int) else -1)), .int (iI k)] [] (M, L) (q_i L (fun x M' => x = iI (loX v lo) ∧ M' = M)) := by
  intro n
  induction n with
  | zero =>
    intro k hk
    refine s_TapedLinesModel_loopOf_4 _ _ _ ?_
    rw [h18, iI_le (by omega) (by omega) (by omega) (by omega)]
    have e : k = lo.length := by omega
    subst e
    exact ⟨fun _ => ⟨rfl, rfl⟩, fun q => by omega⟩
  | succ n ih =>
    intro k hk
    have hkl : k < lo.length := by omega
    have hbk := hb k hkl
    refine s_TapedLinesModel_loopOf_4 _ _ _ ?_
    rw [h18, iI_le (a := (lo.length : Int)) (b := (k : Int)) (by omega) (by omega) (by omega) (by omega), iI_nat (z := (k : Int)) (by omega) (by omega), Int.toNat_natCast, h33 k hkl, iI_eq (a := (lo.getD k dL).1) (b := v) (by omega) (by omega) (by omega) (by omega), iI_add]
    refine ⟨fun q => by omega, fun _ => ⟨iI_in (by omega) (by omega) (by omega), fun q => ?_, fun q => ?_⟩⟩
    · have := ih (k + 1) (by omega)
      have e : (if loI v lo < k + 1 then ((loI v lo : Nat) : Int) else -1) = (if loI v lo < k then ((loI v lo : Nat) : Int) else -1) := by
        by_cases h1 : loI v lo < k
        · rw [if_pos h1, if_pos (by omega)]
        · rw [if_neg h1, if_neg]
          intro h2
          have e : loI v lo = k := by omega
          have := loI_at (v := v) lo (by omega)
          rw [e] at this
          exact q this
      rw [e] at this
      exact this
    · have q := Classical.not_not.mp q
      have h1 : loI v lo ≤ k := by
        by_cases h2 : k < loI v lo
        · exact absurd q (loI_ne lo k h2)
        · omega
      have h2 := loI_at (v := v) lo (by omega)
      have h3 := hd (loI v lo) k (by omega) hkl (by rw [h2, q])
      have := ih (k + 1) (by omega)
      rw [if_pos (by omega), h3] at this
      exact this
theorem m_loopOf {M : qM} {va ce : Nat → Int32} {lo : List (Int × Int32 × Nat)} {re : List Nat} {ou : List Int} (hR : mR M pr (va, ce, lo, re, ou)) (hg : gds pr (va, ce, lo, re, ou)) {v : Int} (hv : 0 ≤ v ∧ v < 8) : V l Γ T_TapedLinesModel_loopOf d r 0 [.ref 27, .int (iI v), .null, .null] [] (M, L) (q_i L (fun x M' => x = iI (loX v lo) ∧ M' = M)) := by
  obtain ⟨a1, a2, ⟨a3, a3'⟩, a4, a5⟩ := hR
  obtain ⟨-, -, ⟨h6, hl, hd⟩, -⟩ := hg
  have := m_loopOf_4 (l := l) (Γ := Γ) (d := d) (r := r) (L := L) h6 a3 (fun k hk => (a3' k hk).1) (fun k hk => ⟨(hl k hk).1, (hl k hk).2.1⟩) hd hv lo.length 0 (by omega)
  rw [if_neg (by omega)] at this
  exact s_TapedLinesModel_loopOf_0 _ this
theorem mW.R {M M' : qM} {e : Nat} {res : Except Int (Int32 × List Int)} (h : mW M e res M') (hR : mR M pr s) : mR M' pr s := hR.fmk h.1 (by decide) (by decide)
theorem m_if {M : qM} {e i : Nat} (he : e ≤ 200) (hei : e = off pr (i + 1)) {u : List Int} (hB : cB (M 30) e u) (ht : tbs (11, 1, 1, 0, 0, 0, 0) u = true) (h26 : M 27 26 = iI 0) (hP : mPr M pr) (hr : rising pr) (hb : ∀ q ∈ pr, 0 ≤ q.1 ∧ q.1 < 256) (hR : mR M pr s) (hg : gds pr s) : V l Γ T_TapedLinesModel_doIf (d + 4 + 1) r 0 [.ref 27, .int (iI ((e - u.length : Nat) : Int)), .int (iI e)] [] (M, L) (q_n L (jQ M pr s (exE (sE s u) (fun v r => if v = 0 then .ok (i + 1, s) else doJ pr (numV 0 r.tail).1 s)))) := by
  have hl := hB.1
  refine s_TapedLinesModel_doIf_0 _ _ ⟨_, m_E he hB h26 hR hg ht, ?_⟩
  rintro M1 hw
  have hR1 := hw.R hR
  obtain ⟨f1, hq⟩ := hw
  have f1' : fm mFo mFk M M1 := f1.wk (by decide) (by decide)
  have g14 : M1 27 14 = M 27 14 := f1.2 14 (by decide)
  rcases E_end (e := e) (by omega) hg ht with ⟨er, ee, he'⟩ | ⟨v, rr, ee, hv, h14, htr, hll⟩
  · rw [ee] at hq ⊢
    have hne : ¬ M1 27 26 = 0 := er_ne ⟨hq.1, hq.2.1⟩
    exact ⟨fun _ => ⟨f1'.upk (by decide), by rw [q_up_k (by decide)]; exact g14, by rw [q_up_k (by decide)]; exact hq.1, hR1.keep (fun o ho => q_up_o (by simp at ho; omega)) (fun k hk => q_up_k (by simp at hk; omega))⟩, fun q => absurd hne q⟩
  · obtain ⟨r', rfl, h7⟩ := end_1 h14 htr
    rw [ee] at hq ⊢
    obtain ⟨q26, q27, q28, qB⟩ := hq
    rw [exE]
    refine ⟨fun q => absurd q26 q, fun _ => ⟨fun q => ?_, fun q => ?_⟩⟩
    · rw [q27] at q
      rw [if_pos q]
      exact ⟨f1'.upk (by decide), by rw [q_up_k (by decide)]; exact g14, by rw [q_up_k (by decide)]; exact q26, hR1.keep (fun o ho => q_up_o (by simp at ho; omega)) (fun k hk => q_up_k (by simp at hk; omega)), by rw [q_up_s, hei]⟩
    · rw [q27] at q
      rw [if_neg q, List.tail_cons, q28, iI_add]
      have hB1 : cB (M1 30) e r' := by rw [f1.1 30 (by decide) (by decide)]; exact qB.tl
      have hP1 : mPr M1 pr := hP.keep (f1.2 12 (by decide)) (f1.1 30 (by decide) (by decide))
      have hle := qB.1
      simp only [List.length_cons] at hle
      have := m_jump (l := l) (Γ := Γ) (d := d + 3) (r := 0) (L := L) he hB1 (tbs_7 h7) hP1 hr hb hR1
      rw [show (((e - (128 :: r').length : Nat) : Int) + 1) = ((e - r'.length : Nat) : Int) by simp only [List.length_cons]; omega]
      exact ⟨_, this, fun M' hM => hM.1.of f1' g14⟩
theorem m_for_42 {M M0 : qM} {e i : Nat} (hei : e = off pr (i + 1)) {v : Int} (hv : 0 ≤ v ∧ v < 8) (f : fm mFo mFk M0 M) (g14 : M 27 14 = M0 27 14) (hR : mR M pr s) (hg : gds pr s) (x : Int32) (res : Except Int Int32) (h : match res with
    | .error er => M 27 26 = iI er ∧ (er = 5 ∨ er = 6)
    | .ok y => M 27 26 = iI 0 ∧ M 27 27 = y) : V l Γ T_TapedLinesModel_doFor (d + 1) r 42 [.ref 27, .null, .int (iI e), .int (iI v), .int x, .null, .null] [] (M, L) (q_n L (jQ M0 pr s (match res with
    | .error er => .error er
    | .ok y => doF i v x y s))) := by
  obtain ⟨va, ce, lo, re, ou⟩ := s
  have hRR := hR
  obtain ⟨a1, a2, a3, a4, a5⟩ := hR
  have h6 := hg.2.2.1.1
  have hxb := loX_b v lo h6
  have hle := loI_le v lo
  have k63 : V l Γ T_TapedLinesModel_doFor (d + 1) r 63 [.ref 27, .null, .int (iI e), .int (iI v), .int x, .null, .null] [.int (iI (loI v lo))] (M, L) (q_n L (jQ M0 pr (va, ce, lo, re, ou) (match res with
      | .error er => .error er
      | .ok y => doF i v x y (va, ce, lo, re, ou)))) := by
    refine s_TapedLinesModel_doFor_63 _ _ _ _ ?_
    rcases res with er | y
    · have hne : ¬ M 27 26 = 0 := er_ne h
      refine ⟨fun _ => s_TapedLinesModel_doFor_88 _ _ _ _ _ ⟨fun _ => ?_, fun q => absurd hne q⟩, fun q => absurd hne q⟩
      exact ⟨f.upk (by decide), by rw [q_up_k (by decide)]; exact g14, by rw [q_up_s]; exact h.1, hRR.keep (fun o ho => q_up_o (by simp at ho; omega)) (fun k hk => q_up_k (by simp at hk; omega))⟩
    · obtain ⟨h26, h27⟩ := h
      simp only
      unfold doF
      simp only
      rw [iI_eq (by omega) (by omega) (by omega) (by omega)]
      refine ⟨fun q => absurd h26 q, fun _ => ⟨fun q => ?_, fun q => ?_⟩⟩
      · rw [if_pos (by omega), h26]
        refine s_TapedLinesModel_doFor_88 _ _ _ _ _ ⟨fun q2 => absurd rfl q2, fun _ => ?_⟩
        rw [iI_nat (z := v) (by omega) (by omega), iI_nat (z := ((loI v lo : Nat) : Int)) (by omega) (by omega), Int.toNat_natCast, h27, hei, iI_add]
        refine ⟨iI_in (by omega) (by omega) (by omega), iI_in (by omega) (by omega) (by omega), iI_in (by omega) (by omega) (by omega), iI_in (by omega) (by omega) (by omega), ((((((f.upk (by decide)).upo (by decide) (by decide)).upo (by decide) (by decide)).upo (by decide) (by decide)).upk (by decide)).upo (by decide) (by decide)).upk (by decide), ?_, ?_, ⟨?_, ?_, ⟨?_, ?_⟩, ⟨?_, ?_⟩, ?_⟩, q_up_s⟩
        · rw [q_up_k (by decide), q_up_o (by decide), q_up_k (by decide), q_up_o (by decide), q_up_o (by decide), q_up_o (by decide), q_up_k (by decide)]; exact g14
        · rw [q_up_k (by decide), q_up_o (by decide), q_up_k (by decide), q_up_o (by decide), q_up_o (by decide), q_up_o (by decide), q_up_s]
        · rw [q_up_o (by decide), q_up_row, q_up_o (by decide), q_up_o (by decide), q_up_o (by decide), q_up_o (by decide), q_up_o (by decide), N8_up (by omega), a1]
        · rw [q_up_o (by decide), q_up_o (by decide), q_up_o (by decide), q_up_o (by decide), q_up_o (by decide), q_up_o (by decide), q_up_o (by decide)]; exact a2
        · rw [q_up_k (by decide), q_up_o (by decide), q_up_s, List.length_append, List.length_take, List.length_singleton]; exact congrArg iI (by omega)
        · intro k hk
          rw [List.length_append, List.length_take, List.length_singleton] at hk
          rw [q_up_o (o := 27) (o' := 33) (by decide), q_up_o (o := 31) (o' := 33) (by decide), q_up_o (o := 27) (o' := 33) (by decide), q_up_o (o := 35) (o' := 33) (by decide), q_up_o (o := 34) (o' := 33) (by decide), q_up_o (o := 27) (o' := 34) (by decide), q_up_o (o := 31) (o' := 34) (by decide), q_up_o (o := 27) (o' := 34) (by decide), q_up_o (o := 35) (o' := 34) (by decide), q_up_o (o := 27) (o' := 35) (by decide), q_up_o (o := 31) (o' := 35) (by decide), q_up_o (o := 27) (o' := 35) (by decide)]
          by_cases hk2 : k = loI v lo
          · subst hk2
            rw [q_up_s, q_up_s, q_up_s]
            have e2 : (lo.take (loI v lo) ++ [(v, y, i + 1)]).getD (loI v lo) dL = (v, y, i + 1) := by
              simp only [List.getD_eq_getElem?_getD]
              rw [List.getElem?_append_right (by rw [List.length_take]; omega), List.length_take, show loI v lo - min (loI v lo) lo.length = 0 by omega]
              rfl
            rw [e2]
            exact ⟨rfl, rfl, rfl⟩
          · have e2 : (lo.take (loI v lo) ++ [(v, y, i + 1)]).getD k dL = lo.getD k dL := by
              simp only [List.getD_eq_getElem?_getD]
              rw [List.getElem?_append_left (by rw [List.length_take]; omega), List.getElem?_take_of_lt (by omega)]
            rw [e2, q_up_k hk2, q_up_k hk2, q_up_k hk2, q_up_o (o := 27) (o' := 33) (by decide), q_up_o (o := 33) (o' := 34) (by decide), q_up_o (o := 27) (o' := 34) (by decide), q_up_o (o := 34) (o' := 35) (by decide), q_up_o (o := 33) (o' := 35) (by decide), q_up_o (o := 27) (o' := 35) (by decide)]
            exact a3.2 k (by omega)
        · rw [q_up_k (by decide), q_up_o (by decide), q_up_k (by decide), q_up_o (by decide), q_up_o (by decide), q_up_o (by decide), q_up_k (by decide)]; exact a4.1
        · rw [q_up_o (by decide), q_up_o (by decide), q_up_o (by decide), q_up_o (by decide), q_up_o (by decide), q_up_o (by decide), q_up_o (by decide)]; exact a4.2
        · exact a5.keep (by rw [q_up_k (by decide), q_up_o (by decide), q_up_k (by decide), q_up_o (by decide), q_up_o (by decide), q_up_o (by decide), q_up_k (by decide)]) (by rw [q_up_o (by decide), q_up_o (by decide), q_up_o (by decide), q_up_o (by decide), q_up_o (by decide), q_up_o (by decide), q_up_o (by decide)])
      · rw [if_neg (by omega)]
        refine s_TapedLinesModel_doFor_88 _ _ _ _ _ ⟨fun _ => ?_, fun q2 => absurd (by decide) q2⟩
        exact ⟨f.upk (by decide), by rw [q_up_k (by decide)]; exact g14, q_up_s, hRR.keep (fun o ho => q_up_o (by simp at ho; omega)) (fun k hk => q_up_k (by simp at hk; omega))⟩
  refine s_TapedLinesModel_doFor_42 _ _ _ ⟨_, m_loopOf hRR hg hv, ?_⟩
  rintro x1 M1 ⟨rfl, rfl⟩
  rw [iI_0, iI_lt (by omega) (by omega) (by omega) (by omega), a3.1]
  unfold loX
  by_cases hf : loI v lo < lo.length
  · rw [if_pos hf]
    exact ⟨fun q => by omega, fun _ => k63⟩
  · rw [if_neg hf]
    rw [show loI v lo = lo.length by omega] at k63
    exact ⟨fun _ => k63, fun q => by omega⟩
theorem m_for {M : qM} {e i : Nat} (he : e ≤ 200) (hei : e = off pr (i + 1)) {c : Int} {u : List Int} (hB : cB (M 30) e (c :: 61 :: u)) (hc : isV c = true) (ht : tbs (11, 2, 1, 0, 0, 0, 0) u = true) (h26 : M 27 26 = iI 0) (hR : mR M pr s) (hg : gds pr s) : V l Γ T_TapedLinesModel_doFor (d + 4 + 1) r 0 [.ref 27, .int (iI ((e - (u.length + 2) : Nat) : Int)), .int (iI e), .null, .null, .null, .null] [] (M, L) (q_n L (jQ M pr s (exE (sE s u) (fun x r => exE (sE s r.tail) (fun y _ => doF i (c - 97) x y s))))) := by
  have hcv : 97 ≤ c ∧ c ≤ 104 := by simpa [isV] using hc
  obtain ⟨k1, k2, k3, k4⟩ := hB.hd
  simp only [List.length_cons] at k1 k2
  refine s_TapedLinesModel_doFor_0 _ _ ?_
  rw [iI_nat (by omega) (by omega), Int.toNat_natCast, k1, iI_sub, iI_add, show ((e - (u.length + 2) : Nat) : Int) + 2 = ((e - u.length : Nat) : Int) by omega]
  refine ⟨iI_in (by omega) (by omega) (by omega), _, m_E he hB.tl.tl h26 hR hg ht, ?_⟩
  rintro M1 hw
  have hR1 := hw.R hR
  obtain ⟨f1, hq⟩ := hw
  have f1' : fm mFo mFk M M1 := f1.wk (by decide) (by decide)
  have g14 : M1 27 14 = M 27 14 := f1.2 14 (by decide)
  rcases E_end (e := e) (by omega) hg ht with ⟨er, ee, he'⟩ | ⟨v, rr, ee, hv, h14, htr, hll⟩
  · rw [ee] at hq ⊢
    have hne : ¬ M1 27 26 = 0 := er_ne ⟨hq.1, hq.2.1⟩
    exact ⟨fun _ => m_for_42 (d := d + 4) (v := c - 97) (i := i) hei (by omega) f1' g14 hR1 hg _ (.error er) ⟨hq.1, hq.2.1⟩, fun q => absurd hne q⟩
  · obtain ⟨r', rfl, h11⟩ := end_2 h14 htr
    rw [ee] at hq ⊢
    obtain ⟨q26, q27, q28, qB⟩ := hq
    have hle := qB.1
    simp only [List.length_cons] at hle hll
    rw [exE, List.tail_cons, q28, iI_add, show (((e - (133 :: r').length : Nat) : Int) + 1) = ((e - r'.length : Nat) : Int) by simp only [List.length_cons]; omega]
    have hB1 : cB (M1 30) e r' := by rw [f1.1 30 (by decide) (by decide)]; exact qB.tl
    refine ⟨fun q => absurd q26 q, fun _ => ⟨_, m_E he hB1 q26 hR1 hg h11, ?_⟩⟩
    rintro M2 hw2
    have hR2 := hw2.R hR1
    obtain ⟨f2, hq2⟩ := hw2
    have f2' : fm mFo mFk M M2 := f1'.tr (f2.wk (by decide) (by decide))
    have g142 : M2 27 14 = M 27 14 := by rw [f2.2 14 (by decide)]; exact g14
    rw [q27]
    rcases E_end (e := e) (by omega) hg h11 with ⟨er, ee2, he'⟩ | ⟨v2, r2, ee2, hv2, h142, htr2, hll2⟩
    · rw [ee2] at hq2 ⊢
      exact m_for_42 (d := d + 4) (v := c - 97) (i := i) hei (by omega) f2' g142 hR2 hg v (.error er) ⟨hq2.1, hq2.2.1⟩
    · rw [ee2] at hq2 ⊢
      exact m_for_42 (d := d + 4) (v := c - 97) (i := i) hei (by omega) f2' g142 hR2 hg v (.ok v2) ⟨hq2.1, hq2.2.1⟩
theorem m_next {M : qM} {e i : Nat} (hei : e = off pr (i + 1)) {v : Int} (hv : 0 ≤ v ∧ v < 8) (hR : mR M pr s) (hg : gds pr s) : V l Γ T_TapedLinesModel_doNext (d + 1) r 0 [.ref 27, .int (iI v), .int (iI e), .null, .null] [] (M, L) (q_n L (jQ M pr s (doN i v s))) := by
  obtain ⟨va, ce, lo, re, ou⟩ := s
  have hRR := hR
  obtain ⟨a1, a2, a3, a4, a5⟩ := hR
  have h6 := hg.2.2.1.1
  have hxb := loX_b v lo h6
  refine s_TapedLinesModel_doNext_0 _ _ ⟨_, m_loopOf hRR hg hv, ?_⟩
  rintro x1 M1 ⟨rfl, rfl⟩
  rw [iI_0, iI_le (by omega) (by omega) (by omega) (by omega)]
  unfold doN
  simp only
  by_cases hf : loI v lo < lo.length
  · have ex : loX v lo = ((loI v lo : Nat) : Int) := by unfold loX; rw [if_pos hf]
    have hva : M1 31 v.toNat = va v.toNat := by
      rw [← a1]
      unfold N8
      rw [if_pos (by omega)]
    rw [if_pos hf, ex]
    refine ⟨fun _ => s_TapedLinesModel_doNext_16 _ _ _ _ ⟨fun q => absurd rfl q, fun _ => ?_⟩, fun q => by omega⟩
    rw [iI_nat (z := v) (by omega) (by omega), iI_nat (z := ((loI v lo : Nat) : Int)) (by omega) (by omega), Int.toNat_natCast, q_up_s, (a3.2 _ hf).2.1, hva]
    have hle : ∀ x y : Int32, ¬ y < x ↔ x ≤ y := by
      intro x y
      rw [Int32.lt_iff_toInt_lt, Int32.le_iff_toInt_le]
      omega
    refine ⟨iI_in (by omega) (by omega) (by omega), iI_in (by omega) (by omega) (by omega), iI_in (by omega) (by omega) (by omega), iI_in (by omega) (by omega) (by omega), fun q => ?_, fun q => ?_⟩
    · have q' : ¬ sh (va v.toNat + iI 1) ≤ (lo.getD (loI v lo) dL).2.1 := fun z => (hle _ _).mpr z q
      rw [if_neg q']
      refine s_TapedLinesModel_doNext_61 _ _ _ ⟨fun _ => s_TapedLinesModel_doNext_76 _ _ _ _ ⟨fun _ => ?_, fun q2 => absurd rfl q2⟩, fun q2 => absurd rfl q2⟩
      refine ⟨(((fm.rf.upk (by decide)).upo (by decide) (by decide)).upk (by decide)).upk (by decide), ?_, ?_, ⟨?_, ?_, ⟨?_, ?_⟩, ⟨?_, ?_⟩, ?_⟩, by rw [q_up_s, hei]⟩
      · rw [q_up_k (by decide), q_up_k (by decide), q_up_o (by decide), q_up_k (by decide)]
      · rw [q_up_k (by decide), q_up_k (by decide), q_up_o (by decide), q_up_s]
      · rw [q_up_o (by decide), q_up_o (by decide), q_up_row, q_up_o (by decide), N8_up (by omega), a1]
        rfl
      · rw [q_up_o (by decide), q_up_o (by decide), q_up_o (by decide), q_up_o (by decide)]; exact a2
      · rw [q_up_k (by decide), q_up_s, List.length_take]; exact congrArg iI (by omega)
      · intro k hk
        rw [List.length_take] at hk
        rw [take_get (by omega), q_up_o (o' := 33) (by decide), q_up_o (o' := 33) (by decide), q_up_o (o' := 33) (by decide), q_up_o (o' := 33) (by decide), q_up_o (o' := 34) (by decide), q_up_o (o' := 34) (by decide), q_up_o (o' := 34) (by decide), q_up_o (o' := 34) (by decide), q_up_o (o' := 35) (by decide), q_up_o (o' := 35) (by decide), q_up_o (o' := 35) (by decide), q_up_o (o' := 35) (by decide)]
        exact a3.2 k (by omega)
      · rw [q_up_k (by decide), q_up_k (by decide), q_up_o (by decide), q_up_k (by decide)]; exact a4.1
      · rw [q_up_o (by decide), q_up_o (by decide), q_up_o (by decide), q_up_o (by decide)]; exact a4.2
      · exact a5.keep (by rw [q_up_k (by decide), q_up_k (by decide), q_up_o (by decide), q_up_k (by decide)]) (by rw [q_up_o (by decide), q_up_o (by decide), q_up_o (by decide), q_up_o (by decide)])
    · have q' : sh (va v.toNat + iI 1) ≤ (lo.getD (loI v lo) dL).2.1 := (hle _ _).mp q
      rw [if_pos q']
      refine s_TapedLinesModel_doNext_61 _ _ _ ⟨fun q2 => absurd q2 (by decide), fun _ => s_TapedLinesModel_doNext_76 _ _ _ _ ⟨fun q2 => absurd q2 (by decide), fun _ => ?_⟩⟩
      rw [iI_nat (z := ((loI v lo : Nat) : Int)) (by omega) (by omega), Int.toNat_natCast, iI_add]
      refine ⟨iI_in (by omega) (by omega) (by omega), (((fm.rf.upk (by decide)).upo (by decide) (by decide)).upk (by decide)).upk (by decide), ?_, ?_, ⟨?_, ?_, ⟨?_, ?_⟩, ⟨?_, ?_⟩, ?_⟩, ?_⟩
      · rw [q_up_k (by decide), q_up_k (by decide), q_up_o (by decide), q_up_k (by decide)]
      · rw [q_up_k (by decide), q_up_k (by decide), q_up_o (by decide), q_up_s]
      · rw [q_up_o (by decide), q_up_o (by decide), q_up_row, q_up_o (by decide), N8_up (by omega), a1]
        rfl
      · rw [q_up_o (by decide), q_up_o (by decide), q_up_o (by decide), q_up_o (by decide)]; exact a2
      · rw [q_up_k (by decide), q_up_s, List.length_take]; exact congrArg iI (by omega)
      · intro k hk
        rw [List.length_take] at hk
        rw [take_get (by omega), q_up_o (o' := 33) (by decide), q_up_o (o' := 33) (by decide), q_up_o (o' := 33) (by decide), q_up_o (o' := 33) (by decide), q_up_o (o' := 34) (by decide), q_up_o (o' := 34) (by decide), q_up_o (o' := 34) (by decide), q_up_o (o' := 34) (by decide), q_up_o (o' := 35) (by decide), q_up_o (o' := 35) (by decide), q_up_o (o' := 35) (by decide), q_up_o (o' := 35) (by decide)]
        exact a3.2 k (by omega)
      · rw [q_up_k (by decide), q_up_k (by decide), q_up_o (by decide), q_up_k (by decide)]; exact a4.1
      · rw [q_up_o (by decide), q_up_o (by decide), q_up_o (by decide), q_up_o (by decide)]; exact a4.2
      · exact a5.keep (by rw [q_up_k (by decide), q_up_k (by decide), q_up_o (by decide), q_up_k (by decide)]) (by rw [q_up_o (by decide), q_up_o (by decide), q_up_o (by decide), q_up_o (by decide)])
      · rw [q_up_s, q_up_o (by decide), q_up_o (by decide)]; exact (a3.2 _ hf).2.2
  · have ex : loX v lo = -1 := by unfold loX; rw [if_neg hf]
    rw [if_neg hf, ex]
    refine ⟨fun q => by omega, fun _ => s_TapedLinesModel_doNext_16 _ _ _ _ ⟨fun _ => ?_, fun q => absurd (by decide) q⟩⟩
    exact ⟨fm.rf.upk (by decide), q_up_k (by decide), q_up_s, hRR.keep (fun o ho => q_up_o (by simp at ho; omega)) (fun k hk => q_up_k (by simp at hk; omega))⟩
end MDoing2
