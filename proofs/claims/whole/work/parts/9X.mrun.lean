-- a step and a run: the reference
def sQ (M : qM) (pr : List (Int × List Int)) (s : rS) (i : Nat) (res : pR) (x : Int32) (M' : qM) : Prop := fm mFo mFk M M' ∧ match res with
  | .error e => x = iI 0 ∧ M' 27 14 = iI (10 + e) ∧ M' 27 15 = iI (off pr i) ∧ mR M' pr s
  | .ok (j, s') => x = iI 1 ∧ mR M' pr s' ∧ M' 27 14 = iI (if j < pr.length then 1 else 2) ∧ (j < pr.length → M' 27 15 = iI (off pr j))
def isI (i : Nat) (res : pR) : Prop := match res with
  | .error _ => True
  | .ok (j, _) => j = i + 1
theorem isI_W (i : Nat) (t : List Int) (s : rS) : isI i (doW i t s) := by
  obtain ⟨va, ce, lo, re, ou⟩ := s
  unfold doW
  simp only
  split <;> trivial
theorem isI_C (i : Nat) (x v : Int32) (s : rS) : isI i (doC i x v s) := by
  obtain ⟨va, ce, lo, re, ou⟩ := s
  unfold doC
  simp only
  split <;> trivial
theorem isI_E (i : Nat) (res : Except Int (Int32 × List Int)) (f : Int32 → List Int → pR) (h : ∀ v r, isI i (f v r)) : isI i (exE res f) := by
  unfold exE
  rcases res with e | ⟨v, r⟩
  · trivial
  · exact h v r
section MRun
variable {l : Launch} {Γ : qG} {d r : Nat} {L : Nat → Int64} {pr : List (Int × List Int)} {s : rS}
theorem wQ.to {M M' : qM} {i : Nat} {res : pR} (h : wQ M pr s res M') (hi : isI i res) : jQ M pr s res (q_up M' 27 15 (iI (off pr (i + 1)))) := by
  obtain ⟨f, g14, h⟩ := h
  refine ⟨f.upk (by decide), by rw [q_up_k (by decide)]; exact g14, ?_⟩
  rcases res with e | ⟨j, s'⟩
  · exact ⟨by rw [q_up_k (by decide)]; exact h.1, h.2.keep (fun o ho => q_up_o (by simp at ho; omega)) (fun k hk => q_up_k (by simp at hk; omega))⟩
  · have hi : j = i + 1 := hi
    subst hi
    exact ⟨by rw [q_up_k (by decide)]; exact h.1, h.2.keep (fun o ho => q_up_o (by simp at ho; omega)) (fun k hk => q_up_k (by simp at hk; omega)), q_up_s⟩
theorem m_step_147 {M M0 : qM} {i : Nat} {res : pR} (hP : mPr M pr) (hq : jQ M0 pr s res M) (h14 : M0 27 14 = iI 1) (hg : gQ pr res) : V l Γ T_TapedLinesModel_step (d + 1) r 147 [.ref 27, .int (iI (off pr i)), .null, .null, .null] [] (M, L) (q_i L (sQ M0 pr s i res)) := by
  obtain ⟨f, g14, h⟩ := hq
  have hpl := hP.2.1
  refine s_TapedLinesModel_step_147 _ ?_
  rcases res with e | ⟨j, s'⟩
  · have hg : 1 ≤ e ∧ e ≤ 7 := hg
    obtain ⟨h26, hR⟩ := h
    rw [h26, iI_0, iI_le (by omega) (by omega) (by omega) (by omega), iI_add]
    refine ⟨fun q => by omega, fun _ => s_TapedLinesModel_step_189 ⟨fun _ => ?_, fun q => ?_⟩⟩
    · refine ⟨(f.upk (by decide)).upk (by decide), rfl, q_up_s, by rw [q_up_k (by decide), q_up_s], ?_⟩
      exact hR.keep (fun o ho => by rw [q_up_o (by simp at ho; omega), q_up_o (by simp at ho; omega)]) (fun k hk => by rw [q_up_k (by simp at hk; omega), q_up_k (by simp at hk; omega)])
    · exfalso
      apply q
      rw [q_up_k (by decide), q_up_k (by decide), h26, iI_0, iI_eq (by omega) (by omega) (by omega) (by omega)]
      omega
  · obtain ⟨hj, hg1⟩ := hg
    obtain ⟨h26, hR, h15⟩ := h
    have hjle := off_le pr j
    have hoff := off_lt_iff hj
    rw [h26, h15, hP.1, iI_lt (by omega) (by omega) (by omega) (by omega)]
    refine ⟨fun _ => ⟨fun q => ?_, fun q => ?_⟩, fun q => absurd (by decide) q⟩
    · have hjl : j < pr.length := by omega
      refine s_TapedLinesModel_step_189 ⟨fun q2 => absurd h26 q2, fun _ => ⟨f, rfl, hR, ?_, fun _ => h15⟩⟩
      rw [if_pos hjl, g14, h14]
    · have hjl : ¬ j < pr.length := by omega
      refine s_TapedLinesModel_step_189 ⟨fun q2 => absurd (by rw [q_up_k (by decide)]; exact h26) q2, fun _ => ⟨f.upk (by decide), rfl, hR.keep (fun o ho => q_up_o (by simp at ho; omega)) (fun k hk => q_up_k (by simp at hk; omega)), ?_, fun q2 => absurd q2 hjl⟩⟩
      rw [if_neg hjl, q_up_s]
theorem m_step {M : qM} {i : Nat} (hP : mPr M pr) (hok : okP okSt pr) (hi : i < pr.length) (h14 : M 27 14 = iI 1) (h15 : M 27 15 = iI (off pr i)) (hR : mR M pr s) (hg : gds pr s) : V l Γ T_TapedLinesModel_step (d + 6 + 1) r 0 [.ref 27, .null, .null, .null, .null] [] (M, L) (q_i L (sQ M pr s i (doP pr i (pr[i]).2 s))) := by
  have hb : ∀ q ∈ pr, 0 ≤ q.1 ∧ q.1 < 256 := fun q hm => by have := hok.2 q hm; omega
  have hst : okSt (pr[i]).2 := (hok.2 _ (List.getElem_mem hi)).2.2
  have hob := okSt_b hst
  have hl := off_lt hi
  have hs := off_s hi
  have hpl := hP.2.1
  have hgq := doP_g hg hi hst (st_len hi hpl).1
  have hr := hok.1
  have he : off pr (i + 1) ≤ 200 := (st_len hi hpl).2
  have hB : cB (q_up M 27 26 (iI 0) 30) (off pr (i + 1)) (pr[i]).2 := by
    refine ⟨by omega, fun k hk => ?_, fun b hbb => by have := hob b hbb; omega⟩
    rw [q_up_o (by decide), hP.2.2 _ (by omega), show off pr (i + 1) - (pr[i]).2.length + k = off pr i + 2 + k by omega, enc_by hi k hk]
  have hR0 : mR (q_up M 27 26 (iI 0)) pr s := hR.keep (fun o ho => q_up_o (by simp at ho; omega)) (fun k hk => q_up_k (by simp at hk; omega))
  have hP0 : mPr (q_up M 27 26 (iI 0)) pr := hP.keep (q_up_k (by decide)) (q_up_o (by decide))
  have h140 : q_up M 27 26 (iI 0) 27 14 = M 27 14 := q_up_k (by decide)
  have f0 : fm mFo mFk M (q_up M 27 26 (iI 0)) := fm.rf.upk (by decide)
  have fin : ∀ (res : pR) (M' : qM), gQ pr res → jQ (q_up M 27 26 (iI 0)) pr s res M' → V l Γ T_TapedLinesModel_step (d + 6 + 1) r 147 [.ref 27, .int (iI (off pr i)), .null, .null, .null] [] (M', L) (q_i L (sQ M pr s i res)) := by
    intro res M' hgr hj
    exact m_step_147 (hP0.keep (hj.1.2 12 (by decide)) (hj.1.1 30 (by decide) (by decide))) (hj.of f0 h140) h14 hgr
  have e1 : M 30 (off pr i + 1) = iI ((pr[i]).2.length : Int) := by rw [hP.2.2 _ (by omega), enc_len hi]
  have e2 : M 30 (off pr i + 2) = iI ((pr[i]).2.headD 0) := by
    have hne : 0 < (pr[i]).2.length := List.length_pos_iff.mpr hst.1
    rw [hP.2.2 _ (by omega)]
    have := enc_by hi 0 hne
    rw [Nat.add_zero] at this
    rw [this]
    rcases (pr[i]).2 with _ | ⟨c, t⟩ <;> rfl
  have hhd : 0 ≤ (pr[i]).2.headD 0 ∧ (pr[i]).2.headD 0 < 136 := by
    rcases eo : (pr[i]).2 with _ | ⟨c, t⟩
    · exact ⟨by decide, by decide⟩
    · exact hob c (by rw [eo]; simp)
  refine s_TapedLinesModel_step_0 ?_
  rw [h15, iI_add, iI_add, iI_add, iI_nat (z := (off pr i : Int) + 2) (by omega) (by omega), iI_nat (z := (off pr i : Int) + 1) (by omega) (by omega), show ((off pr i : Int) + 2).toNat = off pr i + 2 by omega, show ((off pr i : Int) + 1).toNat = off pr i + 1 by omega, e1, e2, iI_add, show ((off pr i : Int) + 2 + ((pr[i]).2.length : Int)) = ((off pr (i + 1) : Nat) : Int) by omega, iI_lt (by omega) (by omega) (by omega) (by omega), iI_eq (by omega) (by omega) (by omega) (by omega), iI_eq (by omega) (by omega) (by omega) (by omega), iI_sub, iI_sub, iI_add]
  refine ⟨iI_in (by omega) (by omega) (by omega), iI_in (by omega) (by omega) (by omega), ?_⟩
  have wd : ∀ (b : Int) (u : List Int) (k : Nat), (pr[i]).2 = b :: u → (off pr i : Int) + 2 + 1 = ((off pr (i + 1) - u.length : Nat) : Int) := by
    intro b u k eo
    rw [eo] at hs
    simp only [List.length_cons] at hs
    omega
  rcases okSt_kinds hst with ⟨u, eo, h⟩ | ⟨u, eo, h⟩ | eo | eo | ⟨u, eo, h⟩ | ⟨c, u, eo, hc, h⟩ | ⟨c, eo, hc⟩ | ⟨u, eo, h1, h2⟩ | ⟨u, eo, h1, h⟩ | ⟨u, eo, h⟩ | ⟨c, u, eo, hc, h⟩
  · have w := wd _ _ 0 eo
    rw [eo] at hB hgq ⊢
    rw [List.headD_cons, w]
    refine ⟨fun q => by omega, fun _ => ⟨jQ (q_up M 27 26 (iI 0)) pr s (doP pr i (128 :: u) s), s_TapedLinesModel_doWord_0 _ _ _ ⟨fun _ => ⟨_, m_jump (d := d + 4) he hB.tl h hP0 hr hb hR0, fun M1 h1 => h1.1⟩, fun q => absurd (by rw [iI_toInt (by decide) (by decide)]; decide) q⟩, fun M4 h4 => fin _ _ hgq h4⟩⟩
  · have w := wd _ _ 0 eo
    rw [eo] at hB hgq ⊢
    rw [List.headD_cons, w]
    refine ⟨fun q => by omega, fun _ => ⟨jQ (q_up M 27 26 (iI 0)) pr s (doP pr i (129 :: u) s), s_TapedLinesModel_doWord_0 _ _ _ ?_, fun M4 h4 => fin _ _ hgq h4⟩⟩
    rw [iI_toInt (by decide) (by decide)]
    exact ⟨fun q => by omega, fun _ => ⟨fun _ => ⟨_, m_gosub (d := d + 3) he rfl hB.tl h hP0 hr hb hR0 hg, fun M1 h1 => h1⟩, fun q => absurd (by decide) q⟩⟩
  · rw [eo] at hgq ⊢
    rw [List.headD_cons]
    refine ⟨fun q => by omega, fun _ => ⟨jQ (q_up M 27 26 (iI 0)) pr s (doP pr i [130] s), s_TapedLinesModel_doWord_0 _ _ _ ?_, fun M4 h4 => fin _ _ hgq h4⟩⟩
    rw [iI_toInt (by decide) (by decide)]
    exact ⟨fun q => by omega, fun _ => ⟨fun q => by omega, fun _ => ⟨fun _ => ⟨_, m_return hR0 hg, fun M1 h1 => h1⟩, fun q => absurd (by decide) q⟩⟩⟩
  · rw [eo] at hgq ⊢
    rw [List.headD_cons]
    refine ⟨fun q => by omega, fun _ => ⟨fun M' => M' = q_up (q_up M 27 26 (iI 0)) 27 14 (iI 2), s_TapedLinesModel_doWord_0 _ _ _ ?_, ?_⟩⟩
    · rw [iI_toInt (by decide) (by decide)]
      exact ⟨fun q => by omega, fun _ => ⟨fun q => by omega, fun _ => ⟨fun q => by omega, fun _ => ⟨fun q => by omega, fun _ => ⟨fun q => by omega, fun _ => ⟨fun q => by omega, fun _ => rfl⟩⟩⟩⟩⟩⟩
    · rintro M4 rfl
      refine s_TapedLinesModel_step_147 _ ⟨fun _ => ⟨fun _ => s_TapedLinesModel_step_189 ⟨fun q => ?_, fun _ => ?_⟩, fun q => ?_⟩, fun q => ?_⟩
      · exact absurd (by rw [q_up_k (by decide), q_up_s]; rfl) q
      · refine ⟨f0.upk (by decide), rfl, hR0.keep (fun o ho => q_up_o (by simp at ho; omega)) (fun k hk => q_up_k (by simp at hk; omega)), ?_, fun q => by omega⟩
        rw [q_up_s, if_neg (by omega)]
      · rw [q_up_k (by decide), q_up_k (by decide), q_up_k (by decide), q_up_k (by decide), h15, hP.1, iI_lt (by omega) (by omega) (by omega) (by omega)] at q
        omega
      · exact absurd (by rw [q_up_k (by decide), q_up_s]; decide) q
  · have w := wd _ _ 0 eo
    rw [eo] at hB hgq ⊢
    rw [List.headD_cons, w]
    refine ⟨fun q => by omega, fun _ => ⟨jQ (q_up M 27 26 (iI 0)) pr s (doP pr i (131 :: u) s), s_TapedLinesModel_doWord_0 _ _ _ ?_, fun M4 h4 => fin _ _ hgq h4⟩⟩
    rw [iI_toInt (by decide) (by decide)]
    exact ⟨fun q => by omega, fun _ => ⟨fun q => by omega, fun _ => ⟨fun q => by omega, fun _ => ⟨fun _ => ⟨_, m_if (d := d) he rfl hB.tl h q_up_s hP0 hr hb hR0 hg, fun M1 h1 => h1⟩, fun q => absurd (by decide) q⟩⟩⟩⟩
  · have w := wd _ _ 0 eo
    rw [eo] at hB hgq ⊢
    rw [List.headD_cons, w]
    refine ⟨fun q => by omega, fun _ => ⟨jQ (q_up M 27 26 (iI 0)) pr s (doP pr i (132 :: c :: 61 :: u) s), s_TapedLinesModel_doWord_0 _ _ _ ?_, fun M4 h4 => fin _ _ hgq h4⟩⟩
    rw [iI_toInt (by decide) (by decide)]
    exact ⟨fun q => by omega, fun _ => ⟨fun q => by omega, fun _ => ⟨fun q => by omega, fun _ => ⟨fun q => by omega, fun _ => ⟨fun _ => ⟨_, m_for (d := d) he rfl hB.tl hc h q_up_s hR0 hg, fun M1 h1 => h1⟩, fun q => absurd (by decide) q⟩⟩⟩⟩⟩
  · have w := wd _ _ 0 eo
    have hcv : 97 ≤ c ∧ c ≤ 104 := by simpa [isV] using hc
    rw [eo] at hB hgq ⊢
    rw [List.headD_cons, w]
    obtain ⟨k1, k2, k3, k4⟩ := hB.tl.hd
    refine ⟨fun q => by omega, fun _ => ⟨jQ (q_up M 27 26 (iI 0)) pr s (doP pr i [134, c] s), s_TapedLinesModel_doWord_0 _ _ _ ?_, fun M4 h4 => fin _ _ hgq h4⟩⟩
    rw [iI_toInt (by decide) (by decide), iI_nat (by omega) (by simp; omega), Int.toNat_natCast]
    rw [show off pr (i + 1) - [c].length = off pr (i + 1) - ([] : List Int).length - 1 from rfl]
    rw [show off pr (i + 1) - ([] : List Int).length - 1 = off pr (i + 1) - (([] : List Int).length + 1) by omega, k1, iI_sub]
    exact ⟨fun q => by omega, fun _ => ⟨fun q => by omega, fun _ => ⟨fun q => by omega, fun _ => ⟨fun q => by omega, fun _ => ⟨fun q => by omega, fun _ => ⟨fun _ => ⟨iI_in (by omega) (by simp; omega) (by simp; omega), _, m_next (d := d + 4) rfl (by omega) hR0 hg, fun M1 h1 => h1⟩, fun q => absurd (by decide) q⟩⟩⟩⟩⟩⟩
  · have w := wd _ _ 0 eo
    rw [eo] at hB hgq ⊢
    rw [List.headD_cons, w]
    refine ⟨fun _ => ⟨fun q => absurd rfl q, fun _ => ⟨_, m_print (d := d + 1) (i := i) he hB.tl (Or.inl ⟨u, rfl, h1, h2⟩) q_up_s hR0 hg, fun M3 h3 => fin _ _ hgq (h3.to ?_)⟩⟩, fun q => absurd (by decide) q⟩
    rw [List.headD_cons, if_pos rfl]
    exact isI_W _ _ _
  · have w := wd _ _ 0 eo
    rw [eo] at hB hgq ⊢
    rw [List.headD_cons, w]
    refine ⟨fun _ => ⟨fun q => absurd rfl q, fun _ => ⟨_, m_print (d := d + 1) (i := i) he hB.tl (Or.inr ⟨h1, h⟩) q_up_s hR0 hg, fun M3 h3 => fin _ _ hgq (h3.to ?_)⟩⟩, fun q => absurd (by decide) q⟩
    rw [if_neg h1]
    exact isI_E _ _ _ (fun _ _ => isI_W _ _ _)
  · have w : (off pr i : Int) + 2 + 2 = ((off pr (i + 1) - u.length : Nat) : Int) := by
      rw [eo] at hs
      simp only [List.length_cons] at hs
      omega
    rw [eo] at hB hgq ⊢
    rw [List.headD_cons, w]
    refine ⟨fun _ => ⟨fun _ => ⟨fun q => absurd rfl q, fun _ => ⟨_, m_cell (d := d + 1) (i := i) he hB.tl.tl h q_up_s hR0 hg, fun M2 h2 => fin _ _ hgq (h2.to (isI_E _ _ _ (fun _ _ => isI_E _ _ _ (fun _ _ => isI_C _ _ _ _))))⟩⟩, fun q => absurd (by decide) q⟩, fun q => absurd (by decide) q⟩
  · have w : (off pr i : Int) + 2 + 2 = ((off pr (i + 1) - u.length : Nat) : Int) := by
      rw [eo] at hs
      simp only [List.length_cons] at hs
      omega
    have hcv : 97 ≤ c ∧ c ≤ 104 := by simpa [isV] using hc
    have e : doP pr i (c :: 61 :: u) s = exE (sE s u) (fun v _ => doV i (c - 97) v s) := by
      unfold doP
      rw [List.headD_cons, if_neg (by omega), if_neg (by omega), if_neg (by omega), if_neg (by omega), if_neg (by omega), if_neg (by omega), if_neg (by omega), if_neg (by omega), if_neg (by omega)]
      rfl
    have hlen := (st_len hi hpl).1
    rw [eo] at hB hgq hlen ⊢
    rw [e] at hgq ⊢
    simp only [List.length_cons] at hlen
    rw [List.headD_cons, w]
    refine ⟨fun _ => ⟨fun _ => ⟨fun _ => ⟨_, m_E (d := d + 2) he hB.tl.tl q_up_s hR0 hg h, ?_⟩, fun q => by omega⟩, fun q => by omega⟩, fun q => by omega⟩
    rintro M1 hw
    have hR1 := hw.R hR0
    obtain ⟨f1, hq⟩ := hw
    have f1' : fm mFo mFk (q_up M 27 26 (iI 0)) M1 := f1.wk (by decide) (by decide)
    have g14 : M1 27 14 = q_up M 27 26 (iI 0) 27 14 := f1.2 14 (by decide)
    rw [iI_nat (by omega) (by omega)]
    rcases E_end (e := off pr (i + 1)) (by omega) hg h with ⟨er, ee, he'⟩ | ⟨v, rr, ee, hv, h14', htr, hll⟩
    · rw [ee] at hq hgq ⊢
      have hne : ¬ M1 27 26 = 0 := er_ne ⟨hq.1, hq.2.1⟩
      refine ⟨fun _ => ⟨iI_in (by omega) (by omega) (by omega), iI_in (by omega) (by omega) (by omega), fin _ _ hgq ?_⟩, fun q => absurd hne q⟩
      have hself : q_up M1 31 (c - 97).toNat (M1 31 (c - 97).toNat) 31 = M1 31 := by
        rw [q_up_row]
        funext k
        by_cases hk : k = (c - 97).toNat
        · subst hk; simp [va_up]
        · simp [va_up, hk]
      refine ⟨(f1'.upo (by decide) (by decide)).upk (by decide), by rw [q_up_k (by decide), q_up_o (by decide)]; exact g14, by rw [q_up_k (by decide), q_up_o (by decide)]; exact hq.1, hR1.keep (fun o ho => ?_) (fun k hk => by rw [q_up_k (by simp at hk; omega), q_up_o (by decide)])⟩
      rw [q_up_o (by simp at ho; omega)]
      by_cases h31 : o = 31
      · subst h31; exact hself
      · rw [q_up_o h31]
    · rw [ee] at hq hgq ⊢
      obtain ⟨q26, q27, q28, qB⟩ := hq
      refine ⟨fun q => absurd q26 q, fun _ => ⟨iI_in (by omega) (by omega) (by omega), fin _ _ hgq ?_⟩⟩
      obtain ⟨va, ce, lo, re, ou⟩ := s
      obtain ⟨a1, a2, a3, a4, a5⟩ := hR1
      refine ⟨(f1'.upo (by decide) (by decide)).upk (by decide), by rw [q_up_k (by decide), q_up_o (by decide)]; exact g14, by rw [q_up_k (by decide), q_up_o (by decide)]; exact q26, ⟨?_, ?_, ?_, ?_, ?_⟩, q_up_s⟩
      · rw [q_up_o (by decide), q_up_row, N8_up (by omega), a1, q27]
      · rw [q_up_o (by decide), q_up_o (by decide)]; exact a2
      · rw [q_up_k (by decide), q_up_o (by decide), q_up_o (by decide), q_up_o (by decide), q_up_o (by decide), q_up_o (by decide), q_up_o (by decide), q_up_o (by decide)]; exact a3
      · rw [q_up_k (by decide), q_up_o (by decide), q_up_o (by decide), q_up_o (by decide)]; exact a4
      · exact a5.keep (by rw [q_up_k (by decide), q_up_o (by decide)]) (by rw [q_up_o (by decide), q_up_o (by decide)])
def mEnd (M0 : qM) (pr : List (Int × List Int)) (rr : Nat × Int × Nat × rS) (x : Int32) (M' : qM) : Prop := x = iI rr.1 ∧ M' 27 14 = iI rr.2.1 ∧ (rr.2.1 ≠ 2 → M' 27 15 = iI (off pr rr.2.2.1)) ∧ mR M' pr rr.2.2.2 ∧ fm mFo mFk M0 M'
theorem m_run_41 {M0 : qM} (hok : okP okSt pr) {n : Nat} (hn : n ≤ 1000) : ∀ (m k i : Nat) (s : rS) (M : qM), k + m = n → i < pr.length → mPr M pr → M 27 14 = iI 1 → M 27 15 = iI (off pr i) → mR M pr s → gds pr s → fm mFo mFk M0 M →
    V l Γ T_TapedLinesModel_run (d + 7 + 1) r 41 [.ref 27, .int (iI n), .int (iI k)] [] (M, L) (q_i L (mEnd M0 pr (runP pr m k i s))) := by
  intro m
  induction m with
  | zero =>
    intro k i s M hk hi hP h14 h15 hR hg f
    refine s_TapedLinesModel_run_41 _ _ ?_
    rw [iI_le (by omega) (by omega) (by omega) (by omega)]
    exact ⟨fun _ => ⟨rfl, h14, fun _ => h15, hR, f⟩, fun q => by omega⟩
  | succ m ih =>
    intro k i s M hk hi hP h14 h15 hR hg f
    have hst : okSt (pr[i]).2 := (hok.2 _ (List.getElem_mem hi)).2.2
    have hgq := doP_g hg hi hst (st_len hi hP.2.1).1
    refine s_TapedLinesModel_run_41 _ _ ?_
    rw [iI_le (by omega) (by omega) (by omega) (by omega), iI_add]
    refine ⟨fun q => by omega, fun _ => ⟨fun q => absurd h14 q, fun _ => ⟨_, m_step (d := d) hP hok hi h14 h15 hR hg, ?_⟩⟩⟩
    rintro x1 M1 ⟨f1, hq⟩
    have f01 := f.tr f1
    rw [runP, pr_get hi]
    rcases ed : doP pr i (pr[i]).2 s with er | ⟨j, s'⟩
    · rw [ed] at hq hgq
      obtain ⟨rfl, g14, g15, hR1⟩ := hq
      exact ⟨fun _ => ⟨rfl, g14, fun _ => g15, hR1, f01⟩, fun q => absurd rfl q⟩
    · rw [ed] at hq hgq
      obtain ⟨rfl, hR1, g14, g15⟩ := hq
      obtain ⟨hj, hg1⟩ := hgq
      refine ⟨fun q => absurd q (by decide), fun _ => ?_⟩
      simp only
      have hP1 : mPr M1 pr := hP.keep (f1.2 12 (by decide)) (f1.1 30 (by decide) (by decide))
      by_cases hjl : j < pr.length
      · rw [if_pos hjl] at g14 ⊢
        exact ih (k + 1) j s' M1 (by omega) hjl hP1 g14 (g15 hjl) hR1 hg1 f01
      · rw [if_neg hjl] at g14 ⊢
        have hfin : mEnd M0 pr (k + 1, 2, j, s') (iI ((k : Int) + 1)) M1 := ⟨rfl, g14, fun q => absurd rfl q, hR1, f01⟩
        refine s_TapedLinesModel_run_41 _ _ ⟨fun _ => hfin, fun _ => ⟨fun _ => hfin, fun q => ?_⟩⟩
        rw [g14] at q
        exact absurd (by decide) q
end MRun
