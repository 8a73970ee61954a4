-- a run: both sides
theorem runP_ok {pr : List (Int × List Int)} (hok : okP okSt pr) (hl : (enc pr).length ≤ 200) : ∀ (m k i : Nat) (s : rS), i < pr.length → gds pr s → ((runP pr m k i s).2.1 = 1 ∨ (runP pr m k i s).2.1 = 2 ∨ (11 ≤ (runP pr m k i s).2.1 ∧ (runP pr m k i s).2.1 ≤ 17)) ∧ ((runP pr m k i s).2.1 ≠ 2 → (runP pr m k i s).2.2.1 < pr.length) ∧ gds pr (runP pr m k i s).2.2.2 := by
  intro m
  induction m with
  | zero => intro k i s hi hg; exact ⟨Or.inl rfl, fun _ => hi, hg⟩
  | succ m ih =>
    intro k i s hi hg
    have hst : okSt (pr[i]).2 := (hok.2 _ (List.getElem_mem hi)).2.2
    have hgq := doP_g hg hi hst (st_len hi hl).1
    rw [runP, pr_get hi]
    rcases ed : doP pr i (pr[i]).2 s with er | ⟨j, s'⟩
    · rw [ed] at hgq
      have hgq : 1 ≤ er ∧ er ≤ 7 := hgq
      exact ⟨Or.inr (Or.inr ⟨by show 11 ≤ 10 + er; omega, by show 10 + er ≤ 17; omega⟩), fun _ => hi, hg⟩
    · rw [ed] at hgq
      simp only
      by_cases hjl : j < pr.length
      · rw [if_pos hjl]
        exact ih (k + 1) j s' hjl hgq.2
      · rw [if_neg hjl]
        exact ⟨Or.inr (Or.inl rfl), fun q => absurd rfl q, hgq.2⟩
theorem map_get {f : Nat → Int × Int32 × Nat} {n k : Nat} (h : k < n) : ((List.range n).map f).getD k dL = f k := by
  rw [List.getD_eq_getElem?_getD, List.getElem?_map, List.getElem?_range h]
  rfl
theorem map_getN {f : Nat → Nat} {n k : Nat} (h : k < n) : ((List.range n).map f).getD k 0 = f k := by
  rw [List.getD_eq_getElem?_getD, List.getElem?_map, List.getElem?_range h]
  rfl
theorem pick {n : Nat} {P : Nat → Nat → Prop} (h : ∀ k, k < n → ∃ i, P k i) : ∃ g : Nat → Nat, ∀ k, k < n → P k (g k) := by
  refine ⟨fun k => if hk : k < n then Classical.choose (h k hk) else 0, fun k hk => ?_⟩
  simp only
  rw [dif_pos hk]
  exact Classical.choose_spec (h k hk)
/-- both sides hold the same -/
theorem runs_at {M : qM} {pr : List (Int × List Int)} (ho : R_out M) (hv : R_vars M) (hl : R_loops M pr) : ∃ s : rS, cR M pr s ∧ mR M pr s ∧ gds pr s := by
  obtain ⟨ou, o1, o2, o3⟩ := ho
  obtain ⟨v1, v2⟩ := hv
  obtain ⟨⟨n, n6, n1, n2, n3, n4⟩, k, k6, k1, k2, k3⟩ := hl
  obtain ⟨g, hgp⟩ := pick (P := fun k i => i ≤ pr.length ∧ M 22 k = iI (off pr i) ∧ M 35 k = iI (off pr i)) (fun k hk => (n3 k hk).2.2.2.2.2)
  obtain ⟨q, hqp⟩ := pick (P := fun k i => i ≤ pr.length ∧ M 23 k = iI (off pr i) ∧ M 36 k = iI (off pr i)) k3
  have e8 : N8 (M 13) = N8 (M 31) := by
    funext j
    unfold N8
    by_cases hj : j < 8
    · rw [if_pos hj, if_pos hj, (v1 j hj).1]
    · rw [if_neg hj, if_neg hj]
  have e16 : N16 (M 14) = N16 (M 32) := by
    funext j
    unfold N16
    by_cases hj : j < 16
    · rw [if_pos hj, if_pos hj, (v2 j hj).1]
    · rw [if_neg hj, if_neg hj]
  have lL : ((List.range n).map (fun k => ((M 20 k).toInt, M 21 k, g k))).length = n := by simp
  have lR : ((List.range k).map q).length = k := by simp
  have it : ∀ x : Int32, iI x.toInt = x := by
    intro x
    apply Int32.toInt_inj.mp
    have h1 := Int32.le_toInt x
    have h2 := Int32.toInt_lt x
    rw [iI_toInt (by omega) (by omega)]
  refine ⟨(N8 (M 13), N16 (M 14), (List.range n).map (fun k => ((M 20 k).toInt, M 21 k, g k)), (List.range k).map q, ou), ⟨rfl, rfl, ⟨by rw [lL]; exact n1, fun j hj => ?_⟩, ⟨by rw [lR]; exact k1, fun j hj => ?_⟩, o1⟩, ⟨e8.symm, e16.symm, ⟨by rw [lL]; exact n2, fun j hj => ?_⟩, ⟨by rw [lR]; exact k2, fun j hj => ?_⟩, o2⟩, fun j hj => ?_, fun j hj => ?_, ⟨by rw [lL]; exact n6, fun j hj => ?_, fun i j hi hj => ?_⟩, ⟨by rw [lR]; exact k6, fun j hj => ?_⟩, o1.2.1, o3⟩
  · rw [lL] at hj
    rw [map_get hj]
    exact ⟨(it _).symm, rfl, (hgp j hj).2.1⟩
  · rw [lR] at hj
    rw [map_getN hj]
    exact (hqp j hj).2.1
  · rw [lL] at hj
    rw [map_get hj]
    have := n3 j hj
    refine ⟨?_, ?_, (hgp j hj).2.2⟩
    · rw [← this.1]; exact (it _).symm
    · rw [← this.2.2.2.1]
  · rw [lR] at hj
    rw [map_getN hj]
    exact (hqp j hj).2.2
  · unfold N8
    rw [if_pos hj]
    exact (v1 j hj).2
  · unfold N16
    rw [if_pos hj]
    exact (v2 j hj).2
  · rw [lL] at hj
    rw [map_get hj]
    have := n3 j hj
    exact ⟨this.2.1, this.2.2.1, this.2.2.2.2.1, (hgp j hj).1⟩
  · rw [lL] at hi hj
    rw [map_get hi, map_get hj]
    intro hh
    exact n4 i j hi hj (Int32.toInt_inj.mp hh)
  · rw [lR] at hj
    rw [map_getN hj]
    exact (hqp j hj).1
theorem runs_to {M : qM} {pr : List (Int × List Int)} {s : rS} (hc : cR M pr s) (hm : mR M pr s) (hg : gds pr s) : R_out M ∧ R_vars M ∧ R_loops M pr := by
  obtain ⟨va, ce, lo, re, ou⟩ := s
  obtain ⟨a1, a2, a3, a4, a5⟩ := hc
  obtain ⟨b1, b2', b3, b4, b5⟩ := hm
  obtain ⟨g1, g2, ⟨g3, g4, g5⟩, ⟨g6, g7⟩, g8, g9⟩ := hg
  refine ⟨⟨ou, a5, b5, g9⟩, ⟨fun k hk => ?_, fun k hk => ?_⟩, ⟨lo.length, g3, a3.1, b3.1, fun k hk => ?_, fun i j hi hj hh => ?_⟩, re.length, g6, a4.1, b4.1, fun k hk => ⟨_, g7 k hk, a4.2 k hk, b4.2 k hk⟩⟩
  · have h1 := congrFun a1 k
    have h2 := congrFun b1 k
    unfold N8 at h1 h2
    rw [if_pos hk] at h1 h2
    rw [h1, h2]
    exact ⟨rfl, g1 k hk⟩
  · have h1 := congrFun a2 k
    have h2 := congrFun b2' k
    unfold N16 at h1 h2
    rw [if_pos hk] at h1 h2
    rw [h1, h2]
    exact ⟨rfl, g2 k hk⟩
  · obtain ⟨x1, x2, x3⟩ := a3.2 k hk
    obtain ⟨y1, y2, y3⟩ := b3.2 k hk
    obtain ⟨z1, z2, z3, z4⟩ := g4 k hk
    rw [x1, y1, x2, y2, iI_toInt (by omega) (by omega)]
    exact ⟨rfl, z1, z2, rfl, z3, _, z4, x3, y3⟩
  · rw [(a3.2 i hi).1, (a3.2 j hj).1] at hh
    have hi' := g4 i hi
    have hj' := g4 j hj
    rw [iI_eq (by omega) (by omega) (by omega) (by omega)] at hh
    exact g5 i j hi hj hh
section PRun
variable {l : Launch} {Γ : qG} {M : qM}
theorem pair_run (htr : l.stackTraces = false) (h : Rel okSt M) : p_run l Γ 99 M (Rel okSt) := by
  intro L a
  have hRel := h
  obtain ⟨h1, h2, h3, h4, h5, h6⟩ := h
  obtain ⟨pr, c1, m1, hok, z, z1, z2, z3, z4, z5⟩ := h6
  by_cases hin : (1 ≤ a.toInt ∧ a.toInt ≤ 1000) ∧ z = 1
  rotate_left
  · refine pair_run_out htr z1 z2 (by clear z4 z5 hin; omega) a hin (fun v => ?_)
    have f : fm [] [0] M (q_up M 27 0 v) := fm.rf.upk (by simp)
    exact ⟨h1.keep f (by decide) (by decide), h2.keep f (by decide) (by decide), h3.keep f (by decide) (by decide), h4.keep f (by decide) (by decide), h5.keep f (by decide), R_prog.keep ⟨pr, c1, m1, hok, z, z1, z2, z3, z4, z5⟩ f (by decide) (by decide)⟩
  obtain ⟨ha, rfl⟩ := hin
  obtain ⟨i, hi, i1, i2⟩ := z4 (Or.inl rfl)
  obtain ⟨s, hc, hm, hg⟩ := runs_at h2 h5 (z5 rfl)
  have hpl := c1.2.1
  obtain ⟨n, hn⟩ : ∃ n : Nat, a.toInt = n := ⟨a.toInt.toNat, by omega⟩
  have ea : a = iI n := by
    apply Int32.toInt_inj.mp
    rw [iI_toInt (by omega) (by omega)]
    exact hn
  obtain ⟨rz, rl, rg⟩ := runP_ok hok hpl n 0 i s hi hg
  refine ⟨_, H_run_in (d := 98) a (P := cEnd M pr (runP pr n 0 i s)) (V.tin (s_TapedLines_run_0 (d := 97) a htr (by omega) (by omega) ?_)), ?_⟩
  · rw [z1, xlt (by decide) (by decide), xle (by decide) (by decide)]
    refine ⟨fun q => by omega, fun _ => ⟨fun _ => ⟨fun _ => ?_, fun q => absurd rfl q⟩, fun q => by omega⟩⟩
    rw [ea]
    exact k_run (d := 65) (r := 0) htr hok (by omega) n 0 i s M (by omega) hi c1 z1 i1 hc hg fr.rf
  rintro x1 M1 L1 ⟨rfl, v, ⟨rfl, g94, g95, hc1, f1⟩, rfl⟩
  have hm1 : mR M1 pr s := hm.keep (fun o ho => f1 o (by simp [cF] at ho ⊢; omega)) (fun k _ => by rw [f1 27 (by decide)])
  have mP1 : mPr M1 pr := m1.keep (by rw [f1 27 (by decide)]) (f1 30 (by decide))
  have e14 : M1 27 14 = iI 1 := by rw [f1 27 (by decide)]; exact z2
  have e15 : M1 27 15 = iI (off pr i) := by rw [f1 27 (by decide)]; exact i2
  have hm10 : mR (q_up M1 27 0 (iI 0)) pr s := hm1.keep (fun o ho => q_up_o (by simp at ho; omega)) (fun k hk => q_up_k (by simp at hk; omega))
  refine ⟨mEnd (q_up M1 27 0 (iI 0)) pr (runP pr n 0 i s), s_TapedLinesModel_run_0 (d := 98) a ?_, ?_⟩
  · rw [xlt (by decide) (by decide), xle (by decide) (by decide)]
    refine ⟨fun q => by omega, fun _ => ⟨fun _ => s_TapedLinesModel_run_18 (d := 98) _ _ ?_, fun q => by omega⟩⟩
    refine ⟨fun _ => s_TapedLinesModel_run_31 (d := 98) _ _ _ ⟨_, cm_refused false false, ?_⟩, fun q => absurd e14 q⟩
    rintro x M' ⟨rfl, rfl⟩
    refine ⟨fun _ => ?_, fun q => absurd rfl q⟩
    rw [ea]
    exact m_run_41 (d := 91) hok (by omega) n 0 i s _ (by omega) hi (mP1.keep (q_up_k (by decide)) (q_up_o (by decide))) (by rw [q_up_k (by decide)]; exact e14) (by rw [q_up_k (by decide)]; exact e15) hm10 hg fm.rf
  rintro x2 M2 ⟨rfl, g14, g15, hm2, f2⟩
  have f12 : fm (cF ++ mFo) (0 :: mFk) M M2 := by
    refine ⟨fun o a b => ?_, fun k a => ?_⟩
    · rw [f2.1 o (fun z => a (List.mem_append_right _ z)) b, q_up_o b, f1 o (fun z => a (List.mem_append_left _ z))]
    · rw [f2.2 k (fun z => a (List.mem_cons_of_mem _ z)), q_up_k (fun z => a (by rw [z]; simp)), f1 27 (by decide)]
  have hc2 : cR M2 pr (runP pr n 0 i s).2.2.2 := by
    refine hc1.keep (fun o ho => ?_) ?_ ?_
    · rw [f2.1 o (by simp [mFo] at ho ⊢; omega) (by simp at ho; omega), q_up_o (by simp at ho; omega)]
    · rw [f2.1 9 (by decide) (by decide), q_up_o (by decide)]
    · rw [f2.1 9 (by decide) (by decide), q_up_o (by decide)]
  obtain ⟨w1, w2, w3⟩ := runs_to hc2 hm2 rg
  refine ⟨?_, fun _ => rfl, h1.keep f12 (by decide) (by decide), w1, h3.keep f12 (by decide) (by decide), h4.keep f12 (by decide) (by decide), w2, pr, ?_, ?_, hok, (runP pr n 0 i s).2.1, ?_, g14, ?_, fun q => ?_, fun _ => w3⟩
  · rw [f2.2 0 (by decide), q_up_s]
  · exact ⟨by rw [f12.1 10 (by decide) (by decide)]; exact c1.1, c1.2.1, by rw [f12.1 11 (by decide) (by decide)]; exact c1.2.2⟩
  · exact m1.keep (f12.2 12 (by decide)) (f12.1 30 (by decide) (by decide))
  · rw [f2.1 9 (by decide) (by decide), q_up_o (by decide)]; exact g94
  · omega
  · have hz2 : (runP pr n 0 i s).2.1 ≠ 2 := by omega
    refine ⟨_, rl hz2, ?_, g15 hz2⟩
    rw [f2.1 9 (by decide) (by decide), q_up_o (by decide)]
    exact g95
/-- all calls -/
theorem allRel (htr : l.stackTraces = false) (h : Rel okSt M) : allP l Γ 99 M (Rel okSt) :=
  ⟨pair_type h, pair_wipe h, pair_enter h, pair_lines h, pair_list htr h, pair_programByte htr h, pair_start h, pair_run htr h, pair_state h, pair_place h, pair_variable htr h, pair_cell htr h, pair_output h, pair_save h, pair_load h, pair_wobble htr h, pair_waves h, pair_wave htr h, pair_setWave htr h, pair_length h, pair_charAt h⟩
end PRun
