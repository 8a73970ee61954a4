-- what a statement does: the reference
def mR (M : qM) (pr : List (Int × List Int)) : rS → Prop
  | (va, ce, lo, re, ou) => N8 (M 31) = va ∧ N16 (M 32) = ce ∧ (M 27 18 = iI lo.length ∧ ∀ k, k < lo.length → M 33 k = iI (lo.getD k dL).1 ∧ M 34 k = (lo.getD k dL).2.1 ∧ M 35 k = iI (off pr (lo.getD k dL).2.2)) ∧ (M 27 22 = iI re.length ∧ ∀ k, k < re.length → M 36 k = iI (off pr (re.getD k 0))) ∧ rowIs M 27 24 37 ou
def mFo : List Nat := [31, 32, 33, 34, 35, 36, 37, 38, 39]
def mFk : List Nat := [14, 15, 18, 22, 24, 26, 27, 28, 29, 31]
theorem mR.keep {M M' : qM} {pr : List (Int × List Int)} {s : rS} (h : mR M pr s) (f : ∀ o ∈ [31, 32, 33, 34, 35, 36, 37], M' o = M o) (h1 : ∀ k ∈ [18, 22, 24], M' 27 k = M 27 k) : mR M' pr s := by
  obtain ⟨va, ce, lo, re, ou⟩ := s
  obtain ⟨a1, a2, a3, a4, a5⟩ := h
  have e31 := f 31 (by decide)
  have e32 := f 32 (by decide)
  have e33 := f 33 (by decide)
  have e34 := f 34 (by decide)
  have e35 := f 35 (by decide)
  have e36 := f 36 (by decide)
  unfold mR
  rw [e31, e32, e33, e34, e35, e36, h1 18 (by decide), h1 22 (by decide)]
  exact ⟨a1, a2, a3, a4, a5.keep (h1 24 (by decide)) (f 37 (by decide))⟩
theorem mR.fmk {M M' : qM} {pr : List (Int × List Int)} {s : rS} {os ks : List Nat} (h : mR M pr s) (f : fm os ks M M') (ho : ∀ o ∈ [31, 32, 33, 34, 35, 36, 37], o ∉ os) (hk : ∀ k ∈ [18, 22, 24], k ∉ ks) : mR M' pr s :=
  h.keep (fun o q => f.1 o (ho o q) (by simp at q; omega)) (fun k q => f.2 k (hk k q))
/-- error or the next line -/
def jQ (M : qM) (pr : List (Int × List Int)) (s : rS) (res : pR) (M' : qM) : Prop := fm mFo mFk M M' ∧ M' 27 14 = M 27 14 ∧ match res with
  | .error e => M' 27 26 = iI e ∧ mR M' pr s
  | .ok (j, s') => M' 27 26 = iI 0 ∧ mR M' pr s' ∧ M' 27 15 = iI (off pr j)
/-- the same without a place -/
def wQ (M : qM) (pr : List (Int × List Int)) (s : rS) (res : pR) (M' : qM) : Prop := fm mFo mFk M M' ∧ M' 27 14 = M 27 14 ∧ match res with
  | .error e => M' 27 26 = iI e ∧ mR M' pr s
  | .ok (_, s') => M' 27 26 = iI 0 ∧ mR M' pr s'
theorem jQ.of {M M1 M2 : qM} {pr : List (Int × List Int)} {s : rS} {res : pR} (h : jQ M1 pr s res M2) (f : fm mFo mFk M M1) (h14 : M1 27 14 = M 27 14) : jQ M pr s res M2 := by
  obtain ⟨a, b, c⟩ := h
  exact ⟨f.tr a, b.trans h14, c⟩
theorem wQ.of {M M1 M2 : qM} {pr : List (Int × List Int)} {s : rS} {res : pR} (h : wQ M1 pr s res M2) (f : fm mFo mFk M M1) (h14 : M1 27 14 = M 27 14) : wQ M pr s res M2 := by
  obtain ⟨a, b, c⟩ := h
  exact ⟨f.tr a, b.trans h14, c⟩
section MDoing
variable {l : Launch} {Γ : qG} {d r : Nat} {L : Nat → Int64} {pr : List (Int × List Int)} {s : rS}
theorem m_E {M : qM} {e : Nat} (he : e ≤ 200) {u : List Int} {pu li : Int} (hB : cB (M 30) e u) (h26 : M 27 26 = iI 0) (hR : mR M pr s) (hg : gds pr s) (ht : tbs (11, pu, 1, 0, 0, 0, li) u = true) : V l Γ T_TapedLinesModel_work (d + 4) r 0 [.ref 27, .int (iI ((e - u.length : Nat) : Int)), .int (iI e), .null, .null, .null, .null] [] (M, L) (q_n L (mW M e (sE s u))) := by
  obtain ⟨va, ce, lo, re, ou⟩ := s
  obtain ⟨a1, a2, -⟩ := hR
  have hl := hB.1
  refine m_work (d := d) he hB h26 ?_
  rw [← wk_N, a1, a2]
  exact (ex_fin hg.1 hg.2.1 ht (by omega)).2.1
theorem m_numberAt_5 {M : qM} {e : Nat} (he : e ≤ 200) : ∀ (u : List Int) (v : Int), (∀ c ∈ u, isD c = true) → cB (M 30) e u → V l Γ T_TapedLinesModel_numberAt d r 5 [.ref 27, .null, .int (iI e), .int (iI v), .int (iI ((e - u.length : Nat) : Int))] [] (M, L) (q_i L (fun x M' => x = iI (numV v u).1 ∧ M' = M)) := by
  intro u
  induction u with
  | nil =>
    intro v _ hB
    refine s_TapedLinesModel_numberAt_5 _ _ _ ?_
    rw [iI_le (by omega) (by omega) (by omega) (by omega)]
    exact ⟨fun _ => ⟨rfl, rfl⟩, fun q => by simp at q⟩
  | cons c t ih =>
    intro v hd hB
    obtain ⟨k1, k2, k3, k4⟩ := hB.hd
    refine s_TapedLinesModel_numberAt_5 _ _ _ ?_
    simp only [List.length_cons]
    rw [iI_le (by omega) (by omega) (by omega) (by omega), iI_nat (by omega) (by omega), Int.toNat_natCast, k1, iI_mul, iI_add (10 * v) c, iI_sub (10 * v + c) 48, iI_add, show ((e - (t.length + 1) : Nat) : Int) + 1 = ((e - t.length : Nat) : Int) by omega]
    unfold numV
    rw [if_pos (hd c (by simp))]
    exact ⟨fun q => by omega, fun _ => ⟨iI_in (by omega) (by omega) (by omega), ih _ (fun x hx => hd x (List.mem_cons_of_mem _ hx)) hB.tl⟩⟩
theorem m_jump {M : qM} {e : Nat} (he : e ≤ 200) {u : List Int} (hB : cB (M 30) e u) (htg : tg u) (hP : mPr M pr) (hr : rising pr) (hb : ∀ q ∈ pr, 0 ≤ q.1 ∧ q.1 < 256) (hR : mR M pr s) : V l Γ T_TapedLinesModel_jump (d + 1) r 0 [.ref 27, .int (iI ((e - u.length : Nat) : Int)), .int (iI e), .null] [] (M, L) (q_n L (fun M' => jQ M pr s (doJ pr (numV 0 u).1 s) M' ∧ fm [] [15, 26] M M')) := by
  obtain ⟨t1, t2, t3, t4⟩ := htg
  refine s_TapedLinesModel_jump_0 _ _ ⟨_, s_TapedLinesModel_numberAt_0 _ _ (m_numberAt_5 he u 0 t1 hB), ?_⟩
  rintro x1 M1 ⟨rfl, rfl⟩
  refine ⟨_, cm_find hP hr hb (by omega), ?_⟩
  rintro x2 M2 ⟨rfl, rfl⟩
  have hle := off_le pr (ix (numV 0 u).1 pr)
  have hpl := hP.2.1
  have f : ∀ w v : Int32, fm [] [15, 26] M2 (q_up (q_up M2 27 26 w) 27 15 v) := fun w v => (fm.rf.upk (by simp)).upk (by simp)
  have hRR : ∀ w v : Int32, mR (q_up (q_up M2 27 26 w) 27 15 v) pr s := fun w v => hR.fmk (f w v) (by decide) (by decide)
  unfold whereL doJ
  by_cases hh : hasL (numV 0 u).1 pr = true
  · rw [if_pos hh, if_pos hh, iI_0, iI_le (by omega) (by omega) (by omega) (by omega)]
    refine ⟨fun _ => s_TapedLinesModel_jump_21 _ _ ?_, fun q => by omega⟩
    rw [iI_0, iI_le (by omega) (by omega) (by omega) (by omega)]
    refine ⟨fun _ => ⟨⟨(f _ _).wk (by decide) (by decide), (f _ _).2 14 (by decide), ?_, hRR _ _, q_up_s⟩, f _ _⟩, fun q => by omega⟩
    rw [q_up_k (by decide), q_up_s]
  · rw [if_neg hh, if_neg hh, iI_0, iI_le (by omega) (by omega) (by omega) (by omega)]
    refine ⟨fun q => by omega, fun _ => s_TapedLinesModel_jump_21 _ _ ?_⟩
    rw [iI_0, iI_le (by omega) (by omega) (by omega) (by omega)]
    refine ⟨fun q => by omega, fun _ => ⟨⟨(f _ _).wk (by decide) (by decide), (f _ _).2 14 (by decide), ?_, hRR _ _⟩, f _ _⟩⟩
    rw [q_up_k (by decide), q_up_s]
theorem m_gosub {M : qM} {e i : Nat} (he : e ≤ 200) (hei : e = off pr (i + 1)) {u : List Int} (hB : cB (M 30) e u) (htg : tg u) (hP : mPr M pr) (hr : rising pr) (hb : ∀ q ∈ pr, 0 ≤ q.1 ∧ q.1 < 256) (hR : mR M pr s) (hg : gds pr s) : V l Γ T_TapedLinesModel_doGosub (d + 1 + 1) r 0 [.ref 27, .int (iI ((e - u.length : Nat) : Int)), .int (iI e)] [] (M, L) (q_n L (jQ M pr s (doG pr i (numV 0 u).1 s))) := by
  refine s_TapedLinesModel_doGosub_0 _ _ ⟨_, m_jump he hB htg hP hr hb hR, ?_⟩
  rintro M1 ⟨⟨f1, g1, hq⟩, ff⟩
  have hgj := g_J hg (numV 0 u).1
  unfold doG
  rcases ej : doJ pr (numV 0 u).1 s with er | ⟨j, va, ce, lo, re, ou⟩
  · rw [ej] at hq hgj
    obtain ⟨h26, hR1⟩ := hq
    have hgj : 1 ≤ er ∧ er ≤ 7 := hgj
    have hne : ¬ M1 27 26 = 0 := by rw [h26, iI_0, iI_eq (by omega) (by omega) (by omega) (by omega)]; omega
    refine ⟨fun _ => s_TapedLinesModel_doGosub_31 _ _ ⟨fun _ => ?_, fun q => absurd hne q⟩, fun q => absurd hne q⟩
    refine ⟨f1.upk (by decide), by rw [q_up_k (by decide)]; exact g1, by rw [q_up_s]; exact h26, hR1.keep (fun o ho => q_up_o (by simp at ho; omega)) (fun k hk => q_up_k (by simp at hk; omega))⟩
  · rw [ej] at hq
    have es : s = (va, ce, lo, re, ou) := by
      unfold doJ at ej
      split at ej
      · cases ej; rfl
      · cases ej
    subst es
    obtain ⟨h26, hR1, h15⟩ := hq
    have hRR := hR1
    obtain ⟨a1, a2, a3, ⟨a4, a5⟩, a6⟩ := hR1
    obtain ⟨-, -, -, ⟨hr6, -⟩, -⟩ := hg
    simp only
    rw [a4, iI_eq (by omega) (by omega) (by omega) (by omega)]
    refine ⟨fun q => absurd h26 q, fun _ => ⟨fun q => ?_, fun q => ?_⟩⟩
    · rw [if_pos (by omega), h26]
      refine s_TapedLinesModel_doGosub_31 _ _ ⟨fun q2 => absurd rfl q2, fun _ => ?_⟩
      rw [a4, iI_nat (by omega) (by omega), Int.toNat_natCast, iI_add, hei]
      refine ⟨iI_in (by omega) (by omega) (by omega), ((f1.upk (by decide)).upo (by decide) (by decide)).upk (by decide), ?_, ?_, ⟨?_, ?_, ⟨?_, ?_⟩, ⟨?_, ?_⟩, ?_⟩, ?_⟩
      · rw [q_up_k (by decide), q_up_o (by decide), q_up_k (by decide)]; exact g1
      · rw [q_up_k (by decide), q_up_o (by decide), q_up_s]
      · rw [q_up_o (by decide), q_up_o (by decide), q_up_o (by decide)]; exact a1
      · rw [q_up_o (by decide), q_up_o (by decide), q_up_o (by decide)]; exact a2
      · rw [q_up_k (by decide), q_up_o (by decide), q_up_k (by decide)]; exact a3.1
      · rw [q_up_o (by decide), q_up_o (by decide), q_up_o (by decide), q_up_o (by decide), q_up_o (by decide), q_up_o (by decide), q_up_o (by decide), q_up_o (by decide), q_up_o (by decide)]; exact a3.2
      · rw [q_up_s]; exact congrArg iI (by simp)
      · intro k hk
        rw [q_up_o (by decide)]
        rw [List.length_append, List.length_singleton] at hk
        by_cases hk2 : k = re.length
        · subst hk2
          rw [q_up_s]
          simp [List.getD_eq_getElem?_getD]
        · rw [q_up_k hk2, q_up_o (by decide), a5 k (by omega)]
          simp only [List.getD_eq_getElem?_getD]
          rw [List.getElem?_append_left (by omega)]
      · exact a6.keep (by rw [q_up_k (by decide), q_up_o (by decide), q_up_k (by decide)]) (by rw [q_up_o (by decide), q_up_o (by decide), q_up_o (by decide)])
      · rw [q_up_k (by decide), q_up_o (by decide), q_up_k (by decide)]; exact h15
    · rw [if_neg (by omega)]
      refine s_TapedLinesModel_doGosub_31 _ _ ⟨fun _ => ?_, fun q2 => absurd (by decide) q2⟩
      exact ⟨f1.upk (by decide), by rw [q_up_k (by decide)]; exact g1, q_up_s, hRR.keep (fun o ho => q_up_o (by simp at ho; omega)) (fun k hk => q_up_k (by simp at hk; omega))⟩
theorem m_return {M : qM} (hR : mR M pr s) (hg : gds pr s) : V l Γ T_TapedLinesModel_doReturn d r 0 [.ref 27] [] (M, L) (q_n L (jQ M pr s (doR s))) := by
  obtain ⟨va, ce, lo, re, ou⟩ := s
  have hRR := hR
  obtain ⟨a1, a2, a3, ⟨a4, a5⟩, a6⟩ := hR
  obtain ⟨-, -, -, ⟨hr6, -⟩, -⟩ := hg
  refine s_TapedLinesModel_doReturn_0 ?_
  unfold doR
  simp only
  rw [a4, iI_0, iI_eq (by omega) (by omega) (by omega) (by omega)]
  by_cases h0 : re.length = 0
  · rw [if_pos h0]
    refine ⟨fun q => by omega, fun _ => s_TapedLinesModel_doReturn_13 _ ⟨fun _ => ?_, fun q => absurd (by decide) q⟩⟩
    exact ⟨fm.rf.upk (by decide), q_up_k (by decide), q_up_s, hRR.keep (fun o ho => q_up_o (by simp at ho; omega)) (fun k hk => q_up_k (by simp at hk; omega))⟩
  · rw [if_neg h0]
    refine ⟨fun _ => s_TapedLinesModel_doReturn_13 _ ⟨fun q => absurd rfl q, fun _ => ?_⟩, fun q => by omega⟩
    rw [a4, iI_sub, iI_nat (by omega) (by omega), show ((re.length : Int) - 1).toNat = re.length - 1 by omega]
    refine ⟨iI_in (by omega) (by omega) (by omega), ((fm.rf.upk (by decide)).upk (by decide)).upk (by decide), ?_, ?_, ⟨?_, ?_, ⟨?_, ?_⟩, ⟨?_, ?_⟩, ?_⟩, ?_⟩
    · rw [q_up_k (by decide), q_up_k (by decide), q_up_k (by decide)]
    · rw [q_up_k (by decide), q_up_k (by decide), q_up_s]
    · rw [q_up_o (by decide), q_up_o (by decide), q_up_o (by decide)]; exact a1
    · rw [q_up_o (by decide), q_up_o (by decide), q_up_o (by decide)]; exact a2
    · rw [q_up_k (by decide), q_up_k (by decide), q_up_k (by decide)]; exact a3.1
    · rw [q_up_o (by decide), q_up_o (by decide), q_up_o (by decide), q_up_o (by decide), q_up_o (by decide), q_up_o (by decide), q_up_o (by decide), q_up_o (by decide), q_up_o (by decide)]; exact a3.2
    · rw [q_up_k (by decide), q_up_s, List.length_take]; exact congrArg iI (by omega)
    · intro k hk
      rw [List.length_take] at hk
      rw [q_up_o (by decide), q_up_o (by decide), q_up_o (by decide), a5 k (by omega)]
      simp only [List.getD_eq_getElem?_getD]
      rw [List.getElem?_take_of_lt (by omega)]
    · exact a6.keep (by rw [q_up_k (by decide), q_up_k (by decide), q_up_k (by decide)]) (by rw [q_up_o (by decide), q_up_o (by decide), q_up_o (by decide)])
    · rw [q_up_s]; exact a5 _ (by omega)
end MDoing
