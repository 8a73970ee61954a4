-- enter, both sides
theorem rising_iff (pr : List (Int × List Int)) : rising pr ↔ pr.Pairwise (fun a b => a.1 < b.1) := by
  rw [List.pairwise_iff_getElem]
  exact ⟨fun h i j hi hj hij => h i j hi hj hij, fun h i j hi hj hij => h i j hi hj hij⟩
theorem rising_edit {z : Int} {o : List Int} {pr : List (Int × List Int)} (hr : rising pr) : rising (edit z o pr) := by
  have h1 : ∀ q ∈ pr.take (ix z pr), q.1 < z := by
    intro q hq
    obtain ⟨i, hi, e⟩ := List.mem_iff_getElem.mp hq
    have hi2 : i < ix z pr ∧ i < pr.length := by simp only [List.length_take] at hi; omega
    have := ix_below (n := z) (pr := pr) (i := i) hi2.2 hi2.1
    rw [List.getElem_take] at e
    rw [← e]
    exact this
  have h2 : ∀ q ∈ pr.drop (if hasL z pr = true then ix z pr + 1 else ix z pr), z < q.1 := by
    intro q hq
    obtain ⟨i, hi, e⟩ := List.mem_iff_getElem.mp hq
    rw [List.getElem_drop] at e
    rw [← e]
    simp only [List.length_drop] at hi
    by_cases hl : hasL z pr = true
    · have hlt := hasL_lt hl
      simp only [if_pos hl] at hi ⊢
      have h3 := hr (ix z pr) (ix z pr + 1 + i) hlt (by omega) (by omega)
      rw [hasL_at hlt, decide_eq_true_eq] at hl
      rw [hl] at h3
      exact h3
    · simp only [if_neg hl] at hi ⊢
      have hlt : ix z pr < pr.length := by omega
      have h3 := ix_at (n := z) hlt
      have h4 : (pr[ix z pr]).1 ≠ z := by
        intro e
        rw [hasL_at hlt] at hl
        exact hl (by simp [e])
      cases i with
      | zero => simp only [Nat.add_zero]; omega
      | succ i =>
        have h5 := hr (ix z pr) (ix z pr + (i + 1)) hlt (by omega) (by omega)
        omega
  rw [rising_iff] at hr ⊢
  unfold edit
  rw [List.pairwise_append, List.pairwise_append]
  refine ⟨⟨hr.sublist (List.take_sublist _ _), ?_, ?_⟩, hr.sublist (List.drop_sublist _ _), ?_⟩
  · by_cases ho : o = []
    · rw [if_pos ho]; exact List.Pairwise.nil
    · rw [if_neg ho]; exact List.pairwise_singleton _ _
  · intro a ha b hb
    by_cases ho : o = []
    · rw [if_pos ho] at hb; cases hb
    · rw [if_neg ho, List.mem_singleton] at hb
      subst hb
      exact h1 a ha
  · intro a ha b hb
    have hb2 := h2 b hb
    rw [List.mem_append] at ha
    rcases ha with ha | ha
    · have := h1 a ha
      omega
    · by_cases ho : o = []
      · rw [if_pos ho] at ha; cases ha
      · rw [if_neg ho, List.mem_singleton] at ha
        subst ha
        exact hb2
def cEnt (M : qM) (t : List Int) (pr : List (Int × List Int)) (x : Int32) (M' : qM) : Prop := fr [1, 5, 6, 9, 10, 11] M M' ∧ shIs M' 1 [] ∧ (match rLine t with
  | .error n => x = iI (-1 - ((t.length : Int) - n)) ∧ cPr M' pr ∧ M' 9 = M 9
  | .ok q => if (enc (edit q.1 q.2 pr)).length ≤ 200 then x = iI (enc (edit q.1 q.2 pr)).length ∧ cPr M' (edit q.1 q.2 pr) ∧ M' 9 4 = iI 0 else x = iI (-100) ∧ cPr M' pr ∧ M' 9 = M 9)
section PEnter
variable {l : Launch} {Γ : qG} {d r : Nat} {L : Nat → Int64}
theorem c_enter {M : qM} {t : List Int} {pr : List (Int × List Int)} (ht : shIs M 1 t) (htc : ∀ c ∈ t, 32 ≤ c ∧ c ≤ 126) (hp : cPr M pr) (hb : ∀ q ∈ pr, 0 ≤ q.1 ∧ q.1 < 256) : V l Γ T_TapedLines_enter (d + 8 + 1) r 0 [.ref 0, .null] [] (M, L) (q_i L (cEnt M t pr)) := by
  have hcap : cp (1 + 1) = 60 := by decide
  have h60 : t.length ≤ 60 := by have := ht.2.1; omega
  refine s_TapedLines_enter_0 ⟨_, c_readLine ht (fun c hc => by have := htc c hc; omega), ?_⟩
  rintro x1 M1 ⟨f1, h1⟩
  have p1 : cPr M1 pr := ⟨by rw [f1 10 (by decide)]; exact hp.1, hp.2.1, by rw [f1 11 (by decide)]; exact hp.2.2⟩
  have fM : fr [1, 5, 6, 9, 10, 11] M (q_up M1 1 1 (iI 0)) := (f1.wk (by simp)).up (by simp)
  have hsh : shIs (q_up M1 1 1 (iI 0)) 1 [] := shIs.wipe
  rcases h1 with ⟨z, o, e, rfl, hnum, hcnt, hby, hol⟩ | ⟨n, e, rfl, hn, hat⟩
  · refine ⟨fun _ => ?_, fun q => absurd (by decide) q⟩
    obtain ⟨hz, -⟩ := rLine_ok (by omega) e
    rw [hnum, hcnt]
    have p2 : cPr (q_up M1 1 1 (iI 0)) pr := ⟨by rw [q_up_o (by decide)]; exact p1.1, p1.2.1, by rw [q_up_o (by decide)]; exact p1.2.2⟩
    refine ⟨_, c_replace p2 hb hz (by rw [q_up_o (by decide)]; exact hby) (by omega), ?_⟩
    rintro x2 M2 ⟨rfl, a1, a2, f2⟩
    rw [b2_0]
    unfold cEnt
    rw [e]
    have hsh2 : shIs M2 1 [] := hsh.keep (f2 1 (by decide)) (f2 2 (by decide))
    refine ⟨fun q => ?_, fun q => ?_⟩
    · have hfit : (enc (edit z o pr)).length ≤ 200 := by simpa using q
      have a1 := a1 hfit
      refine ⟨(fM.tr (f2.wk (by simp))).up (by simp), hsh2.keep (q_up_o (by decide)) (q_up_o (by decide)), ?_⟩
      simp only [if_pos hfit]
      exact ⟨a1.1, ⟨by rw [q_up_o (by decide)]; exact a1.1, a1.2.1, by rw [q_up_o (by decide)]; exact a1.2.2⟩, q_up_s⟩
    · have hfit : ¬ (enc (edit z o pr)).length ≤ 200 := by simpa using q
      have a2 := a2 hfit
      refine ⟨fM.tr (f2.wk (by simp)), hsh2, ?_⟩
      simp only [if_neg hfit]
      rw [a2]
      exact ⟨trivial, p2, by rw [q_up_o (by decide)]; exact f1 9 (by decide)⟩
  · refine ⟨fun q => absurd rfl q, fun _ => ?_⟩
    unfold cEnt
    rw [e]
    refine ⟨fM, hsh, ?_, ⟨by rw [q_up_o (by decide)]; exact p1.1, p1.2.1, by rw [q_up_o (by decide)]; exact p1.2.2⟩, by rw [q_up_o (by decide)]; exact f1 9 (by decide)⟩
    rw [hat, iI_sub]
end PEnter
section PEnter2
variable {l : Launch} {Γ : qG} {M : qM}
theorem pair_enter (h : Rel okSt M) : p_enter l Γ 99 M (Rel okSt) := by
  intro L
  obtain ⟨h1, h2, h3, h4, h5, h6⟩ := h
  obtain ⟨t, t1, t2, t3⟩ := h1
  obtain ⟨pr, c1, m1, ⟨hr, hq⟩, hst⟩ := h6
  have hb : ∀ q ∈ pr, 0 ≤ q.1 ∧ q.1 < 256 := fun q hm => by have := hq q hm; omega
  have hlt := t2.2.1
  refine ⟨_, c_enter t1 t3 c1 hb, ?_⟩
  rintro x1 M1 ⟨f1, s1, e1⟩
  refine ⟨_, cm_enter (t := t) (pr := pr) ⟨by rw [f1 27 (by decide)]; exact t2.1, hlt, by rw [f1 28 (by decide)]; exact t2.2.2⟩ t3 ⟨by rw [f1 27 (by decide)]; exact m1.1, m1.2.1, by rw [f1 30 (by decide)]; exact m1.2.2⟩ hr hb, ?_⟩
  rintro x2 M2 ⟨f2, k2, ty2, e2⟩
  have f : fm [1, 5, 6, 9, 10, 11, 29, 30] [0, 1, 2, 3, 4, 5, 6, 7, 8, 9, 10, 12, 14] M M2 := by
    refine ⟨fun o a b => ?_, fun k a => ?_⟩
    · rw [f2 o (fun z => a (by simp at z ⊢; omega)), f1 o (fun z => a (by simp at z ⊢; omega))]
    · have : 10 < k ∧ k ≠ 12 ∧ k ≠ 14 := by simp at a; omega
      rw [k2 k this.1 this.2.1 this.2.2, f1 27 (by decide)]
  have g1 : ∀ o, o ∉ [27, 29, 30] → M2 o = M1 o := f2
  have hT : R_text M2 := ⟨[], s1.keep (g1 1 (by decide)) (g1 2 (by decide)), ⟨ty2, Nat.zero_le _, rw_nil _⟩, fun c hc => by cases hc⟩
  have hrest : R_out M2 ∧ R_page M2 ∧ R_tape M2 ∧ R_vars M2 := ⟨h2.keep f (by decide) (by decide), h3.keep f (by decide) (by decide), h4.keep f (by decide) (by decide), h5.keep f (by decide)⟩
  obtain ⟨r1, r2, r3, r4⟩ := hrest
  -- nothing changed: the state stays
  have stay : cPr M1 pr → M1 9 = M 9 → mPr M2 pr → M2 27 14 = M1 27 14 → R_prog okSt M2 := by
    intro a1 a2 a3 a4
    refine ⟨pr, ⟨by rw [g1 10 (by decide)]; exact a1.1, a1.2.1, by rw [g1 11 (by decide)]; exact a1.2.2⟩, a3, ⟨hr, hq⟩, ?_⟩
    have f' : fm [1, 5, 6, 10, 11, 29, 30] [0, 1, 2, 3, 4, 5, 6, 7, 8, 9, 10, 12] M M2 := by
      refine ⟨fun o a b => ?_, fun k a => ?_⟩
      · by_cases h9 : o = 9
        · subst h9
          rw [g1 9 (by decide), a2]
        · exact f.1 o (by simp at a ⊢; omega) b
      · by_cases h14 : k = 14
        · subst h14
          rw [a4, f1 27 (by decide)]
        · exact f.2 k (by simp at a ⊢; omega)
    exact hst.keep f' (by decide) (by decide)
  rcases e : rLine t with n | ⟨z, o⟩
  · rw [e] at e1 e2
    obtain ⟨rfl, a1, a2⟩ := e1
    obtain ⟨-, rfl, b1, b2'⟩ := e2
    exact ⟨rfl, hT, r1, r2, r3, r4, stay a1 a2 b1 b2'⟩
  · rw [e] at e1 e2
    obtain ⟨-, e2⟩ := e2
    by_cases hfit : (enc (edit z o pr)).length ≤ 200
    · simp only [if_pos hfit] at e1 e2
      obtain ⟨rfl, a1, a2⟩ := e1
      obtain ⟨rfl, b1, b2'⟩ := e2
      obtain ⟨hz, ho⟩ := rLine_ok (by omega) e
      refine ⟨rfl, hT, r1, r2, r3, r4, edit z o pr, ⟨by rw [g1 10 (by decide)]; exact a1.1, a1.2.1, by rw [g1 11 (by decide)]; exact a1.2.2⟩, b1, ⟨rising_edit hr, fun q hm => ?_⟩, 0, by rw [g1 9 (by decide)]; exact a2, b2', Or.inl rfl, fun q => by omega, fun q => by omega⟩
      rcases edit_mem hm with hm | ⟨hne, rfl⟩
      · exact hq q hm
      · exact ⟨hz.1, hz.2, ho.resolve_left hne⟩
    · simp only [if_neg hfit] at e1 e2
      obtain ⟨rfl, a1, a2⟩ := e1
      obtain ⟨rfl, b1, b2'⟩ := e2
      exact ⟨rfl, hT, r1, r2, r3, r4, stay a1 a2 b1 b2'⟩
end PEnter2
