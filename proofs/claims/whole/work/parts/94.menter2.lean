-- the reference's enter: the line goes in
/-- what enter leaves on the reference's side -/
def mEnt (M : qM) (t : List Int) (pr : List (Int × List Int)) (x : Int32) (M' : qM) : Prop := fr [27, 29, 30] M M' ∧ (∀ k, 10 < k → k ≠ 12 → k ≠ 14 → M' 27 k = M 27 k) ∧ M' 27 1 = iI 0 ∧ (match rLine t with
  | .error n => n ≤ t.length ∧ x = iI (-1 - ((t.length : Int) - n)) ∧ mPr M' pr ∧ M' 27 14 = M 27 14
  | .ok q => (0 ≤ q.1 ∧ q.1 ≤ 99 ∧ q.2.length ≤ 60) ∧ if (enc (edit q.1 q.2 pr)).length ≤ 200 then x = iI (enc (edit q.1 q.2 pr)).length ∧ mPr M' (edit q.1 q.2 pr) ∧ M' 27 14 = iI 0 else x = iI (-100) ∧ mPr M' pr ∧ M' 27 14 = M 27 14)
section MEnter2
variable {l : Launch} {Γ : qG} {d r : Nat} {L : Nat → Int64}
theorem cm_enter_130 {M : qM} {pr : List (Int × List Int)} {z : Int} {Q : Int32 → qM → Prop} (h : mPr M pr) (hb : ∀ q ∈ pr, 0 ≤ q.1 ∧ q.1 < 256) (h7 : M 27 7 = iI z) (hz : 0 ≤ z ∧ z ≤ 99) (hK : V l Γ T_TapedLinesModel_enter (d + 1) r 172 [.ref 27, .null, .null, .null, .int (iI (off pr (ix z pr)))] [] (M, L) (q_i L Q)) : ∀ (j i : Nat), i + j = ix z pr → V l Γ T_TapedLinesModel_enter (d + 1) r 130 [.ref 27, .null, .null, .null, .int (iI (off pr i))] [] (M, L) (q_i L Q) := by
  have hE := h.2.1
  intro j
  induction j with
  | zero =>
    intro i hi
    have hi : i = ix z pr := by omega
    subst hi
    have hle := off_le pr (ix z pr)
    refine s_TapedLinesModel_enter_130 _ ?_
    rw [h.1, iI_le (by omega) (by omega) (by omega) (by omega)]
    refine ⟨fun _ => hK, fun q => ?_⟩
    have hlt : ix z pr < pr.length := by
      by_cases hq : ix z pr < pr.length
      · exact hq
      · have : ix z pr = pr.length := by have := ix_le z pr; omega
        rw [this, off_end] at q
        exact absurd (Int.le_refl _) q
    have hnum := ix_at (n := z) hlt
    have hq := hb _ (List.getElem_mem hlt)
    rw [iI_nat (by omega) (by omega), Int.toNat_natCast, h.2.2 _ (by omega), enc_n hlt, h7, iI_le (by omega) (by omega) (by omega) (by omega)]
    exact ⟨iI_in (by omega) (by omega) (by omega), fun _ => hK, fun q2 => by omega⟩
  | succ j ih =>
    intro i hi
    have hlt : i < pr.length := by have := ix_le z pr; omega
    have hol := off_lt hlt
    have hos := off_s hlt
    have hnum := ix_below (n := z) hlt (by omega)
    have hq := hb _ (List.getElem_mem hlt)
    refine s_TapedLinesModel_enter_130 _ ?_
    rw [h.1, iI_le (by omega) (by omega) (by omega) (by omega), iI_nat (by omega) (by omega), Int.toNat_natCast, h.2.2 _ (by omega), enc_n hlt, h7, iI_le (by omega) (by omega) (by omega) (by omega), iI_add (off pr i : Int) 1, iI_add (off pr i : Int) 2, iI_nat (z := (off pr i : Int) + 1) (by omega) (by omega), show ((off pr i : Int) + 1).toNat = off pr i + 1 by omega, h.2.2 _ (by omega), enc_len hlt, iI_add]
    refine ⟨fun q => by omega, fun _ => ⟨iI_in (by omega) (by omega) (by omega), fun q => by omega, fun _ => ⟨iI_in (by omega) (by omega) (by omega), ?_⟩⟩⟩
    have := ih (i + 1) (by omega)
    rw [hos] at this
    rw [show ((off pr i : Int) + 2 + ((pr[i]).2.length : Int)) = ((off pr i + 2 + (pr[i]).2.length : Nat) : Int) by omega]
    exact this
theorem mPr_edit0 {M : qM} {pr : List (Int × List Int)} {z : Int} (h : mPr M pr) : (enc (edit z [] pr)).length + hadL z pr = (enc pr).length := by
  have := edit_len z [] pr
  rw [newL_len, if_pos rfl] at this
  omega
theorem edit_ins (z : Int) (o : List Int) (pr : List (Int × List Int)) (hr : rising pr) (ho : o ≠ []) : enc (edit z o pr) = (enc (edit z [] pr)).take (off (edit z [] pr) (ix z (edit z [] pr))) ++ (z :: (o.length : Int) :: o) ++ (enc (edit z [] pr)).drop (off (edit z [] pr) (ix z (edit z [] pr))) := by
  have hx := edit_ix z pr hr
  have hix := ix_le z pr
  have e0 : edit z [] pr = pr.take (ix z pr) ++ pr.drop (if hasL z pr = true then ix z pr + 1 else ix z pr) := by
    unfold edit
    rw [if_pos rfl, List.append_nil]
  rw [enc_take, enc_drop, hx, e0]
  have e1 : (pr.take (ix z pr) ++ pr.drop (if hasL z pr = true then ix z pr + 1 else ix z pr)).take (ix z pr) = pr.take (ix z pr) := List.take_left' (by simp; omega)
  have e2 : (pr.take (ix z pr) ++ pr.drop (if hasL z pr = true then ix z pr + 1 else ix z pr)).drop (ix z pr) = pr.drop (if hasL z pr = true then ix z pr + 1 else ix z pr) := List.drop_left' (by simp; omega)
  rw [e1, e2]
  unfold edit
  rw [if_neg ho, enc_app, enc_app]
  congr 2
  simp [enc]
theorem edit_mem {z : Int} {o : List Int} {pr : List (Int × List Int)} {q : Int × List Int} (h : q ∈ edit z o pr) : q ∈ pr ∨ (o ≠ [] ∧ q = (z, o)) := by
  unfold edit at h
  rw [List.mem_append, List.mem_append] at h
  rcases h with (h | h) | h
  · exact Or.inl (List.mem_of_mem_take h)
  · by_cases ho : o = []
    · rw [if_pos ho] at h; cases h
    · rw [if_neg ho, List.mem_singleton] at h
      exact Or.inr ⟨ho, h⟩
  · exact Or.inl (List.mem_of_mem_drop h)
theorem cm_enter {M : qM} {t : List Int} {pr : List (Int × List Int)} (ht : mText M t) (htc : ∀ c ∈ t, 32 ≤ c ∧ c ≤ 126) (hp : mPr M pr) (hr : rising pr) (hb : ∀ q ∈ pr, 0 ≤ q.1 ∧ q.1 < 256) : V l Γ T_TapedLinesModel_enter (d + 1 + 1 + 1 + 1 + 1) r 0 [.ref 27, .null, .null, .null, .null] [] (M, L) (q_i L (mEnt M t pr)) := by
  have hE := hp.2.1
  have hlt := ht.2.1
  refine s_TapedLinesModel_enter_0 ⟨_, s_TapedLinesModel_begin_0 (P := fun M' => M' = q_up (q_up (q_up (q_up (q_up (q_up M 27 0 (iI 0)) 27 1 (iI 0)) 27 3 (iI 0)) 27 10 (iI 0)) 27 7 (iI 0)) 27 5 (iI 0)) _ rfl, ?_⟩
  rintro M1 rfl
  generalize hM1 : q_up (q_up (q_up (q_up (q_up (q_up M 27 0 (iI 0)) 27 1 (iI 0)) 27 3 (iI 0)) 27 10 (iI 0)) 27 7 (iI 0)) 27 5 (iI 0) = M1
  have f1 : ∀ o, o ≠ 27 → M1 o = M o := by
    intro o ho
    rw [← hM1, q_up_o ho, q_up_o ho, q_up_o ho, q_up_o ho, q_up_o ho, q_up_o ho]
  have k1 : ∀ k, 10 < k → M1 27 k = M 27 k := by
    intro k hk
    rw [← hM1, q_up_k (by omega), q_up_k (by omega), q_up_k (by omega), q_up_k (by omega), q_up_k (by omega), q_up_k (by omega)]
  have k2 : M1 27 1 = iI 0 := by rw [← hM1, q_up_k (by omega), q_up_k (by omega), q_up_k (by omega), q_up_k (by omega), q_up_s]
  have hs : mSt M1 (0, 0, 0, 0, 0, 0, 0) := by
    refine ⟨by rw [← hM1, q_up_k (by omega), q_up_k (by omega), q_up_k (by omega), q_up_s], by rw [← hM1, q_up_k (by omega), q_up_s], fun q => by omega, fun q => by omega, fun q => by omega, fun q => by omega, by unfold wfs; omega⟩
  have h10 : M1 27 10 = iI 0 := by rw [← hM1, q_up_k (by omega), q_up_k (by omega), q_up_s]
  clear hM1
  rw [ht.1]
  -- what every end has in common
  have base : ∀ M2, FM M1 0 M2 → fr [27, 29, 30] M M2 ∧ (∀ k, 10 < k → k ≠ 12 → k ≠ 14 → M2 27 k = M 27 k) ∧ M2 27 1 = iI 0 ∧ mPr M2 pr ∧ M2 27 14 = M 27 14 := by
    intro M2 f
    refine ⟨fun o ho => ?_, fun k hk _ _ => ?_, ?_, ⟨?_, hE, ?_⟩, ?_⟩
    · rw [f.1 o (fun q => ho (by simp at q ⊢; omega)), f1 o (fun q => ho (by simp [q]))]
    · rw [f.2.1 k (Or.inr hk), k1 k hk]
    · rw [f.2.1 1 (by omega)]; exact k2
    · rw [f.2.1 12 (by omega), k1 12 (by omega)]; exact hp.1
    · rw [f.1 30 (by decide), f1 30 (by decide)]; exact hp.2.2
    · rw [f.2.1 14 (by omega), k1 14 (by omega)]
  have hline := ft_line t (by omega)
  refine cm_enter_22 t hlt htc M1 (0, 0, 0, 0, 0, 0, 0) (mEnt M t pr) ?_ ?_ t [] (0, 0, 0, 0, 0, 0, 0) [] M1 rfl hs h10 (rw_nil _) (Nat.le_refl _) (by rw [f1 28 (by decide)]; exact ht.2.2) FM.rf (pre_nil _).symm
  · intro n M2 he hn f
    obtain ⟨b1, b2', b3, b4, b5⟩ := base M2 f
    refine ⟨b1, b2', b3, ?_⟩
    rw [← hline, he]
    exact ⟨hn, rfl, b4, b5⟩
  · intro z o M2 he f h7 h10 h29 hol
    have hz1 := (rLine_ok (t := t) (z := z) (o := o) (by omega) (by rw [← hline]; exact he)).1
    have hz : 0 ≤ z ∧ z ≤ 99 := by omega
    obtain ⟨b1, b2', b3, b4, b5⟩ := base M2 f
    have hfin : ∀ x M', fr [27, 29, 30] M M' → (∀ k, 10 < k → k ≠ 12 → k ≠ 14 → M' 27 k = M 27 k) → M' 27 1 = iI 0 → (if (enc (edit z o pr)).length ≤ 200 then x = iI (enc (edit z o pr)).length ∧ mPr M' (edit z o pr) ∧ M' 27 14 = iI 0 else x = iI (-100) ∧ mPr M' pr ∧ M' 27 14 = M 27 14) → mEnt M t pr x M' := by
      intro x M' a1 a2 a3 a4
      refine ⟨a1, a2, a3, ?_⟩
      rw [← hline, he]
      exact ⟨⟨hz.1, hz.2, hol⟩, a4⟩
    have hel := edit_len z o pr
    have hel0 := mPr_edit0 (z := z) hp
    have hnl := newL_len z o
    have hhad := had_le z pr
    -- behind the removal
    have s130 : ∀ M3 : qM, (enc (edit z o pr)).length ≤ 200 → mPr M3 (edit z [] pr) → M3 27 7 = iI z → M3 27 10 = iI o.length → rw (M3 29) o → fr [27, 29, 30] M M3 → (∀ k, 10 < k → k ≠ 12 → k ≠ 14 → M3 27 k = M 27 k) → M3 27 1 = iI 0 → V l Γ T_TapedLinesModel_enter (d + 1 + 1 + 1 + 1 + 1) r 130 [.ref 27, .null, .null, .null, .int (iI 0)] [] (M3, L) (q_i L (mEnt M t pr)) := by
      intro M3 hfit p3 g7 g10 g29 fM kM tM
      have hb3 : ∀ q ∈ edit z [] pr, 0 ≤ q.1 ∧ q.1 < 256 := by
        intro q hq
        rcases edit_mem hq with h | ⟨h, -⟩
        · exact hb q h
        · exact absurd rfl h
      refine cm_enter_130 p3 hb3 g7 hz ?_ (ix z (edit z [] pr)) 0 (by omega)
      have hoffl := off_le (edit z [] pr) (ix z (edit z [] pr))
      refine s_TapedLinesModel_enter_172 _ ?_
      rw [g10, iI_0, iI_le (by omega) (by omega) (by omega) (by omega)]
      refine ⟨fun q => ?_, fun q => ?_⟩
      · have ho : o = [] := List.length_eq_zero_iff.mp (by omega)
        subst ho
        refine hfin _ _ (fM.up (by simp)) (fun k h1 h2 h3 => by rw [q_up_k h3]; exact kM k h1 h2 h3) (by rw [q_up_k (by decide)]; exact tM) ?_
        rw [if_pos hfit]
        exact ⟨p3.1, ⟨by rw [q_up_k (by decide)]; exact p3.1, p3.2.1, by rw [q_up_o (by decide)]; exact p3.2.2⟩, q_up_s⟩
      · have ho : o ≠ [] := fun e => by rw [e] at q; simp at q
        rw [if_neg ho] at hnl
        refine ⟨_, cm_insert (enc (edit z [] pr)) o (off (edit z [] pr) (ix z (edit z [] pr))) z (by omega) hoffl p3.1 g10 g7 g29 p3.2.2, ?_⟩
        rintro M4 ⟨r4, s4, f4, k4⟩
        have hins := edit_ins z o pr hr ho
        refine hfin _ _ ((fM.tr (f4.wk (by simp))).up (by simp)) (fun k h1 h2 h3 => by rw [q_up_k h3, k4 k h2]; exact kM k h1 h2 h3) (by rw [q_up_k (by decide), k4 1 (by decide)]; exact tM) ?_
        rw [if_pos hfit]
        have hsz : M4 27 12 = iI (enc (edit z o pr)).length := by rw [s4]; exact congrArg iI (by omega)
        exact ⟨hsz, ⟨by rw [q_up_k (by decide)]; exact hsz, hfit, by rw [q_up_o (by decide), hins]; exact r4⟩, q_up_s⟩
    -- room
    have s118 : (enc (edit z o pr)).length ≤ 200 → V l Γ T_TapedLinesModel_enter (d + 1 + 1 + 1 + 1 + 1) r 118 [.ref 27, .null, .int (iI (whereL z pr)), .null, .null] [] (M2, L) (q_i L (mEnt M t pr)) := by
      intro hfit
      have hoffl := off_le pr (ix z pr)
      refine s_TapedLinesModel_enter_118 _ ?_
      unfold whereL
      by_cases hl : hasL z pr = true
      · rw [if_pos hl, iI_0, iI_lt (by omega) (by omega) (by omega) (by omega)]
        have hlt2 := hasL_lt hl
        have hdl : hadL z pr = 2 + (pr[ix z pr]).2.length := by
          unfold hadL
          rw [if_pos hl]
          simp [List.getD_eq_getElem?_getD, hlt2]
        refine ⟨fun q => by omega, fun _ => ⟨_, cm_remove (enc pr) (off pr (ix z pr)) (hadL z pr) hE hhad (by omega) b4.1 b4.2.2 (by rw [enc_len hlt2, hdl]; omega), ?_⟩⟩
        rintro M3 ⟨r3, s3, f3, k3⟩
        refine s130 M3 hfit ⟨?_, by omega, ?_⟩ (by rw [k3 7 (by decide)]; exact h7) (by rw [k3 10 (by decide)]; exact h10) (by rw [f3 29 (by decide)]; exact h29) (b1.tr (f3.wk (by simp))) (fun k h1 h2 h3 => by rw [k3 k h2]; exact b2' k h1 h2 h3) (by rw [k3 1 (by decide)]; exact b3)
        · rw [s3]; exact congrArg iI (by omega)
        · rw [enc_edit]
          unfold newL
          rw [if_pos rfl, List.append_nil]
          exact r3
      · rw [if_neg hl, iI_0, iI_lt (by omega) (by omega) (by omega) (by omega)]
        refine ⟨fun _ => ?_, fun q => by omega⟩
        have e0 : edit z [] pr = pr := by
          unfold edit
          rw [if_pos rfl, List.append_nil, if_neg hl, List.take_append_drop]
        exact s130 M2 hfit (by rw [e0]; exact b4) h7 h10 h29 b1 b2' b3
    have s88 : V l Γ T_TapedLinesModel_enter (d + 1 + 1 + 1 + 1 + 1) r 88 [.ref 27, .null, .int (iI (whereL z pr)), .null, .null] [.int (iI (hadL z pr))] (M2, L) (q_i L (mEnt M t pr)) := by
      refine s_TapedLinesModel_enter_88 _ _ ?_
      rw [h10, b4.1, iI_0, iI_le (by omega) (by omega) (by omega) (by omega), iI_sub ((enc pr).length : Int) (hadL z pr : Int), iI_add (((enc pr).length : Int) - (hadL z pr : Int)) 2, iI_add (((enc pr).length : Int) - (hadL z pr : Int) + 2) (o.length : Int), iI_le (by omega) (by omega) (by omega) (by omega)]
      refine ⟨fun q => s118 ?_, fun q => ⟨fun q2 => s118 ?_, fun q2 => ?_⟩⟩
      · have ho : o = [] := List.length_eq_zero_iff.mp (by omega)
        rw [if_pos ho] at hnl
        omega
      · have ho : o ≠ [] := fun e => by rw [e] at q; simp at q
        rw [if_neg ho] at hnl
        omega
      · have ho : o ≠ [] := fun e => by rw [e] at q; simp at q
        rw [if_neg ho] at hnl
        refine hfin _ _ b1 b2' b3 ?_
        rw [if_neg (by omega)]
        exact ⟨rfl, b4, b5⟩
    rw [h7]
    refine ⟨_, cm_find b4 hr hb (by omega), ?_⟩
    rintro x2 M3 ⟨rfl, rfl⟩
    have hoffl := off_le pr (ix z pr)
    by_cases hl : hasL z pr = true
    · have hw : whereL z pr = (off pr (ix z pr) : Int) := by unfold whereL; rw [if_pos hl]
      have hlt2 := hasL_lt hl
      have hol2 := off_lt hlt2
      have hdl : hadL z pr = 2 + (pr[ix z pr]).2.length := by
        unfold hadL
        rw [if_pos hl]
        simp [List.getD_eq_getElem?_getD, hlt2]
      rw [hw] at s88 ⊢
      rw [iI_0, iI_le (by omega) (by omega) (by omega) (by omega), iI_add (off pr (ix z pr) : Int) 1, iI_nat (by omega) (by omega), show ((off pr (ix z pr) : Int) + 1).toNat = off pr (ix z pr) + 1 by omega, b4.2.2 _ (by omega), enc_len hlt2, iI_add]
      refine ⟨fun _ => ⟨iI_in (by omega) (by omega) (by omega), ?_⟩, fun q => by omega⟩
      rw [hdl] at s88
      exact s88
    · have hw : whereL z pr = -1 := by unfold whereL; rw [if_neg hl]
      have hdl : hadL z pr = 0 := by unfold hadL; rw [if_neg hl]
      rw [hw, hdl] at s88
      rw [hw]
      exact ⟨fun q => absurd q (by decide), fun _ => s88⟩
end MEnter2
