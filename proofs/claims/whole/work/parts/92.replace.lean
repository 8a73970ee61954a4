section Replace
variable {l : Launch} {Γ : qG} {d r : Nat} {L : Nat → Int64}
theorem c_replace {M : qM} {pr : List (Int × List Int)} {z : Int} {o : List Int} (h : cPr M pr) (hb : ∀ q ∈ pr, 0 ≤ q.1 ∧ q.1 < 256) (hz : 1 ≤ z ∧ z ≤ 99) (h6 : rw (M 6) o) (hol : o.length ≤ 198) :
    V l Γ T_Program_replace (d + 1 + 1 + 1) r 0 [.ref 10, .int (iI z), .ref 6, .int (iI o.length), .null, .null, .null] [] (M, L) (q_i L (fun x M' => x = b2 (decide ((enc (edit z o pr)).length ≤ 200)) ∧ ((enc (edit z o pr)).length ≤ 200 → cPr M' (edit z o pr)) ∧ (¬ (enc (edit z o pr)).length ≤ 200 → M' = M) ∧ fr [10, 11] M M')) := by
  have hE := h.2.1
  have hhad := had_le z pr
  have hnl := newL_len z o
  have hel := edit_len z o pr
  have henc := enc_edit z o pr
  have hoff := off_had z pr
  have s44 : V l Γ T_Program_replace (d + 1 + 1 + 1) r 44 [.ref 10, .int (iI z), .ref 6, .int (iI o.length), .int (iI (off pr (ix z pr))), .int (iI ((off pr (ix z pr) + hadL z pr : Nat) : Int)), .null] [.int (iI ((off pr (ix z pr) + (newL z o).length : Nat) : Int))] (M, L) (q_i L (fun x M' => x = b2 (decide ((enc (edit z o pr)).length ≤ 200)) ∧ ((enc (edit z o pr)).length ≤ 200 → cPr M' (edit z o pr)) ∧ (¬ (enc (edit z o pr)).length ≤ 200 → M' = M) ∧ fr [10, 11] M M')) := by
    generalize off pr (ix z pr) = a at hhad henc ⊢
    generalize hadL z pr = hd at hhad hel henc ⊢
    have hnlb : (newL z o).length ≤ 200 := by rw [hnl]; split <;> omega
    refine s_Program_replace_44 _ _ _ _ _ ?_
    rw [h.1, iI_sub ((enc pr).length : Int) ((a + hd : Nat) : Int), iI_add (((enc pr).length : Int) - ((a + hd : Nat) : Int)) ((a + (newL z o).length : Nat) : Int), iI_le (by omega) (by omega) (by omega) (by omega)]
    refine ⟨fun hfit => ?_, fun hno => ⟨b2_f (by simp only [decide_eq_false_iff_not]; omega), fun q => by omega, fun _ => rfl, fr.rf⟩⟩
    have hfit2 : (enc (edit z o pr)).length ≤ 200 := by omega
    have en : ((enc pr).length : Int) - ((a + hd : Nat) : Int) = (((enc pr).length - (a + hd) : Nat) : Int) := by omega
    rw [en, iI_sub ((a + (newL z o).length : Nat) : Int) ((a + hd : Nat) : Int), iI_add ((enc pr).length : Int) (((a + (newL z o).length : Nat) : Int) - ((a + hd : Nat) : Int)), iI_add (a : Int) 1, iI_add (a : Int) 2]
    have e1 : ((enc pr).length : Int) + (((a + (newL z o).length : Nat) : Int) - ((a + hd : Nat) : Int)) = ((enc (edit z o pr)).length : Int) := by omega
    rw [e1]
    have nn : ∀ n : Nat, n < 100000 → ¬ (iI (n : Int)) < 0 ∧ (iI (n : Int)).toNatClampNeg = n := by
      intro n hn
      refine ⟨?_, by rw [iI_nat (by omega) (by omega), Int.toNat_natCast]⟩
      rw [iI_0, iI_lt (by omega) (by omega) (by omega) (by omega)]
      omega
    have n1 := nn (a + hd) (by omega)
    have n2 := nn (a + (newL z o).length) (by omega)
    have n3 := nn ((enc pr).length - (a + hd)) (by omega)
    have e2 : ((a : Int) + 2) = ((a + 2 : Nat) : Int) := by omega
    have e3 : ((a : Int) + 1) = ((a + 1 : Nat) : Int) := by omega
    rw [e2, e3, n1.2, n2.2, n3.2]
    refine ⟨⟨n1.1, n2.1, n3.1, by omega, by omega⟩, fun hz0 => ?_, fun hz0 => ?_⟩
    · rw [iI_0, iI_le (by omega) (by omega) (by omega) (by omega)] at hz0
      have ho : o = [] := List.length_eq_zero_iff.mp (by omega)
      have hs : newL z o = [] := by unfold newL; rw [if_pos ho]
      refine ⟨b2_t (by simpa using hfit2), fun _ => ⟨q_up_s, hfit2, ?_⟩, fun q => absurd hfit2 q, ?_⟩
      · rw [q_up_o (by decide)]
        intro i hi
        rw [q_cp_s (by omega) (by omega) (by omega), henc, gd_ed _ _ _ _ _ hhad, hs]
        rw [henc, hs] at hi
        simp only [List.length_append, List.length_take, List.length_drop, List.length_nil, Nat.add_zero] at hi ⊢
        by_cases hia : i < a
        · rw [if_neg (by omega), if_pos hia]
          exact h.2.2 i (by omega)
        · rw [if_pos (by omega), if_neg hia, if_neg (by omega), h.2.2 _ (by omega)]
          congr 2
          omega
      · refine fr.up (fun o' ho' => q_cp_o (fun e => ho' (by rw [e]; simp))) (by simp)
    · rw [iI_0, iI_le (by omega) (by omega) (by omega) (by omega)] at hz0
      have ho : o ≠ [] := fun e => by rw [e] at hz0; simp at hz0
      have hs : newL z o = z :: (o.length : Int) :: o := by unfold newL; rw [if_neg ho]
      have hnl2 : (newL z o).length = 2 + o.length := by rw [hnl, if_neg ho]
      have n4 := nn a (by omega)
      have n5 := nn (a + 1) (by omega)
      have n6 := nn (a + 2) (by omega)
      have n7 := nn o.length (by omega)
      rw [n4.2, n5.2, n6.2, n7.2]
      refine ⟨iI_in (by omega) (by omega) (by omega), iI_in (by omega) (by omega) (by omega), ⟨by decide, n6.1, n7.1, by rw [show (iI 0).toNatClampNeg = 0 from rfl]; omega, by omega⟩, b2_t (by simpa using hfit2), fun _ => ⟨?_, hfit2, ?_⟩, fun q => absurd hfit2 q, ?_⟩
      · rw [q_cp_o (by decide), q_up_o (by decide), q_up_o (by decide), q_up_s]
      · intro i hi
        have ei0 : iI 0 = iI ((0 : Nat) : Int) := rfl
        rw [ei0, q_cp_s (by omega) (by omega) (by omega), henc, gd_ed _ _ _ _ _ hhad]
        rw [henc] at hi
        simp only [List.length_append, List.length_take, List.length_drop] at hi
        by_cases hia : i < a
        · rw [if_neg (by omega), if_pos hia, q_up_k (by omega), q_up_k (by omega), q_up_o (by decide), q_cp_s (by omega) (by omega) (by omega), if_neg (by omega)]
          exact h.2.2 i (by omega)
        · rw [if_neg hia]
          by_cases hi2 : i < a + (newL z o).length
          · rw [if_pos hi2]
            by_cases h0 : i = a
            · subst h0
              rw [if_neg (by omega), q_up_k (by omega), q_up_s, hs, Nat.sub_self]
              rfl
            · by_cases h1 : i = a + 1
              · subst h1
                rw [if_neg (by omega), q_up_s, hs, show a + 1 - a = 1 by omega]
                rfl
              · rw [if_pos (by omega), q_up_o (by decide), q_up_o (by decide), q_up_o (by decide), q_cp_o (by decide), h6 _ (by omega), hs]
                obtain ⟨k, rfl⟩ : ∃ k, i = a + 2 + k := ⟨i - a - 2, by omega⟩
                rw [show 0 + (a + 2 + k - (a + 2)) = k by omega, show a + 2 + k - a = k + 1 + 1 by omega]
                rfl
          · rw [if_neg (by omega), if_neg hi2, q_up_k (by omega), q_up_k (by omega), q_up_o (by decide), q_cp_s (by omega) (by omega) (by omega), if_pos (by omega), h.2.2 _ (by omega)]
            congr 2
            omega
      · intro o' ho'
        have h11 : o' ≠ 11 := fun e => ho' (by rw [e]; simp)
        have h10 : o' ≠ 10 := fun e => ho' (by rw [e]; simp)
        rw [q_cp_o h11, q_up_o h11, q_up_o h11, q_up_o h10, q_cp_o h11]
  have s27 : V l Γ T_Program_replace (d + 1 + 1 + 1) r 27 [.ref 10, .int (iI z), .ref 6, .int (iI o.length), .int (iI (off pr (ix z pr))), .null, .null] [.int (iI ((off pr (ix z pr) + hadL z pr : Nat) : Int))] (M, L) (q_i L (fun x M' => x = b2 (decide ((enc (edit z o pr)).length ≤ 200)) ∧ ((enc (edit z o pr)).length ≤ 200 → cPr M' (edit z o pr)) ∧ (¬ (enc (edit z o pr)).length ≤ 200 → M' = M) ∧ fr [10, 11] M M')) := by
    have hoffl := off_le pr (ix z pr)
    refine s_Program_replace_27 _ _ _ _ ?_
    rw [iI_0, iI_eq (by omega) (by omega) (by omega) (by omega), iI_add (off pr (ix z pr) : Int) 2, iI_add ((off pr (ix z pr) : Int) + 2) (o.length : Int)]
    refine ⟨fun q => ?_, fun q => ?_⟩
    · have ho : o ≠ [] := fun e => q (by rw [e]; rfl)
      rw [hnl, if_neg ho] at s44
      rw [show ((off pr (ix z pr) : Int) + 2 + (o.length : Int)) = ((off pr (ix z pr) + (2 + o.length) : Nat) : Int) by omega]
      exact s44
    · have ho : o = [] := List.length_eq_zero_iff.mp (by omega)
      rw [hnl, if_pos ho] at s44
      exact s44
  refine s_Program_replace_0 _ _ ⟨_, c_firstFrom h hb (by omega), ?_⟩
  rintro x1 M1 ⟨rfl, rfl⟩
  refine ⟨_, c_lineNumbered h hb (by omega), ?_⟩
  rintro x2 M2 ⟨rfl, rfl⟩
  have hoffl := off_le pr (ix z pr)
  unfold whereL
  by_cases hl : hasL z pr = true
  · rw [if_pos hl, iI_eq (by omega) (by omega) (by omega) (by omega)]
    refine ⟨fun _ => ⟨_, c_behind h (hasL_lt hl), ?_⟩, fun q => by omega⟩
    rintro x3 M3 ⟨rfl, rfl⟩
    rw [if_pos hl] at hoff
    rw [hoff]
    exact s27
  · rw [if_neg hl, iI_eq (by omega) (by omega) (by omega) (by omega)]
    refine ⟨fun q => absurd rfl q, fun _ => ?_⟩
    have : hadL z pr = 0 := by unfold hadL; rw [if_neg hl]
    rw [this] at s27
    exact s27
end Replace
