-- the reference takes lines away and puts them in
theorem gd_cut (e : List Int) (a n j : Nat) (h : a + n ≤ e.length) : (e.take a ++ e.drop (a + n)).getD j 0 = if j < a then e.getD j 0 else e.getD (j + n) 0 := by
  simp only [List.getD_eq_getElem?_getD]
  by_cases hj : j < a
  · rw [if_pos hj, List.getElem?_append_left (by simp; omega), List.getElem?_take_of_lt hj]
  · rw [if_neg hj, List.getElem?_append_right (by simp; omega), List.getElem?_drop]
    congr 2
    simp
    omega
theorem gd_ins (e s : List Int) (a j : Nat) (h : a ≤ e.length) : (e.take a ++ s ++ e.drop a).getD j 0 = if j < a then e.getD j 0 else if j < a + s.length then s.getD (j - a) 0 else e.getD (j - s.length) 0 := by
  simp only [List.getD_eq_getElem?_getD]
  have hl : (e.take a).length = a := by simp; omega
  by_cases hj : j < a
  · rw [if_pos hj, List.append_assoc, List.getElem?_append_left (by omega), List.getElem?_take_of_lt hj]
  · rw [if_neg hj]
    by_cases hj2 : j < a + s.length
    · rw [if_pos hj2, List.append_assoc, List.getElem?_append_right (by omega), List.getElem?_append_left (by omega), hl]
    · rw [if_neg hj2, List.getElem?_append_right (by simp; omega), List.getElem?_drop]
      congr 2
      simp
      omega
section MEdit
variable {l : Launch} {Γ : qG} {d r : Nat} {L : Nat → Int64}
theorem cm_isWhole {M : qM} {s : rA} (h : mSt M s) : V l Γ T_TapedLinesModel_isWhole d r 0 [.ref 27, .null] [] (M, L) (q_i L (fun x M' => x = b2 (whl s) ∧ M' = M)) := by
  obtain ⟨st, pu, de, nu, w, le, li⟩ := s
  obtain ⟨h3, hl, hp, hd, hn, -, hw⟩ := h
  unfold wfs at hw
  obtain ⟨wst, wpu, wde, wnu, -, -, wli⟩ := hw
  have e38 : ∀ b : Bool, b = decide ((st = 14 ∨ st = 13) ∧ de = 1 ∧ pu = 0) → V l Γ T_TapedLinesModel_isWhole d r 38 [.ref 27, .null] [.int (b2 b)] (M, L) (q_i L (fun x M' => x = b2 (whl (st, pu, de, nu, w, le, li)) ∧ M' = M)) := by
    intro b hb
    refine s_TapedLinesModel_isWhole_38 _ ?_
    rw [h3, iI_eq (by omega) (by omega) (by omega) (by omega), iI_eq (by omega) (by omega) (by omega) (by omega), iI_eq (by omega) (by omega) (by omega) (by omega), iI_eq (by omega) (by omega) (by omega) (by omega), b2_0]
    unfold whl
    refine ⟨fun q => ⟨b2_t (by simp only [decide_eq_true_eq]; omega), rfl⟩, fun n1 => ⟨fun q => ⟨b2_t (by simp only [decide_eq_true_eq]; omega), rfl⟩, fun n2 => ⟨fun q => ⟨b2_t (by simp only [decide_eq_true_eq]; omega), rfl⟩, fun n3 => ⟨fun q => ⟨b2_t (by simp only [decide_eq_true_eq]; omega), rfl⟩, fun n4 => ⟨fun q => ⟨b2_f ?_, rfl⟩, fun q => ⟨b2_t ?_, rfl⟩⟩⟩⟩⟩⟩
    · rw [hb, decide_eq_false_iff_not] at q
      simp only [decide_eq_false_iff_not]
      omega
    · have q : b = true := by simpa using q
      rw [hb, decide_eq_true_eq] at q
      simp only [decide_eq_true_eq]
      omega
  have e18 : (st = 14 ∨ st = 13) → V l Γ T_TapedLinesModel_isWhole d r 18 [.ref 27, .null] [] (M, L) (q_i L (fun x M' => x = b2 (whl (st, pu, de, nu, w, le, li)) ∧ M' = M)) := by
    intro hs
    refine s_TapedLinesModel_isWhole_18 ?_
    rw [hd (by omega), hp (by omega), iI_0, iI_eq (by omega) (by omega) (by omega) (by omega), iI_eq (by omega) (by omega) (by omega) (by omega)]
    exact ⟨fun q => e38 false (by symm; simp only [decide_eq_false_iff_not]; omega), fun q => ⟨fun q2 => e38 false (by symm; simp only [decide_eq_false_iff_not]; omega), fun q2 => e38 true (by symm; simp only [decide_eq_true_eq]; omega)⟩⟩
  refine s_TapedLinesModel_isWhole_0 ?_
  rw [h3, iI_eq (by omega) (by omega) (by omega) (by omega), iI_eq (by omega) (by omega) (by omega) (by omega)]
  exact ⟨fun q => e18 (Or.inl q), fun q => ⟨fun q2 => e38 false (by symm; simp only [decide_eq_false_iff_not]; omega), fun q2 => e18 (Or.inr (by omega))⟩⟩
/-- remove, on the row of bytes -/
theorem cm_remove_15 (e : List Int) (a n : Nat) (he : e.length ≤ 200) (ha : a + n ≤ e.length) : ∀ (j k : Nat) (M : qM), k + j = e.length → a + n ≤ k → M 27 12 = iI e.length → (∀ i, i < k - n → M 30 i = iI ((e.take a ++ e.drop (a + n)).getD i 0)) → (∀ i, k ≤ i → i < e.length → M 30 i = iI (e.getD i 0)) →
    V l Γ T_TapedLinesModel_remove d r 15 [.ref 27, .null, .int (iI n), .int (iI k)] [] (M, L) (q_n L (fun M' => rw (M' 30) (e.take a ++ e.drop (a + n)) ∧ M' 27 12 = iI ((e.length - n : Nat) : Int) ∧ fr [27, 30] M M' ∧ ∀ k, k ≠ 12 → M' 27 k = M 27 k)) := by
  intro j
  induction j with
  | zero =>
    intro k M hk hak h12 h1 h2
    refine s_TapedLinesModel_remove_15 _ _ ?_
    rw [h12, iI_le (by omega) (by omega) (by omega) (by omega), iI_sub]
    refine ⟨fun _ => ⟨?_, ?_, fr.rf.up (by simp), fun k hk => q_up_k hk⟩, fun q => by omega⟩
    · rw [q_up_o (by decide)]
      intro i hi
      exact h1 i (by simp at hi; omega)
    · rw [q_up_s]
      exact congrArg iI (by omega)
  | succ j ih =>
    intro k M hk hak h12 h1 h2
    refine s_TapedLinesModel_remove_15 _ _ ?_
    rw [h12, iI_le (by omega) (by omega) (by omega) (by omega), iI_sub (e.length : Int) n, iI_sub (k : Int) n, iI_nat (z := (k : Int)) (by omega) (by omega), iI_nat (z := (k : Int) - n) (by omega) (by omega), iI_add]
    refine ⟨fun q => by omega, fun _ => ⟨iI_in (by omega) (by omega) (by omega), iI_in (by omega) (by omega) (by omega), ?_⟩⟩
    have ek : ((k : Int) - n).toNat = k - n := by omega
    have ek2 : ((k : Int) + 1) = ((k + 1 : Nat) : Int) := by omega
    rw [ek, ek2, Int.toNat_natCast, h2 k (Nat.le_refl _) (by omega)]
    have := ih (k + 1) (q_up M 30 (k - n) (iI (e.getD k 0))) (by omega) (by omega) (by rw [q_up_o (by decide)]; exact h12) ?_ ?_
    · refine this.mono (fun o S hq => ?_)
      obtain ⟨M', e1, e2, a1, a2, a3, a4⟩ := hq
      exact ⟨M', e1, e2, a1, a2, (fr.rf.up (by simp)).tr a3, fun k hk => by rw [a4 k hk, q_up_o (by decide)]⟩
    · intro i hi
      by_cases hik : i = k - n
      · subst hik
        rw [q_up_s, gd_cut e a n _ ha, if_neg (by omega)]
        congr 2
        omega
      · rw [q_up_k hik]
        exact h1 i (by omega)
    · intro i hi hi2
      rw [q_up_k (by omega)]
      exact h2 i (by omega) hi2
theorem cm_remove {M : qM} (e : List Int) (a n : Nat) (he : e.length ≤ 200) (ha : a + n ≤ e.length) (hn : 2 ≤ n) (h12 : M 27 12 = iI e.length) (hr : rw (M 30) e) (hb : e.getD (a + 1) 0 = (n : Int) - 2) :
    V l Γ T_TapedLinesModel_remove d r 0 [.ref 27, .int (iI a), .null, .null] [] (M, L) (q_n L (fun M' => rw (M' 30) (e.take a ++ e.drop (a + n)) ∧ M' 27 12 = iI ((e.length - n : Nat) : Int) ∧ fr [27, 30] M M' ∧ ∀ k, k ≠ 12 → M' 27 k = M 27 k)) := by
  refine s_TapedLinesModel_remove_0 _ ?_
  rw [iI_add, iI_nat (by omega) (by omega), show ((a : Int) + 1).toNat = a + 1 by omega, hr (a + 1) (by omega), hb, iI_add, iI_add]
  refine ⟨iI_in (by omega) (by omega) (by omega), ?_⟩
  rw [show (2 : Int) + ((n : Int) - 2) = n by omega, show (a : Int) + (n : Int) = ((a + n : Nat) : Int) by omega]
  refine cm_remove_15 e a n he ha (e.length - (a + n)) (a + n) M (by omega) (Nat.le_refl _) h12 (fun i hi => ?_) (fun i _ hi => hr i hi)
  rw [gd_cut e a n i ha, if_pos (by omega)]
  exact hr i (by omega)
/-- insert, on the row of bytes: first all behind is shifted -/
theorem cm_insert_63 (e s : List Int) (a : Nat) (li : Int) (he : e.length + 2 + s.length ≤ 200) (ha : a ≤ e.length) : ∀ (j k : Nat) (M : qM), k + j = s.length → M 27 12 = iI e.length → M 27 10 = iI s.length → rw (M 29) s → (∀ i, i < a + 2 + k → M 30 i = iI ((e.take a ++ (li :: (s.length : Int) :: s) ++ e.drop a).getD i 0)) → (∀ i, a + 2 + s.length ≤ i → i < e.length + 2 + s.length → M 30 i = iI ((e.take a ++ (li :: (s.length : Int) :: s) ++ e.drop a).getD i 0)) →
    V l Γ T_TapedLinesModel_insert d r 63 [.ref 27, .int (iI a), .int (iI ((2 + s.length : Nat) : Int)), .int (iI k)] [] (M, L) (q_n L (fun M' => rw (M' 30) (e.take a ++ (li :: (s.length : Int) :: s) ++ e.drop a) ∧ M' 27 12 = iI ((e.length + 2 + s.length : Nat) : Int) ∧ fr [27, 30] M M' ∧ ∀ k, k ≠ 12 → M' 27 k = M 27 k)) := by
  intro j
  induction j with
  | zero =>
    intro k M hk h12 h10 h29 h1 h2
    refine s_TapedLinesModel_insert_63 _ _ _ ?_
    rw [h10, h12, iI_le (by omega) (by omega) (by omega) (by omega), iI_add]
    refine ⟨fun _ => ⟨?_, ?_, fr.rf.up (by simp), fun k hk => q_up_k hk⟩, fun q => by omega⟩
    · rw [q_up_o (by decide)]
      intro i hi
      simp at hi
      by_cases hia : i < a + 2 + k
      · exact h1 i hia
      · exact h2 i (by omega) (by omega)
    · rw [q_up_s]
      exact congrArg iI (by omega)
  | succ j ih =>
    intro k M hk h12 h10 h29 h1 h2
    refine s_TapedLinesModel_insert_63 _ _ _ ?_
    rw [h10, iI_le (by omega) (by omega) (by omega) (by omega), iI_add, iI_add, iI_nat (by omega) (by omega), iI_nat (by omega) (by omega), iI_add]
    refine ⟨fun q => by omega, fun _ => ⟨iI_in (by omega) (by omega) (by omega), iI_in (by omega) (by omega) (by omega), ?_⟩⟩
    rw [show ((a : Int) + 2 + (k : Int)).toNat = a + 2 + k by omega, Int.toNat_natCast, show ((k : Int) + 1) = ((k + 1 : Nat) : Int) by omega, h29 k (by omega)]
    have := ih (k + 1) (q_up M 30 (a + 2 + k) (iI (s.getD k 0))) (by omega) (by rw [q_up_o (by decide)]; exact h12) (by rw [q_up_o (by decide)]; exact h10) (by rw [q_up_o (by decide)]; exact h29) ?_ ?_
    · refine this.mono (fun o S hq => ?_)
      obtain ⟨M', e1, e2, a1, a2, a3, a4⟩ := hq
      exact ⟨M', e1, e2, a1, a2, (fr.rf.up (by simp)).tr a3, fun k hk => by rw [a4 k hk, q_up_o (by decide)]⟩
    · intro i hi
      by_cases hik : i = a + 2 + k
      · subst hik
        rw [q_up_s, gd_ins e _ a _ ha, if_neg (by omega), if_pos (by simp; omega)]
        rw [show a + 2 + k - a = k + 1 + 1 by omega]
        rfl
      · rw [q_up_k hik]
        exact h1 i (by omega)
    · intro i hi hi2
      rw [q_up_k (by omega)]
      exact h2 i hi hi2
theorem cm_insert_14 (e s : List Int) (a : Nat) (li : Int) (he : e.length + 2 + s.length ≤ 200) (ha : a ≤ e.length) : ∀ (j : Nat) (M : qM), a + j ≤ e.length → M 27 12 = iI e.length → M 27 10 = iI s.length → M 27 7 = iI li → rw (M 29) s → (∀ i, i < a + j → M 30 i = iI (e.getD i 0)) → (∀ i, a + j ≤ i → i < e.length → M 30 (i + 2 + s.length) = iI (e.getD i 0)) →
    V l Γ T_TapedLinesModel_insert d r 14 [.ref 27, .int (iI a), .int (iI ((2 + s.length : Nat) : Int)), .int (iI (((a + j : Nat) : Int) - 1))] [] (M, L) (q_n L (fun M' => rw (M' 30) (e.take a ++ (li :: (s.length : Int) :: s) ++ e.drop a) ∧ M' 27 12 = iI ((e.length + 2 + s.length : Nat) : Int) ∧ fr [27, 30] M M' ∧ ∀ k, k ≠ 12 → M' 27 k = M 27 k)) := by
  intro j
  induction j with
  | zero =>
    intro M hj h12 h10 h7 h29 h1 h2
    refine s_TapedLinesModel_insert_14 _ _ _ ?_
    rw [h10, h7, iI_lt (by omega) (by omega) (by omega) (by omega), iI_add, iI_nat (by omega) (by omega), iI_nat (by omega) (by omega)]
    refine ⟨fun _ => ⟨iI_in (by omega) (by omega) (by omega), iI_in (by omega) (by omega) (by omega), ?_⟩, fun q => by omega⟩
    rw [show ((a : Int) + 1).toNat = a + 1 by omega, Int.toNat_natCast]
    have := cm_insert_63 (l := l) (Γ := Γ) (d := d) (r := r) (L := L) e s a li he ha s.length 0 (q_up (q_up M 30 a (iI li)) 30 (a + 1) (iI s.length)) (by omega) (by rw [q_up_o (by decide), q_up_o (by decide)]; exact h12) (by rw [q_up_o (by decide), q_up_o (by decide)]; exact h10) (by rw [q_up_o (by decide), q_up_o (by decide)]; exact h29) ?_ ?_
    · refine this.mono (fun o S hq => ?_)
      obtain ⟨M', e1, e2, a1, a2, a3, a4⟩ := hq
      exact ⟨M', e1, e2, a1, a2, ((fr.rf.up (by simp)).up (by simp)).tr a3, fun k hk => by rw [a4 k hk, q_up_o (by decide), q_up_o (by decide)]⟩
    · intro i hi
      rw [gd_ins e _ a i ha]
      by_cases h0 : i < a
      · rw [if_pos h0, q_up_k (by omega), q_up_k (by omega)]
        exact h1 i (by omega)
      · rw [if_neg h0, if_pos (by simp; omega)]
        by_cases hia : i = a
        · subst hia
          rw [q_up_k (by omega), q_up_s, Nat.sub_self]
          rfl
        · have : i = a + 1 := by omega
          subst this
          rw [q_up_s, show a + 1 - a = 1 by omega]
          rfl
    · intro i hi hi2
      rw [gd_ins e _ a i ha, if_neg (by omega), if_neg (by simp; omega), q_up_k (by omega), q_up_k (by omega)]
      have := h2 (i - (2 + s.length)) (by omega) (by omega)
      rw [show i - (2 + s.length) + 2 + s.length = i by omega] at this
      rw [this]
      congr 2
      simp
      omega
  | succ j ih =>
    intro M hj h12 h10 h7 h29 h1 h2
    refine s_TapedLinesModel_insert_14 _ _ _ ?_
    rw [iI_lt (by omega) (by omega) (by omega) (by omega), iI_add (((a + (j + 1) : Nat) : Int) - 1) ((2 + s.length : Nat) : Int), iI_nat (z := ((a + (j + 1) : Nat) : Int) - 1) (by omega) (by omega), iI_nat (z := ((a + (j + 1) : Nat) : Int) - 1 + ((2 + s.length : Nat) : Int)) (by omega) (by omega), iI_add (((a + (j + 1) : Nat) : Int) - 1) (-1)]
    refine ⟨fun q => by omega, fun _ => ⟨iI_in (by omega) (by omega) (by omega), iI_in (by omega) (by omega) (by omega), ?_⟩⟩
    rw [show (((a + (j + 1) : Nat) : Int) - 1).toNat = a + j by omega, show (((a + (j + 1) : Nat) : Int) - 1 + ((2 + s.length : Nat) : Int)).toNat = a + j + 2 + s.length by omega, show (((a + (j + 1) : Nat) : Int) - 1 + -1) = ((a + j : Nat) : Int) - 1 by omega, h1 (a + j) (by omega)]
    have := ih (q_up M 30 (a + j + 2 + s.length) (iI (e.getD (a + j) 0))) (by omega) (by rw [q_up_o (by decide)]; exact h12) (by rw [q_up_o (by decide)]; exact h10) (by rw [q_up_o (by decide)]; exact h7) (by rw [q_up_o (by decide)]; exact h29) ?_ ?_
    · refine this.mono (fun o S hq => ?_)
      obtain ⟨M', e1, e2, a1, a2, a3, a4⟩ := hq
      exact ⟨M', e1, e2, a1, a2, (fr.rf.up (by simp)).tr a3, fun k hk => by rw [a4 k hk, q_up_o (by decide)]⟩
    · intro i hi
      rw [q_up_k (by omega)]
      exact h1 i (by omega)
    · intro i hi hi2
      by_cases hia : i = a + j
      · subst hia
        rw [q_up_s]
      · rw [q_up_k (by omega)]
        exact h2 i (by omega) hi2
theorem cm_insert {M : qM} (e s : List Int) (a : Nat) (li : Int) (he : e.length + 2 + s.length ≤ 200) (ha : a ≤ e.length) (h12 : M 27 12 = iI e.length) (h10 : M 27 10 = iI s.length) (h7 : M 27 7 = iI li) (h29 : rw (M 29) s) (h30 : rw (M 30) e) :
    V l Γ T_TapedLinesModel_insert d r 0 [.ref 27, .int (iI a), .null, .null] [] (M, L) (q_n L (fun M' => rw (M' 30) (e.take a ++ (li :: (s.length : Int) :: s) ++ e.drop a) ∧ M' 27 12 = iI ((e.length + 2 + s.length : Nat) : Int) ∧ fr [27, 30] M M' ∧ ∀ k, k ≠ 12 → M' 27 k = M 27 k)) := by
  refine s_TapedLinesModel_insert_0 _ ?_
  rw [h10, h12, iI_add, iI_sub]
  have := cm_insert_14 (l := l) (Γ := Γ) (d := d) (r := r) (L := L) e s a li he ha (e.length - a) M (by omega) h12 h10 h7 h29 (fun i hi => h30 i (by omega)) (fun i hi hi2 => by omega)
  rw [show a + (e.length - a) = e.length by omega] at this
  exact this
end MEdit
