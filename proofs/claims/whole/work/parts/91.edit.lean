-- a line put in, put in another's place, or taken away
def edit (z : Int) (o : List Int) (pr : List (Int × List Int)) : List (Int × List Int) := pr.take (ix z pr) ++ (if o = [] then [] else [(z, o)]) ++ pr.drop (if hasL z pr = true then ix z pr + 1 else ix z pr)
def hadL (z : Int) (pr : List (Int × List Int)) : Nat := if hasL z pr = true then 2 + ((pr.getD (ix z pr) (0, [])).2).length else 0
def newL (z : Int) (o : List Int) : List Int := if o = [] then [] else z :: (o.length : Int) :: o
theorem hasL_lt {z : Int} {pr : List (Int × List Int)} (h : hasL z pr = true) : ix z pr < pr.length := by
  unfold hasL at h
  rcases e : pr[ix z pr]? with _ | q
  · rw [e] at h; cases h
  · exact (List.getElem?_eq_some_iff.mp e).1
theorem off_had (z : Int) (pr : List (Int × List Int)) : off pr (if hasL z pr = true then ix z pr + 1 else ix z pr) = off pr (ix z pr) + hadL z pr := by
  unfold hadL
  by_cases h : hasL z pr = true
  · have hl := hasL_lt h
    rw [if_pos h, if_pos h, off_s hl]
    have : pr.getD (ix z pr) (0, []) = pr[ix z pr] := by simp [List.getD_eq_getElem?_getD, hl]
    rw [this]
    omega
  · rw [if_neg h, if_neg h]
    rfl
theorem enc_take (pr : List (Int × List Int)) (i : Nat) : (enc pr).take (off pr i) = enc (pr.take i) := by
  have h : enc pr = enc (pr.take i) ++ enc (pr.drop i) := by rw [← enc_app, List.take_append_drop]
  rw [h]
  exact List.take_left' rfl
theorem enc_drop (pr : List (Int × List Int)) (i : Nat) : (enc pr).drop (off pr i) = enc (pr.drop i) := by
  have h : enc pr = enc (pr.take i) ++ enc (pr.drop i) := by rw [← enc_app, List.take_append_drop]
  rw [h]
  exact List.drop_left' rfl
theorem enc_edit (z : Int) (o : List Int) (pr : List (Int × List Int)) : enc (edit z o pr) = (enc pr).take (off pr (ix z pr)) ++ newL z o ++ (enc pr).drop (off pr (ix z pr) + hadL z pr) := by
  unfold edit
  rw [← off_had, enc_app, enc_app, enc_take, enc_drop]
  congr 2
  unfold newL
  by_cases h : o = []
  · rw [if_pos h, if_pos h]; rfl
  · rw [if_neg h, if_neg h]; simp [enc]
theorem had_le (z : Int) (pr : List (Int × List Int)) : off pr (ix z pr) + hadL z pr ≤ (enc pr).length := by
  rw [← off_had]
  exact off_le pr _
theorem newL_len (z : Int) (o : List Int) : (newL z o).length = if o = [] then 0 else 2 + o.length := by
  unfold newL
  by_cases h : o = []
  · rw [if_pos h, if_pos h]; rfl
  · rw [if_neg h, if_neg h]; simp; omega
theorem edit_len (z : Int) (o : List Int) (pr : List (Int × List Int)) : (enc (edit z o pr)).length + hadL z pr = (enc pr).length + (newL z o).length := by
  rw [enc_edit]
  have := had_le z pr
  simp
  omega
theorem gd_ed (e s : List Int) (a n j : Nat) (h : a + n ≤ e.length) : (e.take a ++ s ++ e.drop (a + n)).getD j 0 = if j < a then e.getD j 0 else if j < a + s.length then s.getD (j - a) 0 else e.getD (j - s.length + n) 0 := by
  simp only [List.getD_eq_getElem?_getD]
  have hl : (e.take a).length = a := by simp; omega
  by_cases hj : j < a
  · rw [if_pos hj, List.append_assoc, List.getElem?_append_left (by omega), List.getElem?_take_of_lt hj]
  · rw [if_neg hj]
    by_cases hj2 : j < a + s.length
    · rw [if_pos hj2, List.append_assoc, List.getElem?_append_right (by omega), List.getElem?_append_left (by omega), hl]
    · rw [if_neg hj2, List.getElem?_append_right (by simp; omega), List.getElem?_drop]
      congr 2
      simp
      omega
theorem q_cp_s {M : qM} {o o' k : Nat} {a b n : Nat} (ha : a < 2147483648) (hb : b < 2147483648) (hn : n < 2147483648) : q_cp M o o' (iI a) (iI b) (iI n) o' k = if b ≤ k ∧ k < b + n then M o (a + (k - b)) else M o' k := by
  unfold q_cp
  rw [iI_nat (by omega) (by omega), iI_nat (by omega) (by omega), iI_nat (by omega) (by omega), Int.toNat_natCast, Int.toNat_natCast, Int.toNat_natCast]
  simp [va_up, va_cpy]
theorem q_cp_o {M : qM} {o o' o2 : Nat} {a b n : Int32} (h : o2 ≠ o') : q_cp M o o' a b n o2 = M o2 := by
  unfold q_cp
  simp [va_up, h]
