-- a program as lines: number and bytes of the statement
def enc : List (Int × List Int) → List Int
  | [] => []
  | q :: r => q.1 :: (q.2.length : Int) :: (q.2 ++ enc r)
def off (pr : List (Int × List Int)) (i : Nat) : Nat := (enc (pr.take i)).length
theorem enc_app (a b : List (Int × List Int)) : enc (a ++ b) = enc a ++ enc b := by
  induction a with
  | nil => rfl
  | cons q r ih => simp [enc, ih]
theorem enc_at (pr : List (Int × List Int)) (i k : Nat) : (enc pr).getD (off pr i + k) 0 = (enc (pr.drop i)).getD k 0 := by
  have h : enc pr = enc (pr.take i) ++ enc (pr.drop i) := by rw [← enc_app, List.take_append_drop]
  rw [h, List.getD_eq_getElem?_getD, List.getElem?_append_right (by unfold off; omega), List.getD_eq_getElem?_getD]
  congr 2
  unfold off
  omega
theorem off_0 (pr : List (Int × List Int)) : off pr 0 = 0 := rfl
theorem off_end (pr : List (Int × List Int)) : off pr pr.length = (enc pr).length := by unfold off; rw [List.take_length]
theorem off_s {pr : List (Int × List Int)} {i : Nat} (h : i < pr.length) : off pr (i + 1) = off pr i + 2 + (pr[i]).2.length := by
  unfold off
  rw [List.take_succ_eq_append_getElem h, enc_app]
  simp [enc]
  omega
theorem off_le (pr : List (Int × List Int)) (i : Nat) : off pr i ≤ (enc pr).length := by
  have h : enc pr = enc (pr.take i) ++ enc (pr.drop i) := by rw [← enc_app, List.take_append_drop]
  rw [h, List.length_append]
  unfold off
  omega
theorem enc_n {pr : List (Int × List Int)} {i : Nat} (h : i < pr.length) : (enc pr).getD (off pr i) 0 = (pr[i]).1 := by
  have := enc_at pr i 0
  rw [Nat.add_zero] at this
  rw [this, List.drop_eq_getElem_cons h]
  rfl
theorem enc_len {pr : List (Int × List Int)} {i : Nat} (h : i < pr.length) : (enc pr).getD (off pr i + 1) 0 = ((pr[i]).2.length : Int) := by
  rw [enc_at pr i 1, List.drop_eq_getElem_cons h]
  rfl
theorem off_lt {pr : List (Int × List Int)} {i : Nat} (h : i < pr.length) : off pr i + 2 + (pr[i]).2.length ≤ (enc pr).length := by
  rw [← off_s h]
  exact off_le pr (i + 1)
section Prog
variable {l : Launch} {Γ : qG} {d r : Nat} {M : qM} {L : Nat → Int64}
/-- the class's program -/
def cPr (M : qM) (pr : List (Int × List Int)) : Prop := M 10 1 = iI (enc pr).length ∧ (enc pr).length ≤ 200 ∧ rw (M 11) (enc pr)
theorem c_countLines_at {pr : List (Int × List Int)} (h : cPr M pr) : ∀ (n i : Nat), i ≤ pr.length → pr.length - i = n → V l Γ T_Program_countLines d r 4 [.ref 10, .int (iI i), .int (iI (off pr i))] [] (M, L) (q_i L (fun x M' => x = iI pr.length ∧ M' = M)) := by
  obtain ⟨h1, h2, h3⟩ := h
  intro n
  induction n with
  | zero =>
    intro i hi hn
    have e : i = pr.length := by omega
    subst e
    refine s_Program_countLines_4 _ _ ?_
    have hoff := off_end pr
    rw [h1, iI_le (by omega) (by omega) (by omega) (by omega)]
    refine ⟨fun _ => ⟨rfl, rfl⟩, fun q => absurd ?_ q⟩
    omega
  | succ n ih =>
    intro i hi hn
    have hlt : i < pr.length := by omega
    have hl := off_lt hlt
    have hs := off_s hlt
    refine s_Program_countLines_4 _ _ ?_
    rw [h1, iI_le (by omega) (by omega) (by omega) (by omega)]
    refine ⟨fun q => by omega, fun _ => ?_⟩
    have e1 : iI (off pr i : Int) + iI 1 = iI ((off pr i + 1 : Nat) : Int) := by rw [iI_add]; rfl
    have e2 : M 11 (iI ((off pr i + 1 : Nat) : Int)).toNatClampNeg = iI ((pr[i]).2.length : Int) := by
      rw [iI_nat (by omega) (by omega), Int.toNat_natCast, h3 _ (by omega), enc_len hlt]
    rw [e1]
    refine ⟨iI_in (by omega) (by omega) (by omega), ?_⟩
    rw [e2, iI_add, iI_add, iI_add]
    have e3 : (off pr i : Int) + (2 + ((pr[i]).2.length : Int)) = ((off pr (i + 1) : Nat) : Int) := by rw [hs]; omega
    rw [e3]
    exact ih (i + 1) (by omega) (by omega)
theorem c_countLines {pr : List (Int × List Int)} (h : cPr M pr) : V l Γ T_Program_countLines d r 0 [.ref 10, .null, .null] [] (M, L) (q_i L (fun x M' => x = iI pr.length ∧ M' = M)) :=
  s_Program_countLines_0 (c_countLines_at h pr.length 0 (Nat.zero_le _) (by omega))
theorem c_lines {pr : List (Int × List Int)} (h : cPr M pr) : V l Γ T_TapedLines_lines (d + 1) r 0 [.ref 0] [] (M, L) (q_i L (fun x M' => x = iI pr.length ∧ M' = M)) := by
  refine s_TapedLines_lines_0 ⟨_, c_countLines h, ?_⟩
  rintro x M' ⟨rfl, rfl⟩
  exact ⟨rfl, rfl⟩
/-- the reference's program -/
def mPr (M : qM) (pr : List (Int × List Int)) : Prop := M 27 12 = iI (enc pr).length ∧ (enc pr).length ≤ 200 ∧ rw (M 30) (enc pr)
theorem cm_countLines_at {pr : List (Int × List Int)} (h : mPr M pr) : ∀ (n i : Nat), i ≤ pr.length → pr.length - i = n → V l Γ T_TapedLinesModel_countLines d r 4 [.ref 27, .int (iI i), .int (iI (off pr i))] [] (M, L) (q_i L (fun x M' => x = iI pr.length ∧ M' = M)) := by
  obtain ⟨h1, h2, h3⟩ := h
  intro n
  induction n with
  | zero =>
    intro i hi hn
    have e : i = pr.length := by omega
    subst e
    refine s_TapedLinesModel_countLines_4 _ _ ?_
    have hoff := off_end pr
    rw [h1, iI_le (by omega) (by omega) (by omega) (by omega)]
    refine ⟨fun _ => ⟨rfl, rfl⟩, fun q => absurd ?_ q⟩
    omega
  | succ n ih =>
    intro i hi hn
    have hlt : i < pr.length := by omega
    have hl := off_lt hlt
    have hs := off_s hlt
    refine s_TapedLinesModel_countLines_4 _ _ ?_
    rw [h1, iI_le (by omega) (by omega) (by omega) (by omega)]
    refine ⟨fun q => by omega, fun _ => ?_⟩
    have e1 : iI (off pr i : Int) + iI 1 = iI ((off pr i + 1 : Nat) : Int) := by rw [iI_add]; rfl
    have e2 : M 30 (iI ((off pr i + 1 : Nat) : Int)).toNatClampNeg = iI ((pr[i]).2.length : Int) := by
      rw [iI_nat (by omega) (by omega), Int.toNat_natCast, h3 _ (by omega), enc_len hlt]
    rw [e1]
    refine ⟨iI_in (by omega) (by omega) (by omega), ?_⟩
    rw [e2, iI_add, iI_add, iI_add]
    have e3 : (off pr i : Int) + 2 + ((pr[i]).2.length : Int) = ((off pr (i + 1) : Nat) : Int) := by rw [hs]; omega
    rw [e3]
    exact ih (i + 1) (by omega) (by omega)
end Prog
