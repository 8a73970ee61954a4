/-- the last of the first i lines with number n: its place, or -1 -/
def fnd (n : Int) (pr : List (Int × List Int)) : Nat → Int
  | 0 => -1
  | i + 1 => match pr[i]? with
    | some q => if q.1 = n then (off pr i : Int) else fnd n pr i
    | none => fnd n pr i
theorem fnd_s {n : Int} {pr : List (Int × List Int)} {i : Nat} (h : i < pr.length) : fnd n pr (i + 1) = if (pr[i]).1 = n then (off pr i : Int) else fnd n pr i := by
  rw [fnd, List.getElem?_eq_getElem h]
section MFind
variable {l : Launch} {Γ : qG} {d r : Nat} {M : qM} {L : Nat → Int64}
theorem cm_find_at {pr : List (Int × List Int)} {n : Int} (h : mPr M pr) (hb : ∀ q ∈ pr, 0 ≤ q.1 ∧ q.1 < 256) (hn : -1000 ≤ n ∧ n < 100000) : ∀ (k i : Nat), i ≤ pr.length → pr.length - i = k → V l Γ T_TapedLinesModel_find d r 4 [.ref 27, .int (iI n), .int (iI (off pr i)), .int (iI (fnd n pr i))] [] (M, L) (q_i L (fun x M' => x = iI (fnd n pr pr.length) ∧ M' = M)) := by
  obtain ⟨h1, h2, h3⟩ := h
  intro k
  induction k with
  | zero =>
    intro i hi hk
    have e : i = pr.length := by omega
    subst e
    have hoff := off_end pr
    refine s_TapedLinesModel_find_4 _ _ _ ?_
    rw [h1, iI_le (by omega) (by omega) (by omega) (by omega)]
    refine ⟨fun _ => ⟨rfl, rfl⟩, fun q => absurd ?_ q⟩
    omega
  | succ k ih =>
    intro i hi hk
    have hlt : i < pr.length := by omega
    have hl := off_lt hlt
    have hs := off_s hlt
    have hr := hb _ (List.getElem_mem hlt)
    have e0 : M 30 (iI (off pr i : Int)).toNatClampNeg = iI (pr[i]).1 := by
      rw [iI_nat (by omega) (by omega), Int.toNat_natCast, h3 _ (by omega), enc_n hlt]
    have e1 : iI (off pr i : Int) + iI 1 = iI ((off pr i + 1 : Nat) : Int) := by rw [iI_add]; rfl
    have e2 : M 30 (iI ((off pr i + 1 : Nat) : Int)).toNatClampNeg = iI ((pr[i]).2.length : Int) := by
      rw [iI_nat (by omega) (by omega), Int.toNat_natCast, h3 _ (by omega), enc_len hlt]
    have e3 : (off pr i : Int) + 2 + ((pr[i]).2.length : Int) = ((off pr (i + 1) : Nat) : Int) := by rw [hs]; omega
    have hih := ih (i + 1) (by omega) (by omega)
    rw [fnd_s hlt] at hih
    refine s_TapedLinesModel_find_4 _ _ _ ?_
    rw [h1, iI_le (by omega) (by omega) (by omega) (by omega), e0, iI_eq (a := (pr[i]).1) (b := n) (by omega) (by omega) (by omega) (by omega), e1, e2, iI_add, iI_add, e3]
    have b1 : vp_in (iI (off pr i : Int)) 260 := iI_in (by omega) (by omega) (by omega)
    have b2 : vp_in (iI ((off pr i + 1 : Nat) : Int)) 260 := iI_in (by omega) (by omega) (by omega)
    refine ⟨fun q => by omega, fun _ => ?_⟩
    by_cases hq : (pr[i]).1 = n
    · rw [if_pos hq] at hih
      simp only [hq, not_true_eq_false, false_implies, true_and, not_false_eq_true, true_implies, b1, b2]
      exact hih
    · rw [if_neg hq] at hih
      simp only [hq, not_true_eq_false, false_implies, and_true, true_and, not_false_eq_true, true_implies, b1, b2]
      exact hih
end MFind
