section Simple
variable {l : Launch} {Γ : qG} {d r : Nat} {M : qM} {L : Nat → Int64}
theorem cm_refused (a b : Bool) : V l Γ T_TapedLinesModel_refused d r 0 [.ref 27, .int (b2 a), .int (b2 b)] [] (M, L) (q_i L (fun x M' => x = b2 (a || b) ∧ M' = q_up M 27 0 (if a = true then iI 1 else if b = true then iI 2 else iI 0))) := by
  refine s_TapedLinesModel_refused_0 _ _ ?_
  rw [b2_0, b2_0]
  refine ⟨fun h1 => ⟨fun h2 => s_TapedLinesModel_refused_18 _ ?_, fun h2 => s_TapedLinesModel_refused_18 _ ?_⟩, fun h1 => s_TapedLinesModel_refused_18 _ ?_⟩
  · subst h1; subst h2
    exact ⟨fun _ => ⟨rfl, rfl⟩, fun h => absurd (by decide) h⟩
  · have h2 : b = true := by simpa using h2
    subst h1; subst h2
    exact ⟨fun h => absurd h (by decide), fun _ => ⟨rfl, rfl⟩⟩
  · have h1 : a = true := by simpa using h1
    subst h1
    exact ⟨fun h => absurd h (by decide), fun _ => ⟨rfl, rfl⟩⟩
theorem cm_countLines {pr : List (Int × List Int)} (h : mPr M pr) : V l Γ T_TapedLinesModel_countLines d r 0 [.ref 27, .null, .null] [] (M, L) (q_i L (fun x M' => x = iI pr.length ∧ M' = M)) :=
  s_TapedLinesModel_countLines_0 (cm_countLines_at h pr.length 0 (Nat.zero_le _) (by omega))
theorem mPr.keep {M' : qM} {pr : List (Int × List Int)} (h : mPr M pr) (h1 : M' 27 12 = M 27 12) (h2 : M' 30 = M 30) : mPr M' pr := by
  unfold mPr
  rw [h1, h2]
  exact h
theorem cm_lines {pr : List (Int × List Int)} (h : mPr M pr) : V l Γ T_TapedLinesModel_lines (d + 1) r 0 [.ref 27] [] (M, L) (q_i L (fun x M' => x = iI pr.length ∧ M' = q_up M 27 0 (iI 0))) := by
  refine s_TapedLinesModel_lines_0 ⟨_, cm_countLines (h.keep (q_up_k (by decide)) (q_up_o (by decide))), ?_⟩
  rintro x M' ⟨rfl, rfl⟩
  exact ⟨rfl, rfl⟩
end Simple
