/-- the lines' numbers rise -/
def rising (pr : List (Int × List Int)) : Prop := ∀ (i j : Nat) (hi : i < pr.length) (hj : j < pr.length), i < j → (pr[i]).1 < (pr[j]).1
theorem fnd_low {n : Int} {pr : List (Int × List Int)} : ∀ i, i ≤ ix n pr → fnd n pr i = -1 := by
  intro i
  induction i with
  | zero => intro _; rfl
  | succ i ih =>
    intro hi
    have hlt : i < pr.length := Nat.lt_of_lt_of_le hi (ix_le n pr)
    have hb := ix_below hlt (n := n) hi
    rw [fnd_s hlt, if_neg (by omega)]
    exact ih (by omega)
theorem hasL_at {n : Int} {pr : List (Int × List Int)} (h : ix n pr < pr.length) : hasL n pr = decide ((pr[ix n pr]).1 = n) := by
  unfold hasL
  rw [List.getElem?_eq_getElem h]
theorem fnd_hi {n : Int} {pr : List (Int × List Int)} (hr : rising pr) : ∀ i, ix n pr < i → i ≤ pr.length → fnd n pr i = whereL n pr := by
  intro i
  induction i with
  | zero => intro h _; omega
  | succ i ih =>
    intro hi hle
    have hlt : i < pr.length := by omega
    by_cases e : i = ix n pr
    · subst e
      rw [fnd_s hlt, fnd_low _ (Nat.le_refl _)]
      unfold whereL
      rw [hasL_at hlt]
      by_cases q : (pr[ix n pr]).1 = n
      · rw [if_pos q, if_pos (by simpa using q)]
      · rw [if_neg q, if_neg (by simpa using q)]
    · have h1 : ix n pr < i := by omega
      have h2 : ix n pr < pr.length := by omega
      have h3 := hr (ix n pr) i h2 hlt h1
      have h4 := ix_at h2
      rw [fnd_s hlt, if_neg (by omega)]
      exact ih h1 (by omega)
theorem fnd_where {n : Int} {pr : List (Int × List Int)} (hr : rising pr) : fnd n pr pr.length = whereL n pr := by
  by_cases h : ix n pr < pr.length
  · exact fnd_hi hr _ h (Nat.le_refl _)
  · have e : ix n pr = pr.length := by have := ix_le n pr; omega
    rw [fnd_low _ (by omega)]
    unfold whereL hasL
    rw [List.getElem?_eq_none (by omega)]
    rfl
section MFind2
variable {l : Launch} {Γ : qG} {d r : Nat} {M : qM} {L : Nat → Int64}
theorem cm_find {pr : List (Int × List Int)} {n : Int} (h : mPr M pr) (hr : rising pr) (hb : ∀ q ∈ pr, 0 ≤ q.1 ∧ q.1 < 256) (hn : -1000 ≤ n ∧ n < 100000) : V l Γ T_TapedLinesModel_find d r 0 [.ref 27, .int (iI n), .null, .null] [] (M, L) (q_i L (fun x M' => x = iI (whereL n pr) ∧ M' = M)) := by
  rw [← fnd_where hr]
  exact s_TapedLinesModel_find_0 _ (cm_find_at h hb hn pr.length 0 (Nat.zero_le _) (by omega))
end MFind2
