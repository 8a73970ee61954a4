/-- which line is the first whose number isn't below n -/
def ix (n : Int) : List (Int × List Int) → Nat
  | [] => 0
  | q :: r => if q.1 < n then ix n r + 1 else 0
theorem ix_le (n : Int) : ∀ pr : List (Int × List Int), ix n pr ≤ pr.length
  | [] => Nat.le_refl _
  | q :: r => by
    have := ix_le n r
    unfold ix
    split
    · simp only [List.length_cons]; omega
    · exact Nat.zero_le _
theorem ix_below {n : Int} : ∀ {pr : List (Int × List Int)} {i : Nat} (h : i < pr.length), i < ix n pr → (pr[i]).1 < n
  | [], i, h, _ => by simp at h
  | q :: r, i, h, hi => by
    unfold ix at hi
    split at hi
    next hq =>
      cases i with
      | zero => exact hq
      | succ i => exact ix_below (pr := r) (by simpa using h) (by omega)
    next => omega
theorem ix_at {n : Int} : ∀ {pr : List (Int × List Int)} (h : ix n pr < pr.length), ¬ (pr[ix n pr]).1 < n
  | [], h => by simp at h
  | q :: r, h => by
    by_cases hq : q.1 < n
    · have e : ix n (q :: r) = ix n r + 1 := by rw [ix, if_pos hq]
      have h2 : ix n r < r.length := by rw [e] at h; simpa using h
      have := ix_at h2
      simpa [e] using this
    · have e : ix n (q :: r) = 0 := by rw [ix, if_neg hq]
      simpa [e] using hq
section Find
variable {l : Launch} {Γ : qG} {d r : Nat} {M : qM} {L : Nat → Int64}
theorem c_firstFrom_at {pr : List (Int × List Int)} {n : Int} (h : cPr M pr) (hb : ∀ q ∈ pr, 0 ≤ q.1 ∧ q.1 < 256) (hn : -1000 ≤ n ∧ n < 100000) : ∀ (k i : Nat), i ≤ ix n pr → ix n pr - i = k → V l Γ T_Program_firstFrom d r 2 [.ref 10, .int (iI n), .int (iI (off pr i))] [] (M, L) (q_i L (fun x M' => x = iI (off pr (ix n pr)) ∧ M' = M)) := by
  obtain ⟨h1, h2, h3⟩ := h
  have hix := ix_le n pr
  intro k
  induction k with
  | zero =>
    intro i hi hk
    have e : i = ix n pr := by omega
    subst e
    refine s_Program_firstFrom_2 _ _ ?_
    have hoff := off_le pr (ix n pr)
    rw [h1, iI_le (by omega) (by omega) (by omega) (by omega)]
    refine ⟨fun _ => ⟨rfl, rfl⟩, fun q => ?_⟩
    have hlt : ix n pr < pr.length := by
      apply Nat.lt_of_le_of_ne hix
      intro e
      apply q
      rw [e, off_end]
      exact Int.le_refl _
    have hl := off_lt hlt
    have e2 : M 11 (iI (off pr (ix n pr) : Int)).toNatClampNeg = iI (pr[ix n pr]).1 := by
      rw [iI_nat (by omega) (by omega), Int.toNat_natCast, h3 _ (by omega), enc_n hlt]
    have hr := hb _ (List.getElem_mem hlt)
    rw [e2, iI_le (by omega) (by omega) (by omega) (by omega)]
    refine ⟨iI_in (by omega) (by omega) (by omega), fun _ => ⟨rfl, rfl⟩, fun z => ?_⟩
    have := ix_at hlt
    omega
  | succ k ih =>
    intro i hi hk
    have hlt : i < pr.length := by omega
    have hl := off_lt hlt
    have hs := off_s hlt
    have hbel := ix_below hlt (n := n) (by omega)
    have hr := hb _ (List.getElem_mem hlt)
    refine s_Program_firstFrom_2 _ _ ?_
    have e0 : M 11 (iI (off pr i : Int)).toNatClampNeg = iI (pr[i]).1 := by
      rw [iI_nat (by omega) (by omega), Int.toNat_natCast, h3 _ (by omega), enc_n hlt]
    have e1 : iI (off pr i : Int) + iI 1 = iI ((off pr i + 1 : Nat) : Int) := by rw [iI_add]; rfl
    have e2 : M 11 (iI ((off pr i + 1 : Nat) : Int)).toNatClampNeg = iI ((pr[i]).2.length : Int) := by
      rw [iI_nat (by omega) (by omega), Int.toNat_natCast, h3 _ (by omega), enc_len hlt]
    rw [h1, iI_le (by omega) (by omega) (by omega) (by omega), e0, iI_le (by omega) (by omega) (by omega) (by omega), e1, e2, iI_add, iI_add]
    refine ⟨fun q => by omega, fun _ => ⟨iI_in (by omega) (by omega) (by omega), fun z => by omega, fun _ => ⟨iI_in (by omega) (by omega) (by omega), ?_⟩⟩⟩
    have e3 : (off pr i : Int) + (2 + ((pr[i]).2.length : Int)) = ((off pr (i + 1) : Nat) : Int) := by rw [hs]; omega
    rw [e3]
    exact ih (i + 1) (by omega) (by omega)
theorem c_firstFrom {pr : List (Int × List Int)} {n : Int} (h : cPr M pr) (hb : ∀ q ∈ pr, 0 ≤ q.1 ∧ q.1 < 256) (hn : -1000 ≤ n ∧ n < 100000) : V l Γ T_Program_firstFrom d r 0 [.ref 10, .int (iI n), .null] [] (M, L) (q_i L (fun x M' => x = iI (off pr (ix n pr)) ∧ M' = M)) :=
  s_Program_firstFrom_0 _ (c_firstFrom_at h hb hn (ix n pr) 0 (Nat.zero_le _) (by omega))
end Find
