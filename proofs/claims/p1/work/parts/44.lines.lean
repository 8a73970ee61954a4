/-- is there a line n? -/
def hasL (n : Int) (pr : List (Int × List Int)) : Bool := match pr[ix n pr]? with
  | some q => decide (q.1 = n)
  | none => false
/-- where line n is, or -1 -/
def whereL (n : Int) (pr : List (Int × List Int)) : Int := if hasL n pr = true then (off pr (ix n pr) : Int) else -1
section Lines
variable {l : Launch} {Γ : qG} {d r : Nat} {M : qM} {L : Nat → Int64}
theorem c_lineNumbered {pr : List (Int × List Int)} {n : Int} (h : cPr M pr) (hb : ∀ q ∈ pr, 0 ≤ q.1 ∧ q.1 < 256) (hn : -1000 ≤ n ∧ n < 100000) : V l Γ T_Program_lineNumbered (d + 1) r 0 [.ref 10, .int (iI n), .null] [] (M, L) (q_i L (fun x M' => x = iI (whereL n pr) ∧ M' = M)) := by
  refine s_Program_lineNumbered_0 _ ⟨_, c_firstFrom h hb hn, ?_⟩
  rintro x M' ⟨rfl, rfl⟩
  obtain ⟨h1, h2, h3⟩ := h
  have hix := ix_le n pr
  have hoff := off_le pr (ix n pr)
  rw [h1, iI_le (by omega) (by omega) (by omega) (by omega)]
  by_cases hlt : ix n pr < pr.length
  · have hl := off_lt hlt
    have hr := hb _ (List.getElem_mem hlt)
    have e2 : M' 11 (iI (off pr (ix n pr) : Int)).toNatClampNeg = iI (pr[ix n pr]).1 := by
      rw [iI_nat (by omega) (by omega), Int.toNat_natCast, h3 _ (by omega), enc_n hlt]
    have e3 : hasL n pr = decide ((pr[ix n pr]).1 = n) := by
      unfold hasL
      rw [List.getElem?_eq_getElem hlt]
    rw [e2, iI_eq (a := (pr[ix n pr]).1) (b := n) (by omega) (by omega) (by omega) (by omega)]
    refine ⟨fun q => by omega, fun _ => ⟨iI_in (by omega) (by omega) (by omega), fun q => ⟨?_, rfl⟩, fun q => ⟨?_, rfl⟩⟩⟩
    · unfold whereL
      rw [e3, if_neg (by simpa using q)]
    · unfold whereL
      rw [e3, if_pos (by simpa using q)]
  · have e : ix n pr = pr.length := by omega
    have e3 : hasL n pr = false := by
      unfold hasL
      rw [List.getElem?_eq_none (by omega)]
    have e4 := off_end pr
    refine ⟨fun _ => ⟨?_, rfl⟩, fun q => absurd ?_ q⟩
    · unfold whereL
      rw [e3]
      rfl
    · rw [e, e4]
      exact Int.le_refl _
theorem c_behind {pr : List (Int × List Int)} {i : Nat} (h : cPr M pr) (hi : i < pr.length) : V l Γ T_Program_behind d r 0 [.ref 10, .int (iI (off pr i))] [] (M, L) (q_i L (fun x M' => x = iI (off pr (i + 1)) ∧ M' = M)) := by
  obtain ⟨h1, h2, h3⟩ := h
  have hl := off_lt hi
  have hs := off_s hi
  refine s_Program_behind_0 _ ?_
  have e1 : iI (off pr i : Int) + iI 1 = iI ((off pr i + 1 : Nat) : Int) := by rw [iI_add]; rfl
  have e2 : M 11 (iI ((off pr i + 1 : Nat) : Int)).toNatClampNeg = iI ((pr[i]).2.length : Int) := by
    rw [iI_nat (by omega) (by omega), Int.toNat_natCast, h3 _ (by omega), enc_len hi]
  rw [e1, e2, iI_add, iI_add]
  refine ⟨iI_in (by omega) (by omega) (by omega), ?_, rfl⟩
  congr 1
  rw [hs]
  omega
end Lines
