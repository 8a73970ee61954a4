-- the reference takes a byte
section MByte
variable {l : Launch} {Γ : qG} {d r : Nat} {L : Nat → Int64} {M : qM} {m : Nat}
theorem cm_takeByte (hm : M 27 10 = iI m) (hm2 : m ≤ 258) {s : rA} {c : Int} (h : mSt M s) (hs : s.1 ≠ 1) (hs16 : s.1 ≠ 16) (hc : 0 ≤ c ∧ c < 256) : V l Γ T_TapedLinesModel_takeByte (d + 1 + 1 + 1 + 1) r 0 [.ref 27, .int (iI c)] [] (M, L) (q_i L (TQ M m (tb s c))) := by
  obtain ⟨st, pu, de, nu, w, le, li⟩ := s
  have hs : st ≠ 1 := hs
  have hs16 : st ≠ 16 := hs16
  have hS := h
  obtain ⟨h3, hl, hp, hd, hn, -, hw⟩ := h
  unfold wfs at hw
  obtain ⟨wst, wpu, wde, wnu, ww, wle, wli⟩ := hw
  refine s_TapedLinesModel_takeByte_0 _ ?_
  rw [h3, iI_eq (by omega) (by omega) (by omega) (by omega), iI_lt (by omega) (by omega) (by omega) (by omega), iI_le (by omega) (by omega) (by omega) (by omega)]
  unfold tb
  refine ⟨fun n6 => ?_, fun q6 => ?_⟩
  rotate_left
  · have q6 : st = 6 := by omega
    simp only [if_pos q6]
    exact cm_nzP (cm_takeQuoted hm hm2 (by rw [h3]; exact congrArg iI (by omega)) hl wli hc)
  simp only [if_neg n6]
  refine ⟨fun hlt => ?_, fun hge => ⟨fun h136 => ?_, fun h136 => ?_⟩⟩
  · rw [if_neg (by omega)]
    refine ⟨_, cm_isDigit _, ?_⟩
    rintro x1 M1 ⟨rfl, rfl⟩
    rw [iI_toInt (by omega) (by omega), b2_0]
    refine ⟨fun nd => ?_, fun qd => ?_⟩
    · rw [if_neg (fun z => by simp [nd] at z)]
      exact cm_nzP (cm_takeOther hm hm2 hS hs hc)
    have qd : isD c = true := by simpa using qd
    have hcb : 48 ≤ c ∧ c ≤ 57 := by simpa [isD] using qd
    rw [h3, iI_eq (by omega) (by omega) (by omega) (by omega), iI_eq (by omega) (by omega) (by omega) (by omega)]
    refine ⟨fun q => ?_, fun n13 => ⟨fun n8 => ?_, fun q => ?_⟩⟩
    · rw [if_pos ⟨qd, Or.inl q⟩]
      exact cm_nzP (cm_takeDigit hm hm2 (Or.inr (Or.inl q)) h3 (fun q => hp (by omega)) (fun q => hd (by omega)) (hn (by omega)) hl wpu wde wnu wli hcb)
    · rw [if_neg (by rintro ⟨-, z | z⟩; exact n13 z; exact n8 z)]
      exact cm_nzP (cm_takeOther hm hm2 hS hs hc)
    · have q : st = 8 := by omega
      rw [if_pos ⟨qd, Or.inr q⟩]
      exact cm_nzP (cm_takeDigit hm hm2 (Or.inr (Or.inr q)) h3 (fun q => hp (by omega)) (fun q => hd (by omega)) (hn (by omega)) hl wpu wde wnu wli hcb)
  · rw [if_pos (by omega), if_neg (by omega)]
    exact TQ.n FM.rf rfl
  · rw [if_pos (by omega)]
    obtain ⟨v, rfl⟩ : ∃ v : Nat, c = 128 + v := ⟨(c - 128).toNat, by omega⟩
    have e1 : (128 + (v : Int) - 128) = v := by omega
    rw [iI_sub, e1, Int.toNat_natCast]
    have hpl : poss st pu de < 256 := by
      unfold poss
      split
      · decide
      · split
        · split
          · decide
          · split <;> decide
        · decide
    refine ⟨_, cm_possible wst wpu wde h3 (fun q => hp (by omega)) (fun q => hd (by omega)), ?_⟩
    rintro x6 M6 ⟨rfl, rfl⟩
    rw [bt_i _ hpl v (by omega)]
    refine ⟨fun q => TQ.n FM.rf (by rw [if_neg (fun z => q z.2)]), fun q => ?_⟩
    have q : bt (poss st pu de) v = true := by simpa using q
    rw [if_pos ⟨by omega, q⟩]
    exact ⟨_, cm_pass hm hm2 li hl wli v (by omega), fun x M' z => z.br⟩
end MByte
