-- statements and lines as the class reads them
theorem RP.step {M1 M2 : qM} {t : Nat} {txt out1 u1 : List Int} {x : Int32} {f g : List Int → rR} {P : Int32 → qM → Prop} (acc : ∀ x M', RP M1 t txt out1 (rThen f g u1) x M' → P x M') (h : RP M1 t txt out1 (f u1) x M2) : (x = 0 → P (iI 0) M2) ∧ (¬ x = 0 → ∃ v o, rdS M2 t txt v o ∧ ∀ x M', RP M2 t txt o (g v) x M' → P x M') := by
  obtain ⟨hx, ⟨o', h1, h2⟩, f1⟩ := h
  rcases e : f u1 with ⟨b, v, o⟩
  rw [e] at hx h1 h2
  cases b with
  | true =>
    refine ⟨fun q => absurd (hx.symm.trans q) (show ¬ b2 true = 0 by decide), fun _ => ⟨v, out1 ++ o, ?_, fun x M' h3 => acc x M' (RP.next e f1 h3)⟩⟩
    rw [← h2 rfl]
    exact h1
  | false => exact ⟨fun _ => acc _ _ (RP.stop e f1 h1), fun q => absurd hx q⟩
theorem RP.last {M1 M2 : qM} {t : Nat} {txt out1 : List Int} {x : Int32} {q : rR} {P : Int32 → qM → Prop} (acc : ∀ x M', RP M1 t txt out1 q x M' → P x M') (h : RP M1 t txt out1 q x M2) : (x = 0 → P (iI 0) M2) ∧ (¬ x = 0 → P (iI 1) M2) := by
  have h2 := acc _ _ h
  have hx := h.1
  clear acc h
  generalize q.1 = b at hx
  subst hx
  cases b
  · exact ⟨fun _ => h2, fun z => absurd rfl z⟩
  · exact ⟨fun z => absurd z (by decide), fun _ => h2⟩
theorem RP.lastz {M1 M2 : qM} {t : Nat} {txt out1 : List Int} {x : Int32} {q : rR} {P : Int32 → qM → Prop} (acc : ∀ x M', RP M1 t txt out1 q x M' → P x M') (h : RP M1 t txt out1 q x M2) : narrow .boolean (.int x) = .int x ∧ P x M2 := by
  refine ⟨?_, acc _ _ h⟩
  rw [h.1]
  exact b2_n _
section Stmt
variable {l : Launch} {Γ : qG} {d r : Nat} {L : Nat → Int64}
theorem c_rw {t : Nat} (ho : (t = 1) ∨ (t = 7)) (w : Nat) (z : Int) (hw : w < 8) (hz : z = 128 + (w : Int)) {txt u out : List Int} {M : qM} (h : rdS M t txt u out) : V l Γ T_LineReader_readWord (d + 5 + 1) r 0 [.ref 5, .int (iI z), .null, .null] [] (M, L) (q_i L (RP M t txt out (rWord w u))) := by
  rw [hz]
  exact c_readWord ho w hw h
theorem c_readStatement {t : Nat} (ho : (t = 1) ∨ (t = 7)) {txt u out : List Int} {M : qM} (h : rdS M t txt u out) : V l Γ T_LineReader_readStatement (d + 6 + 1) r 0 [.ref 5] [] (M, L) (q_i L (RP M t txt out (rStmt u))) := by
  refine s_LineReader_readStatement_0 t ho ⟨_, c_ahead0 ho h, ?_⟩
  rintro x1 M1 ⟨rfl, rfl⟩
  have hz := hdz_lo h
  rw [iI_toInt (by omega) (by omega)]
  refine ⟨fun e => ?_, fun n63 => ⟨fun e => ?_, fun n64 => ⟨fun e => ?_, fun n69 => ⟨fun e => ?_, fun n70 => ⟨fun e => ?_, fun n71 => ⟨fun e => ?_, fun n73 => ⟨fun e => ?_, fun n78 => ⟨fun e => ?_, fun n82 => ?_⟩⟩⟩⟩⟩⟩⟩⟩
  · have er : rStmt u = rThen (rMark 63) rPrinted u := by unfold rStmt; rw [e]; rfl
    rw [er]
    refine ⟨_, c_readMark ho 63 (by decide) h, fun x2 M2 h2 => ?_⟩
    obtain ⟨hs, hn⟩ := RP.step (fun _ _ q => q) h2
    refine ⟨hs, fun q => ?_⟩
    obtain ⟨v, o, h3, acc⟩ := hn q
    exact ⟨_, c_readPrinted ho h3, fun x3 M3 h4 => RP.last acc h4⟩
  · have er : rStmt u = rThen (rMark 64) (rThen (rMark 40) (rThen rE (rThen (rMark 41) (rThen (rMark 61) rE)))) u := by unfold rStmt; rw [e]; rfl
    rw [er]
    refine ⟨_, c_readMark ho 64 (by decide) h, fun x2 M2 h2 => ?_⟩
    obtain ⟨hs, hn⟩ := RP.step (fun _ _ q => q) h2
    refine ⟨hs, fun q => ?_⟩
    obtain ⟨v, o, h3, acc⟩ := hn q
    refine ⟨_, c_readMark ho 40 (by decide) h3, fun x4 M4 h4 => ?_⟩
    obtain ⟨hs, hn⟩ := RP.step acc h4
    refine ⟨hs, fun q => ?_⟩
    obtain ⟨v, o, h3, acc⟩ := hn q
    refine ⟨_, c_readE ho h3, fun x4 M4 h4 => ?_⟩
    obtain ⟨hs, hn⟩ := RP.step acc h4
    refine ⟨hs, fun q => ?_⟩
    obtain ⟨v, o, h3, acc⟩ := hn q
    refine ⟨_, c_readMark ho 41 (by decide) h3, fun x4 M4 h4 => ?_⟩
    obtain ⟨hs, hn⟩ := RP.step acc h4
    refine ⟨hs, fun q => ?_⟩
    obtain ⟨v, o, h3, acc⟩ := hn q
    refine ⟨_, c_readMark ho 61 (by decide) h3, fun x4 M4 h4 => ?_⟩
    obtain ⟨hs, hn⟩ := RP.step acc h4
    refine ⟨hs, fun q => ?_⟩
    obtain ⟨v, o, h3, acc⟩ := hn q
    exact ⟨_, c_readE ho h3, fun x3 M3 h4 => RP.last acc h4⟩
  · have er : rStmt u = rWord 7 u := by unfold rStmt; rw [e]; rfl
    rw [er]
    exact ⟨_, c_rw ho 7 135 (by decide) rfl h, fun x2 M2 h2 => RP.lastz (fun _ _ q => q) h2⟩
  · have er : rStmt u = rThen (rWord 4) (rThen (rOne isV) (rThen (rMark 61) (rThen rE (rThen (rWord 5) rE)))) u := by unfold rStmt; rw [e]; rfl
    rw [er]
    refine ⟨_, c_rw ho 4 132 (by decide) rfl h, fun x2 M2 h2 => ?_⟩
    obtain ⟨hs, hn⟩ := RP.step (fun _ _ q => q) h2
    refine ⟨hs, fun q => ?_⟩
    obtain ⟨v, o, h3, acc⟩ := hn q
    refine ⟨_, c_readVariable ho h3, fun x4 M4 h4 => ?_⟩
    obtain ⟨hs, hn⟩ := RP.step acc h4
    refine ⟨hs, fun q => ?_⟩
    obtain ⟨v, o, h3, acc⟩ := hn q
    refine ⟨_, c_readMark ho 61 (by decide) h3, fun x4 M4 h4 => ?_⟩
    obtain ⟨hs, hn⟩ := RP.step acc h4
    refine ⟨hs, fun q => ?_⟩
    obtain ⟨v, o, h3, acc⟩ := hn q
    refine ⟨_, c_readE ho h3, fun x4 M4 h4 => ?_⟩
    obtain ⟨hs, hn⟩ := RP.step acc h4
    refine ⟨hs, fun q => ?_⟩
    obtain ⟨v, o, h3, acc⟩ := hn q
    refine ⟨_, c_rw ho 5 133 (by decide) rfl h3, fun x4 M4 h4 => ?_⟩
    obtain ⟨hs, hn⟩ := RP.step acc h4
    refine ⟨hs, fun q => ?_⟩
    obtain ⟨v, o, h3, acc⟩ := hn q
    exact ⟨_, c_readE ho h3, fun x3 M3 h4 => RP.last acc h4⟩
  · refine ⟨_, c_ahead ho 2 (by decide) h, ?_⟩
    rintro x2 M2 ⟨rfl, rfl⟩
    have hz2 : -1 ≤ u.getD 2 (-1) ∧ u.getD 2 (-1) < 65536 := by
      obtain ⟨w, e2, -, -⟩ := h.2.2.2.1
      by_cases h2 : 2 < u.length
      · have : u.getD 2 (-1) ∈ txt := by
          rw [e2]
          refine List.mem_append_right _ ?_
          rw [List.getD_eq_getElem?_getD, List.getElem?_eq_getElem h2]
          exact List.getElem_mem h2
        have := h.2.2.1 _ this
        omega
      · rw [List.getD_eq_getElem?_getD, List.getElem?_eq_none (by omega)]
        decide
    rw [iI_eq (by omega) (by omega) (by omega) (by omega)]
    have go : ∀ (w : Nat) (z : Int), w < 8 → z = 128 + (w : Int) → w = (if u.getD 2 (-1) = 83 then 1 else 0) → V l Γ T_LineReader_readStatement (d + 6 + 1) r 120 [.ref 5] [.int (iI z), .ref 5] (M2, L) (q_i L (RP M2 t txt out (rStmt u))) := by
      intro w z hw hz3 hw2
      have er : rStmt u = rThen (rWord w) rGo u := by unfold rStmt; rw [e, hw2]; rfl
      rw [er]
      refine s_LineReader_readStatement_120 t ho _ ⟨_, c_rw ho w z hw hz3 h, fun x2 M2 h2 => ?_⟩
      obtain ⟨hs, hn⟩ := RP.step (fun _ _ q => q) h2
      refine ⟨hs, fun q => ?_⟩
      obtain ⟨v, o, h3, acc⟩ := hn q
      exact ⟨_, c_readGo ho h3, fun x3 M3 h4 => RP.last acc h4⟩
    exact ⟨fun q => go 0 128 (by decide) rfl (by rw [if_neg q]), fun q => go 1 129 (by decide) rfl (by rw [if_pos (by simpa using q)])⟩
  · have er : rStmt u = rThen (rWord 3) (rThen rE (rThen (rWord 0) rGo)) u := by unfold rStmt; rw [e]; rfl
    rw [er]
    refine ⟨_, c_rw ho 3 131 (by decide) rfl h, fun x2 M2 h2 => ?_⟩
    obtain ⟨hs, hn⟩ := RP.step (fun _ _ q => q) h2
    refine ⟨hs, fun q => ?_⟩
    obtain ⟨v, o, h3, acc⟩ := hn q
    refine ⟨_, c_readE ho h3, fun x4 M4 h4 => ?_⟩
    obtain ⟨hs, hn⟩ := RP.step acc h4
    refine ⟨hs, fun q => ?_⟩
    obtain ⟨v, o, h3, acc⟩ := hn q
    refine ⟨_, c_rw ho 0 128 (by decide) rfl h3, fun x4 M4 h4 => ?_⟩
    obtain ⟨hs, hn⟩ := RP.step acc h4
    refine ⟨hs, fun q => ?_⟩
    obtain ⟨v, o, h3, acc⟩ := hn q
    exact ⟨_, c_readGo ho h3, fun x3 M3 h4 => RP.last acc h4⟩
  · have er : rStmt u = rThen (rWord 6) (rOne isV) u := by unfold rStmt; rw [e]; rfl
    rw [er]
    refine ⟨_, c_rw ho 6 134 (by decide) rfl h, fun x2 M2 h2 => ?_⟩
    obtain ⟨hs, hn⟩ := RP.step (fun _ _ q => q) h2
    refine ⟨hs, fun q => ?_⟩
    obtain ⟨v, o, h3, acc⟩ := hn q
    exact ⟨_, c_readVariable ho h3, fun x3 M3 h4 => RP.last acc h4⟩
  · have er : rStmt u = rWord 2 u := by unfold rStmt; rw [e]; rfl
    rw [er]
    exact ⟨_, c_rw ho 2 130 (by decide) rfl h, fun x2 M2 h2 => RP.lastz (fun _ _ q => q) h2⟩
  · have er : rStmt u = rDef u := by
      unfold rStmt
      rw [if_neg n71, if_neg n82, if_neg n73, if_neg n70, if_neg n78, if_neg n69, if_neg n63, if_neg n64]
    rw [er]
    refine ⟨_, c_readVariable ho h, fun x2 M2 h2 => ?_⟩
    obtain ⟨hs, hn⟩ := RP.step (f := rOne isV) (g := rThen (rMark 61) rE) (fun _ _ q => q) h2
    refine ⟨hs, fun q => ?_⟩
    obtain ⟨v, o, h3, acc⟩ := hn q
    refine ⟨_, c_readMark ho 61 (by decide) h3, fun x4 M4 h4 => ?_⟩
    obtain ⟨hs, hn⟩ := RP.step acc h4
    refine ⟨hs, fun q => ?_⟩
    obtain ⟨v, o, h3, acc⟩ := hn q
    exact ⟨_, c_readE ho h3, fun x3 M3 h4 => RP.last acc h4⟩
/-- a text is opened -/
theorem rdS_open {t : Nat} (ho : (t = 1) ∨ (t = 7)) {txt : List Int} {M : qM} (h : shIs M t txt) (hc : ∀ c ∈ txt, 0 ≤ c ∧ c < 65536) : rdS (q_up (q_up (q_up M 5 4 (Int32.ofNat t)) 5 3 (iI 0)) 5 1 (iI 0)) t txt txt [] := by
  refine ⟨by rw [q_up_k (by decide), q_up_k (by decide), q_up_s], h.keep (by rw [q_up_o (by omega), q_up_o (by omega), q_up_o (by omega)]) (by rw [q_up_o (by omega), q_up_o (by omega), q_up_o (by omega)]), hc, ⟨[], rfl, by rw [q_up_k (by decide), q_up_s]; rfl, Nat.le_refl _⟩, by rw [q_up_s]; rfl, rw_nil _⟩
/-- readLine: number and bytes, or where it failed -/
theorem c_readLine {txt : List Int} {M : qM} (h : shIs M 1 txt) (hc : ∀ c ∈ txt, 0 ≤ c ∧ c < 65536) : V l Γ T_LineReader_readLine (d + 7 + 1) r 0 [.ref 5, .ref 1] [] (M, L) (q_i L (fun x M' => fr [5, 6] M M' ∧ ((∃ z o, rLine txt = .ok (z, o) ∧ x = iI 1 ∧ M' 5 2 = iI z ∧ M' 5 1 = iI o.length ∧ rw (M' 6) o ∧ o.length ≤ 60) ∨ ∃ n, rLine txt = .error n ∧ x = iI 0 ∧ n ≤ txt.length ∧ M' 5 3 = iI ((txt.length : Int) - n)))) := by
  have hcap : cp (1 + 1) = 60 := by decide
  have h60 : txt.length ≤ 60 := by have := h.2.1; omega
  have bad : ∀ (M' : qM) (u o : List Int), rdS M' 1 txt u o → u.length ≤ txt.length ∧ M' 5 3 = iI ((txt.length : Int) - u.length) := by
    intro M' u o h
    obtain ⟨w, e, hw, -⟩ := h.2.2.2.1
    have : w.length + u.length = txt.length := by rw [e]; simp
    rw [hw]
    exact ⟨by omega, congrArg iI (by omega)⟩
  refine s_LineReader_readLine_0 1 (Or.inl rfl) ⟨_, s_LineReader_open_0 1 (Or.inl rfl) (P := fun M' => M' = q_up (q_up (q_up M 5 4 (Int32.ofNat 1)) 5 3 (iI 0)) 5 1 (iI 0)) rfl, ?_⟩
  rintro M1 rfl
  have h0 := rdS_open (Or.inl rfl) h hc
  have f0 : fr [5, 6] M (q_up (q_up (q_up M 5 4 (Int32.ofNat 1)) 5 3 (iI 0)) 5 1 (iI 0)) := ((fr.rf.up (by simp)).up (by simp)).up (by simp)
  refine ⟨_, c_readNumber (Or.inl rfl) (by decide) (by decide) h0, ?_⟩
  rintro x2 M2 ⟨rfl, ⟨o2, h2, h3⟩, f2a⟩
  have hge := rNumL_ge 1 99 (-1) (sk txt) (by decide) (by decide) (by decide)
  have hge : -1 ≤ (rNum 1 99 txt).1 ∧ (rNum 1 99 txt).1 ≤ 32767 := hge
  rw [iI_eq (by omega) (by omega) (by omega) (by omega)]
  have f2 := f0.tr f2a.1
  unfold rLine
  -- the number's bytes are wiped
  have h4 : rdS (q_up (q_up M2 5 2 (iI (rNum 1 99 txt).1)) 5 1 (iI 0)) 1 txt (rNum 1 99 txt).2.1 [] := by
    obtain ⟨a1, a2, a3, ⟨w, a4, a5, a6⟩, a7, a8⟩ := h2
    exact ⟨by rw [q_up_k (by decide), q_up_k (by decide)]; exact a1, a2.keep (by rw [q_up_o (by omega), q_up_o (by omega)]) (by rw [q_up_o (by omega), q_up_o (by omega)]), a3, ⟨w, a4, by rw [q_up_k (by decide), q_up_k (by decide)]; exact a5, Nat.zero_le _⟩, by rw [q_up_s]; rfl, rw_nil _⟩
  have f4 : fr [5, 6] M (q_up (q_up M2 5 2 (iI (rNum 1 99 txt).1)) 5 1 (iI 0)) := (f2.up (by simp)).up (by simp)
  have hnum : q_up (q_up M2 5 2 (iI (rNum 1 99 txt).1)) 5 1 (iI 0) 5 2 = iI (rNum 1 99 txt).1 := by rw [q_up_k (by decide), q_up_s]
  generalize q_up (q_up M2 5 2 (iI (rNum 1 99 txt).1)) 5 1 (iI 0) = M3 at h4 f4 hnum ⊢
  clear h2 h3 f2 f2a
  generalize rNum 1 99 txt = R at h4 hnum hge ⊢
  refine ⟨fun hv => ?_, fun hv => ?_⟩
  · rw [if_neg hv]
    refine ⟨_, c_reachesEnd (Or.inl rfl) h4, ?_⟩
    rintro x5 M5 ⟨rfl, h5, f5⟩
    rw [b2_0]
    refine ⟨fun q => ⟨f4.tr f5.1, ?_⟩, fun q => ?_⟩
    · have q : sk R.2.1 = [] := by simpa using q
      rw [if_pos q]
      exact Or.inl ⟨R.1, [], rfl, rfl, by rw [f5.2, hnum], h5.2.2.2.2.1, rw_nil _, by simp⟩
    have q : sk R.2.1 ≠ [] := by simpa using q
    rw [if_neg q]
    refine ⟨_, c_readStatement (Or.inl rfl) h5, ?_⟩
    rintro x6 M6 ⟨rfl, ⟨o6, h6, h7⟩, f6⟩
    rw [b2_0]
    generalize rStmt (sk R.2.1) = Q at h6 h7 ⊢
    refine ⟨fun q2 => ⟨f4.tr (f5.tr f6).1, ?_⟩, fun q2 => ?_⟩
    · rw [if_neg (by simp [q2])]
      exact Or.inr ⟨Q.2.1.length, rfl, rfl, bad _ _ _ h6⟩
    have q2 : Q.1 = true := by simpa using q2
    rw [if_pos q2]
    refine ⟨_, c_reachesEnd (Or.inl rfl) h6, ?_⟩
    rintro x7 M7 ⟨rfl, h8, f8⟩
    rw [b2_0]
    refine ⟨fun q3 => ⟨f4.tr ((f5.tr f6).tr f8).1, ?_⟩, fun q3 => ⟨f4.tr ((f5.tr f6).tr f8).1, ?_⟩⟩
    · have q3 : ¬ sk Q.2.1 = [] := by simpa using q3
      rw [if_neg q3]
      exact Or.inr ⟨_, rfl, rfl, bad _ _ _ h8⟩
    · have q3 : sk Q.2.1 = [] := by simpa using q3
      rw [if_pos q3]
      have h7 := h7 q2
      rw [List.nil_append] at h7
      subst h7
      obtain ⟨-, a2, -, ⟨w, a4, -, a6⟩, a7, a8⟩ := h8
      refine Or.inl ⟨R.1, Q.2.2, rfl, rfl, by rw [f8.2, f6.2, f5.2, hnum], a7, a8, ?_⟩
      have : w.length + (sk Q.2.1).length = txt.length := by rw [a4]; simp
      omega
  · have hv : R.1 = -1 := by simpa using hv
    rw [if_pos hv]
    exact ⟨f4, Or.inr ⟨_, rfl, rfl, bad _ _ _ h4⟩⟩
end Stmt
