section MSave
variable {l : Launch} {Γ : qG} {d r : Nat} {L : Nat → Int64}
theorem cm_writeBit_at {b : Int32} {n : Nat} {w : Int} (hw : w = if b = iI 1 then 6 else 12) (hn : n ≤ 4) : ∀ (j k : Nat) (M : qM) (ws : List Int), k + j = n → rowIs M 27 33 40 ws → ws.length + j ≤ 8200 →
    V l Γ T_TapedLinesModel_writeBit d r 13 [.ref 27, .int b, .int (iI n), .int (iI k)] [] (M, L) (q_n L (fun M' => rowIs M' 27 33 40 (ws ++ List.replicate j w) ∧ fm [40] [33] M M')) := by
  intro j
  induction j with
  | zero =>
    intro k M ws hk h hlen
    refine s_TapedLinesModel_writeBit_13 _ _ _ ?_
    rw [iI_le (a := (n : Int)) (b := (k : Int)) (by omega) (by omega) (by omega) (by omega)]
    refine ⟨fun _ => ⟨?_, fm.rf⟩, fun q => absurd ?_ q⟩
    · rw [List.replicate_zero, List.append_nil]
      exact h
    · omega
  | succ j ih =>
    intro k M ws hk h hlen
    refine s_TapedLinesModel_writeBit_13 _ _ _ ?_
    rw [h.1, iI_le (a := (n : Int)) (b := (k : Int)) (by omega) (by omega) (by omega) (by omega), iI_nat (by omega) (by omega), Int.toNat_natCast, iI_add, iI_add]
    have go : ∀ c, c = w → V l Γ T_TapedLinesModel_writeBit d r 13 [.ref 27, .int b, .int (iI n), .int (iI ((k : Int) + 1))] [] (q_up (q_up M 40 ws.length (iI c)) 27 33 (iI ((ws.length : Int) + 1)), L) (q_n L (fun M' => rowIs M' 27 33 40 (ws ++ List.replicate (j + 1) w) ∧ fm [40] [33] M M')) := by
      intro c hc
      subst hc
      refine (ih (k + 1) _ (ws ++ [c]) (by omega) (h.push (by decide)) (by rw [List.length_append, List.length_singleton]; omega)).wn (fun M' hM => ⟨?_, ((fm.rf.upo (by simp) (by decide)).upk (by simp)).tr hM.2⟩)
      have a := hM.1
      rw [List.append_assoc] at a
      exact a
    refine ⟨fun q => by omega, fun _ => ⟨fun hb => ⟨iI_in (by omega) (by omega) (by omega), go 12 (by rw [hw, if_neg hb])⟩, fun hb => ⟨iI_in (by omega) (by omega) (by omega), go 6 (by rw [hw, if_pos (Classical.not_not.mp hb)])⟩⟩⟩
theorem cm_writeBit {M : qM} {ws : List Int} (b : Int32) (h01 : b = iI 0 ∨ b = iI 1) (h : rowIs M 27 33 40 ws) (hl : ws.length + 4 ≤ 8200) :
    V l Γ T_TapedLinesModel_writeBit d r 0 [.ref 27, .int b, .null, .null] [] (M, L) (q_n L (fun M' => rowIs M' 27 33 40 (ws ++ hwv b) ∧ fm [40] [33] M M')) := by
  rcases h01 with rfl | rfl
  · refine s_TapedLinesModel_writeBit_0 _ ⟨fun _ => ?_, fun hb => absurd (show ¬ iI 0 = iI 1 by decide) hb⟩
    exact cm_writeBit_at (b := iI 0) (w := 12) (n := 2) (by decide) (by omega) 2 0 M ws rfl h (by omega)
  · refine s_TapedLinesModel_writeBit_0 _ ⟨fun hb => absurd rfl hb, fun _ => ?_⟩
    exact cm_writeBit_at (b := iI 1) (w := 6) (n := 4) (by decide) (by omega) 4 0 M ws rfl h (by omega)
theorem cm_writeByte_at (x : Int32) : ∀ (n : Nat) (M : qM) (ws : List Int), n ≤ 8 → rowIs M 27 33 40 ws → ws.length + (4 * n + 4) ≤ 8200 →
    V l Γ T_TapedLinesModel_writeByte (d + 1) r 7 [.ref 27, .int x, .int (iI ((8 - n : Nat) : Int))] [] (M, L) (q_n L (fun M' => rowIs M' 27 33 40 (ws ++ hwB x n) ∧ fm [40] [33] M M')) := by
  intro n
  induction n with
  | zero =>
    intro M ws hn h hlen
    refine s_TapedLinesModel_writeByte_7 _ _ ⟨fun _ => ⟨_, cm_writeBit (iI 1) (Or.inr rfl) h (by omega), fun M1 hM => hM⟩, fun q => absurd ?_ q⟩
    exact (iI_le (by omega) (by omega) (by omega) (by omega)).mpr (by omega)
  | succ n ih =>
    intro M ws hn h hlen
    refine s_TapedLinesModel_writeByte_7 _ _ ⟨fun q => ?_, fun _ => ⟨_, cm_writeBit (bitI x (8 - (n + 1))) (bitI_01 _ _) h (by omega), fun M1 hM => ?_⟩⟩
    · rw [iI_le (by omega) (by omega) (by omega) (by omega)] at q
      omega
    · have h4 := hwv_len (bitI x (8 - (n + 1)))
      have e : iI ((8 - (n + 1) : Nat) : Int) + iI 1 = iI ((8 - n : Nat) : Int) := by
        rw [iI_add]
        congr 1
        omega
      rw [e]
      refine (ih M1 _ (by omega) hM.1 (by rw [List.length_append]; omega)).wn (fun M2 h2 => ⟨?_, hM.2.tr h2.2⟩)
      have a := h2.1
      rw [List.append_assoc] at a
      exact a
theorem cm_writeByte {M : qM} {ws : List Int} (x : Int32) (h : rowIs M 27 33 40 ws) (hl : ws.length + 38 ≤ 8200) :
    V l Γ T_TapedLinesModel_writeByte (d + 1) r 0 [.ref 27, .int x, .null] [] (M, L) (q_n L (fun M' => rowIs M' 27 33 40 (ws ++ byW x) ∧ fm [40] [33] M M')) := by
  refine s_TapedLinesModel_writeByte_0 x ⟨_, cm_writeBit (iI 0) (Or.inl rfl) h (by omega), fun M1 hM => ?_⟩
  have e2 : (hwv (iI 0)).length = 2 := by decide
  refine (cm_writeByte_at x 8 M1 _ (by omega) hM.1 (by rw [List.length_append]; omega)).wn (fun M2 h2 => ⟨?_, hM.2.tr h2.2⟩)
  have a := h2.1
  rw [List.append_assoc] at a
  exact a
theorem cm_sumWith (s k b : Int) {M : qM} : V l Γ T_TapedLinesModel_sumWith d r 0 [.int (iI s), .int (iI k), .int (iI b)] [] (M, L) (q_i L (fun x M' => x = iI ((s + k * b) % 65536) ∧ M' = M)) :=
  s_TapedLinesModel_sumWith_0 _ _ _ ⟨by rw [iI_mul, iI_add, iI_mask], rfl⟩
theorem cm_save_41 {bs : List Int} (hb : bs.length ≤ 200) : ∀ (n i : Nat) (s : Int) (M : qM) (ws : List Int), i + n = bs.length → s = (sumZ 1 (bs.take i)) % 65536 → rowIs M 27 12 30 bs → rowIs M 27 33 40 ws → ws.length + 38 * (n + 2) ≤ 8200 →
    V l Γ T_TapedLinesModel_save (d + 1 + 1) r 41 [.ref 27, .int (iI s), .int (iI i)] [] (M, L) (q_i L (fun x M' => x = M' 27 33 ∧ rowIs M' 27 33 40 (ws ++ (byWs (bs.drop i) ++ sumW bs)) ∧ fm [40] [33] M M')) := by
  intro n
  induction n with
  | zero =>
    intro i s M ws hi hs hr h hlen
    refine s_TapedLinesModel_save_41 _ _ ?_
    rw [hr.1, iI_le (by omega) (by omega) (by omega) (by omega)]
    have e : iI s = sumI bs := by
      rw [hs, List.take_of_length_le (by omega)]
      rfl
    rw [e]
    have h38 := byW_len (sumI bs >>> (iI 8 &&& 31))
    refine ⟨fun _ => ⟨_, cm_writeByte (sumI bs >>> (iI 8 &&& 31)) h (by omega), fun M2 h2 => ⟨_, cm_writeByte (sumI bs &&& iI 255) h2.1 (by rw [List.length_append]; omega), fun M3 h3 => ⟨rfl, ?_, h2.2.tr h3.2⟩⟩⟩, fun q => absurd ?_ q⟩
    · have a := h3.1
      rw [List.append_assoc] at a
      rw [List.drop_of_length_le (by omega)]
      exact a
    · omega
  | succ n ih =>
    intro i s M ws hi hs hr h hlen
    have hlt : i < bs.length := by omega
    refine s_TapedLinesModel_save_41 _ _ ?_
    rw [hr.1, iI_le (by omega) (by omega) (by omega) (by omega), iI_nat (by omega) (by omega), Int.toNat_natCast, hr.2 i hlt, iI_add]
    have h38 := byW_len (iI (bs.getD i 0))
    refine ⟨fun q => by omega, fun _ => ⟨iI_in (by omega) (by omega) (by omega), _, cm_writeByte (iI (bs.getD i 0)) h (by omega), fun M1 h1 => ⟨iI_in (by omega) (by omega) (by omega), ?_⟩⟩⟩
    have hr1 : rowIs M1 27 12 30 bs := hr.keep (h1.2.2 12 (by decide)) (h1.2.1 30 (by decide) (by decide))
    rw [hr1.2 i hlt]
    refine ⟨_, cm_sumWith s ((i : Int) + 1) (bs.getD i 0), ?_⟩
    rintro x M2 ⟨rfl, rfl⟩
    have e : bs.drop i = bs.getD i 0 :: bs.drop (i + 1) := by
      rw [List.drop_eq_getElem_cons hlt, List.getD_eq_getElem?_getD, List.getElem?_eq_getElem hlt]
      rfl
    refine (ih (i + 1) _ M2 _ (by omega) ?_ hr1 h1.1 (by rw [List.length_append]; omega)).wi (fun x M3 h2 => ⟨h2.1, ?_, h1.2.tr h2.2.2⟩)
    · have e3 : bs.take (i + 1) = bs.take i ++ [bs.getD i 0] := by
        rw [List.take_succ_eq_append_getElem hlt, List.getD_eq_getElem?_getD, List.getElem?_eq_getElem hlt]
        rfl
      have e4 : ∀ (k : Int) (t : List Int) (c : Int), sumZ k (t ++ [c]) = sumZ k t + (k + t.length) * c := by
        intro k t
        induction t generalizing k with
        | nil => intro c; simp [sumZ]
        | cons a t iht =>
          intro c
          rw [List.cons_append, sumZ, sumZ, iht, List.length_cons]
          have e5 : (k + 1 + (t.length : Int)) = (k + ((t.length + 1 : Nat) : Int)) := by omega
          rw [e5, Int.add_assoc]
      have e6 : (bs.take i).length = i := by rw [List.length_take]; omega
      rw [e3, e4, e6, hs, Int.add_comm 1 (i : Int), Int.emod_add_emod]
    · have a := h2.2.1
      rw [e, byWs, List.append_assoc (byW _)]
      rw [List.append_assoc] at a
      exact a
theorem cm_save_12 {bs : List Int} (hb : bs.length ≤ 200) : ∀ (n : Nat) (M : qM) (ws : List Int), n ≤ 10 → rowIs M 27 12 30 bs → rowIs M 27 33 40 ws → ws.length + (4 * n + 38 * (bs.length + 3)) ≤ 8200 →
    V l Γ T_TapedLinesModel_save (d + 1 + 1) r 12 [.ref 27, .int (iI ((10 - n : Nat) : Int)), .null] [] (M, L) (q_i L (fun x M' => x = M' 27 33 ∧ rowIs M' 27 33 40 (ws ++ (leadW n ++ (byW (iI bs.length) ++ (byWs bs ++ sumW bs)))) ∧ fm [40] [33] M M')) := by
  intro n
  induction n with
  | zero =>
    intro M ws hn hr h hlen
    refine s_TapedLinesModel_save_12 _ ⟨fun _ => ?_, fun q => absurd ?_ q⟩
    · rw [hr.1]
      refine ⟨_, cm_writeByte (iI bs.length) h (by omega), fun M1 h1 => ?_⟩
      have h38 := byW_len (iI bs.length)
      have hr1 : rowIs M1 27 12 30 bs := hr.keep (h1.2.2 12 (by decide)) (h1.2.1 30 (by decide) (by decide))
      refine (cm_save_41 hb bs.length 0 0 M1 _ (by omega) rfl hr1 h1.1 (by rw [List.length_append]; omega)).wi (fun x M2 h2 => ⟨h2.1, ?_, h1.2.tr h2.2.2⟩)
      have a := h2.2.1
      rw [List.append_assoc] at a
      exact a
    · exact (iI_le (by omega) (by omega) (by omega) (by omega)).mpr (by omega)
  | succ n ih =>
    intro M ws hn hr h hlen
    refine s_TapedLinesModel_save_12 _ ⟨fun q => ?_, fun _ => ⟨_, cm_writeBit (iI 1) (Or.inr rfl) h (by omega), fun M1 h1 => ?_⟩⟩
    · rw [iI_le (by omega) (by omega) (by omega) (by omega)] at q
      omega
    · have e : iI ((10 - (n + 1) : Nat) : Int) + iI 1 = iI ((10 - n : Nat) : Int) := by
        rw [iI_add]
        congr 1
        omega
      have h4 := hwv_len1
      have hr1 : rowIs M1 27 12 30 bs := hr.keep (h1.2.2 12 (by decide)) (h1.2.1 30 (by decide) (by decide))
      rw [e]
      refine (ih M1 _ (by omega) hr1 h1.1 (by rw [List.length_append]; omega)).wi (fun x M2 h2 => ⟨h2.1, ?_, h1.2.tr h2.2.2⟩)
      have a := h2.2.1
      rw [leadW, List.append_assoc (hwv _)]
      rw [List.append_assoc] at a
      exact a
theorem cm_save {M : qM} {pr : List (Int × List Int)} (h : mPr M pr) :
    V l Γ T_TapedLinesModel_save (d + 1 + 1) r 0 [.ref 27, .null, .null] [] (M, L) (q_i L (fun x M' => x = iI (tapeW (enc pr)).length ∧ rowIs M' 27 33 40 (tapeW (enc pr)) ∧ fm [40] [0, 33] M M')) := by
  obtain ⟨h1, h2, h3⟩ := h
  have hr : rowIs (q_up (q_up M 27 0 (iI 0)) 27 33 (iI 0)) 27 12 30 (enc pr) := ⟨by rw [q_up_k (by decide), q_up_k (by decide)]; exact h1, by rw [q_up_o (by decide), q_up_o (by decide)]; exact h3⟩
  refine s_TapedLinesModel_save_0 ((cm_save_12 h2 10 _ [] (by omega) hr rowIs.wipe (by show 0 + _ ≤ _; omega)).wi (fun x M2 hM => ⟨?_, hM.2.1, ((fm.rf.upk (by simp)).upk (by simp)).tr (hM.2.2.wk (by simp) (by simp))⟩))
  rw [hM.1, hM.2.1.1]
  rfl
end MSave
