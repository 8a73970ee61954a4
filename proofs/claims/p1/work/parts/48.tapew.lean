-- what is written for a bit, a byte, a program
def hwv (b : Int32) : List Int := if b = 0 then [12, 12] else [6, 6, 6, 6]
def bitI (x : Int32) (k : Nat) : Int32 := (x >>> (iI (k : Int) &&& 31)) &&& iI 1
/-- the last n bits of x, and the stop -/
def hwB (x : Int32) : Nat → List Int
  | 0 => hwv (iI 1)
  | n + 1 => hwv (bitI x (8 - (n + 1))) ++ hwB x n
def byW (x : Int32) : List Int := hwv (iI 0) ++ hwB x 8
def byWs : List Int → List Int
  | [] => []
  | b :: t => byW (iI b) ++ byWs t
/-- the sum of a row whose first byte counts k -/
def sumZ (k : Int) : List Int → Int
  | [] => 0
  | b :: t => k * b + sumZ (k + 1) t
def sumI (bs : List Int) : Int32 := iI (sumZ 1 bs % 65536)
def sumW (bs : List Int) : List Int := byW (sumI bs >>> (iI 8 &&& 31)) ++ byW (sumI bs &&& iI 255)
def leadW : Nat → List Int
  | 0 => []
  | n + 1 => hwv (iI 1) ++ leadW n
def tapeW (bs : List Int) : List Int := leadW 10 ++ (byW (iI bs.length) ++ (byWs bs ++ sumW bs))
theorem hwv_len (b : Int32) : (hwv b).length ≤ 4 := by
  unfold hwv
  split <;> decide
theorem hwv_len1 : (hwv (iI 1)).length = 4 := by decide
theorem hwB_len (x : Int32) : ∀ n, (hwB x n).length ≤ 4 * n + 4
  | 0 => by rw [hwB, hwv_len1]; omega
  | n + 1 => by
    have h1 := hwB_len x n
    have h2 := hwv_len (bitI x (8 - (n + 1)))
    rw [hwB, List.length_append]
    omega
theorem byW_len (x : Int32) : (byW x).length ≤ 38 := by
  have h1 := hwB_len x 8
  have h2 : (hwv (iI 0)).length = 2 := by decide
  rw [byW, List.length_append]
  omega
theorem byWs_len : ∀ bs : List Int, (byWs bs).length ≤ 38 * bs.length
  | [] => by decide
  | b :: t => by
    have h1 := byW_len (iI b)
    have h2 := byWs_len t
    rw [byWs, List.length_append, List.length_cons]
    omega
theorem leadW_len : ∀ n, (leadW n).length = 4 * n
  | 0 => rfl
  | n + 1 => by rw [leadW, List.length_append, leadW_len n, hwv_len1]; omega
theorem sumW_len (bs : List Int) : (sumW bs).length ≤ 76 := by
  have h1 := byW_len (sumI bs >>> (iI 8 &&& 31))
  have h2 := byW_len (sumI bs &&& iI 255)
  rw [sumW, List.length_append]
  omega
theorem bitI_01 (x : Int32) (k : Nat) : bitI x k = iI 0 ∨ bitI x k = iI 1 := bit01 _
section TapeW
variable {l : Launch} {Γ : qG} {d r : Nat} {L : Nat → Int64}
theorem c_putBit_at {b : Int32} {n : Nat} {w : Int} (hw : w = if b = 0 then 12 else 6) (hn : n ≤ 4) : ∀ (j k : Nat) (M : qM) (ws : List Int), k + j = n → rowIs M 24 2 25 ws → ws.length + j ≤ 7754 →
    V l Γ T_Tape_putBit d r 12 [.ref 24, .int b, .int (iI n), .int (iI k)] [] (M, L) (q_n L (fun M' => rowIs M' 24 2 25 (ws ++ List.replicate j w) ∧ fr [24, 25] M M')) := by
  intro j
  induction j with
  | zero =>
    intro k M ws hk h hlen
    refine s_Tape_putBit_12 _ _ _ ?_
    rw [iI_le (a := (n : Int)) (b := (k : Int)) (by omega) (by omega) (by omega) (by omega)]
    refine ⟨fun _ => ⟨?_, fr.rf⟩, fun q => absurd ?_ q⟩
    · rw [List.replicate_zero, List.append_nil]
      exact h
    · omega
  | succ j ih =>
    intro k M ws hk h hlen
    refine s_Tape_putBit_12 _ _ _ ?_
    rw [h.1, iI_le (a := (n : Int)) (b := (k : Int)) (by omega) (by omega) (by omega) (by omega), iI_le (a := 7754) (by omega) (by omega) (by omega) (by omega), iI_nat (by omega) (by omega), Int.toNat_natCast, iI_add, iI_add]
    have go : ∀ c, c = w → V l Γ T_Tape_putBit d r 12 [.ref 24, .int b, .int (iI n), .int (iI ((k : Int) + 1))] [] (q_up (q_up M 25 ws.length (iI c)) 24 2 (iI ((ws.length : Int) + 1)), L) (q_n L (fun M' => rowIs M' 24 2 25 (ws ++ List.replicate (j + 1) w) ∧ fr [24, 25] M M')) := by
      intro c hc
      subst hc
      refine (ih (k + 1) _ (ws ++ [c]) (by omega) (h.push (by decide)) (by rw [List.length_append, List.length_singleton]; omega)).wn (fun M' hM => ⟨?_, ((fr.rf.up (by simp)).up (by simp)).tr hM.2⟩)
      have a := hM.1
      rw [List.append_assoc] at a
      exact a
    refine ⟨fun q => by omega, fun _ => ⟨fun q => by omega, fun _ => ⟨fun hb => ⟨iI_in (by omega) (by omega) (by omega), go 6 (by rw [hw, if_neg hb])⟩, fun hb => ⟨iI_in (by omega) (by omega) (by omega), go 12 (by rw [hw, if_pos (Classical.not_not.mp hb)])⟩⟩⟩⟩
theorem c_putBit {M : qM} {ws : List Int} (b : Int32) (h : rowIs M 24 2 25 ws) (hl : ws.length + 4 ≤ 7754) :
    V l Γ T_Tape_putBit d r 0 [.ref 24, .int b, .null, .null] [] (M, L) (q_n L (fun M' => rowIs M' 24 2 25 (ws ++ hwv b) ∧ fr [24, 25] M M')) := by
  unfold hwv
  refine s_Tape_putBit_0 b ⟨fun hb => ?_, fun hb => ?_⟩
  · rw [if_neg hb]
    exact c_putBit_at (w := 6) (n := 4) (by rw [if_neg hb]) (by omega) 4 0 M ws rfl h (by omega)
  · have hb := Classical.not_not.mp hb
    rw [if_pos hb]
    exact c_putBit_at (w := 12) (n := 2) (by rw [if_pos hb]) (by omega) 2 0 M ws rfl h (by omega)
theorem c_putByte_at (x : Int32) : ∀ (n : Nat) (M : qM) (ws : List Int), n ≤ 8 → rowIs M 24 2 25 ws → ws.length + (4 * n + 4) ≤ 7754 →
    V l Γ T_Tape_putByte (d + 1) r 7 [.ref 24, .int x, .int (iI ((8 - n : Nat) : Int))] [] (M, L) (q_n L (fun M' => rowIs M' 24 2 25 (ws ++ hwB x n) ∧ fr [24, 25] M M')) := by
  intro n
  induction n with
  | zero =>
    intro M ws hn h hlen
    refine s_Tape_putByte_7 _ _ ⟨fun _ => ⟨_, c_putBit (iI 1) h (by omega), fun M1 hM => hM⟩, fun q => absurd ?_ q⟩
    exact (iI_le (by omega) (by omega) (by omega) (by omega)).mpr (by omega)
  | succ n ih =>
    intro M ws hn h hlen
    refine s_Tape_putByte_7 _ _ ⟨fun q => ?_, fun _ => ⟨_, c_putBit (bitI x (8 - (n + 1))) h (by omega), fun M1 hM => ?_⟩⟩
    · rw [iI_le (by omega) (by omega) (by omega) (by omega)] at q
      omega
    · have h4 := hwv_len (bitI x (8 - (n + 1)))
      have e : iI ((8 - (n + 1) : Nat) : Int) + iI 1 = iI ((8 - n : Nat) : Int) := by
        rw [iI_add]
        congr 1
        omega
      rw [e]
      refine (ih M1 _ (by omega) hM.1 (by rw [List.length_append]; omega)).wn (fun M2 h2 => ⟨?_, hM.2.tr h2.2⟩)
      have a := h2.1
      rw [List.append_assoc] at a
      exact a
theorem c_putByte {M : qM} {ws : List Int} (x : Int32) (h : rowIs M 24 2 25 ws) (hl : ws.length + 38 ≤ 7754) :
    V l Γ T_Tape_putByte (d + 1) r 0 [.ref 24, .int x, .null] [] (M, L) (q_n L (fun M' => rowIs M' 24 2 25 (ws ++ byW x) ∧ fr [24, 25] M M')) := by
  refine s_Tape_putByte_0 x ⟨_, c_putBit (iI 0) h (by omega), fun M1 hM => ?_⟩
  have e2 : (hwv (iI 0)).length = 2 := by decide
  refine (c_putByte_at x 8 M1 _ (by omega) hM.1 (by rw [List.length_append]; omega)).wn (fun M2 h2 => ⟨?_, hM.2.tr h2.2⟩)
  have a := h2.1
  rw [List.append_assoc] at a
  exact a
theorem c_sumOf_at {M : qM} {w : Nat} (ho : w = 11 ∨ w = 26) {bs : List Int} (h : rw (M w) bs) (hl : bs.length ≤ cp w) : ∀ (n i : Nat) (s : Int), i + n = bs.length →
    V l Γ T_TapedLines_sumOf d r 4 [.ref w, .int (iI bs.length), .int (iI s), .int (iI i)] [] (M, L) (q_i L (fun x M' => x = iI ((s + sumZ ((i : Int) + 1) (bs.drop i)) % 65536) ∧ M' = M)) := by
  have hcp : cp w < 1000 := by rcases ho with rfl | rfl <;> decide
  intro n
  induction n with
  | zero =>
    intro i s hi
    refine s_TapedLines_sumOf_4 w ho _ _ _ ?_
    rw [iI_le (by omega) (by omega) (by omega) (by omega), iI_mask]
    refine ⟨fun _ => ⟨?_, rfl⟩, fun q => absurd ?_ q⟩
    · rw [List.drop_of_length_le (by omega)]
      show _ = iI ((s + 0) % 65536)
      rw [Int.add_zero]
    · omega
  | succ n ih =>
    intro i s hi
    have hlt : i < bs.length := by omega
    refine s_TapedLines_sumOf_4 w ho _ _ _ ?_
    rw [iI_le (by omega) (by omega) (by omega) (by omega), iI_nat (by omega) (by omega), Int.toNat_natCast, h i hlt, iI_add, iI_mul, iI_add]
    refine ⟨fun q => by omega, fun _ => ⟨iI_in (by omega) (by omega) (by omega), ?_⟩⟩
    have e : bs.drop i = bs.getD i 0 :: bs.drop (i + 1) := by
      rw [List.drop_eq_getElem_cons hlt, List.getD_eq_getElem?_getD, List.getElem?_eq_getElem hlt]
      rfl
    refine (ih (i + 1) (s + ((i : Int) + 1) * bs.getD i 0) (by omega)).wi (fun x M' hx => ⟨?_, hx.2⟩)
    rw [hx.1, e, sumZ, Int.add_assoc]
    rfl
theorem c_sumOf {M : qM} {w : Nat} (ho : w = 11 ∨ w = 26) {bs : List Int} (h : rw (M w) bs) (hl : bs.length ≤ cp w) :
    V l Γ T_TapedLines_sumOf d r 0 [.ref w, .int (iI bs.length), .null, .null] [] (M, L) (q_i L (fun x M' => x = sumI bs ∧ M' = M)) := by
  refine s_TapedLines_sumOf_0 w ho _ ((c_sumOf_at ho h hl bs.length 0 0 (by omega)).wi (fun x M' hx => ⟨?_, hx.2⟩))
  rw [hx.1, Int.zero_add]
  rfl
theorem c_record_31 {bs : List Int} (hb : bs.length ≤ 200) : ∀ (n i : Nat) (M : qM) (ws : List Int), i + n = bs.length → rw (M 11) bs → rowIs M 24 2 25 ws → ws.length + 38 * (n + 2) ≤ 7754 →
    V l Γ T_Tape_record (d + 1 + 1) r 31 [.ref 24, .ref 11, .int (iI bs.length), .int (iI i)] [] (M, L) (q_n L (fun M' => rowIs M' 24 2 25 (ws ++ (byWs (bs.drop i) ++ sumW bs)) ∧ fr [24, 25] M M')) := by
  intro n
  induction n with
  | zero =>
    intro i M ws hi hr h hlen
    refine s_Tape_record_31 _ _ ?_
    rw [iI_le (by omega) (by omega) (by omega) (by omega)]
    have e11 : cp 11 = 200 := by decide
    refine ⟨fun _ => ⟨_, c_sumOf (Or.inl rfl) hr (by omega), ?_⟩, fun q => absurd ?_ q⟩
    · rintro x M1 ⟨rfl, rfl⟩
      have h38 := byW_len (sumI bs >>> (iI 8 &&& 31))
      refine ⟨_, c_putByte (sumI bs >>> (iI 8 &&& 31)) h (by omega), fun M2 h2 => ⟨_, c_putByte (sumI bs &&& iI 255) h2.1 (by rw [List.length_append]; omega), fun M3 h3 => ⟨?_, h2.2.tr h3.2⟩⟩⟩
      have a := h3.1
      rw [List.append_assoc] at a
      rw [List.drop_of_length_le (by omega)]
      exact a
    · omega
  | succ n ih =>
    intro i M ws hi hr h hlen
    have hlt : i < bs.length := by omega
    refine s_Tape_record_31 _ _ ?_
    rw [iI_le (by omega) (by omega) (by omega) (by omega), iI_nat (by omega) (by omega), Int.toNat_natCast, hr i hlt, iI_add]
    have h38 := byW_len (iI (bs.getD i 0))
    refine ⟨fun q => by omega, fun _ => ⟨iI_in (by omega) (by omega) (by omega), _, c_putByte (iI (bs.getD i 0)) h (by omega), fun M1 h1 => ?_⟩⟩
    have e : bs.drop i = bs.getD i 0 :: bs.drop (i + 1) := by
      rw [List.drop_eq_getElem_cons hlt, List.getD_eq_getElem?_getD, List.getElem?_eq_getElem hlt]
      rfl
    have hr1 : rw (M1 11) bs := by rw [h1.2 11 (by decide)]; exact hr
    refine (ih (i + 1) M1 _ (by omega) hr1 h1.1 (by rw [List.length_append]; omega)).wn (fun M2 h2 => ⟨?_, h1.2.tr h2.2⟩)
    have a := h2.1
    rw [e, byWs, List.append_assoc (byW _)]
    rw [List.append_assoc] at a
    exact a
theorem c_record_7 {bs : List Int} (hb : bs.length ≤ 200) : ∀ (n : Nat) (M : qM) (ws : List Int), n ≤ 10 → rw (M 11) bs → rowIs M 24 2 25 ws → ws.length + (4 * n + 38 * (bs.length + 3)) ≤ 7754 →
    V l Γ T_Tape_record (d + 1 + 1) r 7 [.ref 24, .ref 11, .int (iI bs.length), .int (iI ((10 - n : Nat) : Int))] [] (M, L) (q_n L (fun M' => rowIs M' 24 2 25 (ws ++ (leadW n ++ (byW (iI bs.length) ++ (byWs bs ++ sumW bs)))) ∧ fr [24, 25] M M')) := by
  intro n
  induction n with
  | zero =>
    intro M ws hn hr h hlen
    refine s_Tape_record_7 _ _ ⟨fun _ => ⟨_, c_putByte (iI bs.length) h (by omega), fun M1 h1 => ?_⟩, fun q => absurd ?_ q⟩
    · have h38 := byW_len (iI bs.length)
      have hr1 : rw (M1 11) bs := by rw [h1.2 11 (by decide)]; exact hr
      refine (c_record_31 hb bs.length 0 M1 _ (by omega) hr1 h1.1 (by rw [List.length_append]; omega)).wn (fun M2 h2 => ⟨?_, h1.2.tr h2.2⟩)
      have a := h2.1
      rw [List.append_assoc] at a
      exact a
    · exact (iI_le (by omega) (by omega) (by omega) (by omega)).mpr (by omega)
  | succ n ih =>
    intro M ws hn hr h hlen
    refine s_Tape_record_7 _ _ ⟨fun q => ?_, fun _ => ⟨_, c_putBit (iI 1) h (by omega), fun M1 h1 => ?_⟩⟩
    · rw [iI_le (by omega) (by omega) (by omega) (by omega)] at q
      omega
    · have e : iI ((10 - (n + 1) : Nat) : Int) + iI 1 = iI ((10 - n : Nat) : Int) := by
        rw [iI_add]
        congr 1
        omega
      have h4 := hwv_len1
      have hr1 : rw (M1 11) bs := by rw [h1.2 11 (by decide)]; exact hr
      rw [e]
      refine (ih M1 _ (by omega) hr1 h1.1 (by rw [List.length_append]; omega)).wn (fun M2 h2 => ⟨?_, h1.2.tr h2.2⟩)
      have a := h2.1
      rw [leadW, List.append_assoc (hwv _)]
      rw [List.append_assoc] at a
      exact a
theorem c_save {M : qM} {pr : List (Int × List Int)} (h : cPr M pr) :
    V l Γ T_TapedLines_save (d + 1 + 1 + 1) r 0 [.ref 0] [] (M, L) (q_i L (fun x M' => x = iI (tapeW (enc pr)).length ∧ rowIs M' 24 2 25 (tapeW (enc pr)) ∧ fr [24, 25] M M')) := by
  obtain ⟨h1, h2, h3⟩ := h
  refine s_TapedLines_save_0 ⟨fun M' => rowIs M' 24 2 25 (tapeW (enc pr)) ∧ fr [24, 25] M M', ?_, fun M1 hM => ⟨hM.1.1, hM⟩⟩
  rw [h1]
  refine s_Tape_record_0 _ ((c_record_7 h2 10 _ [] (by omega) (by rw [q_up_o (by decide)]; exact h3) rowIs.wipe (by show 0 + _ ≤ _; omega)).wn (fun M2 hM => ⟨hM.1, (fr.rf.up (by simp)).tr hM.2⟩))
end TapeW
