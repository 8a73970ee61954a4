section Start
variable {l : Launch} {Γ : qG} {d r : Nat} {L : Nat → Int64}
theorem c_begin_23 : ∀ (n k : Nat) (M : qM), k + n = 16 → (∀ j, j < k → M 14 j = iI 0) →
    V l Γ T_Machine_begin (d + 1) r 23 [.ref 9, .int (iI k)] [] (M, L) (q_n L (fun M' => (∀ j, j < 16 → M' 14 j = iI 0) ∧ M' 9 12 = iI 0 ∧ M' 9 13 = iI 0 ∧ M' 16 1 = iI 0 ∧ M' 9 5 = iI 0 ∧ M' 9 4 = (if M 10 1 ≤ iI 0 then iI 2 else iI 1) ∧ fr [9, 14, 16] M M')) := by
  intro n
  induction n with
  | zero =>
    intro k M hk h
    refine s_Machine_begin_23 _ ⟨fun _ => ⟨_, s_Machine_arriveAt_0 (P := fun M' => (∀ j, j < 16 → M' 14 j = iI 0) ∧ M' 9 12 = iI 0 ∧ M' 9 13 = iI 0 ∧ M' 16 1 = iI 0 ∧ M' 9 5 = iI 0 ∧ M' 9 4 = (if M 10 1 ≤ iI 0 then iI 2 else iI 1) ∧ fr [9, 14, 16] M M') _ ?_, fun M1 hM => hM⟩, fun q => absurd ((iI_le (by omega) (by omega) (by omega) (by omega)).mpr (by omega)) q⟩
    have e10 : (q_up (q_up (q_up M 9 12 (iI 0)) 9 13 (iI 0)) 16 1 (iI 0)) 10 1 = M 10 1 := by
      rw [q_up_o (by decide), q_up_o (by decide), q_up_o (by decide)]
    rw [e10]
    have go : ∀ v : Int32, (∀ j, j < 16 → (q_up (q_up (q_up (q_up (q_up M 9 12 (iI 0)) 9 13 (iI 0)) 16 1 (iI 0)) 9 5 (iI 0)) 9 4 v) 14 j = iI 0) ∧ (q_up (q_up (q_up (q_up (q_up M 9 12 (iI 0)) 9 13 (iI 0)) 16 1 (iI 0)) 9 5 (iI 0)) 9 4 v) 9 12 = iI 0 ∧ (q_up (q_up (q_up (q_up (q_up M 9 12 (iI 0)) 9 13 (iI 0)) 16 1 (iI 0)) 9 5 (iI 0)) 9 4 v) 9 13 = iI 0 ∧ (q_up (q_up (q_up (q_up (q_up M 9 12 (iI 0)) 9 13 (iI 0)) 16 1 (iI 0)) 9 5 (iI 0)) 9 4 v) 16 1 = iI 0 ∧ (q_up (q_up (q_up (q_up (q_up M 9 12 (iI 0)) 9 13 (iI 0)) 16 1 (iI 0)) 9 5 (iI 0)) 9 4 v) 9 5 = iI 0 ∧ (q_up (q_up (q_up (q_up (q_up M 9 12 (iI 0)) 9 13 (iI 0)) 16 1 (iI 0)) 9 5 (iI 0)) 9 4 v) 9 4 = v ∧ fr [9, 14, 16] M (q_up (q_up (q_up (q_up (q_up M 9 12 (iI 0)) 9 13 (iI 0)) 16 1 (iI 0)) 9 5 (iI 0)) 9 4 v) := by
      intro v
      refine ⟨fun j hj => ?_, ?_, ?_, ?_, ?_, q_up_s, ((((fr.rf.up (by simp)).up (by simp)).up (by simp)).up (by simp)).up (by simp)⟩
      · rw [q_up_o (by decide), q_up_o (by decide), q_up_o (by decide), q_up_o (by decide), q_up_o (by decide)]
        exact h j (by omega)
      · rw [q_up_k (by decide), q_up_k (by decide), q_up_o (by decide), q_up_k (by decide), q_up_s]
      · rw [q_up_k (by decide), q_up_k (by decide), q_up_o (by decide), q_up_s]
      · rw [q_up_o (by decide), q_up_o (by decide), q_up_s]
      · rw [q_up_k (by decide), q_up_s]
    refine ⟨fun q => ?_, fun q => ?_⟩
    · have g := go (iI 2)
      rw [if_pos q]
      exact g
    · have g := go (iI 1)
      rw [if_neg q]
      exact g
  | succ n ih =>
    intro k M hk h
    refine s_Machine_begin_23 _ ?_
    rw [iI_le (by omega) (by omega) (by omega) (by omega), iI_nat (by omega) (by omega), Int.toNat_natCast, iI_add]
    refine ⟨fun q => by omega, fun _ => ⟨iI_in (by omega) (by omega) (by omega), ?_⟩⟩
    have h2 : ∀ j, j < k + 1 → (q_up M 14 k (iI 0)) 14 j = iI 0 := by
      intro j hj
      by_cases e : j = k
      · rw [e, q_up_s]
      · rw [q_up_k e]
        exact h j (by omega)
    refine (ih (k + 1) (q_up M 14 k (iI 0)) (by omega) h2).wn (fun M' hM => ?_)
    rw [q_up_o (show (10 : Nat) ≠ 14 by decide)] at hM
    exact ⟨hM.1, hM.2.1, hM.2.2.1, hM.2.2.2.1, hM.2.2.2.2.1, hM.2.2.2.2.2.1, (fr.rf.up (by simp)).tr hM.2.2.2.2.2.2⟩
theorem c_begin_2 : ∀ (n k : Nat) (M : qM), k + n = 8 → (∀ j, j < k → M 13 j = iI 0) →
    V l Γ T_Machine_begin (d + 1) r 2 [.ref 9, .int (iI k)] [] (M, L) (q_n L (fun M' => (∀ j, j < 8 → M' 13 j = iI 0) ∧ (∀ j, j < 16 → M' 14 j = iI 0) ∧ M' 9 12 = iI 0 ∧ M' 9 13 = iI 0 ∧ M' 16 1 = iI 0 ∧ M' 9 5 = iI 0 ∧ M' 9 4 = (if M 10 1 ≤ iI 0 then iI 2 else iI 1) ∧ fr [9, 13, 14, 16] M M')) := by
  intro n
  induction n with
  | zero =>
    intro k M hk h
    refine s_Machine_begin_2 _ ⟨fun _ => (c_begin_23 16 0 M (by omega) (fun j hj => by omega)).wn (fun M' hM => ⟨fun j hj => ?_, hM.1, hM.2.1, hM.2.2.1, hM.2.2.2.1, hM.2.2.2.2.1, hM.2.2.2.2.2.1, hM.2.2.2.2.2.2.wk (by simp)⟩), fun q => absurd ((iI_le (by omega) (by omega) (by omega) (by omega)).mpr (by omega)) q⟩
    rw [hM.2.2.2.2.2.2 13 (by decide)]
    exact h j (by omega)
  | succ n ih =>
    intro k M hk h
    refine s_Machine_begin_2 _ ?_
    rw [iI_le (by omega) (by omega) (by omega) (by omega), iI_nat (by omega) (by omega), Int.toNat_natCast, iI_add]
    refine ⟨fun q => by omega, fun _ => ⟨iI_in (by omega) (by omega) (by omega), ?_⟩⟩
    have h2 : ∀ j, j < k + 1 → (q_up M 13 k (iI 0)) 13 j = iI 0 := by
      intro j hj
      by_cases e : j = k
      · rw [e, q_up_s]
      · rw [q_up_k e]
        exact h j (by omega)
    refine (ih (k + 1) (q_up M 13 k (iI 0)) (by omega) h2).wn (fun M' hM => ?_)
    rw [q_up_o (show (10 : Nat) ≠ 13 by decide)] at hM
    exact ⟨hM.1, hM.2.1, hM.2.2.1, hM.2.2.2.1, hM.2.2.2.2.1, hM.2.2.2.2.2.1, hM.2.2.2.2.2.2.1, (fr.rf.up (by simp)).tr hM.2.2.2.2.2.2.2⟩
theorem c_start {M : qM} : V l Γ T_TapedLines_start (d + 1 + 1) r 0 [.ref 0] [] (M, L) (q_n L (fun M' => (∀ j, j < 8 → M' 13 j = iI 0) ∧ (∀ j, j < 16 → M' 14 j = iI 0) ∧ M' 9 12 = iI 0 ∧ M' 9 13 = iI 0 ∧ M' 16 1 = iI 0 ∧ M' 9 5 = iI 0 ∧ M' 9 4 = (if M 10 1 ≤ iI 0 then iI 2 else iI 1) ∧ fr [9, 13, 14, 16] M M')) :=
  s_TapedLines_start_0 ⟨_, s_Machine_begin_0 (c_begin_2 8 0 M (by omega) (fun j hj => by omega)), fun M1 hM => hM⟩
theorem cm_start_43 : ∀ (n k : Nat) (M : qM), k + n = 16 → (∀ j, j < k → M 32 j = iI 0) → (∀ j, j < 8 → j < k → M 31 j = iI 0) →
    V l Γ T_TapedLinesModel_start d r 43 [.ref 27, .int (iI k)] [] (M, L) (q_n L (fun M' => (∀ j, j < 16 → M' 32 j = iI 0) ∧ (∀ j, j < 8 → M' 31 j = iI 0) ∧ fm [31, 32] [] M M')) := by
  intro n
  induction n with
  | zero =>
    intro k M hk h h2
    exact s_TapedLinesModel_start_43 _ ⟨fun _ => ⟨fun j hj => h j (by omega), fun j hj => h2 j hj (by omega), fm.rf⟩, fun q => absurd ((iI_le (by omega) (by omega) (by omega) (by omega)).mpr (by omega)) q⟩
  | succ n ih =>
    intro k M hk h h2
    have e8 : iI (k : Int) - iI (k : Int) / iI 8 * iI 8 = iI ((k % 8 : Nat) : Int) := by
      rw [iI_rem (by omega) (by omega) (by omega) (by omega)]
      congr 1
    refine s_TapedLinesModel_start_43 _ ?_
    rw [e8, iI_le (by omega) (by omega) (by omega) (by omega), iI_nat (z := (k : Int)) (by omega) (by omega), iI_nat (by omega) (by omega), Int.toNat_natCast, Int.toNat_natCast, iI_add]
    refine ⟨fun q => by omega, fun _ => ⟨iI_in (by omega) (by omega) (by omega), iI_in (by omega) (by omega) (by omega), ?_⟩⟩
    refine (ih (k + 1) _ (by omega) (fun j hj => ?_) (fun j hj hjk => ?_)).wn (fun M' hM => ⟨hM.1, hM.2.1, ((fm.rf.upo (by simp) (by decide)).upo (by simp) (by decide)).tr hM.2.2⟩)
    · rw [q_up_o (by decide)]
      by_cases e : j = k
      · rw [e, q_up_s]
      · rw [q_up_k e]
        exact h j (by omega)
    · by_cases e : j = k % 8
      · rw [e, q_up_s]
      · rw [q_up_k e, q_up_o (by decide)]
        exact h2 j hj (by omega)
theorem cm_start {M : qM} : V l Γ T_TapedLinesModel_start d r 0 [.ref 27, .null] [] (M, L) (q_n L (fun M' => (∀ j, j < 16 → M' 32 j = iI 0) ∧ (∀ j, j < 8 → M' 31 j = iI 0) ∧ M' 27 14 = (if M 27 12 = 0 then iI 2 else iI 1) ∧ M' 27 15 = iI 0 ∧ M' 27 18 = iI 0 ∧ M' 27 22 = iI 0 ∧ M' 27 24 = iI 0 ∧ fm [31, 32] [0, 14, 15, 18, 22, 24] M M')) := by
  have go : ∀ v : Int32, v = (if M 27 12 = 0 then iI 2 else iI 1) → V l Γ T_TapedLinesModel_start d r 43 [.ref 27, .int (iI 0)] [] ((q_up (q_up (q_up (q_up (q_up (q_up M 27 0 (iI 0)) 27 14 v) 27 15 (iI 0)) 27 18 (iI 0)) 27 22 (iI 0)) 27 24 (iI 0)), L) (q_n L (fun M' => (∀ j, j < 16 → M' 32 j = iI 0) ∧ (∀ j, j < 8 → M' 31 j = iI 0) ∧ M' 27 14 = (if M 27 12 = 0 then iI 2 else iI 1) ∧ M' 27 15 = iI 0 ∧ M' 27 18 = iI 0 ∧ M' 27 22 = iI 0 ∧ M' 27 24 = iI 0 ∧ fm [31, 32] [0, 14, 15, 18, 22, 24] M M')) := by
    intro v hv
    refine (cm_start_43 16 0 _ (by omega) (fun j hj => by omega) (fun j hj hk => by omega)).wn (fun M' hM => ⟨hM.1, hM.2.1, ?_, ?_, ?_, ?_, ?_, ((((((fm.rf.upk (by simp)).upk (by simp)).upk (by simp)).upk (by simp)).upk (by simp)).upk (by simp)).tr (hM.2.2.wk (by simp) (by simp))⟩)
    · rw [hM.2.2.2 14 (by simp), q_up_k (by decide), q_up_k (by decide), q_up_k (by decide), q_up_k (by decide), q_up_s, hv]
    · rw [hM.2.2.2 15 (by simp), q_up_k (by decide), q_up_k (by decide), q_up_k (by decide), q_up_s]
    · rw [hM.2.2.2 18 (by simp), q_up_k (by decide), q_up_k (by decide), q_up_s]
    · rw [hM.2.2.2 22 (by simp), q_up_k (by decide), q_up_s]
    · rw [hM.2.2.2 24 (by simp), q_up_s]
  exact s_TapedLinesModel_start_0 ⟨fun q => go _ (by rw [if_neg q]), fun q => go _ (by rw [if_pos (Classical.not_not.mp q)])⟩
end Start
section Out
variable {l : Launch} {Γ : qG} {d r : Nat} {L : Nat → Int64}
theorem c_appendSheet_2 {o w : Nat} (ho : (o = 3 ∧ w = 16) ∨ (o = 16 ∧ w = 18)) {u : List Int} (hu : ∀ c ∈ u, 0 ≤ c ∧ c < 65536) : ∀ (n k : Nat) (M : qM) (t : List Int), k + n = u.length → shIs M o t → shIs M w u → t.length + n ≤ cp (o + 1) →
    V l Γ T_Sheet_appendSheet (d + 1) r 2 [.ref o, .ref w, .int (iI k)] [] (M, L) (q_n L (fun M' => shIs M' o (t ++ u.drop k) ∧ fr [o, o + 1] M M')) := by
  have ho5 : o = 1 ∨ o = 3 ∨ o = 7 ∨ o = 16 ∨ o = 18 := by rcases ho with ⟨rfl, rfl⟩ | ⟨rfl, rfl⟩ <;> decide
  have hw : w ∉ [o, o + 1] ∧ w + 1 ∉ [o, o + 1] := by rcases ho with ⟨rfl, rfl⟩ | ⟨rfl, rfl⟩ <;> decide
  have hcw : cp (w + 1) < 1000 := by rcases ho with ⟨rfl, rfl⟩ | ⟨rfl, rfl⟩ <;> decide
  intro n
  induction n with
  | zero =>
    intro k M t hk ht hs hlen
    have h2 := hs.2.1
    refine s_Sheet_appendSheet_2 o w ho _ ?_
    rw [hs.1, iI_le (by omega) (by omega) (by omega) (by omega)]
    refine ⟨fun _ => ⟨?_, fr.rf⟩, fun q => absurd (by omega) q⟩
    rw [List.drop_of_length_le (by omega), List.append_nil]
    exact ht
  | succ n ih =>
    intro k M t hk ht hs hlen
    have h2 := hs.2.1
    have hlt : k < u.length := by omega
    have hc := hu (u.getD k 0) (by rw [List.getD_eq_getElem?_getD, List.getElem?_eq_getElem hlt]; exact List.getElem_mem hlt)
    refine s_Sheet_appendSheet_2 o w ho _ ?_
    rw [hs.1, iI_le (by omega) (by omega) (by omega) (by omega), iI_nat (by omega) (by omega), Int.toNat_natCast, hs.2.2 k hlt, iI_add]
    refine ⟨fun q => by omega, fun _ => ⟨iI_in (by omega) (by omega) (by omega), _, c_append o ho5 ht hc.1 hc.2, ?_⟩⟩
    rintro x M1 ⟨rfl, rfl⟩
    have h3 := shApp_is (c := u.getD k 0) ht
    rw [if_pos (by omega)] at h3
    have hf := shApp_fr (M := M) (o := o) (t := t) (c := u.getD k 0)
    have e : u.drop k = u.getD k 0 :: u.drop (k + 1) := by
      rw [List.drop_eq_getElem_cons hlt, List.getD_eq_getElem?_getD, List.getElem?_eq_getElem hlt]
      rfl
    refine (ih (k + 1) _ _ (by omega) h3 (hs.keep (hf w hw.1) (hf (w + 1) hw.2)) (by rw [List.length_append, List.length_singleton]; omega)).wn (fun M' hM => ⟨?_, hf.tr hM.2⟩)
    have a := hM.1
    rw [List.append_assoc] at a
    rw [e]
    exact a
theorem c_output {M : qM} {t u : List Int} (hs : shIs M 16 u) (hu : ∀ c ∈ u, 0 ≤ c ∧ c < 65536) :
    V l Γ T_TapedLines_output (d + 1 + 1) r 0 [.ref 0] [] (M, L) (q_i L (fun x M' => x = iI u.length ∧ shIs M' 3 u ∧ fr [3, 4] M M')) := by
  have h2 : u.length ≤ 100 := hs.2.1
  have e4 : cp (3 + 1) = 256 := by decide
  refine s_TapedLines_output_0 ⟨_, s_Sheet_appendSheet_0 3 16 (Or.inl ⟨rfl, rfl⟩) (c_appendSheet_2 (Or.inl ⟨rfl, rfl⟩) hu u.length 0 (q_up M 3 1 (iI 0)) [] (by omega) shIs.wipe (hs.keep (q_up_o (by decide)) (q_up_o (by decide))) (by rw [e4]; show 0 + _ ≤ _; omega)), ?_⟩
  rintro M1 ⟨h, hf⟩
  exact ⟨h.1, h, (fr.rf.up (by simp)).tr hf⟩
theorem cm_put {M : qM} {t : List Int} (c : Int) (h : rowIs M 27 37 41 t) (hl : t.length < 400) : V l Γ T_TapedLinesModel_put d r 0 [.ref 27, .int (iI c)] [] (M, L) (q_n L (fun M' => rowIs M' 27 37 41 (t ++ [c]) ∧ fm [41] [37] M M')) := by
  refine s_TapedLinesModel_put_0 _ ?_
  have hp := h.push (c := c) (show (41 : Nat) ≠ 27 by decide)
  rw [h.1, iI_nat (by omega) (by omega), Int.toNat_natCast, iI_add]
  exact ⟨iI_in (by omega) (by omega) (by omega), hp, (fm.rf.upo (by simp) (by decide)).upk (by simp)⟩
theorem cm_output_12 {u : List Int} (hl : u.length ≤ 100) : ∀ (n k : Nat) (M : qM) (t : List Int), k + n = u.length → rowIs M 27 37 41 t → rowIs M 27 24 37 u → t.length + n ≤ 400 →
    V l Γ T_TapedLinesModel_output (d + 1) r 12 [.ref 27, .int (iI k)] [] (M, L) (q_i L (fun x M' => x = iI (t ++ u.drop k).length ∧ rowIs M' 27 37 41 (t ++ u.drop k) ∧ fm [41] [37] M M')) := by
  intro n
  induction n with
  | zero =>
    intro k M t hk ht hs hlen
    refine s_TapedLinesModel_output_12 _ ?_
    rw [hs.1, iI_le (by omega) (by omega) (by omega) (by omega), List.drop_of_length_le (by omega), List.append_nil]
    exact ⟨fun _ => ⟨ht.1, ht, fm.rf⟩, fun q => absurd (by omega) q⟩
  | succ n ih =>
    intro k M t hk ht hs hlen
    have hlt : k < u.length := by omega
    refine s_TapedLinesModel_output_12 _ ?_
    rw [hs.1, iI_le (by omega) (by omega) (by omega) (by omega), iI_nat (by omega) (by omega), Int.toNat_natCast, hs.2 k hlt, iI_add]
    refine ⟨fun q => by omega, fun _ => ⟨iI_in (by omega) (by omega) (by omega), _, cm_put (u.getD k 0) ht (by omega), ?_⟩⟩
    rintro M1 ⟨h3, hf⟩
    have e : u.drop k = u.getD k 0 :: u.drop (k + 1) := by
      rw [List.drop_eq_getElem_cons hlt, List.getD_eq_getElem?_getD, List.getElem?_eq_getElem hlt]
      rfl
    have e2 : t ++ u.drop k = (t ++ [u.getD k 0]) ++ u.drop (k + 1) := by rw [e, List.append_assoc]; rfl
    rw [e2]
    exact (ih (k + 1) M1 _ (by omega) h3 (hs.keep (hf.2 24 (by simp)) (hf.1 37 (by simp) (by decide))) (by rw [List.length_append, List.length_singleton]; omega)).wi (fun x M' hM => ⟨hM.1, hM.2.1, hf.tr hM.2.2⟩)
theorem cm_output {M : qM} {u : List Int} (hs : rowIs M 27 24 37 u) (hl : u.length ≤ 100) :
    V l Γ T_TapedLinesModel_output (d + 1) r 0 [.ref 27, .null] [] (M, L) (q_i L (fun x M' => x = iI u.length ∧ rowIs M' 27 37 41 u ∧ fm [41] [0, 37] M M')) :=
  s_TapedLinesModel_output_0 ((cm_output_12 hl u.length 0 _ [] (by omega) rowIs.wipe (hs.keep (by rw [q_up_k (by decide), q_up_k (by decide)]) (by rw [q_up_o (by decide), q_up_o (by decide)])) (by show 0 + _ ≤ _; omega)).wi (fun x M' hM => ⟨hM.1, hM.2.1, ((fm.rf.upk (by simp)).upk (by simp)).tr (hM.2.2.wk (by simp) (by simp))⟩))
end Out
