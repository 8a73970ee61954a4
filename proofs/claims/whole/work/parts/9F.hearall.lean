-- all that the tape tells
def hAll (n : Nat) (f : Nat → Int32) : Option (List Int) := match hByte n f 0 with
  | none => none
  | some (s, a1) => match hBytes n f (s.toNat + 2) a1 with
    | none => none
    | some (t, _) => some t
theorem hBytes_ok {n : Nat} {f : Nat → Int32} : ∀ {k a a' : Nat} {t : List Int}, hBytes n f k a = some (t, a') → t.length = k ∧ ∀ b ∈ t, 0 ≤ b ∧ b < 256 := by
  intro k
  induction k with
  | zero =>
    intro a a' t h
    unfold hBytes at h
    cases h
    exact ⟨rfl, fun b hb => by cases hb⟩
  | succ k ih =>
    intro a a' t h
    unfold hBytes at h
    rcases e : hByte n f a with _ | ⟨v, a1⟩
    · rw [e] at h; cases h
    · rw [e] at h
      simp only at h
      rcases e2 : hBytes n f k a1 with _ | ⟨t2, a2⟩
      · rw [e2] at h; cases h
      · rw [e2] at h
        simp only at h
        cases h
        obtain ⟨h1, h2⟩ := ih e2
        have := hByte_le e
        refine ⟨by simp [h1], fun b hb => ?_⟩
        rcases List.mem_cons.mp hb with rfl | hb
        · omega
        · exact h2 b hb
theorem hBytes_same {n : Nat} {f g : Nat → Int32} (h : ∀ j, j < n → f j = g j) : ∀ (k a : Nat), hBytes n f k a = hBytes n g k a := by
  intro k
  induction k with
  | zero => intro a; rfl
  | succ k ih =>
    intro a
    unfold hBytes
    rw [hByte_same h a]
    rcases hByte n g a with _ | ⟨v, a1⟩
    · rfl
    · simp only
      rw [ih a1]
theorem hAll_same {n : Nat} {f g : Nat → Int32} (h : ∀ j, j < n → f j = g j) : hAll n f = hAll n g := by
  unfold hAll
  rw [hByte_same h 0]
  rcases hByte n g 0 with _ | ⟨v, a1⟩
  · rfl
  · simp only
    rw [hBytes_same h]
theorem hAll_ok {n : Nat} {f : Nat → Int32} {t : List Int} (h : hAll n f = some t) : 2 ≤ t.length ∧ t.length ≤ 257 ∧ ∀ b ∈ t, 0 ≤ b ∧ b < 256 := by
  unfold hAll at h
  rcases e : hByte n f 0 with _ | ⟨s, a1⟩
  · rw [e] at h; cases h
  · rw [e] at h
    simp only at h
    rcases e2 : hBytes n f (s.toNat + 2) a1 with _ | ⟨t2, a2⟩
    · rw [e2] at h; cases h
    · rw [e2] at h
      simp only at h
      cases h
      obtain ⟨h1, h2⟩ := hBytes_ok e2
      have := hByte_le e
      exact ⟨by omega, by omega, h2⟩
theorem hBytes_s (n : Nat) (f : Nat → Int32) (k a : Nat) : hBytes n f (k + 1) a = match hByte n f a with
    | none => none
    | some (v, a') => match hBytes n f k a' with
      | none => none
      | some (t, a'') => some (v :: t, a'') := rfl
theorem hBytes_app {n : Nat} {f : Nat → Int32} : ∀ (k j a : Nat), hBytes n f (k + j) a = match hBytes n f k a with
    | none => none
    | some (t, a1) => match hBytes n f j a1 with
      | none => none
      | some (t2, a2) => some (t ++ t2, a2) := by
  intro k
  induction k with
  | zero =>
    intro j a
    rw [Nat.zero_add]
    show _ = match some (([] : List Int), a) with
      | none => none
      | some (t, a1) => _
    simp only
    rcases hBytes n f j a with _ | ⟨t2, a2⟩ <;> rfl
  | succ k ih =>
    intro j a
    rw [show k + 1 + j = k + j + 1 by omega]
    rw [hBytes_s n f (k + j) a, hBytes_s n f k a]
    rcases hByte n f a with _ | ⟨v, a1⟩
    · rfl
    · simp only
      rw [ih j a1]
      rcases hBytes n f k a1 with _ | ⟨t, a2⟩
      · rfl
      · simp only
        rcases hBytes n f j a2 with _ | ⟨t2, a3⟩ <;> rfl
section HearAll
variable {l : Launch} {Γ : qG} {d r : Nat} {L : Nat → Int64}
theorem c_hear_21 {n : Nat} {f : Nat → Int32} (hn : n ≤ 7754) (s : Nat) (hs : s ≤ 255) : ∀ (j : Nat) (w : List Int) (a : Nat) (M : qM), w.length + j = s + 2 → a ≤ n → M 24 2 = iI n → M 25 = f → M 24 3 = iI a → rw (M 26) w → V l Γ T_Tape_hear (d + 1 + 1) r 21 [.ref 24, .int (iI s), .int (iI w.length)] [] (M, L) (q_i L (fun x M' => ((hBytes n f j a = none ∧ x = iI (-2)) ∨ ∃ t a', hBytes n f j a = some (t, a') ∧ x = iI s ∧ rw (M' 26) (w ++ t)) ∧ fr [24, 26] M M' ∧ M' 24 2 = iI n)) := by
  intro j
  induction j with
  | zero =>
    intro w a M hw ha h2 h25 h3 h26
    refine s_Tape_hear_21 _ _ ?_
    rw [iI_add, iI_le (by omega) (by omega) (by omega) (by omega)]
    exact ⟨fun _ => ⟨Or.inr ⟨[], a, rfl, rfl, by rw [List.append_nil]; exact h26⟩, fr.rf, h2⟩, fun q => by omega⟩
  | succ j ih =>
    intro w a M hw ha h2 h25 h3 h26
    refine s_Tape_hear_21 _ _ ?_
    rw [iI_add, iI_le (by omega) (by omega) (by omega) (by omega), iI_nat (by omega) (by omega), Int.toNat_natCast, iI_add]
    refine ⟨fun q => by omega, fun _ => ⟨_, c_hearByte hn h2 h3 ha, ?_⟩⟩
    intro x1 M1 hb
    rw [q_up_s]
    refine ⟨iI_in (by omega) (by omega) (by omega), iI_in (by omega) (by omega) (by omega), ?_⟩
    unfold hbP at hb
    rw [h25] at hb
    have un : hBytes n f (j + 1) a = match hByte n f a with
        | none => none
        | some (v, a') => match hBytes n f j a' with
          | none => none
          | some (t, a'') => some (v :: t, a'') := rfl
    rcases hb with ⟨v, a3, e, rfl, rfl⟩ | ⟨e, rfl, z, rfl⟩
    · obtain ⟨b1, b2', b3⟩ := hByte_le e
      rw [iI_eq (by omega) (by omega) (by omega) (by omega)]
      refine ⟨fun _ => ?_, fun q => by omega⟩
      rw [show ((w.length : Int) + 1) = ((w ++ [v]).length : Int) by simp]
      have h26' : rw (q_up (q_up M 24 3 (iI (a3 : Nat))) 26 w.length (iI v) 26) (w ++ [v]) := by
        have e2 : q_up (q_up M 24 3 (iI (a3 : Nat))) 26 w.length (iI v) 26 = va_up (M 26) w.length (iI v) := by simp [q_up, va_up]
        rw [e2]
        exact rw_snoc h26
      refine (ih (w ++ [v]) a3 _ (by simp; omega) b1 (by rw [q_up_o (by decide), q_up_k (by decide)]; exact h2) (by rw [q_up_o (by decide), q_up_o (by decide)]; exact h25) (by rw [q_up_o (by decide), q_up_s]) h26').wi (fun x M' hq => ?_)
      obtain ⟨hq, f1, g2⟩ := hq
      refine ⟨?_, ((fr.rf.up (by simp)).up (by simp)).tr f1, g2⟩
      rw [un, e]
      simp only
      rcases hq with ⟨e2, rfl⟩ | ⟨t, a', e2, rfl, h⟩
      · rw [e2]
        exact Or.inl ⟨rfl, rfl⟩
      · rw [e2]
        refine Or.inr ⟨v :: t, a', rfl, rfl, ?_⟩
        rw [List.append_assoc] at h
        exact h
    · refine ⟨fun q => absurd rfl q, fun _ => ⟨Or.inl ⟨?_, rfl⟩, (fr.rf.up (by simp)).up (by simp), by rw [q_up_o (by decide), q_up_k (by decide)]; exact h2⟩⟩
      rw [un, e]
theorem c_hear {M : qM} {n : Nat} (hn : n ≤ 7754) (h2 : M 24 2 = iI n) : V l Γ T_Tape_hear (d + 1 + 1) r 0 [.ref 24, .null, .null] [] (M, L) (q_i L (fun x M' => ((hAll n (M 25) = none ∧ x = iI (-2)) ∨ ∃ t, hAll n (M 25) = some t ∧ x = iI ((t.length : Int) - 2) ∧ rw (M' 26) t) ∧ fr [24, 26] M M' ∧ M' 24 2 = iI n)) := by
  refine s_Tape_hear_0 ⟨_, c_hearByte (n := n) (a := 0) hn (by rw [q_up_k (by decide)]; exact h2) q_up_s (Nat.zero_le _), ?_⟩
  intro x1 M1 hb
  unfold hbP at hb
  rw [q_up_o (by decide)] at hb
  unfold hAll
  rcases hb with ⟨v, a3, e, rfl, rfl⟩ | ⟨e, rfl, z, rfl⟩
  · obtain ⟨b1, b2', b3⟩ := hByte_le e
    rw [iI_eq (by omega) (by omega) (by omega) (by omega)]
    refine ⟨fun _ => ?_, fun q => by omega⟩
    have := c_hear_21 (l := l) (Γ := Γ) (d := d) (r := r) (L := L) (n := n) (f := M 25) hn v.toNat (by omega) (v.toNat + 2) [] a3 (q_up (q_up M 24 3 (iI 0)) 24 3 (iI (a3 : Nat))) (by simp) b1 (by rw [q_up_k (by decide), q_up_k (by decide)]; exact h2) (by rw [q_up_o (by decide), q_up_o (by decide)]) q_up_s (rw_nil _)
    rw [show ((v.toNat : Nat) : Int) = v by omega] at this
    refine this.wi (fun x M' hq => ?_)
    obtain ⟨hq, f1, g2⟩ := hq
    refine ⟨?_, ((fr.rf.up (by simp)).up (by simp)).tr f1, g2⟩
    rw [e]
    simp only
    rcases hq with ⟨e2, rfl⟩ | ⟨t, a', e2, rfl, h⟩
    · rw [e2]
      exact Or.inl ⟨rfl, rfl⟩
    · rw [e2]
      have hl := (hBytes_ok e2).1
      exact Or.inr ⟨t, rfl, congrArg iI (by omega), h⟩
  · refine ⟨fun q => absurd rfl q, fun _ => ⟨Or.inl ⟨?_, rfl⟩, (fr.rf.up (by simp)).up (by simp), by rw [q_up_k (by decide), q_up_k (by decide)]; exact h2⟩⟩
    rw [e]
end HearAll
