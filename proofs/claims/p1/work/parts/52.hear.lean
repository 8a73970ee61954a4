theorem q_up_up {M : qM} {o k : Nat} {v w : Int32} : q_up (q_up M o k v) o k w = q_up M o k w := by
  funext o' k'
  by_cases h : o' = o
  · subst h
    by_cases h2 : k' = k
    · subst h2
      rw [q_up_s, q_up_s]
    · rw [q_up_k h2, q_up_k h2, q_up_k h2]
  · rw [q_up_o h, q_up_o h, q_up_o h]
theorem q_up_id {M : qM} {o k : Nat} {v : Int32} (h : M o k = v) : q_up M o k v = M := by
  funext o' k'
  by_cases h1 : o' = o
  · subst h1
    by_cases h2 : k' = k
    · subst h2
      rw [q_up_s, h]
    · rw [q_up_k h2]
  · rw [q_up_o h1]
section Hear
variable {l : Launch} {Γ : qG} {d r : Nat} {L : Nat → Int64}
theorem c_hearBit_59 {M : qM} {n a : Nat} {lo : Bool} (hn : n ≤ 7754) (h1 : M 24 2 = iI n) (h3 : M 24 3 = iI a) (hle : a + hN lo ≤ n) : ∀ (j k : Nat), k + j = hN lo →
    V l Γ T_Tape_hearBit d r 59 [.ref 24, .int (b2 lo), .int (iI (hN lo)), .int (iI k)] [] (M, L) (q_i L (fun x M' => (sameW n (M 25) lo j (a + k) = true ∧ x = b2 (!lo) ∧ M' = q_up M 24 3 (iI ((a + hN lo : Nat) : Int))) ∨ (sameW n (M 25) lo j (a + k) = false ∧ x = iI (-2) ∧ M' = M))) := by
  have h24 := hN_pos lo
  intro j
  induction j with
  | zero =>
    intro k hk
    refine s_Tape_hearBit_59 _ _ _ ?_
    rw [iI_le (by omega) (by omega) (by omega) (by omega), h3, iI_add]
    refine ⟨fun _ => ⟨fun q => Or.inl ⟨rfl, ?_, rfl⟩, fun q => Or.inl ⟨rfl, ?_, rfl⟩⟩, fun q => absurd (by omega) q⟩
    · rw [b2_0.mp q]
      rfl
    · have e : lo = true := by
        cases lo with
        | true => rfl
        | false => exact absurd rfl q
      rw [e]
      rfl
  | succ j ih =>
    intro k hk
    have h85 : ∀ c : Bool, decide (¬ M 25 (a + k) ≤ iI 8) = c → V l Γ T_Tape_hearBit d r 85 [.ref 24, .int (b2 lo), .int (iI (hN lo)), .int (iI k)] [.int (b2 c)] (M, L) (q_i L (fun x M' => (sameW n (M 25) lo (j + 1) (a + k) = true ∧ x = b2 (!lo) ∧ M' = q_up M 24 3 (iI ((a + hN lo : Nat) : Int))) ∨ (sameW n (M 25) lo (j + 1) (a + k) = false ∧ x = iI (-2) ∧ M' = M))) := by
      intro c hc
      have hs : sameW n (M 25) lo (j + 1) (a + k) = ((c == lo) && sameW n (M 25) lo j (a + (k + 1))) := by
        rw [sameW, hc, decide_eq_true (show a + k < n by omega), Bool.true_and]
        rfl
      rw [hs]
      refine s_Tape_hearBit_85 _ _ _ _ ⟨fun q => ?_, fun q => Or.inr ⟨?_, rfl, rfl⟩⟩
      · have e : c = lo := by revert q; cases c <;> cases lo <;> decide
        subst e
        rw [iI_add, beq_self_eq_true, Bool.true_and]
        exact ih (k + 1) (by omega)
      · have e : (c == lo) = false := by revert q; cases c <;> cases lo <;> decide
        rw [e]
        rfl
    refine s_Tape_hearBit_59 _ _ _ ?_
    have e1 : iI (a : Int) + iI (k : Int) = iI ((a + k : Nat) : Int) := by rw [iI_add]; rfl
    rw [iI_le (by omega) (by omega) (by omega) (by omega), h3, e1, iI_nat (by omega) (by omega), Int.toNat_natCast]
    exact ⟨fun q => by omega, fun _ => ⟨iI_in (by omega) (by omega) (by omega), fun q => h85 false (by simpa using q), fun q => h85 true (by simpa using q)⟩⟩
theorem c_hearBit {M : qM} {n a : Nat} (hn : n ≤ 7754) (h1 : M 24 2 = iI n) (h3 : M 24 3 = iI a) (ha : a ≤ n) :
    V l Γ T_Tape_hearBit d r 0 [.ref 24, .null, .null, .null] [] (M, L) (q_i L (fun x M' => (∃ b a', hBit n (M 25) a = some (b, a') ∧ x = b2 b ∧ M' = q_up M 24 3 (iI (a' : Nat))) ∨ (hBit n (M 25) a = none ∧ x = iI (-2) ∧ M' = M))) := by
  have k40 : ∀ lo, lngW n (M 25) a = lo → V l Γ T_Tape_hearBit d r 40 [.ref 24, .int (b2 lo), .null, .null] [.int (iI (hN lo))] (M, L) (q_i L (fun x M' => (∃ b a', hBit n (M 25) a = some (b, a') ∧ x = b2 b ∧ M' = q_up M 24 3 (iI (a' : Nat))) ∨ (hBit n (M 25) a = none ∧ x = iI (-2) ∧ M' = M))) := by
    intro lo hlo
    have h24 := hN_pos lo
    refine s_Tape_hearBit_40 _ _ ?_
    rw [h1, h3, iI_sub, iI_le (by omega) (by omega) (by omega) (by omega)]
    refine ⟨fun q => ?_, fun q => Or.inr ⟨?_, rfl, rfl⟩⟩
    · refine (c_hearBit_59 hn h1 h3 (by omega) (hN lo - 1) 1 (by omega)).wi (fun x M' hM => ?_)
      have hs : sameW n (M 25) lo (hN lo) a = sameW n (M 25) lo (hN lo - 1) (a + 1) := by
        have e : hN lo = (hN lo - 1) + 1 := by omega
        rw [e, sameW, decide_eq_true (show a < n by omega), Bool.true_and]
        have e2 : (decide (¬ M 25 a ≤ iI 8) == lo) = true := by
          rw [lngW, decide_eq_true (show a < n by omega), Bool.true_and] at hlo
          rw [hlo]
          exact beq_self_eq_true _
        rw [e2, Bool.true_and]
        rfl
      rcases hM with ⟨hs1, hx, hM⟩ | ⟨hs1, hx, hM⟩
      · refine Or.inl ⟨!lo, a + hN lo, ?_, hx, hM⟩
        unfold hBit
        rw [hlo, hs, if_pos hs1]
      · refine Or.inr ⟨?_, hx, hM⟩
        unfold hBit
        rw [hlo, hs, if_neg (by rw [hs1]; decide)]
    · unfold hBit
      rw [hlo, if_neg]
      intro hs
      rcases sameW_le _ _ hs with z | z <;> omega
  have k30 : ∀ lo, lngW n (M 25) a = lo → V l Γ T_Tape_hearBit d r 30 [.ref 24, .null, .null, .null] [.int (b2 lo)] (M, L) (q_i L (fun x M' => (∃ b a', hBit n (M 25) a = some (b, a') ∧ x = b2 b ∧ M' = q_up M 24 3 (iI (a' : Nat))) ∨ (hBit n (M 25) a = none ∧ x = iI (-2) ∧ M' = M))) := by
    intro lo hlo
    cases lo with
    | false => exact s_Tape_hearBit_30 _ ⟨fun _ => k40 false hlo, fun q => absurd (by decide) q⟩
    | true => exact s_Tape_hearBit_30 _ ⟨fun q => absurd q (by decide), fun _ => k40 true hlo⟩
  refine s_Tape_hearBit_0 ?_
  rw [h1, h3, iI_le (by omega) (by omega) (by omega) (by omega), iI_nat (by omega) (by omega), Int.toNat_natCast]
  refine ⟨fun q => k30 false ?_, fun q => ⟨iI_in (by omega) (by omega) (by omega), fun q2 => k30 false ?_, fun q2 => k30 true ?_⟩⟩
  · unfold lngW
    rw [decide_eq_false (by omega), Bool.false_and]
  · unfold lngW
    rw [decide_eq_false (show ¬ ¬ M 25 a ≤ iI 8 by simpa using q2), Bool.and_false]
  · unfold lngW
    rw [decide_eq_true (show a < n by omega), decide_eq_true q2]
    rfl
/-- the bits of a byte: the row and its length stay, the head moves -/
theorem c_hearByte_44 {M : qM} {n : Nat} (hn : n ≤ 7754) (h1 : M 24 2 = iI n) : ∀ (j a : Nat) (v : Int), j ≤ 8 → a ≤ n → 0 ≤ v → v < 2 ^ (8 - j) →
    V l Γ T_Tape_hearByte (d + 1) r 44 [.ref 24, .null, .int (iI v), .int (iI ((8 - j : Nat) : Int))] [] (q_up M 24 3 (iI a), L) (q_i L (fun x M' => (∃ v' a2 a3, hBits n (M 25) j a v = some (v', a2) ∧ hBit n (M 25) a2 = some (true, a3) ∧ x = iI v' ∧ M' = q_up M 24 3 (iI (a3 : Nat))) ∨ ((∀ v' a2, hBits n (M 25) j a v = some (v', a2) → ∀ a3, hBit n (M 25) a2 ≠ some (true, a3)) ∧ x = iI (-2) ∧ ∃ z, M' = q_up M 24 3 z))) := by
  have hb1 : ∀ a : Nat, (q_up M 24 3 (iI a)) 24 2 = iI n := fun a => by rw [q_up_k (by decide)]; exact h1
  have hb5 : ∀ a : Nat, (q_up M 24 3 (iI a)) 25 = M 25 := fun a => q_up_o (by decide)
  intro j
  induction j with
  | zero =>
    intro a v hj ha h0 hv
    refine s_Tape_hearByte_44 _ _ ⟨fun _ => ⟨_, c_hearBit hn (hb1 a) q_up_s ha, ?_⟩, fun q => absurd ((iI_le (by omega) (by omega) (by omega) (by omega)).mpr (by omega)) q⟩
    rintro x M' (⟨b, a', hb, rfl, rfl⟩ | ⟨hb, rfl, rfl⟩)
    · rw [hb5] at hb
      rw [q_up_up]
      cases b with
      | true => exact ⟨fun q => absurd rfl q, fun _ => Or.inl ⟨v, a, a', rfl, hb, rfl, rfl⟩⟩
      | false =>
        refine ⟨fun _ => Or.inr ⟨fun v' a2 e a3 e3 => ?_, rfl, _, rfl⟩, fun q => absurd (show ¬ b2 false = iI 1 by decide) q⟩
        simp only [hBits, Option.some.injEq, Prod.mk.injEq] at e
        rw [← e.2, hb] at e3
        cases e3
    · rw [hb5] at hb
      refine ⟨fun _ => Or.inr ⟨fun v' a2 e a3 e3 => ?_, rfl, _, rfl⟩, fun q => absurd (show ¬ iI (-2) = iI 1 by decide) q⟩
      simp only [hBits, Option.some.injEq, Prod.mk.injEq] at e
      rw [← e.2, hb] at e3
      cases e3
  | succ j ih =>
    intro a v hj ha h0 hv
    have e8 : (2 : Int) ^ (8 - j) = 2 * 2 ^ (8 - (j + 1)) := by
      have e2 : 8 - j = (8 - (j + 1)) + 1 := by omega
      rw [e2, Int.pow_succ]
      omega
    refine s_Tape_hearByte_44 _ _ ⟨fun q => ?_, fun _ => ⟨_, c_hearBit hn (hb1 a) q_up_s ha, ?_⟩⟩
    · rw [iI_le (by omega) (by omega) (by omega) (by omega)] at q
      omega
    rintro x M' (⟨b, a', hb, rfl, rfl⟩ | ⟨hb, rfl, rfl⟩)
    · rw [hb5] at hb
      refine ⟨fun _ => ?_, fun q => absurd (show ¬ b2 b = iI (-2) by cases b <;> decide) q⟩
      have ek : iI ((8 - (j + 1) : Nat) : Int) + iI 1 = iI ((8 - j : Nat) : Int) := by
        rw [iI_add]
        congr 1
        omega
      rw [q_up_up, (addB (k := 8 - (j + 1)) (by omega) h0 hv b).1, ek]
      have hbits : hBits n (M 25) (j + 1) a v = hBits n (M 25) j a' (if b = true then v + 2 ^ (8 - (j + 1)) else v) := by
        rw [hBits, hb]
        cases b <;> rfl
      rw [hbits]
      refine ih a' _ (by omega) (hBit_le hb).1 ?_ ?_
      · split <;> omega
      · rw [e8]
        split <;> omega
    · rw [hb5] at hb
      refine ⟨fun q => absurd rfl q, fun _ => Or.inr ⟨fun v' a2 e => ?_, rfl, _, rfl⟩⟩
      rw [hBits, hb] at e
      cases e
theorem c_hearByte_31 {M : qM} {n a : Nat} (hn : n ≤ 7754) (h1 : M 24 2 = iI n) (ha : a ≤ n) (w : Int32) (hw : ¬ w = iI (-2)) :
    V l Γ T_Tape_hearByte (d + 1) r 31 [.ref 24, .int w, .null, .null] [] (q_up M 24 3 (iI a), L) (q_i L (fun x M' => (∃ v' a2 a3, hBits n (M 25) 8 a 0 = some (v', a2) ∧ hBit n (M 25) a2 = some (true, a3) ∧ x = iI v' ∧ M' = q_up M 24 3 (iI (a3 : Nat))) ∨ ((∀ v' a2, hBits n (M 25) 8 a 0 = some (v', a2) → ∀ a3, hBit n (M 25) a2 ≠ some (true, a3)) ∧ x = iI (-2) ∧ ∃ z, M' = q_up M 24 3 z))) :=
  s_Tape_hearByte_31 _ ⟨fun _ => c_hearByte_44 hn h1 8 a 0 (by omega) ha (by omega) (by decide), fun q => absurd hw q⟩
/-- what hearByte leaves, told of its place a -/
def hbP (M : qM) (n a : Nat) (x : Int32) (M' : qM) : Prop := (∃ v a3, hByte n (M 25) a = some (v, a3) ∧ x = iI v ∧ M' = q_up M 24 3 (iI (a3 : Nat))) ∨ (hByte n (M 25) a = none ∧ x = iI (-2) ∧ ∃ z, M' = q_up M 24 3 z)
theorem hbP_of {M : qM} {n a a1 : Nat} (h : hSkip n (M 25) (n + 1) a = some a1) {x : Int32} {M' : qM} (hM : (∃ v' a2 a3, hBits n (M 25) 8 a1 0 = some (v', a2) ∧ hBit n (M 25) a2 = some (true, a3) ∧ x = iI v' ∧ M' = q_up M 24 3 (iI (a3 : Nat))) ∨ ((∀ v' a2, hBits n (M 25) 8 a1 0 = some (v', a2) → ∀ a3, hBit n (M 25) a2 ≠ some (true, a3)) ∧ x = iI (-2) ∧ ∃ z, M' = q_up M 24 3 z)) : hbP M n a x M' := by
  rcases hM with ⟨v', a2, a3, e1, e2, hx, hM⟩ | ⟨hno, hx, hz⟩
  · refine Or.inl ⟨v', a3, ?_, hx, hM⟩
    simp only [hByte, h, e1, e2]
  · refine Or.inr ⟨?_, hx, hz⟩
    unfold hByte
    rw [h]
    dsimp only
    cases e1 : hBits n (M 25) 8 a1 0 with
    | none => rfl
    | some q =>
      obtain ⟨v', a2⟩ := q
      dsimp only
      have h3 := hno v' a2 e1
      cases e2 : hBit n (M 25) a2 with
      | none => rfl
      | some q2 =>
        obtain ⟨b, a3⟩ := q2
        cases b with
        | true => exact absurd e2 (h3 a3)
        | false => rfl
/-- behind the first bit, which was a 1 so often: k of the loop -/
theorem c_hearByte_7 {M : qM} {n a0 : Nat} (hn : n ≤ 7754) (h1 : M 24 2 = iI n) : ∀ (m k a : Nat), m + k = n + 1 → 2 * k + 2 ≤ a → a ≤ n → hSkip n (M 25) (n + 1) a0 = hSkip n (M 25) (n + 1) a →
    V l Γ T_Tape_hearByte (d + 1) r 7 [.ref 24, .int (iI 1), .int (iI k), .null] [] (q_up M 24 3 (iI a), L) (q_i L (hbP M n a0)) := by
  have hb1 : ∀ a : Nat, (q_up M 24 3 (iI a)) 24 2 = iI n := fun a => by rw [q_up_k (by decide)]; exact h1
  have hb5 : ∀ a : Nat, (q_up M 24 3 (iI a)) 25 = M 25 := fun a => q_up_o (by decide)
  intro m
  induction m with
  | zero => intro k a hm hk ha; omega
  | succ m ih =>
    intro k a hm hk ha hs
    refine s_Tape_hearByte_7 _ _ ?_
    rw [hb1, iI_le (by omega) (by omega) (by omega) (by omega)]
    refine ⟨fun q => by omega, fun _ => ⟨fun q => absurd rfl q, fun _ => ⟨_, c_hearBit hn (hb1 a) q_up_s ha, ?_⟩⟩⟩
    rintro x M' (⟨b, a', hb, rfl, rfl⟩ | ⟨hb, rfl, rfl⟩)
    · rw [hb5] at hb
      have hle := hBit_le hb
      rw [q_up_up, iI_add]
      cases b with
      | true =>
        refine ih (k + 1) a' (by omega) (by omega) hle.1 ?_
        rw [hs, hSkip, hb]
        exact hSkip_more n (n + 1) a' (by omega) (by omega)
      | false =>
        have hs2 : hSkip n (M 25) (n + 1) a0 = some a' := by
          rw [hs, hSkip, hb]
        refine s_Tape_hearByte_7 _ _ ?_
        have go := (c_hearByte_31 (l := l) (Γ := Γ) (d := d) (r := r) (L := L) hn h1 hle.1 (iI 0) (by decide)).wi (fun x M' hM => hbP_of hs2 hM)
        exact ⟨fun _ => go, fun _ => ⟨fun _ => go, fun q => absurd (show ¬ b2 false = iI 1 by decide) q⟩⟩
    · rw [hb5] at hb
      have hnone : hByte n (M 25) a0 = none := by
        unfold hByte
        rw [hs, hSkip, hb]
      have go : V l Γ T_Tape_hearByte (d + 1) r 31 [.ref 24, .int (iI (-2)), .null, .null] [] (q_up M 24 3 (iI a), L) (q_i L (hbP M n a0)) :=
        s_Tape_hearByte_31 _ ⟨fun q => absurd rfl q, fun _ => Or.inr ⟨hnone, rfl, _, rfl⟩⟩
      refine s_Tape_hearByte_7 _ _ ⟨fun _ => go, fun _ => ⟨fun _ => go, fun q => absurd (show ¬ iI (-2) = iI 1 by decide) q⟩⟩
theorem c_hearByte {M : qM} {n a : Nat} (hn : n ≤ 7754) (h1 : M 24 2 = iI n) (h3 : M 24 3 = iI a) (ha : a ≤ n) :
    V l Γ T_Tape_hearByte (d + 1) r 0 [.ref 24, .null, .null, .null] [] (M, L) (q_i L (hbP M n a)) := by
  refine s_Tape_hearByte_0 ⟨_, c_hearBit hn h1 h3 ha, ?_⟩
  rintro x M' (⟨b, a', hb, rfl, rfl⟩ | ⟨hb, rfl, rfl⟩)
  · have hle := hBit_le hb
    cases b with
    | true =>
      refine c_hearByte_7 hn h1 (n + 1) 0 a' (by omega) (by omega) hle.1 ?_
      rw [hSkip, hb]
      exact hSkip_more n (n + 1) a' (by omega) (by omega)
    | false =>
      have hs2 : hSkip n (M 25) (n + 1) a = some a' := by
        rw [hSkip, hb]
      have go := (c_hearByte_31 (l := l) (Γ := Γ) (d := d) (r := r) (L := L) hn h1 hle.1 (iI 0) (by decide)).wi (fun x M' hM => hbP_of hs2 hM)
      exact s_Tape_hearByte_7 _ _ ⟨fun _ => go, fun _ => ⟨fun _ => go, fun q => absurd (show ¬ b2 false = iI 1 by decide) q⟩⟩
  · have hnone : hByte n (M' 25) a = none := by
      unfold hByte
      rw [hSkip, hb]
    have go : V l Γ T_Tape_hearByte (d + 1) r 31 [.ref 24, .int (iI (-2)), .null, .null] [] (M', L) (q_i L (hbP M' n a)) :=
      s_Tape_hearByte_31 _ ⟨fun q => absurd rfl q, fun _ => Or.inr ⟨hnone, rfl, _, (q_up_id rfl).symm⟩⟩
    exact s_Tape_hearByte_7 _ _ ⟨fun _ => go, fun _ => ⟨fun _ => go, fun q => absurd (show ¬ iI (-2) = iI 1 by decide) q⟩⟩
end Hear
