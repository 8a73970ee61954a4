-- numbers in digits
def upD (n : Nat) : Nat → Nat → Nat
  | 0, k => k
  | j + 1, k => if n < 10 ^ k * 10 then k else upD n j (k + 1)
def dgl (n : Nat) : Nat → List Int
  | 0 => [48 + ((n / 10 ^ 0 % 10 : Nat) : Int)]
  | k + 1 => (48 + ((n / 10 ^ (k + 1) % 10 : Nat) : Int)) :: dgl n k
def dec (n : Nat) : List Int := dgl n (upD n 4 0)
def sgn (a : Int) : List Int := (if a < 0 then [45] else []) ++ dec a.natAbs
theorem upD_le (n : Nat) : ∀ j k, upD n j k ≤ k + j
  | 0, k => Nat.le_refl _
  | j + 1, k => by
    unfold upD
    split
    · omega
    · have := upD_le n j (k + 1)
      omega
theorem dgl_len (n k : Nat) : (dgl n k).length = k + 1 := by
  induction k with
  | zero => rfl
  | succ k ih => simp [dgl, ih]
theorem iI_ndiv {a b : Nat} (ha : a < 2147483648) (hb : b < 2147483648) : iI (a : Int) / iI (b : Int) = iI ((a / b : Nat) : Int) := by
  rw [iI_div (by omega) (by omega) (by omega) (by omega)]
  congr 1
theorem iI_nrem {a b : Nat} (ha : a < 2147483648) (hb : b < 2147483648) : iI (a : Int) - iI (a : Int) / iI (b : Int) * iI (b : Int) = iI ((a % b : Nat) : Int) := by
  rw [iI_rem (by omega) (by omega) (by omega) (by omega)]
  congr 1
theorem p10 (k : Nat) (h : k ≤ 5) : 10 ^ k ≤ 100000 ∧ 1 ≤ 10 ^ k := by
  have : k = 0 ∨ k = 1 ∨ k = 2 ∨ k = 3 ∨ k = 4 ∨ k = 5 := by omega
  rcases this with rfl | rfl | rfl | rfl | rfl | rfl <;> decide
section Digits
variable {l : Launch} {Γ : qG} {d r : Nat} {L : Nat → Int64}
theorem c_digits (o : Nat) (ho : (o = 3) ∨ (o = 18)) (n : Nat) (hn : n ≤ 32768) : ∀ (k i : Nat) (t : List Int) (M : qM), i + k ≤ 4 → shIs M o (t.take (cp (o + 1))) → V l Γ T_Sheet_appendNumber (d + 1) r 49 [.ref o, .null, .int (iI n), .int (iI ((10 ^ k : Nat) : Int)), .int (iI i)] [] (M, L) (q_n L (fun M' => shIs M' o ((t ++ dgl n k).take (cp (o + 1))) ∧ fr [o, o + 1] M M')) := by
  have ho5 : o = 1 ∨ o = 3 ∨ o = 7 ∨ o = 16 ∨ o = 18 := by omega
  intro k
  induction k with
  | zero =>
    intro i t M hi h
    have hmod : n / 10 ^ 0 % 10 < 10 := Nat.mod_lt _ (by decide)
    refine s_Sheet_appendNumber_49 o ho _ _ _ ?_
    rw [iI_le (by omega) (by omega) (by omega) (by omega)]
    refine ⟨fun q => by omega, fun _ => ⟨fun q => absurd q (by decide), fun _ => ⟨by decide, ?_⟩⟩⟩
    rw [iI_ndiv (by omega) (by decide), show iI 10 = iI ((10 : Nat) : Int) from rfl, iI_nrem (by have := Nat.div_le_self n (10 ^ 0); omega) (by decide), iI_add, i2c_z (by omega)]
    refine ⟨_, c_app o ho5 h (by omega), ?_⟩
    rintro x1 M1 ⟨h1, f1⟩
    rw [iI_ndiv (by decide) (by decide), iI_add]
    refine s_Sheet_appendNumber_49 o ho _ _ _ ?_
    exact ⟨fun _ => ⟨h1, f1⟩, fun _ => ⟨fun _ => ⟨h1, f1⟩, fun q => absurd (by decide) q⟩⟩
  | succ k ih =>
    intro i t M hi h
    have hp := p10 (k + 1) (by omega)
    have hmod : n / 10 ^ (k + 1) % 10 < 10 := Nat.mod_lt _ (by decide)
    have hdv : n / 10 ^ (k + 1) ≤ n := Nat.div_le_self n _
    refine s_Sheet_appendNumber_49 o ho _ _ _ ?_
    rw [iI_le (by omega) (by omega) (by omega) (by omega), iI_0, iI_le (by omega) (by omega) (by omega) (by omega), iI_eq (by omega) (by omega) (by omega) (by omega)]
    refine ⟨fun q => by omega, fun _ => ⟨fun q => by omega, fun _ => ⟨by omega, ?_⟩⟩⟩
    rw [iI_ndiv (by omega) (by omega), show iI 10 = iI ((10 : Nat) : Int) from rfl, iI_nrem (by omega) (by decide), iI_add, i2c_z (by omega)]
    refine ⟨_, c_app o ho5 h (by omega), ?_⟩
    rintro x1 M1 ⟨h1, f1⟩
    rw [iI_ndiv (by omega) (by decide), iI_add, show 10 ^ (k + 1) / 10 = 10 ^ k by rw [Nat.pow_succ]; omega, show ((i : Int) + 1) = ((i + 1 : Nat) : Int) by omega]
    refine (ih (i + 1) (t ++ [48 + ((n / 10 ^ (k + 1) % 10 : Nat) : Int)]) M1 (by omega) h1).mono (fun q S hq => ?_)
    obtain ⟨M', e1, e2, h3, f3⟩ := hq
    refine ⟨M', e1, e2, ?_, f1.tr f3⟩
    rw [show t ++ dgl n (k + 1) = t ++ [48 + ((n / 10 ^ (k + 1) % 10 : Nat) : Int)] ++ dgl n k by simp [dgl]]
    exact h3
theorem c_unit (o : Nat) (ho : (o = 3) ∨ (o = 18)) (n : Nat) (hn : n ≤ 32768) (t : List Int) (M : qM) (h : shIs M o (t.take (cp (o + 1)))) : ∀ (j k : Nat), k + j = 4 → V l Γ T_Sheet_appendNumber (d + 1) r 21 [.ref o, .null, .int (iI n), .int (iI ((10 ^ k : Nat) : Int)), .int (iI ((k + 1 : Nat) : Int))] [] (M, L) (q_n L (fun M' => shIs M' o ((t ++ dgl n (upD n j k)).take (cp (o + 1))) ∧ fr [o, o + 1] M M')) := by
  intro j
  induction j with
  | zero =>
    intro k hk
    refine s_Sheet_appendNumber_21 o ho _ _ _ ?_
    rw [iI_le (by omega) (by omega) (by omega) (by omega)]
    exact ⟨fun _ => c_digits o ho n hn k 0 t M (by omega) h, fun q => by omega⟩
  | succ j ih =>
    intro k hk
    have hp := p10 k (by omega)
    refine s_Sheet_appendNumber_21 o ho _ _ _ ?_
    rw [iI_le (by omega) (by omega) (by omega) (by omega), iI_mul, iI_lt (by omega) (by omega) (by omega) (by omega), iI_add]
    have up : upD n (j + 1) k = if n < 10 ^ k * 10 then k else upD n j (k + 1) := rfl
    refine ⟨fun q => by omega, fun _ => ⟨fun q => ?_, fun q => ?_⟩⟩
    · rw [up, if_pos (by omega)]
      exact c_digits o ho n hn k 0 t M (by omega) h
    · rw [up, if_neg (by omega)]
      have := ih (k + 1) (by omega)
      rw [show (((10 ^ k : Nat) : Int) * 10) = ((10 ^ (k + 1) : Nat) : Int) by rw [Nat.pow_succ]; omega, show (((k + 1 : Nat) : Int) + 1) = ((k + 1 + 1 : Nat) : Int) by omega]
      exact this
theorem c_appendNumber (o : Nat) (ho : (o = 3) ∨ (o = 18)) (a : Int) (ha : -32768 ≤ a ∧ a ≤ 32767) {t : List Int} {M : qM} (h : shIs M o (t.take (cp (o + 1)))) : V l Γ T_Sheet_appendNumber (d + 1) r 0 [.ref o, .int (iI a), .null, .null, .null] [] (M, L) (q_n L (fun M' => shIs M' o ((t ++ sgn a).take (cp (o + 1))) ∧ fr [o, o + 1] M M')) := by
  have ho5 : o = 1 ∨ o = 3 ∨ o = 7 ∨ o = 16 ∨ o = 18 := by omega
  have e : (if 0 ≤ iI a then iI a else 0 - iI a) = iI ((a.natAbs : Nat) : Int) := by
    have hle : (0 : Int32) ≤ iI a ↔ 0 ≤ a := by rw [iI_0, iI_le (by omega) (by omega) (by omega) (by omega)]
    by_cases h0 : 0 ≤ a
    · rw [if_pos (hle.mpr h0)]; exact congrArg iI (by omega)
    · rw [if_neg (fun q => h0 (hle.mp q)), iI_0, iI_sub]; exact congrArg iI (by omega)
  refine s_Sheet_appendNumber_0 o ho _ ?_
  rw [e, iI_0, iI_le (by omega) (by omega) (by omega) (by omega)]
  unfold sgn dec
  refine ⟨fun q => ?_, fun q => ⟨_, c_app o ho5 h (by decide), ?_⟩⟩
  · rw [if_neg (by omega), List.nil_append]
    exact c_unit o ho a.natAbs (by omega) t M h 4 0 rfl
  · rintro x1 M1 ⟨h1, f1⟩
    rw [if_pos (by omega)]
    refine (c_unit o ho a.natAbs (by omega) (t ++ [45]) M1 h1 4 0 rfl).mono (fun q S hq => ?_)
    obtain ⟨M', e1, e2, h3, f3⟩ := hq
    refine ⟨M', e1, e2, ?_, f1.tr f3⟩
    rw [← List.append_assoc]
    exact h3
end Digits
