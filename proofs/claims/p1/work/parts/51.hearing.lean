-- hearing, as a pure reading of a row of n half-waves
def lngW (n : Nat) (f : Nat → Int32) (a : Nat) : Bool := decide (a < n) && decide (¬ f a ≤ iI 8)
def sameW (n : Nat) (f : Nat → Int32) (lo : Bool) : Nat → Nat → Bool
  | 0, _ => true
  | j + 1, a => decide (a < n) && (decide (¬ f a ≤ iI 8) == lo) && sameW n f lo j (a + 1)
def hN (lo : Bool) : Nat := match lo with
  | true => 2
  | false => 4
/-- a bit: true is 1 -/
def hBit (n : Nat) (f : Nat → Int32) (a : Nat) : Option (Bool × Nat) := if sameW n f (lngW n f a) (hN (lngW n f a)) a = true then some (!lngW n f a, a + hN (lngW n f a)) else none
def hSkip (n : Nat) (f : Nat → Int32) : Nat → Nat → Option Nat
  | 0, _ => none
  | k + 1, a => match hBit n f a with
    | none => none
    | some (true, a') => hSkip n f k a'
    | some (false, a') => some a'
def hBits (n : Nat) (f : Nat → Int32) : Nat → Nat → Int → Option (Int × Nat)
  | 0, a, v => some (v, a)
  | j + 1, a, v => match hBit n f a with
    | none => none
    | some (true, a') => hBits n f j a' (v + 2 ^ (8 - (j + 1)))
    | some (false, a') => hBits n f j a' v
def hByte (n : Nat) (f : Nat → Int32) (a : Nat) : Option (Int × Nat) := match hSkip n f (n + 1) a with
  | none => none
  | some a1 => match hBits n f 8 a1 0 with
    | none => none
    | some (v, a2) => match hBit n f a2 with
      | some (true, a3) => some (v, a3)
      | some (false, _) => none
      | none => none
def hBytes (n : Nat) (f : Nat → Int32) : Nat → Nat → Option (List Int × Nat)
  | 0, a => some ([], a)
  | k + 1, a => match hByte n f a with
    | none => none
    | some (v, a') => match hBytes n f k a' with
      | none => none
      | some (t, a'') => some (v :: t, a'')
theorem sameW_le {n : Nat} {f : Nat → Int32} {lo : Bool} : ∀ (j a : Nat), sameW n f lo j a = true → j = 0 ∨ a + j ≤ n
  | 0, _, _ => Or.inl rfl
  | j + 1, a, h => by
    rw [sameW, Bool.and_eq_true, Bool.and_eq_true, decide_eq_true_eq] at h
    rcases sameW_le j (a + 1) h.2 with q | q
    · right; omega
    · right; omega
theorem hN_pos (lo : Bool) : 2 ≤ hN lo ∧ hN lo ≤ 4 := by cases lo <;> decide
theorem hBit_le {n : Nat} {f : Nat → Int32} {a a' : Nat} {b : Bool} (h : hBit n f a = some (b, a')) : a' ≤ n ∧ a + 2 ≤ a' := by
  unfold hBit at h
  split at h
  next hs =>
    have h2 := hN_pos (lngW n f a)
    rcases sameW_le _ _ hs with q | q
    · omega
    · simp only [Option.some.injEq, Prod.mk.injEq] at h
      omega
  next => cases h
theorem hSkip_le {n : Nat} {f : Nat → Int32} : ∀ {k a a' : Nat}, hSkip n f k a = some a' → a' ≤ n
  | 0, _, _, h => by cases h
  | k + 1, a, a', h => by
    rw [hSkip] at h
    split at h
    next => cases h
    next a1 h1 => exact hSkip_le h
    next a1 h1 => cases h; exact (hBit_le h1).1
theorem hBits_le {n : Nat} {f : Nat → Int32} : ∀ {j a a' : Nat} {v v' : Int}, a ≤ n → j ≤ 8 → 0 ≤ v → v < 2 ^ (8 - j) → hBits n f j a v = some (v', a') → a' ≤ n ∧ 0 ≤ v' ∧ v' < 256
  | 0, a, a', v, v', ha, _, h0, h1, h => by
    rw [hBits] at h
    simp only [Option.some.injEq, Prod.mk.injEq] at h
    obtain ⟨rfl, rfl⟩ := h
    exact ⟨ha, h0, h1⟩
  | j + 1, a, a', v, v', ha, hj, h0, h1, h => by
    have e : (2 : Int) ^ (8 - j) = 2 * 2 ^ (8 - (j + 1)) := by
      have e2 : 8 - j = (8 - (j + 1)) + 1 := by omega
      rw [e2, Int.pow_succ]
      omega
    have hp : (0 : Int) < 2 ^ (8 - (j + 1)) := Int.pow_pos (by decide)
    rw [hBits] at h
    split at h
    next => cases h
    next a1 h2 => exact hBits_le (hBit_le h2).1 (by omega) (by omega) (by rw [e]; omega) h
    next a1 h2 => exact hBits_le (hBit_le h2).1 (by omega) h0 (by rw [e]; omega) h
theorem hByte_le {n : Nat} {f : Nat → Int32} {a a' : Nat} {v : Int} (h : hByte n f a = some (v, a')) : a' ≤ n ∧ 0 ≤ v ∧ v < 256 := by
  unfold hByte at h
  split at h
  next => cases h
  next a1 h1 =>
    split at h
    next => cases h
    next v2 a2 h2 =>
      have hb := hBits_le (hSkip_le h1) (Nat.le_refl 8) (Int.le_refl 0) (by decide) h2
      split at h
      next a3 h3 =>
        simp only [Option.some.injEq, Prod.mk.injEq] at h
        obtain ⟨rfl, rfl⟩ := h
        exact ⟨(hBit_le h3).1, hb.2⟩
      next => cases h
      next => cases h
theorem hBit_same {n : Nat} {f g : Nat → Int32} (h : ∀ j, j < n → f j = g j) (a : Nat) : hBit n f a = hBit n g a := by
  have e1 : ∀ a, lngW n f a = lngW n g a := by
    intro a
    unfold lngW
    by_cases q : a < n
    · rw [h a q]
    · simp [q]
  have e2 : ∀ (lo : Bool) (j a : Nat), sameW n f lo j a = sameW n g lo j a := by
    intro lo j
    induction j with
    | zero => intro a; rfl
    | succ j ih =>
      intro a
      rw [sameW, sameW, ih]
      by_cases q : a < n
      · rw [h a q]
      · simp [q]
  unfold hBit
  rw [e1, e2]
theorem hByte_same {n : Nat} {f g : Nat → Int32} (h : ∀ j, j < n → f j = g j) (a : Nat) : hByte n f a = hByte n g a := by
  have e1 : ∀ k a, hSkip n f k a = hSkip n g k a := by
    intro k
    induction k with
    | zero => intro a; rfl
    | succ k ih =>
      intro a
      rw [hSkip, hSkip, hBit_same h]
      simp only [ih]
  have e2 : ∀ j a v, hBits n f j a v = hBits n g j a v := by
    intro j
    induction j with
    | zero => intro a v; rfl
    | succ j ih =>
      intro a v
      rw [hBits, hBits, hBit_same h]
      simp only [ih]
  unfold hByte
  simp only [e1, e2, hBit_same h]
/-- more fuel changes nothing -/
theorem hSkip_more {n : Nat} {f : Nat → Int32} : ∀ (k m a : Nat), n < a + 2 * k → n < a + 2 * m → hSkip n f k a = hSkip n f m a
  | 0, m, a, h, _ => by
    have hn : hBit n f a = none := by
      cases hb : hBit n f a with
      | none => rfl
      | some q => have := hBit_le (b := q.1) (a' := q.2) hb; omega
    cases m with
    | zero => rfl
    | succ m => rw [hSkip, hSkip, hn]
  | k + 1, 0, a, _, h => by
    have hn : hBit n f a = none := by
      cases hb : hBit n f a with
      | none => rfl
      | some q => have := hBit_le (b := q.1) (a' := q.2) hb; omega
    rw [hSkip, hSkip, hn]
  | k + 1, m + 1, a, h1, h2 => by
    rw [hSkip, hSkip]
    split
    next => rfl
    next a' hb =>
      have := hBit_le hb
      exact hSkip_more k m a' (by omega) (by omega)
    next => rfl
-- bits of a byte come together
theorem addBit : ∀ k : Fin 8, ∀ v : Fin 128, v.val < 2 ^ k.val → (iI (v.val : Int) + (iI 1 <<< (iI (k.val : Int) &&& 31)) = iI ((v.val : Int) + 2 ^ k.val) ∧ iI (v.val : Int) ||| (iI 1 <<< (iI (k.val : Int) &&& 31)) = iI ((v.val : Int) + 2 ^ k.val)) := by decide +kernel
theorem addBit0 : ∀ k : Fin 8, ∀ v : Fin 256, (iI (v.val : Int) + (iI 0 <<< (iI (k.val : Int) &&& 31)) = iI (v.val : Int) ∧ iI (v.val : Int) ||| (iI 0 <<< (iI (k.val : Int) &&& 31)) = iI (v.val : Int)) := by decide +kernel
theorem addB {k : Nat} {v : Int} (hk : k < 8) (h0 : 0 ≤ v) (h1 : v < 2 ^ k) (b : Bool) : iI v + (b2 b <<< (iI (k : Int) &&& 31)) = iI (if b = true then v + 2 ^ k else v) ∧ iI v ||| (b2 b <<< (iI (k : Int) &&& 31)) = iI (if b = true then v + 2 ^ k else v) := by
  have hp : (2 : Int) ^ k ≤ 128 := by
    have e : (2 : Int) ^ k = ((2 ^ k : Nat) : Int) := by rw [Int.natCast_pow]; rfl
    have e2 : 2 ^ k ≤ 2 ^ 7 := Nat.pow_le_pow_right (by decide) (by omega)
    rw [e]
    omega
  obtain ⟨w, rfl⟩ : ∃ w : Nat, v = (w : Int) := ⟨v.toNat, by omega⟩
  have hw : w < 2 ^ k := by
    have e : (2 : Int) ^ k = ((2 ^ k : Nat) : Int) := by rw [Int.natCast_pow]; rfl
    rw [e] at h1
    omega
  cases b with
  | true =>
    rw [if_pos rfl]
    exact addBit ⟨k, hk⟩ ⟨w, by omega⟩ hw
  | false =>
    rw [if_neg (by decide)]
    exact addBit0 ⟨k, hk⟩ ⟨w, by omega⟩
