-- integers as Int32
theorem iI_toInt {z : Int} (h1 : -2147483648 ≤ z) (h2 : z < 2147483648) : (iI z).toInt = z := Int32.toInt_ofInt_of_le (by omega) (by omega)
theorem iI_add (a b : Int) : iI a + iI b = iI (a + b) := (Int32.ofInt_add a b).symm
theorem iI_sub (a b : Int) : iI a - iI b = iI (a - b) := (Int32.ofInt_sub a b).symm
theorem iI_mul (a b : Int) : iI a * iI b = iI (a * b) := (Int32.ofInt_mul a b).symm
theorem iI_neg (a : Int) : -iI a = iI (-a) := (Int32.ofInt_neg a).symm
theorem iI_nI (n : Nat) : nI n = iI (n : Int) := Int32.ofInt_eq_ofNat.symm
theorem iI_self (x : Int32) : iI x.toInt = x := Int32.ofInt_toInt x
theorem iI_le {a b : Int} (ha1 : -2147483648 ≤ a) (ha2 : a < 2147483648) (hb1 : -2147483648 ≤ b) (hb2 : b < 2147483648) : iI a ≤ iI b ↔ a ≤ b := by
  rw [Int32.le_iff_toInt_le, iI_toInt ha1 ha2, iI_toInt hb1 hb2]
theorem iI_lt {a b : Int} (ha1 : -2147483648 ≤ a) (ha2 : a < 2147483648) (hb1 : -2147483648 ≤ b) (hb2 : b < 2147483648) : iI a < iI b ↔ a < b := by
  rw [Int32.lt_iff_toInt_lt, iI_toInt ha1 ha2, iI_toInt hb1 hb2]
theorem iI_eq {a b : Int} (ha1 : -2147483648 ≤ a) (ha2 : a < 2147483648) (hb1 : -2147483648 ≤ b) (hb2 : b < 2147483648) : iI a = iI b ↔ a = b := by
  rw [← Int32.toInt_inj, iI_toInt ha1 ha2, iI_toInt hb1 hb2]
theorem iI_0 : (0 : Int32) = iI 0 := rfl
theorem iI_nat {z : Int} (h1 : 0 ≤ z) (h2 : z < 2147483648) : (iI z).toNatClampNeg = z.toNat := by
  show (iI z).toInt.toNat = z.toNat
  rw [iI_toInt (by omega) h2]
theorem iI_in {z : Int} {n : Nat} (h1 : 0 ≤ z) (h2 : z < n) (h3 : z < 2147483648) : vp_in (iI z) n := by
  rw [vp_in_iff, iI_toInt (by omega) h3]
  exact ⟨h1, h2⟩
theorem tI_lo (x : Int32) : -2147483648 ≤ x.toInt := by have := x.le_toInt; omega
theorem tI_hi (x : Int32) : x.toInt < 2147483648 := by have := x.toInt_lt; omega
theorem tI_add {x y : Int32} (h1 : -2147483648 ≤ x.toInt + y.toInt) (h2 : x.toInt + y.toInt < 2147483648) : (x + y).toInt = x.toInt + y.toInt := by
  rw [← iI_self x, ← iI_self y, iI_add, iI_toInt h1 h2, iI_self, iI_self]
theorem tI_sub {x y : Int32} (h1 : -2147483648 ≤ x.toInt - y.toInt) (h2 : x.toInt - y.toInt < 2147483648) : (x - y).toInt = x.toInt - y.toInt := by
  rw [← iI_self x, ← iI_self y, iI_sub, iI_toInt h1 h2, iI_self, iI_self]
theorem tI_mul {x y : Int32} (h1 : -2147483648 ≤ x.toInt * y.toInt) (h2 : x.toInt * y.toInt < 2147483648) : (x * y).toInt = x.toInt * y.toInt := by
  rw [← iI_self x, ← iI_self y, iI_mul, iI_toInt h1 h2, iI_self, iI_self]
theorem iI_div {a b : Int} (ha1 : -2147483648 < a) (ha2 : a < 2147483648) (hb1 : -2147483648 ≤ b) (hb2 : b < 2147483648) : iI a / iI b = iI (a.tdiv b) := by
  rw [← Int32.toInt_inj, Int32.toInt_div_of_ne_left, iI_toInt (by omega) ha2, iI_toInt hb1 hb2, iI_toInt]
  · have h1 := Int.natAbs_tdiv_le_natAbs a b
    omega
  · have h1 := Int.natAbs_tdiv_le_natAbs a b
    omega
  · intro h
    have h2 := congrArg Int32.toInt h
    rw [iI_toInt (by omega) ha2] at h2
    have h3 : Int32.minValue.toInt = -2147483648 := by decide
    omega
theorem iI_rem {a b : Int} (ha1 : -2147483648 < a) (ha2 : a < 2147483648) (hb1 : -2147483648 ≤ b) (hb2 : b < 2147483648) : iI a - iI a / iI b * iI b = iI (a.tmod b) := by
  rw [iI_div ha1 ha2 hb1 hb2, iI_mul, iI_sub]
  congr 1
  have := Int.tmod_add_tdiv_mul a b
  omega
theorem iI_short {z : Int} : (iI z).toInt16.toInt32 = iI (z.bmod 65536) := by
  apply Int32.toInt_inj.mp
  rw [Int16.toInt_toInt32, iI, Int32.toInt16_ofInt, Int16.toInt_ofInt, iI_toInt]
  · have := Int.le_bmod (x := z) (m := 65536) (by decide); omega
  · have := Int.bmod_lt (x := z) (m := 65536) (by decide); omega
-- memory
theorem q_up_s {M : qM} {o k : Nat} {v : Int32} : q_up M o k v o k = v := by simp [q_up, va_up]
theorem q_up_k {M : qM} {o k j : Nat} {v : Int32} (h : j ≠ k) : q_up M o k v o j = M o j := by simp [q_up, va_up, h]
theorem q_up_o {M : qM} {o k o' : Nat} {v : Int32} (h : o' ≠ o) : q_up M o k v o' = M o' := by simp [q_up, va_up, h]
