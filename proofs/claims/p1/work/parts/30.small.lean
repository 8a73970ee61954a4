-- comparisons with numbers
theorem xlt {x : Int32} {z : Int} (h1 : -2147483648 ≤ z) (h2 : z < 2147483648) : x < iI z ↔ x.toInt < z := by rw [Int32.lt_iff_toInt_lt, iI_toInt h1 h2]
theorem ltx {x : Int32} {z : Int} (h1 : -2147483648 ≤ z) (h2 : z < 2147483648) : iI z < x ↔ z < x.toInt := by rw [Int32.lt_iff_toInt_lt, iI_toInt h1 h2]
theorem xle {x : Int32} {z : Int} (h1 : -2147483648 ≤ z) (h2 : z < 2147483648) : x ≤ iI z ↔ x.toInt ≤ z := by rw [Int32.le_iff_toInt_le, iI_toInt h1 h2]
theorem lex {x : Int32} {z : Int} (h1 : -2147483648 ≤ z) (h2 : z < 2147483648) : iI z ≤ x ↔ z ≤ x.toInt := by rw [Int32.le_iff_toInt_le, iI_toInt h1 h2]
theorem xeq {x : Int32} {z : Int} (h1 : -2147483648 ≤ z) (h2 : z < 2147483648) : x = iI z ↔ x.toInt = z := by rw [← Int32.toInt_inj, iI_toInt h1 h2]
theorem x0lt {x : Int32} : x < 0 ↔ x.toInt < 0 := xlt (z := 0) (by decide) (by decide)
theorem x0le {x : Int32} : x ≤ 0 ↔ x.toInt ≤ 0 := xle (z := 0) (by decide) (by decide)
theorem lt0x {x : Int32} : 0 < x ↔ 0 < x.toInt := ltx (z := 0) (by decide) (by decide)
theorem le0x {x : Int32} : 0 ≤ x ↔ 0 ≤ x.toInt := lex (z := 0) (by decide) (by decide)
theorem x0eq {x : Int32} : x = 0 ↔ x.toInt = 0 := xeq (z := 0) (by decide) (by decide)
-- truth values
def b2 (b : Bool) : Int32 := match b with
  | true => iI 1
  | false => iI 0
theorem b2_n (b : Bool) : narrow .boolean (.int (b2 b)) = .int (b2 b) := by cases b <;> decide
theorem b2_0 {b : Bool} : b2 b = 0 ↔ b = false := by cases b <;> decide
theorem b2_t {b : Bool} (h : b = true) : iI 1 = b2 b := by subst h; rfl
theorem b2_f {b : Bool} (h : b = false) : iI 0 = b2 b := by subst h; rfl
def isD (z : Int) : Bool := decide (48 ≤ z ∧ z ≤ 57)
def isV (z : Int) : Bool := decide (97 ≤ z ∧ z ≤ 104)
def isC (z : Int) : Bool := decide (32 ≤ z ∧ z ≤ 126)
/-- the tier of an operator: 0 = < >, 1 + -, 2 * / %, else -1 -/
def tier (z : Int) : Int := if z = 61 ∨ z = 60 ∨ z = 62 then 0 else if z = 43 ∨ z = 45 then 1 else if z = 42 ∨ z = 47 ∨ z = 37 then 2 else -1
section Small
variable {l : Launch} {Γ : qG} {d r : Nat} {M : qM} {L : Nat → Int64}
theorem c_isDigit (a : Int32) : V l Γ T_TapedLines_isDigit d r 0 [.int a] [] (M, L) (q_i L (fun x M' => x = b2 (isD a.toInt) ∧ M' = M)) := by
  refine s_TapedLines_isDigit_0 a ?_
  rw [xlt (by decide) (by decide), ltx (by decide) (by decide)]
  refine ⟨fun h => ⟨b2_f ?_, rfl⟩, fun h => ⟨fun h2 => ⟨b2_f ?_, rfl⟩, fun h2 => ⟨b2_t ?_, rfl⟩⟩⟩ <;> simp only [isD, decide_eq_true_eq, decide_eq_false_iff_not] <;> omega
theorem c_isVariable (a : Int32) : V l Γ T_TapedLines_isVariable d r 0 [.int a] [] (M, L) (q_i L (fun x M' => x = b2 (isV a.toInt) ∧ M' = M)) := by
  refine s_TapedLines_isVariable_0 a ?_
  rw [xlt (by decide) (by decide), lex (by decide) (by decide)]
  refine ⟨fun h => ⟨b2_f ?_, rfl⟩, fun h => ⟨fun h2 => ⟨b2_f ?_, rfl⟩, fun h2 => ⟨b2_t ?_, rfl⟩⟩⟩ <;> simp only [isV, decide_eq_true_eq, decide_eq_false_iff_not] <;> omega
theorem c_isCharacter (a : Int32) : V l Γ T_TapedLines_isCharacter d r 0 [.int a] [] (M, L) (q_i L (fun x M' => x = b2 (isC a.toInt) ∧ M' = M)) := by
  refine s_TapedLines_isCharacter_0 a ?_
  rw [xlt (by decide) (by decide), ltx (by decide) (by decide)]
  refine ⟨fun h => ⟨b2_f ?_, rfl⟩, fun h => ⟨fun h2 => ⟨b2_f ?_, rfl⟩, fun h2 => ⟨b2_t ?_, rfl⟩⟩⟩ <;> simp only [isC, decide_eq_true_eq, decide_eq_false_iff_not] <;> omega
theorem c_tierOf (a : Int32) : V l Γ T_TapedLines_tierOf d r 0 [.int a] [] (M, L) (q_i L (fun x M' => x = iI (tier a.toInt) ∧ M' = M)) := by
  refine s_TapedLines_tierOf_0 a ?_
  generalize a.toInt = z
  have key : ∀ k : Int, tier z = k → iI k = iI (tier z) ∧ M = M := fun k h => ⟨by rw [h], rfl⟩
  refine ⟨fun h => key _ ?_, fun h1 => ⟨fun h => key _ ?_, fun h2 => ⟨fun h => key _ ?_, fun h3 => ⟨fun h => key _ ?_, fun h4 => ⟨fun h => key _ ?_, fun h5 => ⟨fun h => key _ ?_, fun h6 => ⟨fun h => key _ ?_, fun h7 => ⟨fun h => key _ ?_, fun h8 => key _ ?_⟩⟩⟩⟩⟩⟩⟩⟩ <;> (unfold tier; first | (subst h; rfl) | (rw [if_neg (by omega), if_neg (by omega), if_neg (by omega)]))
theorem c_isOperator (a : Int32) : V l Γ T_TapedLines_isOperator (d + 1) r 0 [.int a] [] (M, L) (q_i L (fun x M' => x = b2 (decide (tier a.toInt ≠ -1)) ∧ M' = M)) := by
  refine s_TapedLines_isOperator_0 a ⟨_, c_tierOf a, ?_⟩
  rintro x M' ⟨rfl, rfl⟩
  have h1 : -1 ≤ tier a.toInt ∧ tier a.toInt ≤ 2 := by
    unfold tier
    repeat' split <;> omega
  rw [iI_eq (by omega) (by omega) (by decide) (by decide)]
  refine ⟨fun h => ⟨b2_f ?_, rfl⟩, fun h => ⟨b2_t ?_, rfl⟩⟩ <;> simp [h]
theorem cm_isDigit (a : Int32) : V l Γ T_TapedLinesModel_isDigit d r 0 [.int a] [] (M, L) (q_i L (fun x M' => x = b2 (isD a.toInt) ∧ M' = M)) := by
  refine s_TapedLinesModel_isDigit_0 a ?_
  rw [xlt (by decide) (by decide), ltx (by decide) (by decide)]
  refine ⟨fun h => ⟨b2_f ?_, rfl⟩, fun h => ⟨fun h2 => ⟨b2_f ?_, rfl⟩, fun h2 => ⟨b2_t ?_, rfl⟩⟩⟩ <;> simp only [isD, decide_eq_true_eq, decide_eq_false_iff_not] <;> omega
theorem cm_isVariable (a : Int32) : V l Γ T_TapedLinesModel_isVariable d r 0 [.int a] [] (M, L) (q_i L (fun x M' => x = b2 (isV a.toInt) ∧ M' = M)) := by
  refine s_TapedLinesModel_isVariable_0 a ?_
  rw [xlt (by decide) (by decide), ltx (by decide) (by decide)]
  refine ⟨fun h => ⟨b2_f ?_, rfl⟩, fun h => ⟨fun h2 => ⟨b2_f ?_, rfl⟩, fun h2 => ⟨b2_t ?_, rfl⟩⟩⟩ <;> simp only [isV, decide_eq_true_eq, decide_eq_false_iff_not] <;> omega
/-- the rank of a sign: 4 m, 3 * / %, 2 + -, 1 = < >, else 0 -/
def rankZ (z : Int) : Int := if z = 109 then 4 else tier z + 1
theorem cm_rank (a : Int32) : V l Γ T_TapedLinesModel_rank d r 0 [.int a] [] (M, L) (q_i L (fun x M' => x = iI (rankZ a.toInt) ∧ M' = M)) := by
  refine s_TapedLinesModel_rank_0 a ?_
  generalize a.toInt = z
  have key : ∀ k : Int, rankZ z = k → iI k = iI (rankZ z) ∧ M = M := fun k h => ⟨by rw [h], rfl⟩
  refine ⟨fun h => key _ ?_, fun h1 => ⟨fun h => key _ ?_, fun h2 => ⟨fun h => key _ ?_, fun h3 => ⟨fun h => key _ ?_, fun h4 => ⟨fun h => key _ ?_, fun h5 => ⟨fun h => key _ ?_, fun h6 => ⟨fun h => key _ ?_, fun h7 => ⟨fun h => key _ ?_, fun h8 => ⟨fun h => key _ ?_, fun h9 => key _ ?_⟩⟩⟩⟩⟩⟩⟩⟩⟩ <;> (unfold rankZ tier; first | (subst h; rfl) | (rw [if_neg (by omega), if_neg (by omega), if_neg (by omega), if_neg (by omega)]; rfl))
theorem cm_go (a : Int32) : V l Γ T_TapedLinesModel_go d r 0 [.ref 27, .int a] [] (M, L) (q_i L (fun x M' => x = b2 true ∧ M' = q_up M 27 3 a)) := s_TapedLinesModel_go_0 a ⟨rfl, rfl⟩
theorem cm_open (a : Int32) : V l Γ T_TapedLinesModel_open (d + 1) r 0 [.ref 27, .int a] [] (M, L) (q_i L (fun x M' => x = b2 true ∧ M' = q_up (q_up (q_up M 27 4 a) 27 5 (iI 1)) 27 3 (iI 11))) := by
  refine s_TapedLinesModel_open_0 a ⟨_, cm_go _, ?_⟩
  rintro x M' ⟨rfl, rfl⟩
  exact ⟨b2_n _, rfl, rfl⟩
end Small
