-- wobble: the same numbers on both sides
def wX (x : Int32) : Int32 := (x * (iI 1103515245)) + (iI 12345)
def wF (p x w : Int32) : Int32 := (w * (((iI 100) - p) + ((x.toUInt32 >>> (((iI 16)).toUInt32 &&& Int32.toUInt32 31)).toInt32 - (x.toUInt32 >>> (((iI 16)).toUInt32 &&& Int32.toUInt32 31)).toInt32 / (((iI 2) * p) + (iI 1)) * (((iI 2) * p) + (iI 1))))) / (iI 100)
def wC (f : Int32) : Int32 := if (iI 1) < (if f < (iI 100) then f else (iI 100)) then (if f < (iI 100) then f else (iI 100)) else (iI 1)
theorem wC_1 {f : Int32} (h : ¬ (iI 1) ≤ f) : wC f = iI 1 := by
  rw [lex (by decide) (by decide)] at h
  unfold wC
  rw [if_pos (xlt (by decide) (by decide) |>.mpr (by omega)), if_neg]
  rw [ltx (by decide) (by decide)]
  omega
theorem wC_100 {f : Int32} (h : ¬ f ≤ (iI 100)) : wC f = iI 100 := by
  rw [xle (by decide) (by decide)] at h
  have hn : ¬ f < iI 100 := by
    rw [xlt (by decide) (by decide)]
    omega
  unfold wC
  rw [if_neg hn, if_pos (by decide)]
theorem wC_f {f : Int32} (h1 : (iI 1) ≤ f) (h2 : f ≤ (iI 100)) : wC f = f := by
  rw [lex (by decide) (by decide)] at h1
  rw [xle (by decide) (by decide)] at h2
  unfold wC
  by_cases q : f < iI 100
  · rw [if_pos q]
    by_cases q2 : iI 1 < f
    · rw [if_pos q2]
    · rw [if_neg q2]
      rw [ltx (by decide) (by decide)] at q2
      exact ((xeq (by decide) (by decide)).mpr (by omega)).symm
  · rw [if_neg q, if_pos (by decide)]
    rw [xlt (by decide) (by decide)] at q
    exact ((xeq (by decide) (by decide)).mpr (by omega)).symm
/-- n waves from place i on are shaken -/
def shk (p : Int32) : Nat → Nat → Int32 → (Nat → Int32) → (Nat → Int32)
  | 0, _, _, f => f
  | n + 1, i, x, f => shk p n (i + 1) (wX x) (va_up f i (wC (wF p (wX x) (f i))))
theorem shk_same (p : Int32) {m : Nat} : ∀ (n i : Nat) (x : Int32) (f g : Nat → Int32), (∀ j, j < m → f j = g j) → i + n ≤ m → ∀ j, j < m → shk p n i x f j = shk p n i x g j
  | 0, _, _, _, _, h, _ => h
  | n + 1, i, x, f, g, h, hi => by
    rw [shk, shk]
    refine shk_same p n (i + 1) (wX x) _ _ ?_ (by omega)
    intro j hj
    simp only [va_up]
    split
    · rw [h i (by omega)]
    · exact h j hj
theorem q_up_row {M : qM} {o k : Nat} {v : Int32} : q_up M o k v o = va_up (M o) k v := by simp [q_up, va_up]
section Wobble
variable {l : Launch} {Γ : qG} {d r : Nat} {L : Nat → Int64}
theorem wob_ne {p : Int} (h1 : 0 ≤ p) (h2 : p ≤ 50) : ¬ (((iI 2) * iI p) + (iI 1)) = 0 := by
  rw [iI_mul, iI_add, x0eq, iI_toInt (by omega) (by omega)]
  omega
theorem c_shake_at {p : Int} (h1 : 0 ≤ p) (h2 : p ≤ 50) {c : Nat} (hc : c ≤ 7754) : ∀ (n i : Nat) (x : Int32) (M : qM), i + n = c → M 24 2 = iI c →
    V l Γ T_Tape_shake (d + 1) r 5 [.ref 24, .null, .int (iI p), .int x, .int (iI i), .null] [] (M, L) (q_n L (fun M' => M' 25 = shk (iI p) n i x (M 25) ∧ fr [25] M M')) := by
  intro n
  induction n with
  | zero =>
    intro i x M hi h
    refine s_Tape_shake_5 _ _ _ ?_
    rw [h, iI_le (by omega) (by omega) (by omega) (by omega)]
    exact ⟨fun _ => ⟨rfl, fr.rf⟩, fun q => absurd (by omega) q⟩
  | succ n ih =>
    intro i x M hi h
    refine s_Tape_shake_5 _ _ _ ?_
    rw [h, iI_le (by omega) (by omega) (by omega) (by omega), iI_nat (by omega) (by omega), Int.toNat_natCast, iI_add (i : Int) 1]
    have hin : vp_in (iI (i : Int)) 7754 := iI_in (by omega) (by omega) (by omega)
    refine ⟨fun q => by omega, fun _ => ⟨wob_ne h1 h2, hin, hin, ?_⟩⟩
    refine V.wn (ih (i + 1) _ _ (by omega) (by rw [q_up_o (by decide)]; exact h)) (fun M' hM => ⟨?_, (fr.rf.up (by simp)).tr hM.2⟩)
    rw [hM.1, shk, q_up_row]
    unfold wC wF wX
    rfl
theorem c_shake {p : Int} (h1 : 0 ≤ p) (h2 : p ≤ 50) {c : Nat} (hc : c ≤ 7754) {M : qM} (x : Int32) (h : M 24 2 = iI c) :
    V l Γ T_Tape_shake (d + 1) r 0 [.ref 24, .int x, .int (iI p), .null, .null, .null] [] (M, L) (q_n L (fun M' => M' 25 = shk (iI p) c 0 x (M 25) ∧ fr [25] M M')) :=
  s_Tape_shake_0 _ _ (c_shake_at h1 h2 hc c 0 x M (by omega) h)
theorem cm_wobble_29 {p : Int} (h1 : 0 ≤ p) (h2 : p ≤ 50) {c : Nat} (hc : c ≤ 7754) : ∀ (n i : Nat) (x : Int32) (M : qM), i + n = c → M 27 33 = iI c →
    V l Γ T_TapedLinesModel_wobble (d + 1) r 29 [.ref 27, .null, .int (iI p), .int x, .int (iI i), .null] [] (M, L) (q_n L (fun M' => M' 40 = shk (iI p) n i x (M 40) ∧ fm [40] [] M M')) := by
  intro n
  induction n with
  | zero =>
    intro i x M hi h
    refine s_TapedLinesModel_wobble_29 _ _ _ ?_
    rw [h, iI_le (by omega) (by omega) (by omega) (by omega)]
    exact ⟨fun _ => ⟨rfl, fm.rf⟩, fun q => absurd (by omega) q⟩
  | succ n ih =>
    intro i x M hi h
    refine s_TapedLinesModel_wobble_29 _ _ _ ?_
    rw [h, iI_le (a := (c : Int)) (by omega) (by omega) (by omega) (by omega), iI_nat (by omega) (by omega), Int.toNat_natCast, iI_add (i : Int) 1]
    have hin : vp_in (iI (i : Int)) 8200 := iI_in (by omega) (by omega) (by omega)
    have go : ∀ v : Int32, v = wC (wF (iI p) (wX x) (M 40 i)) → V l Γ T_TapedLinesModel_wobble (d + 1) r 29 [.ref 27, .null, .int (iI p), .int ((x * (iI 1103515245)) + (iI 12345)), .int (iI ((i : Int) + 1)), .null] [] (q_up M 40 i v, L) (q_n L (fun M' => M' 40 = shk (iI p) (n + 1) i x (M 40) ∧ fm [40] [] M M')) := by
      intro v hv
      refine V.wn (ih (i + 1) _ (q_up M 40 i v) (by omega) (by rw [q_up_o (by decide)]; exact h)) (fun M' hM => ⟨?_, (fm.rf.upo (by simp) (by decide)).tr hM.2⟩)
      rw [hM.1, shk, q_up_row, hv]
      unfold wX
      rfl
    refine ⟨fun q => by omega, fun _ => ⟨hin, wob_ne h1 h2, ⟨fun q1 => ⟨fun q2 => ⟨hin, go _ ?_⟩, fun q2 => ⟨hin, go _ ?_⟩⟩, fun q1 => ⟨hin, go _ ?_⟩⟩⟩⟩
    · have z := (wC_f q1 q2).symm
      unfold wF wX
      exact z
    · have z := (wC_100 q2).symm
      unfold wF wX
      exact z
    · have z := (wC_1 q1).symm
      unfold wF wX
      exact z
theorem cm_wobble {c : Nat} (hc : c ≤ 7754) {M : qM} (x p : Int32) (h : M 27 33 = iI c) :
    V l Γ T_TapedLinesModel_wobble (d + 1) r 0 [.ref 27, .int x, .int p, .null, .null, .null] [] (M, L) (q_n L (fun M' => (p < 0 ∨ iI 50 < p → M' = q_up M 27 0 (iI 1)) ∧ (¬ (p < 0 ∨ iI 50 < p) → M' 27 0 = iI 0 ∧ M' 40 = shk p c 0 x (M 40) ∧ fm [40] [0] M M'))) := by
  have hno : ∀ q : p < 0 ∨ iI 50 < p, V l Γ T_TapedLinesModel_wobble (d + 1) r 16 [.ref 27, .int x, .int p, .null, .null, .null] [.int (iI 1), .ref 27] (M, L) (q_n L (fun M' => (p < 0 ∨ iI 50 < p → M' = q_up M 27 0 (iI 1)) ∧ (¬ (p < 0 ∨ iI 50 < p) → M' 27 0 = iI 0 ∧ M' 40 = shk p c 0 x (M 40) ∧ fm [40] [0] M M'))) := by
    intro q
    refine s_TapedLinesModel_wobble_16 _ _ _ ⟨_, cm_refused true false, ?_⟩
    rintro y M' ⟨rfl, rfl⟩
    exact ⟨fun z => absurd z (by decide), fun _ => ⟨fun _ => rfl, fun z => absurd q z⟩⟩
  refine s_TapedLinesModel_wobble_0 _ _ ⟨fun q => hno (Or.inl q), fun q => ⟨fun q2 => ?_, fun q2 => hno (Or.inr ?_)⟩⟩
  · have hp1 : 0 ≤ p.toInt := by rw [x0lt] at q; omega
    have hp2 : p.toInt ≤ 50 := (xle (by decide) (by decide)).mp q2
    have hn : ¬ (p < 0 ∨ iI 50 < p) := by
      rw [x0lt, ltx (by decide) (by decide)]
      omega
    refine s_TapedLinesModel_wobble_16 _ _ _ ⟨_, cm_refused false false, ?_⟩
    rintro y M' ⟨rfl, rfl⟩
    refine ⟨fun _ => ?_, fun z => absurd (by decide) z⟩
    have hk := cm_wobble_29 (l := l) (Γ := Γ) (d := d) (r := r) (L := L) hp1 hp2 hc c 0 x (q_up M 27 0 (iI 0)) (by omega) (by rw [q_up_k (by decide)]; exact h)
    rw [iI_self] at hk
    refine hk.wn (fun M2 hM => ⟨fun z => absurd z hn, fun _ => ⟨?_, ?_, (fm.rf.upk (by simp)).tr (hM.2.wk (by simp) (by simp))⟩⟩)
    · rw [hM.2.2 0 (by simp), q_up_s]
    · rw [hM.1, q_up_o (by decide)]
  · rw [ltx (by decide) (by decide)]
    rw [xle (by decide) (by decide)] at q2
    omega
end Wobble
