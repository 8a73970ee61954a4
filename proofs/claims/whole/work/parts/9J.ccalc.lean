-- the class's calculator
def cB (f : Nat → Int32) (e : Nat) (l : List Int) : Prop := l.length + 2 ≤ e ∧ (∀ i, i < l.length → f (e - l.length + i) = iI (l.getD i 0)) ∧ ∀ b ∈ l, 0 ≤ b ∧ b < 256
theorem cB.tl {f : Nat → Int32} {e : Nat} {c : Int} {t : List Int} (h : cB f e (c :: t)) : cB f e t := by
  obtain ⟨h1, h2, h3⟩ := h
  simp only [List.length_cons] at h1 h2
  refine ⟨by omega, fun i hi => ?_, fun b hb => h3 b (List.mem_cons_of_mem _ hb)⟩
  have := h2 (i + 1) (by omega)
  rw [show e - (t.length + 1) + (i + 1) = e - t.length + i by omega] at this
  exact this
theorem cB.hd {f : Nat → Int32} {e : Nat} {c : Int} {t : List Int} (h : cB f e (c :: t)) : f (e - (t.length + 1)) = iI c ∧ t.length + 3 ≤ e ∧ 0 ≤ c ∧ c < 256 := by
  obtain ⟨h1, h2, h3⟩ := h
  simp only [List.length_cons] at h1 h2
  exact ⟨h2 0 (by omega), by omega, h3 c (by simp)⟩
def cS (M : qM) (e : Nat) (l : List Int) : Prop := M 12 3 = Int32.ofNat 11 ∧ e ≤ 200 ∧ M 12 5 = iI e ∧ M 12 4 = iI ((e - l.length : Nat) : Int) ∧ cB (M 11) e l ∧ M 12 2 = iI 0
def cE (M : qM) (e b : Nat) (er : Int) : Prop := M 12 3 = Int32.ofNat 11 ∧ e ≤ 200 ∧ M 12 5 = iI e ∧ (∃ a : Nat, a ≤ e + b ∧ M 12 4 = iI a) ∧ M 12 2 = iI er ∧ (er = 5 ∨ er = 6)
def cQ (e b : Nat) (M : qM) (res : Except Int (Int32 × List Int)) (x : Int32) (M' : qM) : Prop := fr [12] M M' ∧ match res with
  | .error er => cE M' e b er
  | .ok (v, r) => x = v ∧ cS M' e r
theorem cS.len {M : qM} {e : Nat} {l : List Int} (h : cS M e l) : l.length + 2 ≤ e ∧ l.length ≤ 198 := by
  have h1 := h.2.2.2.2.1.1
  have h2 := h.2.1
  omega
theorem cS.he {M : qM} {e b : Nat} {l : List Int} (h : cS M e l) {er : Int} (he : er = 5 ∨ er = 6) : cE (q_up M 12 2 (iI er)) e b er := by
  obtain ⟨h1, h2, h3, h4, h5, h6⟩ := h
  refine ⟨by rw [q_up_k (by decide)]; exact h1, h2, by rw [q_up_k (by decide)]; exact h3, ⟨e - l.length, by omega, by rw [q_up_k (by decide)]; exact h4⟩, q_up_s, he⟩
theorem cE.wk {M : qM} {e b b' : Nat} {er : Int} (h : cE M e b er) (hb : b ≤ b') : cE M e b' er := by
  obtain ⟨h1, h2, h3, ⟨a, h4, h5⟩, h6⟩ := h
  exact ⟨h1, h2, h3, ⟨a, by omega, h5⟩, h6⟩
theorem cE.ne {M : qM} {e b : Nat} {er : Int} (h : cE M e b er) : ¬ M 12 2 = 0 := by
  obtain ⟨h1, h2, h3, h4, h5, h6⟩ := h
  rw [h5]
  rcases h6 with rfl | rfl <;> decide
theorem var7 : ∀ k : Fin 8, (iI (97 + (k.val : Int)) - iI 97) &&& iI 7 = iI (k.val : Int) := by decide
section Calc
variable {l : Launch} {Γ : qG} {d r : Nat} {L : Nat → Int64}
theorem k_ahead {M : qM} {e : Nat} {t : List Int} (h : cS M e t) : V l Γ T_Calculator_ahead d r 0 [.ref 12] [] (M, L) (q_i L (fun x M' => x = iI (t.headD (-1)) ∧ M' = M)) := by
  obtain ⟨h1, h2, h3, h4, h5, h6⟩ := h
  refine s_Calculator_ahead_0 ?_
  rw [h1, h3, h4, iI_le (by omega) (by omega) (by omega) (by omega), iI_nat (by omega) (by omega), Int.toNat_natCast]
  have hle := h5.1
  cases t with
  | nil => exact ⟨fun _ => ⟨rfl, rfl⟩, fun q => by simp at q⟩
  | cons c t =>
    obtain ⟨k1, k2, k3, k4⟩ := h5.hd
    simp only [List.length_cons] at hle ⊢
    exact ⟨fun q => by omega, fun _ => ⟨by decide, iI_in (by omega) (by omega) (by omega), k1, trivial⟩⟩
theorem k_take {M : qM} {e : Nat} {c : Int} {t : List Int} (h : cS M e (c :: t)) : V l Γ T_Calculator_take d r 0 [.ref 12, .null] [] (M, L) (q_i L (fun x M' => x = iI c ∧ cS M' e t ∧ fr [12] M M')) := by
  obtain ⟨h1, h2, h3, h4, h5, h6⟩ := h
  obtain ⟨k1, k2, k3, k4⟩ := h5.hd
  refine s_Calculator_take_0 ?_
  simp only [List.length_cons] at h4
  rw [h1, h3, h4, iI_le (by omega) (by omega) (by omega) (by omega), iI_nat (by omega) (by omega), Int.toNat_natCast, iI_add]
  refine ⟨fun q => by omega, fun _ => ⟨by decide, iI_in (by omega) (by omega) (by omega), k1, ⟨?_, h2, ?_, ?_, ?_, ?_⟩, fr.rf.up (by simp)⟩⟩
  · rw [q_up_k (by decide)]; exact h1
  · rw [q_up_k (by decide)]; exact h3
  · rw [q_up_s]; exact congrArg iI (by omega)
  · rw [q_up_o (by decide)]; exact h5.tl
  · rw [q_up_k (by decide)]; exact h6
theorem k_takeE {M : qM} {e b : Nat} {er : Int} (h : cE M e b er) (hb : b ≤ 100) : V l Γ T_Calculator_take d r 0 [.ref 12, .null] [] (M, L) (q_i L (fun x M' => cE M' e (b + 1) er ∧ fr [12] M M')) := by
  obtain ⟨h1, h2, h3, ⟨a, h4, h5⟩, h6, h7⟩ := h
  refine s_Calculator_take_0 ?_
  rw [h1, h3, h5, iI_le (by omega) (by omega) (by omega) (by omega), iI_add]
  have fin : cE (q_up M 12 4 (iI ((a : Int) + 1))) e (b + 1) er ∧ fr [12] M (q_up M 12 4 (iI ((a : Int) + 1))) := by
    refine ⟨⟨?_, h2, ?_, ⟨a + 1, by omega, q_up_s⟩, ?_, h7⟩, fr.rf.up (by simp)⟩
    · rw [q_up_k (by decide)]; exact h1
    · rw [q_up_k (by decide)]; exact h3
    · rw [q_up_k (by decide)]; exact h6
  exact ⟨fun _ => fin, fun q => ⟨by decide, iI_in (by omega) (by omega) (by omega), fin⟩⟩
theorem k_takeVariable {M : qM} {e : Nat} {c : Int} {t : List Int} (h : cS M e (c :: t)) (hc : isV c = true) : V l Γ T_Calculator_takeVariable (d + 1) r 0 [.ref 12] [] (M, L) (q_i L (fun x M' => x = iI (c - 97) ∧ cS M' e t ∧ fr [12] M M')) := by
  have hcv : 97 ≤ c ∧ c ≤ 104 := by simpa [isV] using hc
  refine s_Calculator_takeVariable_0 ⟨_, k_take h, ?_⟩
  rintro x1 M1 ⟨rfl, h1, f1⟩
  refine ⟨?_, h1, f1⟩
  have := var7 ⟨(c - 97).toNat, by omega⟩
  rw [show ((⟨(c - 97).toNat, by omega⟩ : Fin 8).val : Int) = c - 97 by show (((c - 97).toNat : Nat) : Int) = _; omega, show 97 + (c - 97) = c by omega] at this
  exact this
theorem k_takeNumber_7 {e : Nat} : ∀ (t : List Int) (v : Int) (M : qM), cS M e t → V l Γ T_Calculator_takeNumber (d + 1) r 7 [.ref 12, .int (iI v), .int (iI ((e - t.length : Nat) : Int))] [] (M, L) (q_i L (fun x M' => x = iI (numV v t).1 ∧ cS M' e (numV v t).2 ∧ fr [12] M M')) := by
  intro t
  induction t with
  | nil =>
    intro v M h
    have hS := h
    obtain ⟨h1, h2, h3, h4, h5, h6⟩ := h
    refine s_Calculator_takeNumber_7 _ _ ?_
    rw [h3, iI_le (by omega) (by omega) (by omega) (by omega)]
    exact ⟨fun _ => ⟨rfl, hS, fr.rf⟩, fun q => by simp at q⟩
  | cons c t ih =>
    intro v M h
    have hS := h
    obtain ⟨h1, h2, h3, h4, h5, h6⟩ := h
    obtain ⟨k1, k2, k3, k4⟩ := h5.hd
    refine s_Calculator_takeNumber_7 _ _ ?_
    simp only [List.length_cons] at h4 ⊢
    rw [h1, h3, iI_le (by omega) (by omega) (by omega) (by omega), iI_nat (by omega) (by omega), Int.toNat_natCast, k1]
    refine ⟨fun q => by omega, fun _ => ⟨by decide, iI_in (by omega) (by omega) (by omega), _, c_isDigit _, ?_⟩⟩
    rintro x1 M1 ⟨rfl, rfl⟩
    rw [iI_toInt (by omega) (by omega), b2_0, h1, h4, iI_add, k1, iI_mul, iI_add, iI_sub]
    unfold numV
    refine ⟨fun q => ?_, fun q => ?_⟩
    · rw [if_neg (by rw [q]; decide)]
      exact ⟨rfl, hS, fr.rf⟩
    · rw [if_pos (by simpa using q), show ((e - (t.length + 1) : Nat) : Int) + 1 = ((e - t.length : Nat) : Int) by omega, show v * 10 + c - 48 = 10 * v + c - 48 by omega]
      refine ⟨by decide, iI_in (by omega) (by omega) (by omega), (ih _ _ ⟨?_, h2, ?_, q_up_s, ?_, ?_⟩).wi (fun x M' hM => ⟨hM.1, hM.2.1, (fr.rf.up (by simp)).tr hM.2.2⟩)⟩
      · rw [q_up_k (by decide)]; exact h1
      · rw [q_up_k (by decide)]; exact h3
      · rw [q_up_o (by decide)]; exact h5.tl
      · rw [q_up_k (by decide)]; exact h6
theorem k_takeNumber {M : qM} {e : Nat} {t : List Int} (h : cS M e t) : V l Γ T_Calculator_takeNumber (d + 1) r 0 [.ref 12, .null, .null] [] (M, L) (q_i L (fun x M' => x = iI (numV 0 t).1 ∧ cS M' e (numV 0 t).2 ∧ fr [12] M M')) := by
  refine s_Calculator_takeNumber_0 ?_
  rw [h.2.2.2.1]
  exact k_takeNumber_7 t 0 M h
theorem k_cellAt {M : qM} {e b : Nat} {t : List Int} (h : cS M e t) (i : Int32) : V l Γ T_Calculator_cellAt d r 0 [.ref 12, .int i] [] (M, L) (q_i L (fun x M' => fr [12] M M' ∧ if i < 0 ∨ ¬ i < iI 16 then cE M' e b 6 else x = M 14 i.toNatClampNeg ∧ cS M' e t)) := by
  refine s_Calculator_cellAt_0 _ ⟨fun q => ?_, fun q => ⟨fun q2 => ?_, fun q2 => ?_⟩⟩
  · rw [if_pos (Or.inl q)]
    exact ⟨fr.rf.up (by simp), h.he (Or.inr rfl)⟩
  · rw [if_neg (by intro z; rcases z with z | z; exact q z; exact z q2)]
    refine ⟨?_, fr.rf, rfl, h⟩
    have q1 : ¬ i.toInt < 0 := fun z => q (Int32.lt_iff_toInt_lt.mpr z)
    have q2' : i.toInt < 16 := by
      have := Int32.lt_iff_toInt_lt.mp q2
      rw [iI_toInt (by decide) (by decide)] at this
      exact this
    have e1 : i = iI i.toInt := by
      apply Int32.toInt_inj.mp
      rw [iI_toInt (by omega) (by omega)]
    rw [e1]
    exact iI_in (by omega) (by omega) (by omega)
  · rw [if_pos (Or.inr q2)]
    exact ⟨fr.rf.up (by simp), h.he (Or.inr rfl)⟩
theorem k_combine {M : qM} {e b : Nat} {t : List Int} (h : cS M e t) {c : Int} (hc : 0 ≤ c ∧ c < 256) (x y : Int32) : V l Γ T_Calculator_combine (d + 1) r 0 [.ref 12, .int (iI c), .int x, .int y] [] (M, L) (q_i L (fun z M' => fr [12] M M' ∧ match cmb c x y with
    | .error er => cE M' e b er
    | .ok v => z = v ∧ cS M' e t)) := by
  have ok : ∀ v, cmb c x y = .ok v → fr [12] M M ∧ match cmb c x y with
    | .error er => cE M e b er
    | .ok v' => v = v' ∧ cS M e t := by
    intro v hv
    rw [hv]
    exact ⟨fr.rf, rfl, h⟩
  refine s_Calculator_combine_0 _ _ _ ?_
  rw [iI_toInt (by omega) (by omega)]
  refine ⟨fun k1 => ok _ (by unfold cmb; rw [if_pos k1]; rfl), fun k1 => ⟨fun k2 => ok _ (by unfold cmb; rw [if_neg k1, if_pos k2]; rfl), fun k2 => ⟨fun k3 => ok _ (by unfold cmb; rw [if_neg k1, if_neg k2, if_pos k3]; rfl), fun k3 => ⟨fun k4 => ⟨fun q => ok _ (by unfold cmb; rw [if_neg k1, if_neg k2, if_neg k3, if_pos k4, if_pos q]), fun q => ok _ (by unfold cmb; rw [if_neg k1, if_neg k2, if_neg k3, if_pos k4, if_neg q])⟩, fun k4 => ⟨fun k5 => ⟨fun q => ok _ (by unfold cmb; rw [if_neg k1, if_neg k2, if_neg k3, if_neg k4, if_pos k5, if_neg q]), fun q => ok _ (by unfold cmb; rw [if_neg k1, if_neg k2, if_neg k3, if_neg k4, if_pos k5, if_pos (Classical.not_not.mp q)])⟩, fun k5 => ⟨fun k6 => ⟨fun q => ok _ (by unfold cmb; rw [if_neg k1, if_neg k2, if_neg k3, if_neg k4, if_neg k5, if_pos k6, if_pos q]), fun q => ok _ (by unfold cmb; rw [if_neg k1, if_neg k2, if_neg k3, if_neg k4, if_neg k5, if_pos k6, if_neg q])⟩, fun k6 => ?_⟩⟩⟩⟩⟩⟩
  refine ⟨fun z M' => fr [12] M M' ∧ match cmb c x y with
    | .error er => cE M' e b er
    | .ok v => z = v ∧ cS M' e t, ?_, fun x1 M1 hh => hh⟩
  refine s_Calculator_divide_0 _ _ _ ⟨fun q => ?_, fun q => ?_⟩
  · rw [iI_eq (by omega) (by omega) (by omega) (by omega)]
    refine ⟨fun q2 => ⟨q, ok _ (by unfold cmb; rw [if_neg k1, if_neg k2, if_neg k3, if_neg k4, if_neg k5, if_neg k6, if_neg q, if_neg q2]; rfl)⟩, fun q2 => ⟨q, ok _ (by unfold cmb; rw [if_neg k1, if_neg k2, if_neg k3, if_neg k4, if_neg k5, if_neg k6, if_neg q, if_pos (Classical.not_not.mp q2)]; rfl)⟩⟩
  · have he : cmb c x y = .error 5 := by unfold cmb; rw [if_neg k1, if_neg k2, if_neg k3, if_neg k4, if_neg k5, if_neg k6, if_pos (Classical.not_not.mp q)]
    rw [he]
    exact ⟨fr.rf.up (by simp), h.he (Or.inl rfl)⟩
end Calc
