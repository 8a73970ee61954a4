-- the class's reader changes nothing but itself, and not the number
def fr5 (M M' : qM) : Prop := fr [5, 6] M M' ∧ M' 5 2 = M 5 2
theorem fr5.rf {M : qM} : fr5 M M := ⟨fr.rf, rfl⟩
theorem fr5.tr {M M1 M2 : qM} (h : fr5 M M1) (h2 : fr5 M1 M2) : fr5 M M2 := ⟨h.1.tr h2.1, h2.2.trans h.2⟩
theorem fr5.up {M M1 : qM} {o k : Nat} {v : Int32} (h : fr5 M M1) (ho : (o = 5 ∧ k ≠ 2) ∨ o = 6) : fr5 M (q_up M1 o k v) := by
  refine ⟨h.1.up (by rcases ho with ⟨rfl, _⟩ | rfl <;> simp), ?_⟩
  rcases ho with ⟨rfl, hk⟩ | rfl
  · rw [q_up_k (fun e => hk e.symm)]; exact h.2
  · rw [q_up_o (by decide)]; exact h.2
theorem fr5.wk {M M1 : qM} (h : fr5 M M1) (_ : True) : fr5 M M1 := h
-- the class's reader at work
def rdS (M : qM) (t : Nat) (txt u out : List Int) : Prop := M 5 4 = Int32.ofNat t ∧ shIs M t txt ∧ (∀ c ∈ txt, 0 ≤ c ∧ c < 65536) ∧ (∃ w : List Int, txt = w ++ u ∧ M 5 3 = iI w.length ∧ out.length ≤ w.length) ∧ M 5 1 = iI out.length ∧ rw (M 6) out
theorem tcap {t : Nat} (ho : (t = 1) ∨ (t = 7)) : cp (t + 1) ≤ 256 := by rcases ho with rfl | rfl <;> decide
theorem tref {t : Nat} (ho : (t = 1) ∨ (t = 7)) : (Int32.ofNat t).toNatClampNeg = t := by rcases ho with rfl | rfl <;> decide
def RP (M : qM) (t : Nat) (txt out : List Int) (r : rR) (x : Int32) (M' : qM) : Prop := x = b2 r.1 ∧ (∃ o', rdS M' t txt r.2.1 o' ∧ (r.1 = true → o' = out ++ r.2.2)) ∧ fr5 M M'
theorem rdS.src {M : qM} {t : Nat} {txt u out : List Int} (h : rdS M t txt u out) (ho : (t = 1) ∨ (t = 7)) : (M 5 4).toNatClampNeg = t := by rw [h.1]; exact tref ho
theorem rdS.at {M : qM} {t : Nat} {txt v out : List Int} {c : Int} {w : List Int} (h : rdS M t txt (c :: v) out) (e : txt = w ++ c :: v) : M (t + 1) w.length = iI c ∧ w.length < cp (t + 1) := by
  have h1 := h.2.1.2.1
  have h2 := h.2.1.2.2 w.length (by rw [e]; simp)
  rw [h2]
  refine ⟨?_, ?_⟩
  · congr 1
    rw [e]
    simp [List.getD_eq_getElem?_getD]
  · rw [e] at h1
    simp at h1
    omega
section Reader
variable {l : Launch} {Γ : qG} {d r : Nat} {L : Nat → Int64}
theorem c_skip {t : Nat} (ho : (t = 1) ∨ (t = 7)) (txt out : List Int) : ∀ (u : List Int) (M : qM), rdS M t txt u out → V l Γ T_LineReader_skipSpaces d r 0 [.ref 5] [] (M, L) (q_n L (fun M' => rdS M' t txt (sk u) out ∧ fr5 M M')) := by
  intro u
  have hcp := tcap ho
  induction u with
  | nil =>
    intro M h
    refine s_LineReader_skipSpaces_0 t ho ⟨h.src ho, fun _ => ⟨h, fr5.rf⟩, fun q => ?_⟩
    obtain ⟨w, e, hw, -⟩ := h.2.2.2.1
    have h1 := h.2.1.2.1
    rw [h.2.1.1, hw, iI_le (by omega) (by omega) (by rw [e] at h1; simp at h1; omega) (by rw [e] at h1; simp at h1; omega)] at q
    exact absurd (by rw [e]; simp) q
  | cons c u ih =>
    intro M h
    obtain ⟨w, e, hw, hol⟩ := h.2.2.2.1
    have h1 := h.2.1.2.1
    have hat := h.at e
    have hlen : w.length + u.length + 1 = txt.length := by rw [e]; simp; omega
    have hc := h.2.2.1 c (by rw [e]; simp)
    refine s_LineReader_skipSpaces_0 t ho ⟨h.src ho, fun q => ?_, fun q => ⟨h.src ho, ?_, fun q2 => ?_, fun q2 => ?_⟩⟩
    · rw [h.2.1.1, hw, iI_le (by omega) (by omega) (by omega) (by omega)] at q
      omega
    · rw [hw]
      exact iI_in (by omega) (by omega) (by omega)
    · rw [hw, iI_nat (by omega) (by omega), Int.toNat_natCast, hat.1, iI_eq (by omega) (by omega) (by omega) (by omega)] at q2
      rw [show sk (c :: u) = c :: u from if_neg q2]
      exact ⟨h, fr5.rf⟩
    · rw [hw, iI_nat (by omega) (by omega), Int.toNat_natCast, hat.1, iI_eq (by omega) (by omega) (by omega) (by omega)] at q2
      have q2 : c = 32 := by omega
      rw [show sk (c :: u) = sk u from if_pos q2, hw, iI_add]
      have h2 : rdS (q_up M 5 3 (iI ((w.length : Int) + 1))) t txt u out := by
        refine ⟨by rw [q_up_k (by decide)]; exact h.1, h.2.1.keep (q_up_o (by omega)) (q_up_o (by omega)), h.2.2.1, ⟨w ++ [c], by rw [e]; simp, by rw [q_up_s]; simp, by simp; omega⟩, by rw [q_up_k (by decide)]; exact h.2.2.2.2.1, by rw [q_up_o (by decide)]; exact h.2.2.2.2.2⟩
      refine (ih _ h2).mono (fun o S hq => ?_)
      obtain ⟨M', e1, e2, h3, h4⟩ := hq
      exact ⟨M', e1, e2, h3, (fr5.rf.up (by simp)).tr h4⟩
theorem c_ahead {t : Nat} (ho : (t = 1) ∨ (t = 7)) {txt u out : List Int} {M : qM} (k : Nat) (hk : k ≤ 2) (h : rdS M t txt u out) : V l Γ T_LineReader_ahead d r 0 [.ref 5, .int (iI k)] [] (M, L) (q_i L (fun x M' => x = iI (u.getD k (-1)) ∧ M' = M)) := by
  have hcp := tcap ho
  obtain ⟨w, e, hw, hol⟩ := h.2.2.2.1
  have h1 := h.2.1.2.1
  have hlen : w.length + u.length = txt.length := by rw [e]; simp
  refine s_LineReader_ahead_0 t ho (iI k) ?_
  rw [hw, iI_add, h.2.1.1, iI_le (by omega) (by omega) (by omega) (by omega), iI_nat (by omega) (by omega)]
  refine ⟨h.src ho, fun q => ⟨?_, rfl⟩, fun q => ⟨h.src ho, iI_in (by omega) (by omega) (by omega), ?_, rfl⟩⟩
  · rw [List.getD_eq_getElem?_getD, List.getElem?_eq_none (by omega)]
    rfl
  · have h2 := h.2.1.2.2 (w.length + k) (by omega)
    rw [show ((w.length : Int) + (k : Int)).toNat = w.length + k by omega, h2, e]
    congr 1
    have : k < u.length := by omega
    simp [List.getD_eq_getElem?_getD, List.getElem?_append_right, this]
theorem c_ahead0 {t : Nat} (ho : (t = 1) ∨ (t = 7)) {txt u out : List Int} {M : qM} (h : rdS M t txt u out) : V l Γ T_LineReader_ahead d r 0 [.ref 5, .int (iI 0)] [] (M, L) (q_i L (fun x M' => x = iI (hdz u) ∧ M' = M)) := by
  have := c_ahead (l := l) (Γ := Γ) (d := d) (r := r) (L := L) ho 0 (by omega) h
  have e : u.getD 0 (-1) = hdz u := by cases u <;> rfl
  rw [e] at this
  exact this
theorem c_put {t : Nat} (ho : (t = 1) ∨ (t = 7)) {txt u out : List Int} {M : qM} {c : Int} (h : rdS M t txt u out) (hlt : ∀ w, txt = w ++ u → out.length < w.length) : V l Γ T_LineReader_put d r 0 [.ref 5, .int (iI c)] [] (M, L) (q_n L (fun M' => rdS M' t txt u (out ++ [c]) ∧ fr5 M M')) := by
  have hcp := tcap ho
  obtain ⟨w, e, hw, hol⟩ := h.2.2.2.1
  have h1 := h.2.1.2.1
  have hlt := hlt w e
  have hlen : w.length + u.length = txt.length := by rw [e]; simp
  refine s_LineReader_put_0 t ho (iI c) ?_
  have e6 : cp 6 = 256 := by decide
  rw [h.2.2.2.2.1, e6, iI_nI, iI_le (by omega) (by omega) (by omega) (by omega), iI_add, iI_nat (by omega) (by omega), Int.toNat_natCast]
  refine ⟨fun q => by omega, fun _ => ⟨iI_in (by omega) (by omega) (by omega), ?_, (fr5.rf.up (by simp)).up (by simp)⟩⟩
  refine ⟨by rw [q_up_k (by decide), q_up_o (by decide)]; exact h.1, h.2.1.keep (by rw [q_up_o (by omega), q_up_o (by omega)]) (by rw [q_up_o (by omega), q_up_o (by omega)]), h.2.2.1, ⟨w, e, by rw [q_up_k (by decide), q_up_o (by decide)]; exact hw, by simp; omega⟩, by rw [q_up_s]; simp, ?_⟩
  rw [q_up_o (by decide)]
  have e2 : q_up M 6 out.length (iI c) 6 = va_up (M 6) out.length (iI c) := by simp [q_up, va_up]
  rw [e2]
  exact rw_snoc h.2.2.2.2.2
theorem c_take {t : Nat} (ho : (t = 1) ∨ (t = 7)) {txt v out : List Int} {M : qM} {c : Int} (h : rdS M t txt (c :: v) out) : V l Γ T_LineReader_take (d + 1) r 0 [.ref 5] [] (M, L) (q_i L (fun x M' => x = iI 1 ∧ rdS M' t txt v (out ++ [c]) ∧ fr5 M M')) := by
  have hcp := tcap ho
  obtain ⟨w, e, hw, hol⟩ := h.2.2.2.1
  have h1 := h.2.1.2.1
  have hat := h.at e
  have hlen : w.length + v.length + 1 = txt.length := by rw [e]; simp; omega
  refine s_LineReader_take_0 t ho ?_
  rw [hw, iI_nat (by omega) (by omega), Int.toNat_natCast, hat.1]
  refine ⟨h.src ho, iI_in (by omega) (by omega) (by omega), ?_⟩
  -- put while at still stands on the code
  have e6 : cp 6 = 256 := by decide
  refine ⟨_, s_LineReader_put_0 t ho (iI c) (P := fun M' => M' = q_up (q_up M 6 out.length (iI c)) 5 1 (iI ((out.length : Int) + 1))) ?_, ?_⟩
  · rw [h.2.2.2.2.1, e6, iI_nI, iI_le (by omega) (by omega) (by omega) (by omega), iI_add, iI_nat (by omega) (by omega), Int.toNat_natCast]
    exact ⟨fun q => by omega, fun _ => ⟨iI_in (by omega) (by omega) (by omega), rfl⟩⟩
  · rintro M1 rfl
    have e3 : q_up (q_up M 6 out.length (iI c)) 5 1 (iI ((out.length : Int) + 1)) 5 3 = iI w.length := by rw [q_up_k (by decide), q_up_o (by decide)]; exact hw
    rw [e3, iI_add]
    refine ⟨rfl, ?_, ((fr5.rf.up (by simp)).up (by simp)).up (by simp)⟩
    refine ⟨by rw [q_up_k (by decide), q_up_k (by decide), q_up_o (by decide)]; exact h.1, h.2.1.keep (by rw [q_up_o (by omega), q_up_o (by omega), q_up_o (by omega)]) (by rw [q_up_o (by omega), q_up_o (by omega), q_up_o (by omega)]), h.2.2.1, ⟨w ++ [c], by rw [e]; simp, by rw [q_up_s]; simp, by simp; omega⟩, by rw [q_up_k (by decide), q_up_s]; simp, ?_⟩
    rw [q_up_o (by decide), q_up_o (by decide)]
    have e2 : q_up M 6 out.length (iI c) 6 = va_up (M 6) out.length (iI c) := by simp [q_up, va_up]
    rw [e2]
    exact rw_snoc h.2.2.2.2.2
theorem hdz_lo {M : qM} {t : Nat} {txt u out : List Int} (h : rdS M t txt u out) : -1 ≤ hdz u ∧ hdz u < 65536 := by
  obtain ⟨w, e, -, -⟩ := h.2.2.2.1
  cases u with
  | nil => decide
  | cons c v => have := h.2.2.1 c (by rw [e]; simp); exact ⟨by show -1 ≤ c; omega, this.2⟩
theorem c_readMark {t : Nat} (ho : (t = 1) ∨ (t = 7)) {txt u out : List Int} {M : qM} (m : Int) (hm : 0 ≤ m ∧ m < 65536) (h : rdS M t txt u out) : V l Γ T_LineReader_readMark (d + 1 + 1) r 0 [.ref 5, .int (iI m)] [] (M, L) (q_i L (RP M t txt out (rMark m u))) := by
  refine s_LineReader_readMark_0 t ho (iI m) ⟨_, c_skip ho txt out u M h, ?_⟩
  rintro M1 ⟨h1, f1⟩
  refine ⟨_, c_ahead0 ho h1, ?_⟩
  rintro x2 M2 ⟨rfl, rfl⟩
  have hz := hdz_lo h1
  rw [iI_eq (by omega) (by omega) (by omega) (by omega)]
  have f2 : fr5 M M2 := f1.wk (by simp)
  unfold rMark rOne
  rcases e : sk u with _ | ⟨c, v⟩
  · rw [e] at h1 hz
    refine ⟨fun _ => ⟨rfl, ⟨out, h1, fun q => by cases q⟩, f2⟩, fun q => ?_⟩
    have : hdz [] = m := by simpa using q
    rw [← this] at hm
    exact absurd hm.1 (by decide)
  · rw [e] at h1 hz
    refine ⟨fun q => ?_, fun q => ?_⟩
    · have q : ¬ c = m := q
      simp only [beq_iff_eq, if_neg q]
      exact ⟨rfl, ⟨out, h1, fun q => by cases q⟩, f2⟩
    · have q : c = m := by simpa [hdz] using q
      simp only [beq_iff_eq, if_pos q]
      refine ⟨_, c_take ho h1, ?_⟩
      rintro x3 M3 ⟨rfl, h3, f3⟩
      exact ⟨fun q => absurd q (by decide), fun _ => ⟨rfl, ⟨_, h3, fun _ => rfl⟩, f2.tr f3⟩⟩
theorem c_readVariable {t : Nat} (ho : (t = 1) ∨ (t = 7)) {txt u out : List Int} {M : qM} (h : rdS M t txt u out) : V l Γ T_LineReader_readVariable (d + 1 + 1) r 0 [.ref 5] [] (M, L) (q_i L (RP M t txt out (rOne isV u))) := by
  refine s_LineReader_readVariable_0 t ho ⟨_, c_skip ho txt out u M h, ?_⟩
  rintro M1 ⟨h1, f1⟩
  refine ⟨_, c_ahead0 ho h1, ?_⟩
  rintro x2 M2 ⟨rfl, rfl⟩
  have hz := hdz_lo h1
  refine ⟨_, c_isVariable _, ?_⟩
  rintro x3 M3 ⟨rfl, rfl⟩
  rw [iI_toInt (by omega) (by omega), b2_0]
  have f2 : fr5 M M3 := f1.wk (by simp)
  unfold rOne
  rcases e : sk u with _ | ⟨c, v⟩
  · rw [e] at h1 hz
    exact ⟨fun _ => ⟨rfl, ⟨out, h1, fun q => by cases q⟩, f2⟩, fun q => absurd (by decide) q⟩
  · rw [e] at h1 hz
    refine ⟨fun q => ?_, fun q => ?_⟩
    · have q : isV c = false := q
      simp only [q]
      exact ⟨rfl, ⟨out, h1, fun q => by cases q⟩, f2⟩
    · have q : isV c = true := by simpa [hdz] using q
      simp only [if_pos q]
      refine ⟨_, c_take ho h1, ?_⟩
      rintro x4 M4 ⟨rfl, h3, f3⟩
      exact ⟨fun q => absurd q (by decide), fun _ => ⟨rfl, ⟨_, h3, fun _ => rfl⟩, f2.tr f3⟩⟩
end Reader
