-- numbers, words, quotes, expressions
section Reader2
variable {l : Launch} {Γ : qG} {d r : Nat} {L : Nat → Int64}
/-- a number's answer -/
def RN (M : qM) (t : Nat) (txt out : List Int) (q : Int × List Int × List Int) (x : Int32) (M' : qM) : Prop := x = iI q.1 ∧ (∃ o', rdS M' t txt q.2.1 o' ∧ (q.1 ≠ -1 → o' = out ++ q.2.2)) ∧ fr5 M M'
theorem c_readNumber_12 {t : Nat} (ho : (t = 1) ∨ (t = 7)) {a b : Int} (ha : 0 ≤ a ∧ a ≤ 100) (hb : 0 ≤ b ∧ b ≤ 32767) (txt : List Int) : ∀ (u out : List Int) (M : qM) (v : Int) (w : List Int), -1 ≤ v → v ≤ b → rdS M t txt u out → txt = w ++ u →
    V l Γ T_LineReader_readNumber (d + 1 + 1) r 12 [.ref 5, .int (iI a), .int (iI b), .int (iI v), .int (iI w.length), .null, .null] [] (M, L) (q_i L (RN M t txt out (rNumL a b v u))) := by
  have hcp := tcap ho
  intro u
  induction u with
  | nil =>
    intro out M v w hv1 hv2 h e
    have h1 := h.2.1.2.1
    have hlen : w.length = txt.length := by rw [e]; simp
    refine s_LineReader_readNumber_12 t ho _ _ _ _ ?_
    rw [h.2.1.1, iI_le (by omega) (by omega) (by omega) (by omega)]
    exact ⟨h.src ho, fun _ => ⟨rfl, ⟨out, h, fun _ => by simp [rNumL]⟩, fr5.rf⟩, fun q => by omega⟩
  | cons c u ih =>
    intro out M v w hv1 hv2 h e
    have h1 := h.2.1.2.1
    have hlen : w.length + u.length + 1 = txt.length := by rw [e]; simp; omega
    have hat := h.at e
    have hc := h.2.2.1 c (by rw [e]; simp)
    refine s_LineReader_readNumber_12 t ho _ _ _ _ ?_
    rw [h.2.1.1, iI_le (by omega) (by omega) (by omega) (by omega), iI_nat (by omega) (by omega), Int.toNat_natCast, hat.1]
    refine ⟨h.src ho, fun q => by omega, fun _ => ⟨h.src ho, iI_in (by omega) (by omega) (by omega), _, c_isDigit _, ?_⟩⟩
    rintro x1 M1 ⟨rfl, rfl⟩
    rw [iI_toInt (by omega) (by omega), b2_0]
    refine ⟨fun q => ?_, fun q => ⟨h.src ho, iI_in (by omega) (by omega) (by omega), ?_⟩⟩
    · have e2 : rNumL a b v (c :: u) = (v, c :: u, []) := by
        unfold rNumL
        simp [q]
      rw [e2]
      exact ⟨rfl, ⟨out, h, fun _ => by simp⟩, fr5.rf⟩
    have hd : isD c = true := by simpa using q
    have hd2 : 48 ≤ c ∧ c ≤ 57 := by simpa [isD] using hd
    have step : ∀ g : Int, g = (if v = -1 then c - 48 else v * 10 + c - 48) → V l Γ T_LineReader_readNumber (d + 1 + 1) r 72 [.ref 5, .int (iI a), .int (iI b), .int (iI v), .int (iI w.length), .null, .null] [.int (iI g)] (M1, L) (q_i L (RN M1 t txt out (rNumL a b v (c :: u)))) := by
      intro g hg
      have hgb : 0 ≤ g ∧ g ≤ 327679 := by
        rw [hg]
        split <;> omega
      refine s_LineReader_readNumber_72 t ho _ _ _ _ _ ?_
      rw [iI_0, iI_eq (by omega) (by omega) (by omega) (by omega), iI_lt (by omega) (by omega) (by omega) (by omega), iI_le (by omega) (by omega) (by omega) (by omega)]
      have e2 : rNumL a b v (c :: u) = if v = 0 ∨ g < a ∨ b < g then (-1, c :: u, []) else ((rNumL a b g u).1, (rNumL a b g u).2.1, c :: (rNumL a b g u).2.2) := by
        conv => lhs; unfold rNumL
        rw [if_pos hd, ← hg]
      have bad : (v = 0 ∨ g < a ∨ b < g) → RN M1 t txt out (rNumL a b v (c :: u)) (iI (-1)) M1 := by
        intro hq
        rw [e2, if_pos hq]
        exact ⟨rfl, ⟨out, h, fun q => absurd rfl q⟩, fr5.rf⟩
      refine ⟨fun q => bad (Or.inl q), fun q => ⟨fun q2 => bad (Or.inr (Or.inl q2)), fun q2 => ⟨fun q3 => ?_, fun q3 => bad (Or.inr (Or.inr (by omega)))⟩⟩⟩
      refine ⟨_, c_take ho h, ?_⟩
      rintro x2 M2 ⟨-, h2, f2⟩
      rw [iI_add]
      have := ih (out ++ [c]) M2 g (w ++ [c]) (by omega) q3 h2 (by rw [e]; simp)
      rw [show ((w ++ [c]).length : Int) = (w.length : Int) + 1 by simp] at this
      refine this.mono (fun o S hq => ?_)
      obtain ⟨x3, M3, e3, e4, hx, ⟨o', h3, ho'⟩, f3⟩ := hq
      refine ⟨x3, M3, e3, e4, ?_⟩
      rw [e2, if_neg (by omega)]
      refine ⟨hx, ⟨o', h3, fun q => ?_⟩, f2.tr f3⟩
      rw [ho' q]
      simp
    rw [iI_eq (by omega) (by omega) (by omega) (by omega), hat.1, iI_mul, iI_sub, iI_add]
    refine ⟨fun q => ?_, fun q => ?_⟩
    · exact step _ (by rw [if_neg q]; omega)
    · exact step _ (by rw [if_pos (by simpa using q)])
theorem c_readNumber {t : Nat} (ho : (t = 1) ∨ (t = 7)) {a b : Int} (ha : 0 ≤ a ∧ a ≤ 100) (hb : 0 ≤ b ∧ b ≤ 32767) {txt u out : List Int} {M : qM} (h : rdS M t txt u out) :
    V l Γ T_LineReader_readNumber (d + 1 + 1) r 0 [.ref 5, .int (iI a), .int (iI b), .null, .null, .null, .null] [] (M, L) (q_i L (RN M t txt out (rNum a b u))) := by
  refine s_LineReader_readNumber_0 t ho _ _ ⟨_, c_skip ho txt out u M h, ?_⟩
  rintro M1 ⟨h1, f1⟩
  obtain ⟨w, e, hw, -⟩ := h1.2.2.2.1
  rw [hw]
  refine (c_readNumber_12 ho ha hb txt (sk u) out M1 (-1) w (by omega) (by omega) h1 e).mono (fun o S hq => ?_)
  obtain ⟨x3, M3, e3, e4, hx, h3, f3⟩ := hq
  exact ⟨x3, M3, e3, e4, hx, h3, (f1.wk (by simp)).tr f3⟩
theorem rNumL_ge (a b v : Int) (u : List Int) (ha : 0 ≤ a) (hb : b ≤ 32767) (hv : -1 ≤ v ∧ v ≤ 32767) : -1 ≤ (rNumL a b v u).1 ∧ (rNumL a b v u).1 ≤ 32767 := by
  induction u generalizing v with
  | nil => exact hv
  | cons c u ih =>
    unfold rNumL
    generalize hg : (if v = -1 then c - 48 else v * 10 + c - 48) = g
    split
    · split
      · exact ⟨show (-1 : Int) ≤ -1 by decide, show (-1 : Int) ≤ 32767 by decide⟩
      · next q => exact ih g (by omega)
    · exact hv
theorem c_readGo {t : Nat} (ho : (t = 1) ∨ (t = 7)) {txt u out : List Int} {M : qM} (h : rdS M t txt u out) : V l Γ T_LineReader_readLineNumber (d + 1 + 1 + 1) r 0 [.ref 5] [] (M, L) (q_i L (RP M t txt out (rGo u))) := by
  refine s_LineReader_readLineNumber_0 t ho ⟨_, c_readNumber ho (by decide) (by decide) h, ?_⟩
  rintro x1 M1 ⟨rfl, ⟨o', h1, h2⟩, f1⟩
  have hge := rNumL_ge 1 99 (-1) (sk u) (by decide) (by decide) (by decide)
  rw [iI_eq (by unfold rNum; omega) (by unfold rNum; omega) (by omega) (by omega)]
  show (_ → RP M t txt out (rNumB 1 99 u) _ M1) ∧ _
  have e : rNumB 1 99 u = (decide ((rNum 1 99 u).1 ≠ -1), (rNum 1 99 u).2.1, (rNum 1 99 u).2.2) := rfl
  show _ ∧ (_ → RP M t txt out (rNumB 1 99 u) _ M1)
  rw [e]
  refine ⟨fun q => ⟨b2_f (by simp [q]), ⟨o', h1, fun q2 => by simp [q] at q2⟩, f1⟩, fun q => ⟨b2_t (by simp [q]), ⟨o', h1, fun _ => h2 q⟩, f1⟩⟩
theorem c_spelling {M : qM} (w : Nat) (hw : w < 8) : V l Γ T_TapedLines_spelling d r 0 [.int (iI (128 + w))] [] (M, L) (q_r L (fun y M' => y = 60 + w ∧ M' = M)) := by
  refine s_TapedLines_spelling_0 _ ?_
  rw [iI_toInt (by omega) (by omega)]
  refine ⟨fun q => ⟨by omega, rfl⟩, fun q => ⟨fun q => ⟨by omega, rfl⟩, fun q => ⟨fun q => ⟨by omega, rfl⟩, fun q => ⟨fun q => ⟨by omega, rfl⟩, fun q => ⟨fun q => ⟨by omega, rfl⟩, fun q => ⟨fun q => ⟨by omega, rfl⟩, fun q => ⟨fun q => ⟨by omega, rfl⟩, fun q => ⟨by omega, rfl⟩⟩⟩⟩⟩⟩⟩⟩
theorem c_readWord_11 {t : Nat} (ho : (t = 1) ∨ (t = 7)) (w : Nat) (hw : w < 8) (txt out : List Int) : ∀ (j k : Nat) (u : List Int) (M : qM), k + j = (wl w).length → (∀ v, txt = v ++ u → out.length + k ≤ v.length) → rdS M t txt u out →
    V l Γ T_LineReader_readWord (d + 5 + 1) r 11 [.ref 5, .int (iI (128 + w)), .ref (60 + w), .int (iI k)] [] (M, L) (q_i L (RP M t txt out ((rLet ((wl w).drop k) u).1, (rLet ((wl w).drop k) u).2, [128 + (w : Int)]))) := by
  have hcp := tcap ho
  have hl : ∀ w, w < 8 → (wl w).length ≤ 6 ∧ 2 ≤ (wl w).length := by decide
  have hl := hl w hw
  intro j
  induction j with
  | zero =>
    intro k u M hk hlen h
    refine s_LineReader_readWord_11 t ho _ _ _ (by omega) ?_
    rw [show 60 + w - 60 = w by omega, iI_le (by omega) (by omega) (by omega) (by omega), iI_toInt (by omega) (by omega)]
    refine ⟨by omega, fun _ => ⟨_, c_put ho h (fun v e => by have := hlen v e; omega), ?_⟩, fun q => by omega⟩
    rintro M1 ⟨h1, f1⟩
    rw [List.drop_eq_nil_of_le (by omega)]
    exact ⟨rfl, ⟨_, h1, fun _ => rfl⟩, f1⟩
  | succ j ih =>
    intro k u M hk hlen h
    have hkl : k < (wl w).length := by omega
    rw [List.drop_eq_getElem_cons hkl]
    have hlt : lt w k = (wl w)[k] := by simp [lt, List.getD_eq_getElem?_getD, hkl]
    refine s_LineReader_readWord_11 t ho _ _ _ (by omega) ?_
    rw [show 60 + w - 60 = w by omega, iI_le (by omega) (by omega) (by omega) (by omega), iI_toInt (by omega) (by omega)]
    refine ⟨by omega, fun q => by omega, fun _ => ⟨_, c_ahead0 ho h, ?_⟩⟩
    rintro x2 M2 ⟨rfl, rfl⟩
    have hz := hdz_lo h
    have hlb : ∀ w, w < 8 → ∀ k, k < (wl w).length → 1 ≤ lt w k ∧ lt w k ≤ 26 := by decide
    have hlb := hlb w hw k hkl
    refine ⟨by omega, by omega, ?_⟩
    rw [Int.toNat_natCast, iI_eq (by omega) (by omega) (by omega) (by omega)]
    refine ⟨fun q => ?_, fun q => ?_⟩
    · rcases u with _ | ⟨c, v⟩
      · exact absurd q (by show ¬ (-1 : Int) = _; omega)
      have q : c = lt w k + 64 := q
      obtain ⟨p, e, hw3, hol⟩ := h.2.2.2.1
      have hpl := hlen p e
      have h1 := h.2.1.2.1
      have hlen2 : p.length + v.length + 1 = txt.length := by rw [e]; simp; omega
      rw [hw3, iI_add, iI_add]
      have h2 : rdS (q_up M2 5 3 (iI ((p.length : Int) + 1))) t txt v out := by
        refine ⟨by rw [q_up_k (by decide)]; exact h.1, h.2.1.keep (q_up_o (by omega)) (q_up_o (by omega)), h.2.2.1, ⟨p ++ [c], by rw [e]; simp, by rw [q_up_s]; simp, by simp; omega⟩, by rw [q_up_k (by decide)]; exact h.2.2.2.2.1, by rw [q_up_o (by decide)]; exact h.2.2.2.2.2⟩
      have := ih (k + 1) v _ (by omega) (fun p' e' => by
        have e1 : p'.length + v.length = txt.length := by rw [e']; simp
        omega) h2
      rw [show ((k + 1 : Nat) : Int) = (k : Int) + 1 by omega] at this
      refine this.mono (fun o S hq => ?_)
      obtain ⟨x3, M3, e3, e4, hx, h3, f3⟩ := hq
      refine ⟨x3, M3, e3, e4, ?_⟩
      have er : rLet ((wl w)[k] :: (wl w).drop (k + 1)) (c :: v) = rLet ((wl w).drop (k + 1)) v := by
        conv => lhs; unfold rLet
        rw [if_pos (by rw [q, hlt])]
      rw [er]
      exact ⟨hx, h3, (fr5.rf.up (by simp)).tr f3⟩
    · have er : rLet ((wl w)[k] :: (wl w).drop (k + 1)) u = (false, u) := by
        rcases u with _ | ⟨c, v⟩
        · rfl
        · have q : ¬ c = lt w k + 64 := q
          conv => lhs; unfold rLet
          rw [if_neg (by rw [← hlt]; exact q)]
      rw [er]
      exact ⟨rfl, ⟨out, h, fun q => by cases q⟩, fr5.rf⟩
theorem c_readWord {t : Nat} (ho : (t = 1) ∨ (t = 7)) (w : Nat) (hw : w < 8) {txt u out : List Int} {M : qM} (h : rdS M t txt u out) : V l Γ T_LineReader_readWord (d + 5 + 1) r 0 [.ref 5, .int (iI (128 + w)), .null, .null] [] (M, L) (q_i L (RP M t txt out (rWord w u))) := by
  refine s_LineReader_readWord_0 t ho _ (by omega) ⟨_, c_skip ho txt out u M h, ?_⟩
  rintro M1 ⟨h1, f1⟩
  refine ⟨_, c_spelling w hw, ?_⟩
  rintro y M2 ⟨rfl, rfl⟩
  obtain ⟨p, e, hw3, hol⟩ := h1.2.2.2.1
  have := c_readWord_11 (l := l) (Γ := Γ) (d := d) (r := r) (L := L) ho w hw txt out (wl w).length 0 (sk u) M2 (by omega) (fun v e' => by
    have e1 : v.length + (sk u).length = txt.length := by rw [e']; simp
    have e2 : p.length + (sk u).length = txt.length := by rw [e]; simp
    omega) h1
  refine this.mono (fun o S hq => ?_)
  obtain ⟨x3, M3, e3, e4, hx, ⟨o', h3, h4⟩, f3⟩ := hq
  refine ⟨x3, M3, e3, e4, ?_⟩
  rw [rWord_eq]
  refine ⟨hx, ⟨o', h3, fun q => ?_⟩, (f1.wk (by simp)).tr f3⟩
  have q : (rLet (wl w) (sk u)).1 = true := q
  rw [h4 q]
  simp [q]
theorem c_reachesEnd {t : Nat} (ho : (t = 1) ∨ (t = 7)) {txt u out : List Int} {M : qM} (h : rdS M t txt u out) : V l Γ T_LineReader_reachesEnd (d + 1) r 0 [.ref 5] [] (M, L) (q_i L (fun x M' => x = b2 (decide (sk u = [])) ∧ rdS M' t txt (sk u) out ∧ fr5 M M')) := by
  have hcp := tcap ho
  refine s_LineReader_reachesEnd_0 t ho ⟨_, c_skip ho txt out u M h, ?_⟩
  rintro M1 ⟨h1, f1⟩
  obtain ⟨w, e, hw, -⟩ := h1.2.2.2.1
  have h2 := h1.2.1.2.1
  have hlen : w.length + (sk u).length = txt.length := by rw [e]; simp
  rw [hw, h1.2.1.1, iI_eq (by omega) (by omega) (by omega) (by omega)]
  refine ⟨h1.src ho, fun q => ⟨b2_f ?_, h1, f1.wk (by simp)⟩, fun q => ⟨b2_t ?_, h1, f1.wk (by simp)⟩⟩
  · simp only [decide_eq_false_iff_not]
    intro q2
    rw [q2] at hlen
    simp at hlen
    omega
  · simp only [decide_eq_true_eq]
    exact List.length_eq_zero_iff.mp (by omega)
theorem c_quote {t : Nat} (ho : (t = 1) ∨ (t = 7)) (txt : List Int) : ∀ (u out : List Int) (M : qM) (w : List Int), rdS M t txt u out → txt = w ++ u → V l Γ T_LineReader_readPrinted (d + 1 + 1) r 29 [.ref 5, .int (iI w.length)] [] (M, L) (q_i L (RP M t txt out (rQuote u))) := by
  have hcp := tcap ho
  intro u
  induction u with
  | nil =>
    intro out M w h e
    have h1 := h.2.1.2.1
    have hlen : w.length = txt.length := by rw [e]; simp
    refine s_LineReader_readPrinted_29 t ho _ ?_
    rw [h.2.1.1, iI_le (by omega) (by omega) (by omega) (by omega)]
    exact ⟨h.src ho, fun _ => ⟨rfl, ⟨out, h, fun q => by cases q⟩, fr5.rf⟩, fun q => by omega⟩
  | cons c u ih =>
    intro out M w h e
    have h1 := h.2.1.2.1
    have hlen : w.length + u.length + 1 = txt.length := by rw [e]; simp; omega
    have hat := h.at e
    have hc := h.2.2.1 c (by rw [e]; simp)
    refine s_LineReader_readPrinted_29 t ho _ ?_
    rw [h.2.1.1, iI_le (by omega) (by omega) (by omega) (by omega), iI_nat (by omega) (by omega), Int.toNat_natCast, hat.1]
    refine ⟨h.src ho, fun q => by omega, fun _ => ⟨h.src ho, iI_in (by omega) (by omega) (by omega), _, c_isCharacter _, ?_⟩⟩
    rintro x1 M1 ⟨rfl, rfl⟩
    rw [iI_toInt (by omega) (by omega), b2_0]
    unfold rQuote
    refine ⟨fun q => ?_, fun q => ?_⟩
    · have q : isC c = true := by simpa using q
      rw [if_pos q]
      refine ⟨_, c_take ho h, ?_⟩
      rintro x2 M2 ⟨-, h2, f2⟩
      have ea : M2 (t + 1) w.length = iI c := by
        rw [f2.1 (t + 1) (by rcases ho with rfl | rfl <;> decide)]
        exact hat.1
      rw [ea, iI_eq (by omega) (by omega) (by omega) (by omega), iI_add]
      refine ⟨h2.src ho, iI_in (by omega) (by omega) (by omega), fun q2 => ?_, fun q2 => ?_⟩
      · rw [if_neg q2]
        have := ih (out ++ [c]) M2 (w ++ [c]) h2 (by rw [e]; simp)
        rw [show ((w ++ [c]).length : Int) = (w.length : Int) + 1 by simp] at this
        refine this.mono (fun o S hq => ?_)
        obtain ⟨x3, M3, e3, e4, hx, ⟨o', h3, h4⟩, f3⟩ := hq
        refine ⟨x3, M3, e3, e4, hx, ⟨o', h3, fun q => ?_⟩, f2.tr f3⟩
        rw [h4 q]
        simp
      · rw [if_pos (by simpa using q2)]
        exact ⟨rfl, ⟨_, h2, fun _ => rfl⟩, f2⟩
    · have q : isC c = false := by simpa using q
      rw [if_neg (by simp [q])]
      exact ⟨rfl, ⟨out, h, fun q => by cases q⟩, fr5.rf⟩
end Reader2
