def setLi (li : Int) (q : rA × List Int) : rA × List Int := ((q.1.1, q.1.2.1, q.1.2.2.1, q.1.2.2.2.1, q.1.2.2.2.2.1, q.1.2.2.2.2.2.1, li), q.2)
theorem tOne_li (pu de li c : Int) : tOne pu de li c = (tOne pu de 0 c).map (setLi li) := by
  unfold tOne
  by_cases h1 : isD c = true
  · simp only [if_pos h1, Option.map_some, setLi]
  by_cases h2 : isV c = true
  · simp only [if_neg h1, if_pos h2, Option.map_some, setLi]
  by_cases h3 : c = 40
  · by_cases h : de < 4
    · simp only [if_neg h1, if_neg h2, if_pos h3, if_pos h, Option.map_some, setLi]
    · simp only [if_neg h1, if_neg h2, if_pos h3, if_neg h, Option.map_none]
  by_cases h4 : c = 64
  · by_cases h : de < 4
    · simp only [if_neg h1, if_neg h2, if_neg h3, if_pos h4, if_pos h, Option.map_some, setLi]
    · simp only [if_neg h1, if_neg h2, if_neg h3, if_pos h4, if_neg h, Option.map_none]
  by_cases h5 : c = 45
  · simp only [if_neg h1, if_neg h2, if_neg h3, if_neg h4, if_pos h5, Option.map_some, setLi]
  · simp only [if_neg h1, if_neg h2, if_neg h3, if_neg h4, if_neg h5, Option.map_none]
theorem tBehind_li (pu de li c : Int) : tBehind pu de li c = (tBehind pu de 0 c).map (setLi li) := by
  unfold tBehind
  by_cases h1 : c = 41
  · by_cases h2 : de = 1 ∧ pu = 3
    · simp [h1, h2, setLi]
    · by_cases h3 : 1 < de <;> simp [h1, h2, h3, setLi]
  · by_cases h2 : tier c = -1 <;> simp [h1, h2, setLi]
theorem tBegin_li (li c : Int) : tBegin li c = (tBegin 0 c).map (setLi li) := by
  unfold tBegin
  by_cases h1 : isV c = true
  · simp only [if_pos h1, Option.map_some, setLi]
  by_cases h2 : c = 64
  · simp only [if_neg h1, if_pos h2, Option.map_some, setLi]
  by_cases h3 : c = 63
  · simp only [if_neg h1, if_neg h2, if_pos h3, Option.map_some, setLi]
  · simp only [if_neg h1, if_neg h2, if_neg h3, Option.map_none]
theorem tQuoted_li (li c : Int) : tQuoted li c = (tQuoted 0 c).map (setLi li) := by
  unfold tQuoted
  by_cases h1 : 32 ≤ c ∧ c ≤ 126
  · by_cases h2 : c = 34 <;> simp [h1, h2, setLi]
  · simp [h1]
theorem pas_li2 (w li : Int) : pas w li = (setLi li (pas w 0, [])).1 := by
  unfold pas
  by_cases h1 : w = 0 ∨ w = 1
  · simp [h1, setLi]
  by_cases h2 : w = 2 ∨ w = 7
  · simp [h1, h2, setLi]
  by_cases h3 : w = 3
  · simp [h1, h2, h3, setLi]
  by_cases h4 : w = 4
  · simp [h1, h2, h3, h4, setLi]
  by_cases h5 : w = 5 <;> simp [h1, h2, h3, h4, h5, setLi]
theorem tOther_li (st pu de li c : Int) (h0 : st ≠ 0) : tOther st pu de li c = (tOther st pu de 0 c).map (setLi li) := by
  unfold tOther
  by_cases h2 : st = 2
  · simp only [if_neg h0, if_pos h2]; exact tBegin_li li c
  by_cases h3 : st = 3
  · simp only [if_neg h0, if_neg h2, if_pos h3]
    by_cases h : c = 61 <;> simp [h, setLi]
  by_cases h4 : st = 4
  · simp only [if_neg h0, if_neg h2, if_neg h3, if_pos h4]
    by_cases h : c = 40 <;> simp [h, setLi]
  by_cases h5 : st = 5
  · simp only [if_neg h0, if_neg h2, if_neg h3, if_neg h4, if_pos h5]
    by_cases h : c = 34
    · simp [h, setLi]
    · simp only [if_neg h]; exact tOne_li 0 1 li c
  by_cases h7 : st = 7
  · simp only [if_neg h0, if_neg h2, if_neg h3, if_neg h4, if_neg h5, if_pos h7]
    by_cases h : 49 ≤ c ∧ c ≤ 57 <;> simp [h, setLi]
  by_cases h9 : st = 9
  · simp only [if_neg h0, if_neg h2, if_neg h3, if_neg h4, if_neg h5, if_neg h7, if_pos h9]
    by_cases h : isV c = true <;> simp [h, setLi]
  by_cases h10 : st = 10
  · simp only [if_neg h0, if_neg h2, if_neg h3, if_neg h4, if_neg h5, if_neg h7, if_neg h9, if_pos h10]
    by_cases h : isV c = true <;> simp [h, setLi]
  by_cases h11 : st = 11
  · simp only [if_neg h0, if_neg h2, if_neg h3, if_neg h4, if_neg h5, if_neg h7, if_neg h9, if_neg h10, if_pos h11]; exact tOne_li pu de li c
  by_cases h12 : st = 12
  · simp only [if_neg h0, if_neg h2, if_neg h3, if_neg h4, if_neg h5, if_neg h7, if_neg h9, if_neg h10, if_neg h11, if_pos h12]
    by_cases h : de < 4 ∧ c = 40 <;> simp [h, setLi]
  by_cases h13 : st = 13 ∨ st = 14
  · simp only [if_neg h0, if_neg h2, if_neg h3, if_neg h4, if_neg h5, if_neg h7, if_neg h9, if_neg h10, if_neg h11, if_neg h12, if_pos h13]; exact tBehind_li pu de li c
  · simp only [if_neg h0, if_neg h2, if_neg h3, if_neg h4, if_neg h5, if_neg h7, if_neg h9, if_neg h10, if_neg h11, if_neg h12, if_neg h13]; rfl
theorem tb_li (st pu de nu li b : Int) (h0 : st ≠ 0) (h1 : st ≠ 1) : tb (st, pu, de, nu, 0, 0, li) b = (tb (st, pu, de, nu, 0, 0, 0) b).map (setLi li) := by
  unfold tb
  simp only
  by_cases h6 : st = 6
  · simp only [if_pos h6]; exact tQuoted_li li b
  simp only [if_neg h6]
  by_cases h128 : 128 ≤ b
  · simp only [if_pos h128]
    by_cases h : b < 136 ∧ bt (poss st pu de) (b - 128).toNat = true
    · simp only [if_pos h, Option.map_some, setLi]
      rw [pas_li2]
      rfl
    · simp only [if_neg h, Option.map_none]
  simp only [if_neg h128]
  by_cases hd : isD b = true ∧ (st = 13 ∨ st = 8)
  · simp only [if_pos hd]
    unfold tDigit
    by_cases h : nu = 0 ∨ (if st = 13 then 32767 else 99) < 10 * nu + b - 48
    · simp only [if_pos h, Option.map_none]
    · simp only [if_neg h, if_neg h1, Option.map_some, setLi]
  · simp only [if_neg hd]
    exact tOther_li st pu de li b h0
theorem tbs_li {o : List Int} : ∀ {st pu de nu : Int} (li : Int), cn (st, pu, de, nu, 0, 0, 0) → tbs (st, pu, de, nu, 0, 0, li) o = tbs (st, pu, de, nu, 0, 0, 0) o := by
  induction o with
  | nil => intro st pu de nu li _; rfl
  | cons b o ih =>
    intro st pu de nu li hc
    have h0 : st ≠ 0 := by obtain ⟨_, _, _, _, _, e, h, _⟩ := hc; cases e; exact h
    have h1 : st ≠ 1 := by obtain ⟨_, _, _, _, _, e, _, h, _⟩ := hc; cases e; exact h
    unfold tbs
    rw [tb_li st pu de nu li b h0 h1]
    rcases e : tb (st, pu, de, nu, 0, 0, 0) b with _ | ⟨⟨st', pu', de', nu', w', le', li'⟩, o'⟩
    · rfl
    · have hc' := tb_cn hc e
      obtain ⟨⟨a1, a2, a3, a4, a5, e2, a6⟩, -, a7⟩ := hc'
      cases e2
      have a7 : li' = 0 := a7
      subst a7
      simp only [Option.map_some, setLi]
      exact ih li ⟨_, _, _, _, _, rfl, a6⟩
-- the reference looks whether bytes are a statement
section MStmt
variable {l : Launch} {Γ : qG} {d r : Nat} {L : Nat → Int64}
theorem cm_isStatement_21 (bs : List Int) (hbs : ∀ b ∈ bs, 0 ≤ b ∧ b < 256) (from_ : Nat) (hfb : from_ + bs.length ≤ 258) (M0 : qM) (had : Int32) (hw0 : ∀ i, i < bs.length → M0 29 (from_ + i) = iI (bs.getD i 0)) : ∀ (u : List Int) (k : Nat) (s : rA) (M : qM), bs.drop k = u → k ≤ bs.length → cn s → mSt M s → (s.1 = 2 ↔ k = 0) → FM M0 258 M → V l Γ T_TapedLinesModel_isStatement (d + 1 + 1 + 1 + 1 + 1) r 21 [.ref 27, .null, .int (iI ((from_ + bs.length : Nat) : Int)), .int had, .int (b2 true), .int (iI ((from_ + k : Nat) : Int))] [] (M, L) (q_i L (fun x M' => x = b2 (decide (bs ≠ []) && tbs s u) ∧ FM M0 258 M')) := by
  intro u
  induction u with
  | nil =>
    intro k s M hu hk hcn hs h2 hf
    have hkl : k = bs.length := by
      have : (bs.drop k).length = 0 := by rw [hu]; rfl
      simp at this
      omega
    refine s_TapedLinesModel_isStatement_21 _ _ _ _ ?_
    rw [iI_le (by omega) (by omega) (by omega) (by omega)]
    refine ⟨fun _ => ?_, fun q => by omega⟩
    refine s_TapedLinesModel_isStatement_58 _ _ ⟨fun q => absurd q (by decide), fun _ => ?_⟩
    have hf2 : FM M0 258 (q_up M 27 10 had) := hf.up (by omega)
    obtain ⟨st, pu, de, nu, w, le, li⟩ := s
    have hwf := hs.2.2.2.2.2.2
    unfold wfs at hwf
    rw [hs.1, iI_eq (by omega) (by omega) (by omega) (by omega)]
    refine ⟨fun q => ?_, fun q => ?_⟩
    · have hk0 : k = 0 := h2.mp q
      have hb0 : bs = [] := List.length_eq_zero_iff.mp (by omega)
      exact ⟨b2_f (by simp [hb0]), hf2⟩
    · have hb0 : bs ≠ [] := fun e => q (h2.mpr (by rw [e] at hkl; simpa using hkl))
      have hs2 : mSt (q_up M 27 10 had) (st, pu, de, nu, w, le, li) := by
        obtain ⟨a1, a2, a3, a4, a5, a6, a7⟩ := hs
        exact ⟨by rw [q_up_k (by decide)]; exact a1, by rw [q_up_k (by decide)]; exact a2, fun q => by rw [q_up_k (by decide)]; exact a3 q, fun q => by rw [q_up_k (by decide)]; exact a4 q, fun q => by rw [q_up_k (by decide)]; exact a5 q, fun q => by rw [q_up_k (by decide), q_up_k (by decide)]; exact a6 q, a7⟩
      refine ⟨_, cm_isWhole hs2, ?_⟩
      rintro x1 M1 ⟨rfl, rfl⟩
      rw [b2_0]
      have e : (decide (bs ≠ []) && tbs (st, pu, de, nu, w, le, li) []) = whl (st, pu, de, nu, w, le, li) := by simp [hb0, tbs]
      rw [e]
      exact ⟨fun q => ⟨b2_f q, hf2⟩, fun q => ⟨b2_t (by simpa using q), hf2⟩⟩
  | cons b u ih =>
    intro k s M hu hk hcn hs h2 hf
    have hkl : k < bs.length := by
      have : (bs.drop k).length = u.length + 1 := by rw [hu]; rfl
      simp at this
      omega
    have hd := List.drop_eq_getElem_cons hkl
    rw [hd] at hu
    have hb : bs[k] = b := (List.cons.inj hu).1
    have hu2 : bs.drop (k + 1) = u := (List.cons.inj hu).2
    have hbb := hbs b (by rw [← hb]; exact List.getElem_mem hkl)
    have hb0 : bs ≠ [] := fun e => by rw [e] at hkl; simp at hkl
    have hmk : M 29 (from_ + k) = iI b := by
      rw [hf.2.2 (from_ + k) (by omega), hw0 k hkl]
      congr 1
      simp [List.getD_eq_getElem?_getD, hkl, hb]
    have hs16 : s.1 ≠ 1 ∧ s.1 ≠ 16 := by obtain ⟨_, _, _, _, _, e, _, a, b, _⟩ := hcn; rw [e]; exact ⟨a, b⟩
    refine s_TapedLinesModel_isStatement_21 _ _ _ _ ?_
    rw [iI_le (by omega) (by omega) (by omega) (by omega), iI_nat (by omega) (by omega), Int.toNat_natCast, hmk, iI_add]
    refine ⟨fun q => by omega, fun _ => ⟨fun q => absurd q (by decide), fun _ => ⟨iI_in (by omega) (by omega) (by omega), ?_⟩⟩⟩
    have hs2 : mSt (q_up M 27 10 (iI 258)) s := by
      obtain ⟨st, pu, de, nu, w, le, li⟩ := s
      obtain ⟨a1, a2, a3, a4, a5, a6, a7⟩ := hs
      exact ⟨by rw [q_up_k (by decide)]; exact a1, by rw [q_up_k (by decide)]; exact a2, fun q => by rw [q_up_k (by decide)]; exact a3 q, fun q => by rw [q_up_k (by decide)]; exact a4 q, fun q => by rw [q_up_k (by decide)]; exact a5 q, fun q => by rw [q_up_k (by decide), q_up_k (by decide)]; exact a6 q, a7⟩
    refine ⟨_, cm_takeByte (m := 258) (by rw [q_up_s]; rfl) (Nat.le_refl _) hs2 hs16.1 hs16.2 hbb, ?_⟩
    rintro x1 M1 ⟨f1, h1⟩
    have hf1 : FM M0 258 M1 := (hf.up (by omega)).tr f1
    rw [show (((from_ + k : Nat) : Int) + 1) = ((from_ + (k + 1) : Nat) : Int) by omega]
    rcases e : tb s b with _ | ⟨s', e'⟩
    · rw [e] at h1
      have h1 : x1 = iI 0 := h1
      subst h1
      have et : tbs s (b :: u) = false := by
        unfold tbs
        rw [e]
      rw [et]
      have stop : V l Γ T_TapedLinesModel_isStatement (d + 1 + 1 + 1 + 1 + 1) r 58 [.ref 27, .null, .null, .int had, .int (iI 0), .null] [] (M1, L) (q_i L (fun x M' => x = b2 (decide (bs ≠ []) && false) ∧ FM M0 258 M')) := s_TapedLinesModel_isStatement_58 _ _ ⟨fun _ => ⟨b2_f (by simp), hf1.up (by omega)⟩, fun q => absurd rfl q⟩
      refine s_TapedLinesModel_isStatement_21 _ _ _ _ ⟨fun _ => stop, fun _ => ⟨fun _ => stop, fun q => absurd rfl q⟩⟩
    · rw [e] at h1
      obtain ⟨hx, g1, -, -⟩ := h1
      subst hx
      have et : tbs s (b :: u) = tbs s' u := by
        conv => lhs; unfold tbs
        rw [e]
      rw [et]
      have hc' := tb_cn hcn e
      exact ih (k + 1) s' M1 hu2 (by omega) hc'.1 g1 ⟨fun q => absurd q hc'.2.1, fun q => by omega⟩ hf1
theorem cm_isStatement {M : qM} (bs : List Int) (hbs : ∀ b ∈ bs, 0 ≤ b ∧ b < 256) (from_ : Nat) (hfb : from_ + bs.length ≤ 258) (hw : ∀ i, i < bs.length → M 29 (from_ + i) = iI (bs.getD i 0)) : V l Γ T_TapedLinesModel_isStatement (d + 1 + 1 + 1 + 1 + 1) r 0 [.ref 27, .int (iI from_), .int (iI ((from_ + bs.length : Nat) : Int)), .null, .null, .null] [] (M, L) (q_i L (fun x M' => x = b2 (decide (bs ≠ []) && tbs (2, 0, 0, 0, 0, 0, 0) bs) ∧ FM M 258 M')) := by
  refine s_TapedLinesModel_isStatement_0 _ _ ?_
  have hf : FM M 258 (q_up (q_up M 27 3 (iI 2)) 27 5 (iI 0)) := (FM.rf.up (by omega)).up (by omega)
  have hs : mSt (q_up (q_up M 27 3 (iI 2)) 27 5 (iI 0)) (2, 0, 0, 0, 0, 0, (M 27 7).toInt) := ⟨by rw [q_up_k (by decide), q_up_s], by rw [q_up_k (by decide), q_up_k (by decide), iI_self], fun q => by omega, fun q => by omega, fun q => by omega, fun q => by omega, by unfold wfs; have := tI_lo (M 27 7); have := tI_hi (M 27 7); omega⟩
  have := cm_isStatement_21 (l := l) (Γ := Γ) (d := d) (r := r) (L := L) bs hbs from_ hfb M (M 27 10) hw bs 0 (2, 0, 0, 0, 0, 0, (M 27 7).toInt) _ rfl (Nat.zero_le _) (cn_mk (by decide)) hs ⟨fun _ => rfl, fun _ => rfl⟩ hf
  rw [tbs_li _ cn_2] at this
  exact this
end MStmt
