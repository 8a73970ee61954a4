-- the reference's list
theorem tb_b {t t' : rA} {b : Int} {o : List Int} (hc : cn t) (h : tb t b = some (t', o)) : 0 ≤ b ∧ b < 136 := by
  obtain ⟨st, pu, de, nu, li, rfl, h0, h1, h16, hnu⟩ := hc
  unfold tb at h
  simp only at h
  split at h
  · unfold tQuoted at h
    split at h
    · omega
    · cases h
  · split at h
    · split at h
      · omega
      · cases h
    · split at h
      · next hd => have := hd.1; simp [isD] at this; omega
      · obtain ⟨-, a1, -, -, a2⟩ := tOther_e h h0
        omega
theorem tbs_b {o : List Int} : ∀ {t : rA}, cn t → tbs t o = true → ∀ b ∈ o, 0 ≤ b ∧ b < 136 := by
  induction o with
  | nil => intro t _ _ b hb; cases hb
  | cons c o ih =>
    intro t hc h b hb
    unfold tbs at h
    rcases e : tb t c with _ | ⟨t', e'⟩
    · rw [e] at h; cases h
    rw [e] at h
    have h : tbs t' o = true := h
    rcases List.mem_cons.mp hb with rfl | hb
    · have := tb_b hc e; omega
    · exact ih (tb_cn hc e).1 h b hb
theorem okSt_b {o : List Int} (h : okSt o) : ∀ b ∈ o, 0 ≤ b ∧ b < 136 := tbs_b cn_2 h.2
/-- the reference's page -/
def mPg (M : qM) (g : List Int) : Prop := M 27 37 = iI g.length ∧ rw (M 41) g
section MList
variable {l : Launch} {Γ : qG} {d r : Nat} {L : Nat → Int64}
theorem cm_putG {M : qM} {g : List Int} {c : Int} (h : mPg M g) (hl : g.length < 400) : V l Γ T_TapedLinesModel_put d r 0 [.ref 27, .int (iI c)] [] (M, L) (q_n L (fun M' => mPg M' (g ++ [c]) ∧ fm [41] [37] M M')) := by
  refine s_TapedLinesModel_put_0 _ ?_
  rw [h.1, iI_nat (by omega) (by omega), Int.toNat_natCast, iI_add]
  refine ⟨iI_in (by omega) (by omega) (by omega), ⟨by rw [q_up_s]; simp, ?_⟩, (fm.rf.upo (by simp) (by decide)).upk (by simp)⟩
  rw [q_up_o (by decide)]
  have e2 : q_up M 41 g.length (iI c) 41 = va_up (M 41) g.length (iI c) := by simp [q_up, va_up]
  rw [e2]
  exact rw_snoc h.2
theorem dec_2 (n : Nat) (h : n ≤ 99) : dec n = if n ≤ 9 then [48 + ((n % 10 : Nat) : Int)] else [48 + ((n / 10 : Nat) : Int), 48 + ((n % 10 : Nat) : Int)] := by
  have : ∀ n, n ≤ 99 → dec n = if n ≤ 9 then [48 + ((n % 10 : Nat) : Int)] else [48 + ((n / 10 : Nat) : Int), 48 + ((n % 10 : Nat) : Int)] := by decide +kernel
  exact this n h
theorem cm_putNumber {M : qM} {g : List Int} (n : Nat) (hn : n ≤ 99) (h : mPg M g) (hl : g.length < 390) : V l Γ T_TapedLinesModel_putNumber (d + 1) r 0 [.ref 27, .int (iI n)] [] (M, L) (q_n L (fun M' => mPg M' (g ++ dec n) ∧ fm [41] [37] M M')) := by
  refine s_TapedLinesModel_putNumber_0 _ ?_
  rw [iI_le (by omega) (by omega) (by omega) (by omega), show iI 10 = iI ((10 : Nat) : Int) from rfl, iI_nrem (by omega) (by decide), iI_ndiv (by omega) (by decide), iI_add, iI_add, dec_2 n hn]
  refine ⟨fun q => ?_, fun q => ?_⟩
  · rw [if_pos (by omega)]
    exact ⟨_, cm_putG h (by omega), fun M1 h1 => h1⟩
  · rw [if_neg (by omega)]
    refine ⟨_, cm_putG h (by omega), ?_⟩
    rintro M2 ⟨h2, f2⟩
    refine ⟨_, cm_putG h2 (by simp; omega), ?_⟩
    rintro M3 ⟨h3, f3⟩
    rw [List.append_assoc] at h3
    exact ⟨h3, f2.tr f3⟩
theorem cm_putWord_2 (w : Nat) (hw : w < 8) : ∀ (j k : Nat) (g : List Int) (M : qM), k + j = (wl w).length → mPg M g → g.length + j < 390 → V l Γ T_TapedLinesModel_putWord (d + 1) r 2 [.ref 27, .int (iI w), .int (iI k)] [] (M, L) (q_n L (fun M' => mPg M' (g ++ ((wl w).drop k).map (· + 64)) ∧ fm [41] [37] M M')) := by
  have hl : ∀ w, w < 8 → (wl w).length ≤ 6 := by decide
  have hl := hl w hw
  intro j
  induction j with
  | zero =>
    intro k g M hk h hg
    refine s_TapedLinesModel_putWord_2 _ _ ⟨_, cm_letter w k hw (by omega), ?_⟩
    rintro x1 M1 ⟨rfl, rfl⟩
    have e : lt w k = 0 := by simp [lt, List.getD_eq_getElem?_getD, List.getElem?_eq_none (show (wl w).length ≤ k by omega)]
    rw [e, List.drop_eq_nil_of_le (by omega)]
    simp only [List.map_nil, List.append_nil]
    exact ⟨fun _ => ⟨h, fm.rf⟩, fun q => absurd (by decide) q⟩
  | succ j ih =>
    intro k g M hk h hg
    have hkl : k < (wl w).length := by omega
    have hlt : lt w k = (wl w)[k] := by simp [lt, List.getD_eq_getElem?_getD, hkl]
    have hlb : ∀ w, w < 8 → ∀ k, k < (wl w).length → 1 ≤ lt w k ∧ lt w k ≤ 26 := by decide
    have hlb := hlb w hw k hkl
    refine s_TapedLinesModel_putWord_2 _ _ ⟨_, cm_letter w k hw (by omega), ?_⟩
    rintro x1 M1 ⟨rfl, rfl⟩
    rw [iI_0, iI_le (by omega) (by omega) (by omega) (by omega)]
    refine ⟨fun q => by omega, fun _ => ⟨_, cm_letter w k hw (by omega), ?_⟩⟩
    rintro x2 M2 ⟨rfl, rfl⟩
    rw [iI_add, iI_add]
    refine ⟨_, cm_putG h (by omega), ?_⟩
    rintro M3 ⟨h3, f3⟩
    rw [show ((k : Int) + 1) = ((k + 1 : Nat) : Int) by omega]
    refine (ih (k + 1) _ M3 (by omega) h3 (by simp; omega)).mono (fun q S hq => ?_)
    obtain ⟨M', e1, e2, h4, f4⟩ := hq
    refine ⟨M', e1, e2, ?_, f3.tr f4⟩
    rw [List.drop_eq_getElem_cons hkl, ← hlt]
    simp only [List.map_cons]
    rw [show g ++ ((lt w k + 64) :: ((wl w).drop (k + 1)).map (· + 64)) = g ++ [lt w k + 64] ++ ((wl w).drop (k + 1)).map (· + 64) by simp, show lt w k + 64 = 64 + lt w k by omega]
    exact h4
theorem cm_putWord {M : qM} {g : List Int} (w : Nat) (hw : w < 8) (h : mPg M g) (hg : g.length < 380) : V l Γ T_TapedLinesModel_putWord (d + 1) r 0 [.ref 27, .int (iI w), .null] [] (M, L) (q_n L (fun M' => mPg M' (g ++ (wl w).map (· + 64)) ∧ fm [41] [37] M M')) := by
  have hl : ∀ w, w < 8 → (wl w).length ≤ 6 := by decide
  have hl := hl w hw
  exact s_TapedLinesModel_putWord_0 _ (cm_putWord_2 w hw (wl w).length 0 g M (by omega) h (by omega))
theorem cm_list_66 (bs : List Int) (from_ : Nat) (hbs : ∀ b ∈ bs, 0 ≤ b ∧ b < 136) (hfb : from_ + bs.length ≤ 260) : ∀ (u : List Int) (k : Nat) (g : List Int) (M : qM), bs.drop k = u → k ≤ bs.length → (∀ i, i < bs.length → M 30 (from_ + i) = iI (bs.getD i 0)) → mPg M g → g.length + (spl (decide (k = 0)) u).length < 380 → V l Γ T_TapedLinesModel_list (d + 1 + 1) r 66 [.ref 27, .null, .int (iI ((from_ : Int) - 2)), .int (iI bs.length), .int (iI k), .null] [] (M, L) (q_i L (fun x M' => x = iI (g ++ spl (decide (k = 0)) u).length ∧ mPg M' (g ++ spl (decide (k = 0)) u) ∧ fm [41] [37] M M')) := by
  intro u
  induction u with
  | nil =>
    intro k g M hu hk hw h hg
    have hkl : bs.length ≤ k := by
      have : (bs.drop k).length = 0 := by rw [hu]; rfl
      simp at this
      omega
    refine s_TapedLinesModel_list_66 _ _ _ ?_
    rw [iI_le (by omega) (by omega) (by omega) (by omega)]
    refine ⟨fun _ => ?_, fun q => by omega⟩
    simp only [spl, List.append_nil]
    exact ⟨h.1, h, fm.rf⟩
  | cons b u ih =>
    intro k g M hu hk hw h hg
    have hkl : k < bs.length := by
      have : (bs.drop k).length = u.length + 1 := by rw [hu]; rfl
      simp at this
      omega
    have hd := List.drop_eq_getElem_cons hkl
    rw [hd] at hu
    have hb : bs[k] = b := (List.cons.inj hu).1
    have hu2 : bs.drop (k + 1) = u := (List.cons.inj hu).2
    have hul : u.length = bs.length - (k + 1) := by rw [← hu2]; simp
    have hbb := hbs b (by rw [← hb]; exact List.getElem_mem hkl)
    have hmk : M 30 (from_ + k) = iI b := by
      rw [hw k hkl]
      congr 1
      simp [List.getD_eq_getElem?_getD, hkl, hb]
    have step : ∀ (g2 : List Int) (M1 : qM), mPg M1 g2 → fm [41] [37] M M1 → g ++ spl (decide (k = 0)) (b :: u) = g2 ++ spl false u → V l Γ T_TapedLinesModel_list (d + 1 + 1) r 66 [.ref 27, .null, .int (iI ((from_ : Int) - 2)), .int (iI bs.length), .int (iI ((k : Int) + 1)), .null] [] (M1, L) (q_i L (fun x M' => x = iI (g ++ spl (decide (k = 0)) (b :: u)).length ∧ mPg M' (g ++ spl (decide (k = 0)) (b :: u)) ∧ fm [41] [37] M M')) := by
      intro g2 M1 h1 f1 e
      rw [show ((k : Int) + 1) = ((k + 1 : Nat) : Int) by omega]
      have hd0 : decide (k + 1 = 0) = false := by simp
      have hlen : g2.length + (spl false u).length < 380 := by
        have := congrArg List.length e
        rw [List.length_append, List.length_append] at this
        omega
      refine (ih (k + 1) g2 M1 hu2 (by omega) (fun i hi => by rw [f1.1 30 (by decide) (by decide)]; exact hw i hi) h1 (by rw [hd0]; exact hlen)).mono (fun q S hq => ?_)
      obtain ⟨x, M', e1, e2, hx, h3, f3⟩ := hq
      rw [hd0] at hx h3
      refine ⟨x, M', e1, e2, ?_, ?_, f1.tr f3⟩
      · rw [e]; exact hx
      · rw [e]; exact h3
    rw [spl_cons] at hg
    refine s_TapedLinesModel_list_66 _ _ _ ?_
    rw [iI_le (by omega) (by omega) (by omega) (by omega), iI_add ((from_ : Int) - 2) 2, iI_add ((from_ : Int) - 2 + 2) (k : Int), iI_nat (z := (from_ : Int) - 2 + 2 + (k : Int)) (by omega) (by omega), show ((from_ : Int) - 2 + 2 + (k : Int)).toNat = from_ + k by omega, hmk, iI_add (k : Int) 1, iI_le (a := 128) (b := b) (by omega) (by omega) (by omega) (by omega), iI_0, iI_le (a := (k : Int)) (b := 0) (by omega) (by omega) (by omega) (by omega)]
    refine ⟨fun q => by omega, fun _ => ⟨iI_in (by omega) (by omega) (by omega), fun q => ?_, fun q => ?_⟩⟩
    · obtain ⟨v, rfl⟩ : ∃ v : Nat, b = 128 + v := ⟨(b - 128).toNat, by omega⟩
      have e1 : (128 + (v : Int) - 128) = v := by omega
      rw [if_pos (by omega), e1, Int.toNat_natCast] at hg
      simp only [List.length_append, List.length_map] at hg
      have go : ∀ (g1 : List Int) (M1 : qM), mPg M1 g1 → fm [41] [37] M M1 → g1 = g ++ (if decide (k = 0) = true then [] else [32]) → V l Γ T_TapedLinesModel_list (d + 1 + 1) r 113 [.ref 27, .null, .int (iI ((from_ : Int) - 2)), .int (iI bs.length), .int (iI k), .int (iI (128 + (v : Int)))] [] (M1, L) (q_i L (fun x M' => x = iI (g ++ spl (decide (k = 0)) ((128 + (v : Int)) :: u)).length ∧ mPg M' (g ++ spl (decide (k = 0)) ((128 + (v : Int)) :: u)) ∧ fm [41] [37] M M')) := by
        intro g1 M1 h1 f1 eg
        have hg1 : g1.length = g.length + (if decide (k = 0) = true then ([] : List Int) else [32]).length := by rw [eg]; simp
        refine s_TapedLinesModel_list_113 _ _ _ _ ?_
        rw [iI_sub (128 + (v : Int)) 128, e1]
        refine ⟨_, cm_putWord v (by omega) h1 (by omega), ?_⟩
        rintro M2 ⟨h2, f2⟩
        rw [iI_sub, iI_le (by omega) (by omega) (by omega) (by omega), iI_add]
        refine ⟨fun q3 => step _ M2 h2 (f1.tr f2) ?_, fun q3 => ⟨_, cm_putG h2 (by simp; omega), ?_⟩⟩
        · have : u = [] := List.length_eq_zero_iff.mp (by omega)
          rw [spl_cons, if_pos (by omega), e1, Int.toNat_natCast, if_pos this, eg]
          simp
        · rintro M3 ⟨h3, f3⟩
          have hne : u ≠ [] := fun e => by rw [e] at hul; simp at hul; omega
          refine step _ M3 h3 ((f1.tr f2).tr f3) ?_
          rw [spl_cons, if_pos (by omega), e1, Int.toNat_natCast, if_neg hne, eg]
          simp
      refine ⟨fun q3 => go g M h fm.rf ?_, fun q3 => ⟨_, cm_putG h (by omega), ?_⟩⟩
      · rw [if_pos (by simp; omega)]; simp
      · rintro M1 ⟨h1, f1⟩
        refine go _ M1 h1 f1 ?_
        rw [if_neg (by simp; omega)]
    · rw [if_neg (by omega)] at hg
      simp only [List.length_append, List.length_singleton] at hg
      refine ⟨_, cm_putG h (by omega), ?_⟩
      rintro M1 ⟨h1, f1⟩
      refine step _ M1 h1 f1 ?_
      rw [spl_cons, if_neg (by omega)]
      simp
end MList
