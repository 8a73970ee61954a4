-- the reference's enter
theorem rNumL_1 {v : Int} {u : List Int} (hv : v = -1 ∨ (1 ≤ v ∧ v ≤ 99)) (h : (rNumL 1 99 v u).1 ≠ -1) : 1 ≤ (rNumL 1 99 v u).1 ∧ (rNumL 1 99 v u).1 ≤ 99 := by
  induction u generalizing v with
  | nil => rcases hv with hv | hv; exact absurd hv h; exact hv
  | cons c u ih =>
    unfold rNumL at h ⊢
    generalize (if v = -1 then c - 48 else v * 10 + c - 48) = g at h ⊢
    by_cases hd : isD c = true
    · rw [if_pos hd] at h ⊢
      by_cases hb : v = 0 ∨ g < 1 ∨ 99 < g
      · rw [if_pos hb] at h; exact absurd rfl h
      · rw [if_neg hb] at h ⊢
        exact ih (Or.inr (by omega)) h
    · rw [if_neg hd] at h ⊢
      rcases hv with hv | hv
      · exact absurd hv h
      · exact hv
theorem rLine_ok {t : List Int} {z : Int} {o : List Int} (ht : t.length ≤ 256) (h : rLine t = .ok (z, o)) : (1 ≤ z ∧ z ≤ 99) ∧ (o = [] ∨ okSt o) := by
  unfold rLine at h
  by_cases h1 : (rNum 1 99 t).1 = -1
  · rw [if_pos h1] at h; cases h
  rw [if_neg h1] at h
  have hz := rNumL_1 (v := -1) (u := sk t) (Or.inl rfl) h1
  by_cases h2 : sk (rNum 1 99 t).2.1 = []
  · rw [if_pos h2] at h
    cases h
    exact ⟨hz, Or.inl rfl⟩
  rw [if_neg h2] at h
  by_cases h3 : (rStmt (sk (rNum 1 99 t).2.1)).1 = true
  · rw [if_pos h3] at h
    by_cases h4 : sk (rStmt (sk (rNum 1 99 t).2.1)).2.1 = []
    · rw [if_pos h4] at h
      cases h
      refine ⟨hz, Or.inr (acc_sound (u := sk (rNum 1 99 t).2.1) ?_ ⟨h3, h4, rfl⟩)⟩
      have a1 := sk_len (rNum 1 99 t).2.1
      have a2 : (rNum 1 99 t).2.1.length ≤ (sk t).length := rNumL_len 1 99 (-1) (sk t)
      have a3 := sk_len t
      omega
    · rw [if_neg h4] at h; cases h
  · rw [if_neg h3] at h; cases h
theorem FM.wk {M M' : qM} {m : Nat} (h : FM M m M') : FM M 0 M' := ⟨h.1, h.2.1, fun j hj => absurd hj (Nat.not_lt_zero _)⟩
theorem tk_one (s : rA) (c : Int) (s' : rA) (o : List Int) (h : tk s c = some (s', o)) : o = [] ∨ ∃ b, o = [b] := by
  obtain ⟨st, pu, de, nu, w, le, li⟩ := s
  unfold tk at h
  simp only at h
  split at h
  · exact Or.inr ⟨c, (tQuoted_cn h).2⟩
  · split at h
    · unfold tSpell at h
      split at h
      · cases h; exact Or.inr ⟨_, rfl⟩
      · split at h
        · cases h; exact Or.inl rfl
        · cases h
    · split at h
      · cases h; exact Or.inl rfl
      · split at h
        · unfold tDigit at h
          by_cases hb : nu = 0 ∨ (if st = 13 then 32767 else 99) < 10 * nu + c - 48
          · rw [if_pos hb] at h; cases h
          · rw [if_neg hb] at h
            by_cases h1 : st = 1
            · rw [if_pos h1] at h; cases h; exact Or.inl rfl
            · rw [if_neg h1] at h; cases h; exact Or.inr ⟨c, rfl⟩
        · split at h
          · unfold tSpell at h
            split at h
            · cases h; exact Or.inr ⟨_, rfl⟩
            · split at h
              · cases h; exact Or.inl rfl
              · cases h
          · by_cases h0 : bg st = 0
            · unfold tOther at h
              rw [if_pos h0] at h
              split at h
              · cases h; exact Or.inl rfl
              · cases h
            · exact Or.inr ⟨c, (tOther_e h h0).1⟩
theorem ix_app (z : Int) (a b : List (Int × List Int)) (h : ∀ q ∈ a, q.1 < z) : ix z (a ++ b) = a.length + ix z b := by
  induction a with
  | nil => simp
  | cons q a ih =>
    have h1 := h q (by simp)
    show (if q.1 < z then ix z (a ++ b) + 1 else 0) = _
    rw [if_pos h1, ih (fun x hx => h x (by simp [hx]))]
    simp
    omega
theorem ix_zero (z : Int) (b : List (Int × List Int)) (h : ∀ q, b.head? = some q → ¬ q.1 < z) : ix z b = 0 := by
  cases b with
  | nil => rfl
  | cons q b => exact if_neg (h q rfl)
theorem edit_ix (z : Int) (pr : List (Int × List Int)) (hr : rising pr) : ix z (edit z [] pr) = ix z pr := by
  have h1 : ∀ q ∈ pr.take (ix z pr), q.1 < z := by
    intro q hq
    obtain ⟨i, hi, e⟩ := List.mem_iff_getElem.mp hq
    have hi2 : i < ix z pr ∧ i < pr.length := by simp only [List.length_take] at hi; omega
    have := ix_below (n := z) (pr := pr) (i := i) hi2.2 hi2.1
    rw [List.getElem_take] at e
    rw [← e]
    exact this
  have h2 : ∀ q, (pr.drop (if hasL z pr = true then ix z pr + 1 else ix z pr)).head? = some q → ¬ q.1 < z := by
    intro q hq
    by_cases hl : hasL z pr = true
    · rw [if_pos hl] at hq
      have hlt := hasL_lt hl
      rw [List.head?_drop] at hq
      obtain ⟨h1, h2⟩ := List.getElem?_eq_some_iff.mp hq
      have h3 := hr (ix z pr) (ix z pr + 1) hlt h1 (by omega)
      rw [hasL_at hlt, decide_eq_true_eq] at hl
      rw [h2, hl] at h3
      omega
    · rw [if_neg hl, List.head?_drop] at hq
      obtain ⟨h1, h2⟩ := List.getElem?_eq_some_iff.mp hq
      have := ix_at (n := z) h1
      rw [h2] at this
      exact this
  unfold edit
  rw [if_pos rfl, List.append_nil, ix_app z _ _ h1, ix_zero z _ h2, List.length_take]
  have := ix_le z pr
  omega
section MEnter
variable {l : Launch} {Γ : qG} {d r : Nat} {L : Nat → Int64}
theorem cm_enter_22 (t : List Int) (htl : t.length ≤ 60) (htc : ∀ c ∈ t, 32 ≤ c ∧ c ≤ 126) (M0 : qM) (s0 : rA) (Q : Int32 → qM → Prop)
    (hE : ∀ n M2, ft s0 t = .error n → n ≤ t.length → FM M0 0 M2 → Q (iI (-1 - ((t.length : Int) - n))) M2)
    (hO : ∀ z o' M2, ft s0 t = .ok (z, o') → FM M0 0 M2 → M2 27 7 = iI z → M2 27 10 = iI o'.length → rw (M2 29) o' → o'.length ≤ 60 → ∃ P2 : Int32 → qM → Prop, V l Γ T_TapedLinesModel_find (d + 1 + 1 + 1 + 1) 0 0 [.ref 27, .int (M2 27 7), .null, .null] [] (M2, L) (q_i L P2) ∧ ∀ (x2 : Int32) (M3 : qM), P2 x2 M3 → (0 ≤ x2 → vp_in (x2 + (iI 1)) 260 ∧ V l Γ T_TapedLinesModel_enter (d + 1 + 1 + 1 + 1 + 1) r 88 [.ref 27, .null, .int x2, .null, .null] [.int ((iI 2) + (M3 30 ((x2 + (iI 1))).toNatClampNeg))] (M3, L) (q_i L Q)) ∧ (¬ 0 ≤ x2 → V l Γ T_TapedLinesModel_enter (d + 1 + 1 + 1 + 1 + 1) r 88 [.ref 27, .null, .int x2, .null, .null] [.int (iI 0)] (M3, L) (q_i L Q))) :
    ∀ (u w : List Int) (s : rA) (o : List Int) (M1 : qM), t = w ++ u → mSt M1 s → M1 27 10 = iI o.length → rw (M1 29) o → o.length ≤ w.length → rw (M1 28) t → FM M0 0 M1 → ft s0 t = pre o (ft s u) →
    V l Γ T_TapedLinesModel_enter (d + 1 + 1 + 1 + 1 + 1) r 22 [.ref 27, .int (iI t.length), .int (iI w.length), .null, .null] [] (M1, L) (q_i L Q) := by
  intro u
  induction u with
  | nil =>
    intro w s o M1 e hs h10 h29 hol h28 hf hft
    have hwl : w.length = t.length := by rw [e]; simp
    refine s_TapedLinesModel_enter_22 _ _ ?_
    rw [iI_le (by omega) (by omega) (by omega) (by omega)]
    refine ⟨fun _ => ⟨_, cm_isWhole hs, ?_⟩, fun q => by omega⟩
    rintro x1 M2 ⟨rfl, rfl⟩
    rw [b2_0]
    have e0 : ft s [] = (if whl s = true then .ok (lnOf s, []) else .error 0) := rfl
    rw [e0] at hft
    refine ⟨fun hw => ?_, fun hw => ?_⟩
    · have hw : whl s = true := by simpa using hw
      rw [if_pos hw] at hft
      simp only [pre, List.append_nil] at hft
      obtain ⟨st, pu, de, nu, w', le, li⟩ := s
      have hli := hs.2.1
      exact hO li o M2 hft hf hli h10 h29 (by omega)
    · have hw : whl s = false := by simpa using hw
      rw [if_neg (by simp [hw])] at hft
      rw [iI_sub]
      have := hE 0 M2 hft (Nat.zero_le _) hf
      rw [show (-1 - ((t.length : Int) - ((0 : Nat) : Int))) = -1 - (t.length : Int) by omega] at this
      exact this
  | cons c u ih =>
    intro w s o M1 e hs h10 h29 hol h28 hf hft
    have hwl : w.length + u.length + 1 = t.length := by rw [e]; simp; omega
    have hc := htc c (by rw [e]; simp)
    refine s_TapedLinesModel_enter_22 _ _ ?_
    rw [iI_le (by omega) (by omega) (by omega) (by omega), iI_nat (by omega) (by omega), Int.toNat_natCast, h28 w.length (by omega), iI_add]
    have ec : t.getD w.length 0 = c := by rw [e]; simp [List.getD_eq_getElem?_getD]
    rw [ec]
    refine ⟨fun q => by omega, fun _ => ⟨iI_in (by omega) (by omega) (by omega), _, cm_take h10 (by omega) hs (by omega), ?_⟩⟩
    rintro x3 M3 ⟨f3, h3⟩
    rcases e1 : tk s c with _ | ⟨s', p⟩
    · rw [e1] at h3
      have h3 : x3 = iI 0 := h3
      subst h3
      refine ⟨fun q => absurd rfl q, fun _ => ?_⟩
      have : ft s0 t = .error (u.length + 1) := by
        rw [hft]
        conv => lhs; unfold ft
        rw [e1]
        rfl
      have := hE (u.length + 1) M3 this (by omega) (hf.tr f3.wk)
      rw [iI_sub, show (-1 - (w.length : Int)) = -1 - ((t.length : Int) - ((u.length + 1 : Nat) : Int)) by omega]
      exact this
    · rw [e1] at h3
      obtain ⟨hx, g1, g2, g3⟩ := h3
      subst hx
      refine ⟨fun _ => ?_, fun q => absurd (by decide) q⟩
      have hpl : p.length ≤ 1 := by
        rcases tk_one s c s' p e1 with rfl | ⟨b, rfl⟩ <;> simp
      have h29' : rw (M3 29) (o ++ p) := by
        rcases tk_one s c s' p e1 with rfl | ⟨b, rfl⟩
        · rw [List.append_nil]
          exact rw_keep h29 (fun i hi => f3.2.2 i hi)
        · intro i hi
          simp at hi
          by_cases hio : i = o.length
          · subst hio
            rw [g3 b rfl]
            simp [List.getD_eq_getElem?_getD]
          · rw [f3.2.2 i (by omega), h29 i (by omega)]
            simp [List.getD_eq_getElem?_getD, List.getElem?_append_left (show i < o.length by omega)]
      have := ih (w ++ [c]) s' (o ++ p) M3 (by rw [e]; simp) g1 (by rw [g2]; simp) h29' (by simp; omega) (by rw [f3.1 28 (by decide)]; exact h28) (hf.tr f3.wk) (by
        rw [hft, ← pre_pre]
        congr 1
        conv => lhs; unfold ft
        rw [e1])
      rw [show ((w ++ [c]).length : Int) = (w.length : Int) + 1 by simp] at this
      exact this
end MEnter
