-- the reference's loop over an expression
theorem apD_len {least : Int} : ∀ (ss : List Int) (vs : List Int32) {vs' : List Int32} {ss' : List Int}, apD least ss vs = some (.ok (vs', ss')) → vs'.length ≤ vs.length ∧ ss'.length ≤ ss.length := by
  intro ss
  induction ss with
  | nil =>
    intro vs vs' ss' h
    unfold apD at h
    cases h
    exact ⟨Nat.le_refl _, Nat.le_refl _⟩
  | cons s ss ih =>
    intro vs vs' ss' h
    unfold apD at h
    by_cases hs : least ≤ rnk s
    · rw [if_pos hs] at h
      rcases e1 : ap1 s vs with _ | (er | v1)
      · rw [e1] at h; cases h
      · rw [e1] at h; cases h
      · rw [e1] at h
        simp only at h
        have := ih v1 h
        have := ap1_len e1
        simp only [List.length_cons]
        omega
    · rw [if_neg hs] at h
      cases h
      exact ⟨Nat.le_refl _, Nat.le_refl _⟩
theorem clo_len {ce : Nat → Int32} {vs vs' : List Int32} {ss ss' : List Int} (h : clo ce vs ss = some (.ok (vs', ss'))) : vs'.length ≤ vs.length ∧ ss'.length ≤ ss.length := by
  unfold clo at h
  rcases ea : apD 1 ss vs with _ | (er | ⟨v1, _ | ⟨s, s1⟩⟩)
  · rw [ea] at h; cases h
  · rw [ea] at h; cases h
  · rw [ea] at h; cases h
  · rw [ea] at h
    have := apD_len ss vs ea
    simp only [List.length_cons] at this
    simp only at h
    by_cases hs : s = 64
    · rw [if_pos hs] at h
      rcases v1 with _ | ⟨i, vt⟩
      · cases h
      · simp only at h
        by_cases hi : i < 0 ∨ ¬ i ≤ iI 15
        · rw [if_pos hi] at h; cases h
        · rw [if_neg hi] at h
          cases h
          simp only [List.length_cons] at this ⊢
          omega
    · rw [if_neg hs] at h
      cases h
      omega
theorem cB_num {f : Nat → Int32} {e : Nat} : ∀ {u : List Int} {v : Int}, cB f e u → cB f e (numV v u).2 := by
  intro u
  induction u with
  | nil => intro v h; exact h
  | cons c t ih =>
    intro v h
    unfold numV
    split
    · exact ih h.tl
    · exact h
def mW (M : qM) (e : Nat) (res : Except Int (Int32 × List Int)) (M' : qM) : Prop := fm [38, 39] [26, 27, 28, 29, 31] M M' ∧ match res with
  | .error er => M' 27 26 = iI er ∧ (er = 5 ∨ er = 6) ∧ M' 27 27 = iI 0
  | .ok (v, r) => M' 27 26 = iI 0 ∧ M' 27 27 = v ∧ M' 27 28 = iI ((e - r.length : Nat) : Int) ∧ cB (M 30) e r
theorem mW.of {M M1 M2 : qM} {e : Nat} {res : Except Int (Int32 × List Int)} (h : mW M1 e res M2) (f : fm [38, 39] [26, 27, 28, 29, 31] M M1) : mW M e res M2 := by
  refine ⟨f.tr h.1, ?_⟩
  have h2 := h.2
  rcases res with er | ⟨v, r⟩
  · exact h2
  · obtain ⟨a, b, c, hB⟩ := h2
    rw [f.1 30 (by decide) (by decide)] at hB
    exact ⟨a, b, c, hB⟩
section MWork2
variable {l : Launch} {Γ : qG} {d r : Nat} {L : Nat → Int64}
theorem er_ne {M : qM} {er : Int} (h : M 27 26 = iI er ∧ (er = 5 ∨ er = 6)) : ¬ M 27 26 = 0 := by
  rw [h.1]
  rcases h.2 with rfl | rfl <;> decide
theorem m_work_223E {M : qM} {e : Nat} {er : Int} (h : M 27 26 = iI er ∧ (er = 5 ∨ er = 6)) : V l Γ T_TapedLinesModel_work (d + 1 + 1) r 223 [.ref 27, .null, .null, .null, .null, .null, .null] [] (M, L) (q_n L (mW M e (.error er))) := by
  refine s_TapedLinesModel_work_223 ⟨fun M' => M' = M, s_TapedLinesModel_applyDown_0 _ ⟨fun _ => rfl, fun q => absurd (er_ne h) q⟩, ?_⟩
  rintro M1 rfl
  refine ⟨fun _ => ⟨fm.rf.upk (by simp), ?_, h.2, q_up_s⟩, fun q => absurd (er_ne h) q⟩
  rw [q_up_k (by decide)]
  exact h.1
theorem m_work_23E {M : qM} {e : Nat} {er : Int} (h : M 27 26 = iI er ∧ (er = 5 ∨ er = 6)) (v2 v3 v4 v5 : Int32) : V l Γ T_TapedLinesModel_work (d + 1 + 1) r 23 [.ref 27, .null, .int v2, .int v3, .int v4, .int v5, .null] [] (M, L) (q_n L (mW M e (.error er))) :=
  s_TapedLinesModel_work_23 _ _ _ _ ⟨fun _ => m_work_223E h, fun _ => ⟨fun _ => m_work_223E h, fun q => absurd (er_ne h) q⟩⟩
theorem m_fin {M : qM} {e : Nat} {u : List Int} {vs : List Int32} {ss : List Int} {res : Except Int (Int32 × List Int)} (h : mS M vs ss) (hv : vs.length ≤ 240) (hl : ss.length ≤ 240) (h26 : M 27 26 = iI 0) (h28 : M 27 28 = iI ((e - u.length : Nat) : Int)) (hB : cB (M 30) e u) (hf : fin1 u vs ss = some res) : V l Γ T_TapedLinesModel_work (d + 1 + 1 + 1) r 223 [.ref 27, .null, .null, .null, .null, .null, .null] [] (M, L) (q_n L (mW M e res)) := by
  unfold fin1 at hf
  rcases ea : apD 1 ss vs with _ | r1
  · rw [ea] at hf; cases hf
  rw [ea] at hf
  refine s_TapedLinesModel_work_223 ⟨_, m_applyDown (by decide) ss vs M r1 h hv hl h26 ea, ?_⟩
  rintro M1 ⟨f1, h1⟩
  have f1' : fm [38, 39] [26, 27, 28, 29, 31] M M1 := f1.wk (by decide) (by decide)
  rcases r1 with er | ⟨vs', ss'⟩
  · simp only at hf
    cases hf
    refine ⟨fun _ => ⟨f1'.upk (by simp), ?_, h1.2.1, q_up_s⟩, fun q => absurd h1.ne q⟩
    rw [q_up_k (by decide)]
    exact h1.1
  · rcases vs' with _ | ⟨v, _ | ⟨v2, vt⟩⟩
    · cases hf
    · simp only at hf
      cases hf
      obtain ⟨⟨g1, g2, g3, g4⟩, g26⟩ := h1
      refine ⟨fun q => absurd g26 q, fun _ => ⟨iI_in (by omega) (by omega) (by omega), f1'.upk (by simp), ?_, ?_, ?_, hB⟩⟩
      · rw [q_up_k (by decide)]; exact g26
      · rw [q_up_s]; exact g3.1
      · rw [q_up_k (by decide), f1.2 28 (by decide)]; exact h28
    · cases hf
theorem m_work_23 {e : Nat} (he : e ≤ 200) {va ce : Nat → Int32} : ∀ (n : Nat) (u : List Int) (vs : List Int32) (ss : List Int) (o : Int) (w : Bool) (M : qM) (res : Except Int (Int32 × List Int)), u.length ≤ n → cB (M 30) e u → M 31 = va → M 32 = ce → mS M vs ss → vs.length + u.length ≤ 200 → ss.length + u.length ≤ 200 → 0 ≤ o → o + u.length ≤ 200 → M 27 26 = iI 0 → M 27 28 = iI ((e - u.length : Nat) : Int) → wk va ce u 0 vs ss o w = some res →
    V l Γ T_TapedLinesModel_work (d + 1 + 1 + 1 + 1) r 23 [.ref 27, .null, .int (iI e), .int (iI o), .int (b2 w), .int (iI 1), .null] [] (M, L) (q_n L (mW M e res)) := by
  intro n
  induction n with
  | zero =>
    intro u vs ss o w M res hn hB h31 h32 hm hv hl ho1 ho2 h26 h28 hw
    have : u = [] := List.length_eq_zero_iff.mp (by omega)
    subst this
    unfold wk at hw
    have hB1 := hB.1
    refine s_TapedLinesModel_work_23 _ _ _ _ ⟨fun q => absurd q (by decide), fun _ => ⟨fun q => absurd h26 q, fun _ => ⟨fun _ => ?_, fun q => ?_⟩⟩⟩
    · exact m_fin hm (by omega) (by omega) h26 h28 hB hw
    · rw [h28, iI_le (by omega) (by omega) (by omega) (by omega)] at q
      simp at q
  | succ n ih =>
    intro u vs ss o w M res hn hB h31 h32 hm hv hl ho1 ho2 h26 h28 hw
    rcases u with _ | ⟨c, t⟩
    · unfold wk at hw
      have hB1 := hB.1
      refine s_TapedLinesModel_work_23 _ _ _ _ ⟨fun q => absurd q (by decide), fun _ => ⟨fun q => absurd h26 q, fun _ => ⟨fun _ => ?_, fun q => ?_⟩⟩⟩
      · exact m_fin hm (by omega) (by omega) h26 h28 hB hw
      · rw [h28, iI_le (by omega) (by omega) (by omega) (by omega)] at q
        simp at q
    obtain ⟨k1, k2, k3, k4⟩ := hB.hd
    simp only [List.length_cons] at hn hv hl ho2 h28
    have e28 : iI ((e - (t.length + 1) : Nat) : Int) + iI 1 = iI ((e - t.length : Nat) : Int) := by rw [iI_add]; exact congrArg iI (by omega)
    refine s_TapedLinesModel_work_23 _ _ _ _ ?_
    rw [h28, iI_le (a := (e : Int)) (by omega) (by omega) (by omega) (by omega), iI_nat (by omega) (by omega), Int.toNat_natCast, k1, iI_le (a := 128) (by omega) (by omega) (by omega) (by omega), iI_eq (by omega) (by omega) (by omega) (by omega), b2_0, iI_0, iI_eq (a := o) (by omega) (by omega) (by omega) (by omega)]
    refine ⟨fun q => absurd q (by decide), fun _ => ⟨fun q => absurd h26 q, fun _ => ⟨fun q => by omega, fun _ => ⟨iI_in (by omega) (by omega) (by omega), fun hwf => ?_, fun hwt => ?_⟩⟩⟩⟩
    · subst hwf
      unfold wk at hw
      have stop : (128 ≤ c ∨ (c = 41 ∧ o = 0)) → V l Γ T_TapedLinesModel_work (d + 1 + 1 + 1 + 1) r 23 [.ref 27, .null, .int (iI e), .int (iI o), .int (b2 false), .int (iI 0), .null] [] (M, L) (q_n L (mW M e res)) := by
        intro hs
        rw [if_pos hs] at hw
        exact s_TapedLinesModel_work_23 _ _ _ _ ⟨fun _ => m_fin (u := c :: t) hm (by omega) (by omega) h26 h28 hB hw, fun q => absurd rfl q⟩
      have go : ¬ (128 ≤ c ∨ (c = 41 ∧ o = 0)) → V l Γ T_TapedLinesModel_work (d + 1 + 1 + 1 + 1) r 150 [.ref 27, .null, .int (iI e), .int (iI o), .int (b2 false), .int (iI 1), .int (iI c)] [] (M, L) (q_n L (mW M e res)) := by
        intro hs
        rw [if_neg hs] at hw
        refine s_TapedLinesModel_work_150 _ _ _ _ _ ?_
        rw [iI_eq (by omega) (by omega) (by omega) (by omega)]
        refine ⟨fun q => ?_, fun q => ?_⟩
        · rw [if_neg q] at hw
          by_cases htc : tier c = -1
          · rw [if_pos htc] at hw; cases hw
          rw [if_neg htc] at hw
          have hop := rnk_op htc
          refine ⟨_, cm_rank _, ?_⟩
          rintro x1 M1 ⟨rfl, rfl⟩
          rw [iI_toInt (by omega) (by omega), show rankZ c = rnk c from rfl]
          rcases ea : apD (rnk c) ss vs with _ | r1
          · rw [ea] at hw; cases hw
          rw [ea] at hw
          refine ⟨_, m_applyDown (by omega) ss vs _ r1 hm (by omega) (by omega) h26 ea, ?_⟩
          rintro M2 ⟨f2, h2⟩
          have f2' : fm [38, 39] [26, 27, 28, 29, 31] M1 M2 := f2.wk (by decide) (by decide)
          rcases r1 with er | ⟨vs', ss'⟩
          · simp only at hw
            cases hw
            obtain ⟨x1, x2, k, x3, x4⟩ := h2
            rw [x4, iI_nat (by omega) (by omega), Int.toNat_natCast, iI_add]
            refine ⟨iI_in (by omega) (by omega) (by omega), (m_work_23E (e := e) (er := er) ⟨?_, x2⟩ _ _ _ _).wn (fun M' hM => hM.of (((f2'.upo (by simp) (by decide)).upk (by simp)).upk (by simp)))⟩
            · rw [q_up_k (by decide), q_up_k (by decide), q_up_o (by decide)]; exact x1
          · simp only at hw
            have hlen := apD_len ss vs ea
            obtain ⟨⟨g1, g2, g3, g4⟩, g26⟩ := h2
            rw [g2, iI_nat (by omega) (by omega), Int.toNat_natCast, iI_add, f2.2 28 (by decide), h28, e28]
            refine ⟨iI_in (by omega) (by omega) (by omega), (ih t vs' (c :: ss') o true _ res (by omega) ?_ ?_ ?_ ⟨?_, ?_, ?_, ?_, ⟨k3, k4⟩, ?_⟩ (by omega) (by simp; omega) ho1 (by omega) ?_ q_up_s hw).wn (fun M' hM => hM.of (((f2'.upo (by simp) (by decide)).upk (by simp)).upk (by simp)))⟩
            · rw [q_up_o (by decide), q_up_o (by decide), q_up_o (by decide), f2.1 30 (by decide) (by decide)]; exact hB.tl
            · rw [q_up_o (by decide), q_up_o (by decide), q_up_o (by decide), f2.1 31 (by decide) (by decide)]; exact h31
            · rw [q_up_o (by decide), q_up_o (by decide), q_up_o (by decide), f2.1 32 (by decide) (by decide)]; exact h32
            · rw [q_up_k (by decide), q_up_k (by decide), q_up_o (by decide)]; exact g1
            · rw [q_up_k (by decide), q_up_s]; rfl
            · rw [q_up_o (by decide), q_up_o (by decide), q_up_o (by decide)]; exact g3
            · rw [q_up_o (by decide), q_up_o (by decide), q_up_s]
            · refine stS_keep ss' g4 (fun k hk => ?_)
              rw [q_up_o (by decide), q_up_o (by decide), q_up_k (by omega)]
            · rw [q_up_k (by decide), q_up_k (by decide), q_up_o (by decide)]; exact g26
        · have q := Classical.not_not.mp q
          rw [if_pos q] at hw
          have hcl : ∃ ra, clo ce vs ss = some ra ∧ (match ra with
              | .error er => some (.error er)
              | .ok (vs', ss') => wk va ce t 0 vs' ss' (o - 1) false) = some res := by
            unfold clo
            rcases ea : apD 1 ss vs with _ | (er | ⟨vs', _ | ⟨s, ss'⟩⟩)
            · rw [ea] at hw; cases hw
            · rw [ea] at hw; exact ⟨_, rfl, hw⟩
            · rw [ea] at hw; cases hw
            · rw [ea] at hw
              simp only at hw ⊢
              by_cases hs : s = 64
              · rw [if_pos hs] at hw ⊢
                rcases vs' with _ | ⟨i, vt⟩
                · cases hw
                · simp only at hw ⊢
                  by_cases hi : i < 0 ∨ ¬ i ≤ iI 15
                  · rw [if_pos hi] at hw ⊢
                    exact ⟨_, rfl, hw⟩
                  · rw [if_neg hi] at hw ⊢
                    exact ⟨_, rfl, hw⟩
              · rw [if_neg hs] at hw ⊢
                exact ⟨_, rfl, hw⟩
          obtain ⟨ra, ea, hw⟩ := hcl
          refine ⟨_, m_close hm (by omega) (by omega) h26 (by rw [h32]; exact ea) (fun vs' ss' hh => by have := apD_len ss vs hh; omega), ?_⟩
          rintro M2 ⟨f2, h2⟩
          have f2' : fm [38, 39] [26, 27, 28, 29, 31] M M2 := f2.wk (by decide) (by decide)
          rcases ra with er | ⟨vs', ss'⟩
          · simp only at hw
            cases hw
            obtain ⟨x1, x2, k, x3, x4⟩ := h2
            refine (m_work_23E (e := e) (er := er) ⟨?_, x2⟩ _ _ _ _).wn (fun M' hM => hM.of (f2'.upk (by simp)))
            · rw [q_up_k (by decide)]; exact x1
          · simp only at hw
            have hlen := clo_len ea
            obtain ⟨⟨g1, g2, g3, g4⟩, g26⟩ := h2
            rw [f2.2 28 (by decide), h28, e28, iI_add, show o + -1 = o - 1 by omega]
            refine (ih t vs' ss' (o - 1) false _ res (by omega) ?_ ?_ ?_ ⟨?_, ?_, ?_, ?_⟩ (by omega) (by omega) (by omega) (by omega) ?_ q_up_s hw).wn (fun M' hM => hM.of (f2'.upk (by simp)))
            · rw [q_up_o (by decide), f2.1 30 (by decide) (by decide)]; exact hB.tl
            · rw [q_up_o (by decide), f2.1 31 (by decide) (by decide)]; exact h31
            · rw [q_up_o (by decide), f2.1 32 (by decide) (by decide)]; exact h32
            · rw [q_up_k (by decide)]; exact g1
            · rw [q_up_k (by decide)]; exact g2
            · rw [q_up_o (by decide)]; exact g3
            · rw [q_up_o (by decide)]; exact g4
            · rw [q_up_k (by decide)]; exact g26
      refine ⟨fun q => stop (Or.inl q), fun q => ⟨fun q2 => go (by omega), fun q2 => ⟨fun q3 => go (by omega), fun q3 => stop (by omega)⟩⟩⟩
    · have hwt : w = true := by simpa using hwt
      subst hwt
      have one : ∀ (w0 : Bool) (o' : Int) (u' : List Int) (vs' : List Int32) (ss' : List Int) (x : Int32) (M1 : qM), mS M1 vs' ss' → fm [38, 39] [29, 31] M M1 → u'.length ≤ n → vs'.length + u'.length ≤ 200 → ss'.length + u'.length ≤ 200 → 0 ≤ o' → o' + u'.length ≤ 200 → cB (M 30) e u' → iI ((e - (t.length + 1) : Nat) : Int) + x = iI ((e - u'.length : Nat) : Int) → wk va ce u' 0 vs' ss' o' w0 = some res → V l Γ T_TapedLinesModel_work (d + 1 + 1 + 1 + 1) r 23 [.ref 27, .null, .int (iI e), .int (iI o'), .int (b2 w0), .int (iI 1), .null] [] (q_up M1 27 28 (iI ((e - (t.length + 1) : Nat) : Int) + x), L) (q_n L (mW M e res)) := by
        intro w0 o' u' vs' ss' x M1 hm1 f1 a1 a2 a3 a4 a5 hB' hx hw'
        obtain ⟨g1, g2, g3, g4⟩ := hm1
        have f1' : fm [38, 39] [26, 27, 28, 29, 31] M M1 := f1.wk (by decide) (by decide)
        rw [hx]
        refine (ih u' vs' ss' o' w0 _ res a1 ?_ ?_ ?_ ⟨?_, ?_, ?_, ?_⟩ a2 a3 a4 a5 ?_ q_up_s hw').wn (fun M' hM => hM.of (f1'.upk (by simp)))
        · rw [q_up_o (by decide), f1.1 30 (by decide) (by decide)]; exact hB'
        · rw [q_up_o (by decide), f1.1 31 (by decide) (by decide)]; exact h31
        · rw [q_up_o (by decide), f1.1 32 (by decide) (by decide)]; exact h32
        · rw [q_up_k (by decide)]; exact g1
        · rw [q_up_k (by decide)]; exact g2
        · rw [q_up_o (by decide)]; exact g3
        · rw [q_up_o (by decide)]; exact g4
        · rw [q_up_k (by decide), f1.2 26 (by decide)]; exact h26
      refine ⟨_, cm_isDigit _, ?_⟩
      rintro x1 M1 ⟨rfl, rfl⟩
      rw [iI_toInt (by omega) (by omega), ← iI_0, b2_0]
      refine ⟨fun q => ?_, fun q => ⟨_, cm_isVariable _, ?_⟩⟩
      · have hd : isD c = true := by simpa using q
        have hcd : 48 ≤ c ∧ c ≤ 57 := by simpa [isD] using hd
        rw [wk_dig hd] at hw
        have hnl : (numV 0 (c :: t)).2.length ≤ t.length := by
          rw [numV, if_pos hd]
          exact numV_len t _
        refine s_TapedLinesModel_work_80 _ _ _ _ _ ?_
        rw [iI_eq (by omega) (by omega) (by omega) (by omega), iI_eq (by omega) (by omega) (by omega) (by omega), h28]
        refine ⟨fun q2 => by omega, fun _ => ⟨fun _ => ⟨_, m_workOne_d he hm (by omega) hB hd, ?_⟩, fun q2 => by omega⟩⟩
        rintro x2 M2 ⟨rfl, m2, f2⟩
        refine one false o _ _ ss _ M2 m2 (f2.wk (by decide) (by decide)) (by omega) (by simp only [List.length_cons]; omega) (by omega) ho1 (by omega) (cB_num hB) ?_ hw
        rw [iI_add]
        exact congrArg iI (by omega)
      · rintro x2 M2 ⟨rfl, rfl⟩
        have hd : isD c = false := by simpa using q
        rw [iI_toInt (by omega) (by omega), b2_0]
        unfold wk at hw
        rw [if_neg (by rw [hd]; decide)] at hw
        refine ⟨fun q2 => ?_, fun q2 => ?_⟩
        · have hv1 : isV c = true := by simpa using q2
          have hcv : 97 ≤ c ∧ c ≤ 104 := by simpa [isV] using hv1
          rw [if_pos hv1] at hw
          refine s_TapedLinesModel_work_80 _ _ _ _ _ ?_
          rw [iI_eq (by omega) (by omega) (by omega) (by omega), iI_eq (by omega) (by omega) (by omega) (by omega), h28]
          refine ⟨fun q3 => by omega, fun _ => ⟨fun _ => ⟨_, m_workOne_v he hm (by omega) hB hd hv1, ?_⟩, fun q3 => by omega⟩⟩
          rintro x3 M3 ⟨rfl, m3, f3⟩
          rw [h31] at m3
          exact one false o t _ ss _ M3 m3 (f3.wk (by decide) (by decide)) (by omega) (by simp only [List.length_cons]; omega) (by omega) ho1 (by omega) hB.tl e28 hw
        · have hv1 : isV c = false := by simpa using q2
          rw [if_neg (by rw [hv1]; decide)] at hw
          refine s_TapedLinesModel_work_80 _ _ _ _ _ ?_
          rw [iI_eq (by omega) (by omega) (by omega) (by omega), iI_eq (by omega) (by omega) (by omega) (by omega), h28, iI_add]
          have hone := m_workOne_s (l := l) (Γ := Γ) (d := d + 1 + 1) (r := 0) (L := L) he hm (by omega) hB hd hv1
          by_cases h64 : c = 64
          · rw [if_pos h64] at hw hone
            rw [if_neg (show ¬ c = 45 by omega)] at hone
            refine ⟨fun q3 => by omega, fun _ => ⟨fun q3 => absurd h64 q3, fun _ => ⟨_, hone, ?_⟩⟩⟩
            rintro x3 M3 ⟨rfl, m3, f3⟩
            rcases t with _ | ⟨c1, t1⟩
            · rw [if_pos rfl] at hw; cases hw
            rw [if_neg (by simp), wk_drop _ _ _ _ _ _ (by simp)] at hw
            simp only [List.length_cons] at hn hv hl ho2 k2
            subst h64
            exact one true (o + 1) t1 _ _ _ M3 m3 (f3.wk (by decide) (by decide)) (by omega) (by omega) (by simp only [List.length_cons]; omega) (by omega) (by omega) hB.tl.tl (by rw [iI_add]; exact congrArg iI (by simp only [List.length_cons]; omega)) hw
          · rw [if_neg h64] at hw hone
            by_cases h40 : c = 40
            · rw [if_pos h40] at hw
              rw [if_neg (show ¬ c = 45 by omega)] at hone
              refine ⟨fun _ => ⟨_, hone, ?_⟩, fun q3 => absurd h40 q3⟩
              rintro x3 M3 ⟨rfl, m3, f3⟩
              subst h40
              exact one true (o + 1) t _ _ _ M3 m3 (f3.wk (by decide) (by decide)) (by omega) (by omega) (by simp only [List.length_cons]; omega) (by omega) (by omega) hB.tl e28 hw
            · rw [if_neg h40] at hw
              by_cases h45 : c = 45
              · rw [if_pos h45] at hw hone
                refine ⟨fun q3 => absurd q3 h40, fun _ => ⟨fun _ => ⟨_, hone, ?_⟩, fun q3 => absurd (Classical.not_not.mp q3) h64⟩⟩
                rintro x3 M3 ⟨rfl, m3, f3⟩
                exact one true o t _ _ _ M3 m3 (f3.wk (by decide) (by decide)) (by omega) (by omega) (by simp only [List.length_cons]; omega) ho1 (by omega) hB.tl e28 hw
              · rw [if_neg h45] at hw
                cases hw
end MWork2
