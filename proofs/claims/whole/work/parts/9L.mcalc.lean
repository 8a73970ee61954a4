-- the reference's stacks
def stk (f : Nat → Int32) : List Int32 → Prop
  | [] => True
  | v :: vs => f vs.length = v ∧ stk f vs
def stS (f : Nat → Int32) : List Int → Prop
  | [] => True
  | s :: ss => f ss.length = iI s ∧ (0 ≤ s ∧ s < 256) ∧ stS f ss
theorem stk_keep {f g : Nat → Int32} : ∀ (vs : List Int32), stk f vs → (∀ k, k < vs.length → g k = f k) → stk g vs := by
  intro vs
  induction vs with
  | nil => intro _ _; trivial
  | cons v vs ih =>
    intro h hg
    exact ⟨(hg _ (by simp)).trans h.1, ih h.2 (fun k hk => hg k (by simp; omega))⟩
theorem stS_keep {f g : Nat → Int32} : ∀ (ss : List Int), stS f ss → (∀ k, k < ss.length → g k = f k) → stS g ss := by
  intro ss
  induction ss with
  | nil => intro _ _; trivial
  | cons v vs ih =>
    intro h hg
    exact ⟨(hg _ (by simp)).trans h.1, h.2.1, ih h.2.2 (fun k hk => hg k (by simp; omega))⟩
def mS (M : qM) (vs : List Int32) (ss : List Int) : Prop := M 27 29 = iI vs.length ∧ M 27 31 = iI ss.length ∧ stk (M 38) vs ∧ stS (M 39) ss
def mX (M : qM) (e : Int) : Prop := M 27 26 = iI e ∧ (e = 5 ∨ e = 6) ∧ ∃ k : Nat, k ≤ 250 ∧ M 27 31 = iI k
theorem mX.ne {M : qM} {e : Int} (h : mX M e) : ¬ M 27 26 = 0 := by
  obtain ⟨h1, h2, -⟩ := h
  rw [h1]
  rcases h2 with rfl | rfl <;> decide
theorem mX.pos {M : qM} {e : Int} (h : mX M e) : ¬ M 27 26 ≤ 0 := by
  obtain ⟨h1, h2, -⟩ := h
  rw [h1]
  rcases h2 with rfl | rfl <;> decide
theorem sh_0 : sh (iI 0) = iI 0 := by decide
theorem sh_1 : sh (iI 1) = iI 1 := by decide
theorem cmb_div {s : Int} (hs : s = 47 ∨ s = 37) (a : Int32) : cmb s a 0 = .error 5 := by
  unfold cmb
  rw [if_neg (by omega), if_neg (by omega), if_neg (by omega), if_neg (by omega), if_neg (by omega), if_neg (by omega), if_pos rfl]
theorem cmb_ok {s : Int} {a b : Int32} (h : ¬ ((s = 47 ∨ s = 37) ∧ b = 0)) (ho : tier s ≠ -1) : ∃ v, cmb s a b = .ok v := by
  unfold cmb
  rcases op_ne ho with rfl | rfl | rfl | rfl | rfl | rfl | rfl | rfl
  · exact ⟨_, rfl⟩
  · exact ⟨_, rfl⟩
  · exact ⟨_, rfl⟩
  · exact ⟨_, rfl⟩
  · exact ⟨_, rfl⟩
  · exact ⟨_, rfl⟩
  · refine ⟨sh (a / b), ?_⟩
    rw [if_neg (by decide), if_neg (by decide), if_neg (by decide), if_neg (by decide), if_neg (by decide), if_neg (by decide), if_neg (fun z => h ⟨Or.inl rfl, z⟩), if_pos rfl]
  · refine ⟨sh (a - a / b * b), ?_⟩
    rw [if_neg (by decide), if_neg (by decide), if_neg (by decide), if_neg (by decide), if_neg (by decide), if_neg (by decide), if_neg (fun z => h ⟨Or.inr rfl, z⟩), if_neg (by decide)]
section MCalc
variable {l : Launch} {Γ : qG} {d r : Nat} {L : Nat → Int64}
theorem m_push {M : qM} {vs : List Int32} {ss : List Int} (h : mS M vs ss) (hv : vs.length < 260) (a : Int32) : V l Γ T_TapedLinesModel_push d r 0 [.ref 27, .int a] [] (M, L) (q_n L (fun M' => mS M' (sh a :: vs) ss ∧ fm [38] [29] M M')) := by
  obtain ⟨h1, h2, h3, h4⟩ := h
  refine s_TapedLinesModel_push_0 _ ?_
  rw [h1, iI_nat (by omega) (by omega), Int.toNat_natCast, iI_add]
  refine ⟨iI_in (by omega) (by omega) (by omega), ⟨?_, ?_, ⟨?_, ?_⟩, ?_⟩, (fm.rf.upo (by simp) (by decide)).upk (by simp)⟩
  · rw [q_up_s]; rfl
  · rw [q_up_k (by decide), q_up_o (by decide)]; exact h2
  · rw [q_up_o (by decide), q_up_s]; rfl
  · refine stk_keep vs h3 (fun k hk => ?_)
    rw [q_up_o (by decide), q_up_k (by omega)]
  · rw [q_up_o (by decide), q_up_o (by decide)]; exact h4
theorem m_apply_107 {M : qM} {vs : List Int32} {ss : List Int} (h : mS M vs ss) (hv : vs.length < 250) (h26 : M 27 26 = iI 0) {s : Int} (hs : 0 ≤ s ∧ s < 256) (ho : tier s ≠ -1) (a b v : Int32) (hc : cmb s a b = .ok v) : V l Γ T_TapedLinesModel_apply (d + 1) r 107 [.ref 27, .int (iI s), .int b, .int a, .null] [] (M, L) (q_n L (fun M' => mS M' (v :: vs) ss ∧ fm [38] [29] M M')) := by
  have go : ∀ w, sh w = v → ∃ P1 : qM → Prop, V l Γ T_TapedLinesModel_push d 0 0 [.ref 27, .int w] [] (M, L) (q_n L P1) ∧ ∀ (M1 : qM), P1 M1 → mS M1 (v :: vs) ss ∧ fm [38] [29] M M1 := by
    intro w hw
    refine ⟨_, m_push h (by omega) w, ?_⟩
    rw [hw]
    exact fun M1 hM => hM
  unfold cmb at hc
  refine s_TapedLinesModel_apply_107 _ _ _ ?_
  rw [iI_toInt (by omega) (by omega), iI_eq (by omega) (by omega) (by omega) (by omega), iI_eq (by omega) (by omega) (by omega) (by omega)]
  refine ⟨fun k => ?_, fun k37 => ⟨fun k => ?_, fun k42 => ⟨fun k => ?_, fun k43 => ⟨fun k => ?_, fun k45 => ⟨fun k => ?_, fun k47 => ⟨fun k61 => ⟨fun k60 => ?_, fun k => ?_⟩, fun k => ?_⟩⟩⟩⟩⟩⟩
  · rw [if_neg (by omega), if_neg (by omega), if_neg (by omega), if_neg (by omega), if_neg (by omega), if_neg (by omega)] at hc
    by_cases hb : b = 0
    · rw [if_pos hb] at hc; cases hc
    · rw [if_neg hb, if_neg (by omega)] at hc
      exact ⟨hb, go _ (Except.ok.inj hc)⟩
  · rw [if_pos k] at hc
    exact go _ (Except.ok.inj hc)
  · rw [if_neg k42, if_pos k] at hc
    exact go _ (Except.ok.inj hc)
  · rw [if_neg k42, if_neg k43, if_pos k] at hc
    exact go _ (Except.ok.inj hc)
  · rw [if_neg (by omega), if_neg (by omega), if_neg (by omega), if_neg (by omega), if_neg (by omega), if_neg (by omega)] at hc
    by_cases hb : b = 0
    · rw [if_pos hb] at hc; cases hc
    · rw [if_neg hb, if_pos k] at hc
      exact ⟨hb, go _ (Except.ok.inj hc)⟩
  · rw [if_neg k42, if_neg k43, if_neg k45, if_neg k60, if_neg k61] at hc
    by_cases k62 : s = 62
    · rw [if_pos k62] at hc
      refine ⟨fun q => go _ ?_, fun q => go _ ?_⟩
      · rw [if_pos q] at hc; rw [sh_0]; exact Except.ok.inj hc
      · rw [if_neg q] at hc; rw [sh_1]; exact Except.ok.inj hc
    · rcases op_ne ho with q | q | q | q | q | q | q | q <;> omega
  · have k := Classical.not_not.mp k
    rw [if_neg k42, if_neg k43, if_neg k45, if_pos k] at hc
    refine ⟨fun q => go _ ?_, fun q => go _ ?_⟩
    · rw [if_pos q] at hc; rw [sh_0]; exact Except.ok.inj hc
    · rw [if_neg q] at hc; rw [sh_1]; exact Except.ok.inj hc
  · have k := Classical.not_not.mp k
    rw [if_neg k42, if_neg k43, if_neg k45, if_neg (by omega), if_pos k] at hc
    refine ⟨fun q => go _ ?_, fun q => go _ ?_⟩
    · rw [if_neg q] at hc; rw [sh_0]; exact Except.ok.inj hc
    · rw [if_pos (Classical.not_not.mp q)] at hc; rw [sh_1]; exact Except.ok.inj hc
def mAp (M : qM) (ra : Except Int (List Int32)) (ss : List Int) (M' : qM) : Prop := fm [38] [26, 29, 31] M M' ∧ match ra with
  | .error e => M' 27 26 = iI e ∧ e = 5 ∧ M' 27 31 = iI ss.length
  | .ok vs => mS M' vs ss ∧ M' 27 26 = iI 0
theorem m_apply {M : qM} {vs : List Int32} {s : Int} {ss : List Int} {ra : Except Int (List Int32)} (h : mS M vs (s :: ss)) (hv : vs.length ≤ 240) (hl : ss.length ≤ 240) (h26 : M 27 26 = iI 0) (hr : 1 ≤ rnk s) (ha : ap1 s vs = some ra) : V l Γ T_TapedLinesModel_apply (d + 1) r 0 [.ref 27, .null, .null, .null, .null] [] (M, L) (q_n L (mAp M ra ss)) := by
  obtain ⟨h1, h2, h3, h4, hs, h5⟩ := h
  refine s_TapedLinesModel_apply_0 ?_
  have e31 : M 27 31 - iI 1 = iI ss.length := by rw [h2, iI_sub]; exact congrArg iI (by simp)
  rw [e31, iI_nat (z := (ss.length : Int)) (by omega) (by omega), Int.toNat_natCast, h4, iI_eq (by omega) (by omega) (by omega) (by omega), iI_eq (by omega) (by omega) (by omega) (by omega), iI_eq (by omega) (by omega) (by omega) (by omega)]
  unfold ap1 at ha
  by_cases h109 : s = 109
  · rw [if_pos h109] at ha
    rcases vs with _ | ⟨b, t⟩
    · cases ha
    simp only [Option.some.injEq] at ha
    subst ha
    obtain ⟨h3a, h3b⟩ := h3
    simp only [List.length_cons] at hv
    have e29 : M 27 29 - iI 1 = iI t.length := by rw [h1, iI_sub]; exact congrArg iI (by simp)
    rw [e29, iI_nat (z := (t.length : Int)) (by omega) (by omega), Int.toNat_natCast, h3a]
    refine ⟨iI_in (by omega) (by omega) (by omega), iI_in (by omega) (by omega) (by omega), fun q => absurd h109 q, fun _ => ⟨_, m_push (vs := t) (ss := ss) ⟨q_up_s, ?_, ?_, ?_⟩ (by omega) _, ?_⟩⟩
    · rw [q_up_k (by decide), q_up_s]
    · rw [q_up_o (by decide), q_up_o (by decide)]; exact h3b
    · rw [q_up_o (by decide), q_up_o (by decide)]; exact h5
    · rintro M1 ⟨m1, f1⟩
      refine ⟨((fm.rf.upk (by simp)).upk (by simp)).tr (f1.wk (by simp) (by simp)), m1, ?_⟩
      rw [f1.2 26 (by decide), q_up_k (by decide), q_up_k (by decide)]
      exact h26
  · rw [if_neg h109] at ha
    have ho : tier s ≠ -1 := by
      unfold rnk at hr
      rw [if_neg h109] at hr
      omega
    rcases vs with _ | ⟨b, _ | ⟨a, t⟩⟩
    · cases ha
    · cases ha
    simp only [Option.some.injEq] at ha
    obtain ⟨h3a, h3b, h3c⟩ := h3
    simp only [List.length_cons] at hv h1 h3a
    have e29 : M 27 29 - iI 1 = iI ((t.length + 1 : Nat) : Int) := by rw [h1, iI_sub]; exact congrArg iI (by omega)
    have e29' : iI ((t.length + 1 : Nat) : Int) - iI 1 = iI t.length := by rw [iI_sub]; exact congrArg iI (by omega)
    rw [e29, e29', iI_nat (z := (t.length : Int)) (by omega) (by omega), Int.toNat_natCast, iI_nat (z := ((t.length + 1 : Nat) : Int)) (by omega) (by omega), Int.toNat_natCast, h3a, h3b]
    have hm : mS (q_up (q_up (q_up M 27 31 (iI ss.length)) 27 29 (iI ((t.length + 1 : Nat) : Int))) 27 29 (iI t.length)) t ss := by
      refine ⟨q_up_s, ?_, ?_, ?_⟩
      · rw [q_up_k (by decide), q_up_k (by decide), q_up_s]
      · rw [q_up_o (by decide), q_up_o (by decide), q_up_o (by decide)]; exact h3c
      · rw [q_up_o (by decide), q_up_o (by decide), q_up_o (by decide)]; exact h5
    have f0 : fm [38] [26, 29, 31] M (q_up (q_up (q_up M 27 31 (iI ss.length)) 27 29 (iI ((t.length + 1 : Nat) : Int))) 27 29 (iI t.length)) := ((fm.rf.upk (by simp)).upk (by simp)).upk (by simp)
    have h26' : q_up (q_up (q_up M 27 31 (iI ss.length)) 27 29 (iI ((t.length + 1 : Nat) : Int))) 27 29 (iI t.length) 27 26 = iI 0 := by
      rw [q_up_k (by decide), q_up_k (by decide), q_up_k (by decide)]; exact h26
    have h107 : ¬ ((s = 47 ∨ s = 37) ∧ b = 0) → V l Γ T_TapedLinesModel_apply (d + 1) r 107 [.ref 27, .int (iI s), .int b, .int a, .null] [] (q_up (q_up (q_up M 27 31 (iI ss.length)) 27 29 (iI ((t.length + 1 : Nat) : Int))) 27 29 (iI t.length), L) (q_n L (mAp M ra ss)) := by
      intro hn
      obtain ⟨v, hv2⟩ := cmb_ok (a := a) hn ho
      rw [hv2] at ha
      subst ha
      refine (m_apply_107 hm (by omega) h26' hs ho a b v hv2).wn (fun M' hM => ⟨f0.tr (hM.2.wk (by simp) (by simp)), hM.1, ?_⟩)
      rw [hM.2.2 26 (by decide)]
      exact h26'
    have h90 : ∀ w : Bool, (w = true ↔ (s = 47 ∨ s = 37)) → V l Γ T_TapedLinesModel_apply (d + 1) r 90 [.ref 27, .int (iI s), .int b, .int a, .null] [.int (b2 w)] (q_up (q_up (q_up M 27 31 (iI ss.length)) 27 29 (iI ((t.length + 1 : Nat) : Int))) 27 29 (iI t.length), L) (q_n L (mAp M ra ss)) := by
      intro w hw
      refine s_TapedLinesModel_apply_90 _ _ _ _ ?_
      rw [b2_0]
      refine ⟨fun q => h107 (by rw [← hw, q]; simp), fun q => ⟨fun q2 => h107 (fun z => q2 z.2), fun q2 => ?_⟩⟩
      have hb := Classical.not_not.mp q2
      subst hb
      rw [cmb_div (hw.mp (by simpa using q))] at ha
      subst ha
      refine ⟨f0.upk (by simp), q_up_s, rfl, ?_⟩
      rw [q_up_k (by decide)]
      exact hm.2.1
    refine ⟨iI_in (by omega) (by omega) (by omega), iI_in (by omega) (by omega) (by omega), fun _ => ⟨iI_in (by omega) (by omega) (by omega), fun q => h90 true (by simp [q]), fun q => ⟨fun q2 => h90 false (by simp [q, q2]), fun q2 => h90 true (by simp [Classical.not_not.mp q2])⟩⟩, fun q => absurd (Classical.not_not.mp q) h109⟩
def mAd (M : qM) (ra : Except Int (List Int32 × List Int)) (M' : qM) : Prop := fm [38] [26, 29, 31] M M' ∧ match ra with
  | .error e => mX M' e
  | .ok (vs, ss) => mS M' vs ss ∧ M' 27 26 = iI 0
theorem ap1_len {s : Int} {vs vs' : List Int32} (h : ap1 s vs = some (.ok vs')) : vs'.length ≤ vs.length := by
  unfold ap1 at h
  by_cases hs : s = 109
  · rw [if_pos hs] at h
    rcases vs with _ | ⟨b, t⟩
    · cases h
    · simp only [Option.some.injEq, Except.ok.injEq] at h
      subst h
      simp
  · rw [if_neg hs] at h
    rcases vs with _ | ⟨b, _ | ⟨a, t⟩⟩
    · cases h
    · cases h
    · simp only [Option.some.injEq] at h
      rcases ec : cmb s a b with e | v
      · rw [ec] at h; cases h
      · rw [ec] at h
        simp only [Except.ok.injEq] at h
        subst h
        simp
theorem m_applyDown {least : Int} (hlo : 1 ≤ least ∧ least ≤ 4) : ∀ (ss : List Int) (vs : List Int32) (M : qM) (ra : Except Int (List Int32 × List Int)), mS M vs ss → vs.length ≤ 240 → ss.length ≤ 240 → M 27 26 = iI 0 → apD least ss vs = some ra → V l Γ T_TapedLinesModel_applyDown (d + 1 + 1) r 0 [.ref 27, .int (iI least)] [] (M, L) (q_n L (mAd M ra)) := by
  intro ss
  induction ss with
  | nil =>
    intro vs M ra h hv hl h26 ha
    unfold apD at ha
    cases ha
    refine s_TapedLinesModel_applyDown_0 _ ⟨fun q => absurd h26 q, fun _ => ⟨fun _ => ⟨fm.rf, h, h26⟩, fun q => ?_⟩⟩
    exact absurd (by rw [h.2.1]; decide) q
  | cons s ss ih =>
    intro vs M ra h hv hl h26 ha
    have hm := h
    obtain ⟨h1, h2, h3, h4, hs, h5⟩ := h
    simp only [List.length_cons] at hl h2
    refine s_TapedLinesModel_applyDown_0 _ ⟨fun q => absurd h26 q, fun _ => ?_⟩
    have e31 : iI ((ss.length + 1 : Nat) : Int) - iI 1 = iI ss.length := by rw [iI_sub]; exact congrArg iI (by omega)
    rw [h2, e31, iI_0, iI_le (by omega) (by omega) (by omega) (by omega), iI_nat (z := (ss.length : Int)) (by omega) (by omega), Int.toNat_natCast, h4]
    refine ⟨fun q => by omega, fun _ => ⟨iI_in (by omega) (by omega) (by omega), _, cm_rank _, ?_⟩⟩
    rintro x1 M1 ⟨rfl, rfl⟩
    have hrk : 0 ≤ rnk s ∧ rnk s ≤ 4 := by
      unfold rnk
      have := tier_le s
      split <;> omega
    rw [iI_toInt (by omega) (by omega), show rankZ s = rnk s from rfl, iI_lt (by omega) (by omega) (by omega) (by omega)]
    unfold apD at ha
    refine ⟨fun q => ?_, fun q => ?_⟩
    · rw [if_neg (by omega)] at ha
      cases ha
      exact ⟨fm.rf, hm, h26⟩
    · rw [if_pos (by omega)] at ha
      rcases e1 : ap1 s vs with _ | r1
      · rw [e1] at ha; cases ha
      rw [e1] at ha
      refine ⟨_, m_apply hm hv (by omega) h26 (by omega) e1, ?_⟩
      rintro M2 ⟨f2, h2'⟩
      rcases r1 with er | vs'
      · simp only at ha h2'
        cases ha
        obtain ⟨g1, g2, g3⟩ := h2'
        have hx : mX M2 er := ⟨g1, Or.inl g2, ss.length, by omega, g3⟩
        exact s_TapedLinesModel_applyDown_0 _ ⟨fun _ => ⟨f2, hx⟩, fun q2 => absurd hx.ne q2⟩
      · simp only at ha h2'
        have := ap1_len e1
        exact (ih vs' M2 ra h2'.1 (by omega) (by omega) h2'.2 ha).wn (fun M' hM => ⟨f2.tr hM.1, hM.2⟩)
end MCalc
