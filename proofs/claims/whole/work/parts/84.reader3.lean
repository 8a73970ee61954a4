-- expressions
theorem rOne_sk (p : Int → Bool) (u : List Int) : rOne p (sk u) = rOne p u := by
  unfold rOne
  rw [sk_sk]
theorem rNumB_sk (a b : Int) (u : List Int) : rNumB a b (sk u) = rNumB a b u := by
  unfold rNumB rNum
  rw [sk_sk]
theorem RP.next {M M1 M2 : qM} {t : Nat} {txt out v o u : List Int} {x : Int32} {f g : List Int → rR} (e : f u = (true, v, o)) (f1 : fr5 M M1) (h : RP M1 t txt (out ++ o) (g v) x M2) : RP M t txt out (rThen f g u) x M2 := by
  rw [rThen_t e]
  obtain ⟨hx, ⟨o', h1, h2⟩, f2⟩ := h
  exact ⟨hx, ⟨o', h1, fun q => by rw [h2 q]; simp⟩, f1.tr f2⟩
theorem RP.stop {M M2 : qM} {t : Nat} {txt out v o u o' : List Int} {f g : List Int → rR} (e : f u = (false, v, o)) (f1 : fr5 M M2) (h : rdS M2 t txt v o') : RP M t txt out (rThen f g u) (b2 false) M2 := by
  rw [rThen_f e]
  exact ⟨rfl, ⟨o', h, fun q => by cases q⟩, f1⟩
theorem RP.from {M M1 M2 : qM} {t : Nat} {txt out : List Int} {q : rR} {x : Int32} (f1 : fr5 M M1) (h : RP M1 t txt out q x M2) : RP M t txt out q x M2 := ⟨h.1, h.2.1, f1.tr h.2.2⟩
section Reader3
variable {l : Launch} {Γ : qG} {d r : Nat} {L : Nat → Int64}
theorem c_readVariable2 {t : Nat} (ho : (t = 1) ∨ (t = 7)) {txt u out : List Int} {M : qM} (h : rdS M t txt u out) : V l Γ T_LineReader_readVariable (d + 1 + 1) r 0 [.ref 5] [] (M, L) (q_i L (fun x M' => RP M t txt out (rOne isV u) x M' ∧ ((rOne isV u).1 = false → rdS M' t txt (sk u) out))) := by
  refine s_LineReader_readVariable_0 t ho ⟨_, c_skip ho txt out u M h, ?_⟩
  rintro M1 ⟨h1, f1⟩
  refine ⟨_, c_ahead0 ho h1, ?_⟩
  rintro x2 M2 ⟨rfl, rfl⟩
  have hz := hdz_lo h1
  refine ⟨_, c_isVariable _, ?_⟩
  rintro x3 M3 ⟨rfl, rfl⟩
  rw [iI_toInt (by omega) (by omega), b2_0]
  have f2 : fr5 M M3 := f1.wk (by simp)
  unfold rOne
  rcases e : sk u with _ | ⟨c, v⟩
  · rw [e] at h1 hz
    exact ⟨fun _ => ⟨⟨rfl, ⟨out, h1, fun q => by cases q⟩, f2⟩, fun _ => h1⟩, fun q => absurd (by decide) q⟩
  · rw [e] at h1 hz
    refine ⟨fun q => ?_, fun q => ?_⟩
    · have q : isV c = false := q
      simp only [q]
      exact ⟨⟨rfl, ⟨out, h1, fun q => by cases q⟩, f2⟩, fun _ => h1⟩
    · have q : isV c = true := by simpa [hdz] using q
      simp only [if_pos q]
      refine ⟨_, c_take ho h1, ?_⟩
      rintro x4 M4 ⟨rfl, h3, f3⟩
      exact ⟨fun q => absurd q (by decide), fun _ => ⟨⟨rfl, ⟨_, h3, fun _ => rfl⟩, f2.tr f3⟩, fun q => by cases q⟩⟩
theorem hdz_cons {u : List Int} {z : Int} (h : hdz u = z) (hz : z ≠ -1) : ∃ v, u = z :: v := by
  cases u with
  | nil => exact absurd h.symm hz
  | cons c v => exact ⟨v, by rw [← h]; rfl⟩
theorem c_exp {t : Nat} (ho : (t = 1) ∨ (t = 7)) (txt : List Int) : ∀ (n op : Nat) (w : Bool) (u out : List Int) (M : qM), n ≤ 257 → op + 1 ≤ 4 → rdS M t txt u out →
    V l Γ T_LineReader_readExpression (d + 1 + 1 + 1) r 6 [.ref 5, .int (iI op), .int (b2 w), .int (iI (257 - n)), .null] [] (M, L) (q_i L (RP M t txt out (rExp n op w u))) := by
  intro n
  induction n with
  | zero =>
    intro op w u out M hn hop h
    refine s_LineReader_readExpression_6 t ho _ _ _ ?_
    rw [iI_lt (by omega) (by omega) (by omega) (by omega)]
    exact ⟨fun _ => ⟨rfl, ⟨out, h, fun q => by cases q⟩, fr5.rf⟩, fun q => by omega⟩
  | succ n ih =>
    intro op w u out M hn hop h
    -- a code is taken and the loop goes on
    have go : ∀ (p : Int → Bool) (op' : Nat) (w' : Bool) (c : Int) (v out1 : List Int) (M1 : qM) (u1 : List Int), op' + 1 ≤ 4 → sk u1 = c :: v → p c = true → rdS M1 t txt (c :: v) out1 → fr5 M M1 →
        ∃ P3 : Int32 → qM → Prop, V l Γ T_LineReader_take (d + 1 + 1) 0 0 [.ref 5] [] (M1, L) (q_i L P3) ∧ ∀ (x3 : Int32) (M3 : qM), P3 x3 M3 → V l Γ T_LineReader_readExpression (d + 1 + 1 + 1) r 6 [.ref 5, .int (iI op'), .int (b2 w'), .int (iI (257 - ((n + 1 : Nat) : Int)) + (iI 1)), .null] [] (M3, L) (q_i L (RP M t txt out1 (rThen (rOne p) (rExp n op' w') u1))) := by
      intro p op' w' c v out1 M1 u1 hop' e hp h1 f1
      refine ⟨_, c_take ho h1, ?_⟩
      rintro x3 M3 ⟨-, h3, f3⟩
      have hk : (iI (257 - ((n + 1 : Nat) : Int)) + (iI 1)) = iI (257 - (n : Int)) := by
        rw [iI_add]
        exact congrArg iI (by omega)
      rw [hk]
      have e1 : rOne p u1 = (true, v, [c]) := by
        unfold rOne
        rw [e]
        simp [hp]
      refine (ih op' w' v (out1 ++ [c]) M3 (by omega) hop' h3).mono (fun o S hq => ?_)
      obtain ⟨x4, M4, e3, e4, h4⟩ := hq
      exact ⟨x4, M4, e3, e4, RP.next e1 (f1.tr f3) h4⟩
    refine s_LineReader_readExpression_6 t ho _ _ _ ?_
    rw [iI_lt (by omega) (by omega) (by omega) (by omega)]
    refine ⟨fun q => by omega, fun _ => ⟨_, c_skip ho txt out u M h, ?_⟩⟩
    rintro M1 ⟨h1, f1⟩
    have f1 : fr5 M M1 := f1.wk (by simp)
    refine ⟨_, c_ahead0 ho h1, ?_⟩
    rintro x2 M2 ⟨rfl, rfl⟩
    have hz := hdz_lo h1
    have hk : (iI (257 - ((n + 1 : Nat) : Int)) + (iI 1)) = iI (257 - (n : Int)) := by
      rw [iI_add]
      exact congrArg iI (by omega)
    cases w with
    | true =>
      refine ⟨fun q => absurd q (by decide), fun _ => ?_⟩
      rw [iI_eq (by omega) (by omega) (by omega) (by omega)]
      refine ⟨fun h45 => ?_, fun h45 => ?_⟩
      · refine s_LineReader_readExpression_43 t ho _ _ _ _ ?_
        rw [iI_eq (by omega) (by omega) (by omega) (by omega), iI_eq (by omega) (by omega) (by omega) (by omega)]
        -- brackets
        have br : (hdz (sk u) = 40 ∨ hdz (sk u) = 64) → V l Γ T_LineReader_readExpression (d + 1 + 1 + 1) r 61 [.ref 5, .int (iI op), .int (b2 true), .int (iI (257 - ((n + 1 : Nat) : Int))), .int (iI (hdz (sk u)))] [] (M2, L) (q_i L (RP M t txt out (rExp (n + 1) op true u))) := by
          intro hb
          unfold rExp
          rw [if_neg h45, if_pos hb]
          refine s_LineReader_readExpression_61 t ho _ _ _ _ ?_
          rw [iI_add, iI_lt (by omega) (by omega) (by omega) (by omega), iI_eq (by omega) (by omega) (by omega) (by omega)]
          refine ⟨fun hlt => ?_, fun hge => ?_⟩
          · rw [if_neg (show ¬ 4 ≤ op + 1 by omega)]
            have eop : iI ((op : Int)) + iI 1 = iI ((op + 1 : Nat) : Int) := by rw [iI_add]; exact congrArg iI (by omega)
            -- the bracket
            have mk : ∀ (u1 out1 : List Int) (M3 : qM) (Qr : rR), rdS M3 t txt u1 out1 → (∀ x M', RP M3 t txt out1 (rThen (rOne (fun c => c == 40)) (rExp n (op + 1) true) u1) x M' → RP M t txt out Qr x M') → V l Γ T_LineReader_readExpression (d + 1 + 1 + 1) r 82 [.ref 5, .int (iI op), .int (b2 true), .int (iI (257 - ((n + 1 : Nat) : Int))), .null] [] (M3, L) (q_i L (RP M t txt out Qr)) := by
              intro u1 out1 M3 Qr h3 hQ
              refine s_LineReader_readExpression_82 t ho _ _ _ ⟨_, c_readMark ho 40 (by decide) h3, ?_⟩
              rintro x4 M4 ⟨rfl, ⟨o', h4, h5⟩, f4⟩
              rw [b2_0, eop, hk]
              have er : rMark 40 u1 = rOne (fun c => c == 40) u1 := rfl
              rw [er] at h4 h5 ⊢
              rcases e1 : rOne (fun c => c == 40) u1 with ⟨b, v, o⟩
              rw [e1] at h4 h5
              cases b with
              | true =>
                refine ⟨fun _ => ?_, fun q => absurd (by simp) q⟩
                have h5 := h5 rfl
                subst h5
                refine (ih (op + 1) true v _ M4 (by omega) (by omega) h4).mono (fun o S hq => ?_)
                obtain ⟨x5, M5, e3, e4, h6⟩ := hq
                exact ⟨x5, M5, e3, e4, hQ _ _ (RP.next e1 f4 h6)⟩
              | false => exact ⟨fun q => absurd rfl q, fun _ => hQ _ _ (RP.stop e1 f4 h4)⟩
            refine ⟨fun h64 => ?_, fun h64 => ?_⟩
            · rw [if_neg h64]
              refine mk (sk u) out M2 _ h1 (fun x M' hq => ?_)
              have er : rThen (rOne (fun c => c == 40)) (rExp n (op + 1) true) (sk u) = rThen (rOne (fun c => c == 40)) (rExp n (op + 1) true) u := by
                unfold rThen
                rw [rOne_sk]
              rw [er] at hq
              exact RP.from f1 hq
            · have h64 : hdz (sk u) = 64 := by simpa using h64
              rw [if_pos h64]
              obtain ⟨v, e⟩ := hdz_cons h64 (by decide)
              rw [e] at h1
              refine ⟨_, c_take ho h1, ?_⟩
              rintro x3 M3 ⟨-, h3, f3⟩
              refine mk v (out ++ [64]) M3 _ h3 (fun x M' hq => ?_)
              have e1 : rOne (fun c => c == 64) u = (true, v, [64]) := by
                unfold rOne
                rw [e]
                rfl
              exact RP.next e1 (f1.tr f3) hq
          · rw [if_pos (show 4 ≤ op + 1 by omega)]
            exact ⟨rfl, ⟨out, h1, fun q => by cases q⟩, f1⟩
        refine ⟨fun q => absurd q (by decide), fun _ => ⟨fun h40 => br (Or.inl h40), fun h40 => ⟨fun h64 => ?_, fun h64 => br (Or.inr (by simpa using h64))⟩⟩⟩
        unfold rExp
        rw [if_neg h45, if_neg (by rintro (q | q); exact h40 q; exact h64 q)]
        refine s_LineReader_readExpression_99 t ho _ _ _ _ ⟨fun q => absurd q (by decide), fun _ => ⟨_, c_readVariable2 ho h1, ?_⟩⟩
        rintro x4 M4 ⟨⟨rfl, ⟨o', h4, h5⟩, f4⟩, h6⟩
        rw [rOne_sk] at h4 h5 h6 ⊢
        rw [b2_0, hk]
        rcases e1 : rOne isV u with ⟨b, v, o⟩
        rw [e1] at h4 h5 h6
        cases b with
        | true =>
          simp only [if_true]
          refine ⟨fun _ => ?_, fun q => absurd (by simp) q⟩
          have h5 := h5 rfl
          subst h5
          refine (ih op false v _ M4 (by omega) (by omega) h4).mono (fun o S hq => ?_)
          obtain ⟨x5, M5, e3, e4, h6⟩ := hq
          exact ⟨x5, M5, e3, e4, RP.next e1 (f1.tr f4) h6⟩
        | false =>
          simp only [Bool.false_eq_true, if_false]
          refine ⟨fun q => absurd trivial q, fun _ => ?_⟩
          have h6 := h6 rfl
          rw [sk_sk] at h6
          refine ⟨_, c_readNumber ho (by decide) (by decide) h6, ?_⟩
          rintro x5 M5 ⟨rfl, ⟨o5, h7, h8⟩, f5⟩
          have hge := rNumL_ge 0 32767 (-1) (sk (sk u)) (by decide) (by decide) (by decide)
          have hge : -1 ≤ (rNum 0 32767 (sk u)).1 ∧ (rNum 0 32767 (sk u)).1 ≤ 32767 := hge
          rw [iI_eq (by omega) (by omega) (by omega) (by omega)]
          have en : rNum 0 32767 (sk u) = rNum 0 32767 u := by unfold rNum; rw [sk_sk]
          rw [en] at h7 h8 ⊢
          have eb : rNumB 0 32767 u = (decide ((rNum 0 32767 u).1 ≠ -1), (rNum 0 32767 u).2.1, (rNum 0 32767 u).2.2) := rfl
          refine ⟨fun q => ?_, fun q => ?_⟩
          · have e2 : rNumB 0 32767 u = (true, (rNum 0 32767 u).2.1, (rNum 0 32767 u).2.2) := by rw [eb]; simp [q]
            have h8 := h8 q
            subst h8
            refine (ih op false _ _ M5 (by omega) (by omega) h7).mono (fun o S hq => ?_)
            obtain ⟨x6, M6, e3, e4, h9⟩ := hq
            exact ⟨x6, M6, e3, e4, RP.next e2 ((f1.tr f4).tr f5) h9⟩
          · have q : (rNum 0 32767 u).1 = -1 := by simpa using q
            have e2 : rNumB 0 32767 u = (false, (rNum 0 32767 u).2.1, (rNum 0 32767 u).2.2) := by rw [eb]; simp [q]
            exact RP.stop e2 ((f1.tr f4).tr f5) h7
      · have h45 : hdz (sk u) = 45 := by simpa using h45
        unfold rExp
        rw [if_pos h45]
        obtain ⟨v, e⟩ := hdz_cons h45 (by decide)
        rw [e] at h1
        exact go (fun c => c == 45) op true 45 v out M2 u hop e rfl h1 f1
    | false =>
      refine ⟨fun _ => ?_, fun q => absurd rfl q⟩
      refine s_LineReader_readExpression_43 t ho _ _ _ _ ⟨fun _ => ?_, fun q => absurd rfl q⟩
      refine s_LineReader_readExpression_99 t ho _ _ _ _ ⟨fun _ => ⟨_, c_isOperator _, ?_⟩, fun q => absurd rfl q⟩
      rintro x3 M3 ⟨rfl, rfl⟩
      rw [iI_toInt (by omega) (by omega), b2_0, iI_eq (by omega) (by omega) (by omega) (by omega), iI_0, iI_le (by omega) (by omega) (by omega) (by omega)]
      unfold rExp
      have last : ¬ (hdz (sk u) = 41 ∧ 0 < op) → V l Γ T_LineReader_readExpression (d + 1 + 1 + 1) r 169 [.null, .int (iI op), .null, .null, .null] [] (M3, L) (q_i L (RP M t txt out (decide (op = 0), sk u, []))) := by
        intro _
        refine s_LineReader_readExpression_169 t ho _ ?_
        rw [iI_0, iI_eq (by omega) (by omega) (by omega) (by omega)]
        refine ⟨fun q => ⟨b2_f (by simp; omega), ⟨out, h1, fun _ => by simp⟩, f1⟩, fun q => ⟨b2_t (by simp; omega), ⟨out, h1, fun _ => by simp⟩, f1⟩⟩
      refine ⟨fun q => ?_, fun q => ?_⟩
      · have q : tier (hdz (sk u)) = -1 := by simpa using q
        rw [if_neg (by simp [q])]
        refine ⟨fun h41 => ?_, fun h41 => ⟨fun h0 => ?_, fun h0 => ?_⟩⟩
        · rw [if_neg (fun z => h41 z.1)]
          exact last (fun z => h41 z.1)
        · have : ¬ (hdz (sk u) = 41 ∧ 0 < op) := by omega
          rw [if_neg this]
          exact last this
        · have h41 : hdz (sk u) = 41 := by simpa using h41
          rw [if_pos ⟨h41, by omega⟩]
          obtain ⟨v, e⟩ := hdz_cons h41 (by decide)
          rw [e] at h1
          have eop : iI ((op : Int)) + iI (-1) = iI ((op - 1 : Nat) : Int) := by rw [iI_add]; exact congrArg iI (by omega)
          rw [eop]
          exact go (fun c => c == 41) (op - 1) false 41 v out M3 u (by omega) e rfl h1 f1
      · have q : tier (hdz (sk u)) ≠ -1 := by simpa using q
        rw [if_pos q]
        rcases e : sk u with _ | ⟨c, v⟩
        · rw [e] at q; exact absurd (by decide) q
        · rw [e] at q h1
          have q : tier c ≠ -1 := q
          exact go (fun c => decide (tier c ≠ -1)) op true c v out M3 u hop e (by simpa using q) h1 f1
theorem c_readE {t : Nat} (ho : (t = 1) ∨ (t = 7)) {txt u out : List Int} {M : qM} (h : rdS M t txt u out) : V l Γ T_LineReader_readExpression (d + 1 + 1 + 1) r 0 [.ref 5, .null, .null, .null, .null] [] (M, L) (q_i L (RP M t txt out (rE u))) :=
  s_LineReader_readExpression_0 t ho (c_exp ho txt 257 0 true u out M (by decide) (by decide) h)
theorem c_readPrinted {t : Nat} (ho : (t = 1) ∨ (t = 7)) {txt u out : List Int} {M : qM} (h : rdS M t txt u out) : V l Γ T_LineReader_readPrinted (d + 1 + 1 + 1 + 1) r 0 [.ref 5, .null] [] (M, L) (q_i L (RP M t txt out (rPrinted u))) := by
  refine s_LineReader_readPrinted_0 t ho ⟨_, c_skip ho txt out u M h, ?_⟩
  rintro M1 ⟨h1, f1⟩
  have f1 : fr5 M M1 := f1.wk (by simp)
  refine ⟨_, c_ahead0 ho h1, ?_⟩
  rintro x2 M2 ⟨rfl, rfl⟩
  have hz := hdz_lo h1
  rw [iI_eq (by omega) (by omega) (by omega) (by omega)]
  unfold rPrinted
  refine ⟨fun q => ?_, fun q => ?_⟩
  · rw [if_pos q]
    obtain ⟨v, e⟩ := hdz_cons q (by decide)
    rw [e] at h1
    refine ⟨_, c_take ho h1, ?_⟩
    rintro x3 M3 ⟨-, h3, f3⟩
    obtain ⟨w, e2, hw, -⟩ := h3.2.2.2.1
    rw [hw]
    have e1 : rMark 34 u = (true, v, [34]) := by
      unfold rMark rOne
      rw [e]
      rfl
    refine (c_quote ho txt v _ M3 w h3 e2).mono (fun o S hq => ?_)
    obtain ⟨x5, M5, e3, e4, h6⟩ := hq
    exact ⟨x5, M5, e3, e4, RP.next e1 (f1.tr f3) h6⟩
  · rw [if_neg q]
    refine ⟨_, c_readE ho h1, ?_⟩
    intro x4 M4 h4
    have hx := h4.1
    refine ⟨by rw [hx]; exact b2_n _, ?_⟩
    have : rE (sk u) = rE u := by
      unfold rE rExp
      simp only [sk_sk, rOne_sk]
      unfold rThen
      simp only [rOne_sk, rNumB_sk]
    rw [this] at h4
    exact RP.from f1 h4
end Reader3
