section MHear
variable {l : Launch} {Γ : qG} {d r : Nat} {L : Nat → Int64}
theorem cm_readBit_torn {M : qM} (h : M 27 36 = iI 1) (u v k : Int32) : V l Γ T_TapedLinesModel_readBit d r 43 [.ref 27, .int u, .int v, .int k] [] (M, L) (q_i L (fun x M' => M' = M)) := by
  have go : V l Γ T_TapedLinesModel_readBit d r 114 [.null, .int u, .null, .null] [] (M, L) (q_i L (fun x M' => M' = M)) := s_TapedLinesModel_readBit_114 _ ⟨fun _ => rfl, fun _ => rfl⟩
  exact s_TapedLinesModel_readBit_43 _ _ _ ⟨fun _ => go, fun _ => ⟨fun _ => go, fun q => absurd (show ¬ M 27 36 = 0 by rw [h]; decide) q⟩⟩
theorem cm_readBit_43 {n a : Nat} {lo : Bool} {f : Nat → Int32} (hn : n ≤ 7754) (ha : a ≤ n) : ∀ (j k : Nat) (M : qM), k + j = hN lo → M 27 33 = iI n → M 40 = f → M 27 35 = iI ((a + k : Nat) : Int) → M 27 36 = iI 0 →
    V l Γ T_TapedLinesModel_readBit d r 43 [.ref 27, .int (b2 lo), .int (iI (hN lo)), .int (iI k)] [] (M, L) (q_i L (fun x M' => ((sameW n f lo j (a + k) = true ∧ x = b2 (!lo) ∧ M' 27 35 = iI ((a + hN lo : Nat) : Int) ∧ M' 27 36 = iI 0) ∨ (sameW n f lo j (a + k) = false ∧ M' 27 36 = iI 1)) ∧ fm [] [35, 36] M M')) := by
  have h24 := hN_pos lo
  intro j
  induction j with
  | zero =>
    intro k M hk h1 hf h3 ht
    refine s_TapedLinesModel_readBit_43 _ _ _ ?_
    rw [iI_le (by omega) (by omega) (by omega) (by omega)]
    refine ⟨fun _ => s_TapedLinesModel_readBit_114 _ ⟨fun q => ⟨Or.inl ⟨rfl, ?_, ?_, ht⟩, fm.rf⟩, fun q => ⟨Or.inl ⟨rfl, ?_, ?_, ht⟩, fm.rf⟩⟩, fun q => absurd (by omega) q⟩
    · rw [b2_0.mp q]
      rfl
    · rw [h3, ← hk]
      rfl
    · have e : lo = true := by
        cases lo with
        | true => rfl
        | false => exact absurd rfl q
      rw [e]
      rfl
    · rw [h3, ← hk]
      rfl
  | succ j ih =>
    intro k M hk h1 hf h3 ht
    have e1 : iI ((a + k : Nat) : Int) + iI 1 = iI ((a + (k + 1) : Nat) : Int) := by
      rw [iI_add]
      rfl
    have torn : sameW n f lo (j + 1) (a + k) = false → V l Γ T_TapedLinesModel_readBit d r 43 [.ref 27, .int (b2 lo), .int (iI (hN lo)), .int (iI ((k : Int) + 1))] [] (q_up (q_up M 27 36 (iI 1)) 27 35 (iI ((a + (k + 1) : Nat) : Int)), L) (q_i L (fun x M' => ((sameW n f lo (j + 1) (a + k) = true ∧ x = b2 (!lo) ∧ M' 27 35 = iI ((a + hN lo : Nat) : Int) ∧ M' 27 36 = iI 0) ∨ (sameW n f lo (j + 1) (a + k) = false ∧ M' 27 36 = iI 1)) ∧ fm [] [35, 36] M M')) := by
      intro hs
      refine (cm_readBit_torn (by rw [q_up_k (by decide), q_up_s]) _ _ _).wi (fun x M' hM => ?_)
      subst hM
      exact ⟨Or.inr ⟨hs, by rw [q_up_k (by decide), q_up_s]⟩, (fm.rf.upk (by simp)).upk (by simp)⟩
    have h86 : ∀ c : Bool, a + k < n → decide (¬ f (a + k) ≤ iI 8) = c → V l Γ T_TapedLinesModel_readBit d r 86 [.ref 27, .int (b2 lo), .int (iI (hN lo)), .int (iI k)] [.int (b2 c), .ref 27] (M, L) (q_i L (fun x M' => ((sameW n f lo (j + 1) (a + k) = true ∧ x = b2 (!lo) ∧ M' 27 35 = iI ((a + hN lo : Nat) : Int) ∧ M' 27 36 = iI 0) ∨ (sameW n f lo (j + 1) (a + k) = false ∧ M' 27 36 = iI 1)) ∧ fm [] [35, 36] M M')) := by
      intro c hlt hc
      have hs : sameW n f lo (j + 1) (a + k) = ((c == lo) && sameW n f lo j (a + (k + 1))) := by
        rw [sameW, hc, decide_eq_true hlt, Bool.true_and]
        rfl
      refine s_TapedLinesModel_readBit_86 _ _ _ _ ?_
      rw [h3, e1, iI_add]
      refine ⟨fun q => ?_, fun q => torn ?_⟩
      · have e : c = lo := by revert q; cases c <;> cases lo <;> decide
        subst e
        rw [hs, beq_self_eq_true, Bool.true_and]
        refine (ih (k + 1) (q_up (q_up M 27 36 (iI 0)) 27 35 (iI ((a + (k + 1) : Nat) : Int))) (by omega) ?_ ?_ q_up_s ?_).wi (fun x M' hM => ⟨hM.1, ((fm.rf.upk (by simp)).upk (by simp)).tr hM.2⟩)
        · rw [q_up_k (by decide), q_up_k (by decide)]; exact h1
        · rw [q_up_o (by decide), q_up_o (by decide)]; exact hf
        · rw [q_up_k (by decide), q_up_s]
      · have e : (c == lo) = false := by revert q; cases c <;> cases lo <;> decide
        rw [hs, e]
        rfl
    refine s_TapedLinesModel_readBit_43 _ _ _ ?_
    rw [h1, h3, hf, e1, iI_le (a := ((hN lo : Nat) : Int)) (b := (k : Int)) (by omega) (by omega) (by omega) (by omega), iI_le (by omega) (by omega) (by omega) (by omega), iI_nat (by omega) (by omega), Int.toNat_natCast, iI_add]
    refine ⟨fun q => by omega, fun _ => ⟨fun q => absurd ht q, fun _ => ⟨fun q => torn ?_, fun q => ⟨iI_in (by omega) (by omega) (by omega), fun q2 => h86 false (by omega) (by simpa using q2), fun q2 => h86 true (by omega) (by simpa using q2)⟩⟩⟩⟩
    rw [sameW, decide_eq_false (by omega), Bool.false_and, Bool.false_and]
theorem cm_readBit {M : qM} {n a : Nat} (hn : n ≤ 7754) (h1 : M 27 33 = iI n) (h3 : M 27 35 = iI a) (ha : a ≤ n) (ht : M 27 36 = iI 0) :
    V l Γ T_TapedLinesModel_readBit d r 0 [.ref 27, .null, .null, .null] [] (M, L) (q_i L (fun x M' => ((∃ b a', hBit n (M 40) a = some (b, a') ∧ x = b2 b ∧ M' 27 35 = iI (a' : Nat) ∧ M' 27 36 = iI 0) ∨ (hBit n (M 40) a = none ∧ M' 27 36 = iI 1)) ∧ fm [] [35, 36] M M')) := by
  have k43 : ∀ lo, lngW n (M 40) a = lo → V l Γ T_TapedLinesModel_readBit d r 43 [.ref 27, .int (b2 lo), .int (iI (hN lo)), .int (iI 0)] [] (M, L) (q_i L (fun x M' => ((∃ b a', hBit n (M 40) a = some (b, a') ∧ x = b2 b ∧ M' 27 35 = iI (a' : Nat) ∧ M' 27 36 = iI 0) ∨ (hBit n (M 40) a = none ∧ M' 27 36 = iI 1)) ∧ fm [] [35, 36] M M')) := by
    intro lo hlo
    refine (cm_readBit_43 hn ha (hN lo) 0 M (by omega) h1 rfl h3 ht).wi (fun x M' hM => ⟨?_, hM.2⟩)
    rcases hM.1 with ⟨hs1, hx, hh, htt⟩ | ⟨hs1, htt⟩
    · refine Or.inl ⟨!lo, a + hN lo, ?_, hx, hh, htt⟩
      unfold hBit
      rw [hlo, if_pos (show sameW n (M 40) lo (hN lo) a = true from hs1)]
    · refine Or.inr ⟨?_, htt⟩
      unfold hBit
      rw [hlo, if_neg (by rw [show sameW n (M 40) lo (hN lo) a = false from hs1]; decide)]
  have k30 : ∀ lo, lngW n (M 40) a = lo → V l Γ T_TapedLinesModel_readBit d r 30 [.ref 27, .null, .null, .null] [.int (b2 lo)] (M, L) (q_i L (fun x M' => ((∃ b a', hBit n (M 40) a = some (b, a') ∧ x = b2 b ∧ M' 27 35 = iI (a' : Nat) ∧ M' 27 36 = iI 0) ∨ (hBit n (M 40) a = none ∧ M' 27 36 = iI 1)) ∧ fm [] [35, 36] M M')) := by
    intro lo hlo
    cases lo with
    | false => exact s_TapedLinesModel_readBit_30 _ ⟨fun _ => k43 false hlo, fun q => absurd (by decide) q⟩
    | true => exact s_TapedLinesModel_readBit_30 _ ⟨fun q => absurd q (by decide), fun _ => k43 true hlo⟩
  refine s_TapedLinesModel_readBit_0 ?_
  rw [h1, h3, iI_le (by omega) (by omega) (by omega) (by omega), iI_nat (by omega) (by omega), Int.toNat_natCast]
  refine ⟨fun q => k30 false ?_, fun q => ⟨iI_in (by omega) (by omega) (by omega), fun q2 => k30 false ?_, fun q2 => k30 true ?_⟩⟩
  · unfold lngW
    rw [decide_eq_false (by omega), Bool.false_and]
  · unfold lngW
    rw [decide_eq_false (show ¬ ¬ M 40 a ≤ iI 8 by simpa using q2), Bool.and_false]
  · unfold lngW
    rw [decide_eq_true (show a < n by omega), decide_eq_true q2]
    rfl
/-- torn stays torn -/
theorem cm_readByte_62t {M : qM} (h : M 27 36 = iI 1) (v : Int32) : V l Γ T_TapedLinesModel_readByte (d + 1) r 62 [.ref 27, .null, .int v, .null] [] (M, L) (q_i L (fun x M' => M' 27 36 = iI 1 ∧ fm [] [35, 36] M M')) :=
  s_TapedLinesModel_readByte_62 _ ⟨fun _ => ⟨q_up_s, fm.rf.upk (by simp)⟩, fun q => absurd (show ¬ M 27 36 = 0 by rw [h]; decide) q⟩
theorem cm_readByte_34t {M : qM} (h : M 27 36 = iI 1) (v k : Int32) : V l Γ T_TapedLinesModel_readByte (d + 1) r 34 [.ref 27, .null, .int v, .int k] [] (M, L) (q_i L (fun x M' => M' 27 36 = iI 1 ∧ fm [] [35, 36] M M')) :=
  s_TapedLinesModel_readByte_34 _ _ ⟨fun _ => cm_readByte_62t h _, fun _ => ⟨fun _ => cm_readByte_62t h _, fun q => absurd (show ¬ M 27 36 = 0 by rw [h]; decide) q⟩⟩
theorem cm_readByte_torn {M : qM} (h : M 27 36 = iI 1) : V l Γ T_TapedLinesModel_readByte (d + 1) r 0 [.ref 27, .null, .null, .null] [] (M, L) (q_i L (fun x M' => M' 27 36 = iI 1 ∧ fm [] [35, 36] M M')) :=
  s_TapedLinesModel_readByte_0 (s_TapedLinesModel_readByte_2 _ ⟨fun _ => cm_readByte_34t h _ _, fun _ => ⟨fun _ => cm_readByte_34t h _ _, fun q => absurd (show ¬ M 27 36 = 0 by rw [h]; decide) q⟩⟩)
theorem cm_readByte_34 {n : Nat} {f : Nat → Int32} (hn : n ≤ 7754) : ∀ (j a : Nat) (v : Int) (M : qM), j ≤ 8 → a ≤ n → 0 ≤ v → v < 2 ^ (8 - j) → M 27 33 = iI n → M 40 = f → M 27 35 = iI a → M 27 36 = iI 0 →
    V l Γ T_TapedLinesModel_readByte (d + 1) r 34 [.ref 27, .null, .int (iI v), .int (iI ((8 - j : Nat) : Int))] [] (M, L) (q_i L (fun x M' => ((∃ v' a2 a3, hBits n f j a v = some (v', a2) ∧ hBit n f a2 = some (true, a3) ∧ x = iI v' ∧ M' 27 35 = iI (a3 : Nat) ∧ M' 27 36 = iI 0) ∨ ((∀ v' a2, hBits n f j a v = some (v', a2) → ∀ a3, hBit n f a2 ≠ some (true, a3)) ∧ M' 27 36 = iI 1)) ∧ fm [] [35, 36] M M')) := by
  intro j
  induction j with
  | zero =>
    intro a v M hj ha h0 hv h1 hf h3 ht
    refine s_TapedLinesModel_readByte_34 _ _ ⟨fun _ => ?_, fun q => absurd ((iI_le (by omega) (by omega) (by omega) (by omega)).mpr (by omega)) q⟩
    refine s_TapedLinesModel_readByte_62 _ ⟨fun q => absurd ht q, fun _ => ⟨_, cm_readBit hn h1 h3 ha ht, ?_⟩⟩
    subst hf
    rintro x M' ⟨⟨b, a', hb, rfl, hh, htt⟩ | ⟨hb, htt⟩, hfm⟩
    · cases b with
      | true =>
        refine ⟨fun q => absurd q (by decide), fun _ => ⟨fun _ => ⟨Or.inl ⟨v, a, a', rfl, hb, rfl, ?_, q_up_s⟩, hfm.upk (by simp)⟩, fun q => absurd htt q⟩⟩
        rw [q_up_k (by decide)]
        exact hh
      | false =>
        refine ⟨fun _ => ⟨Or.inr ⟨fun v' a2 e a3 e3 => ?_, q_up_s⟩, hfm.upk (by simp)⟩, fun q => absurd rfl q⟩
        simp only [hBits, Option.some.injEq, Prod.mk.injEq] at e
        rw [← e.2, hb] at e3
        cases e3
    · have hno : ∀ v' a2, hBits n (M 40) 0 a v = some (v', a2) → ∀ a3, hBit n (M 40) a2 ≠ some (true, a3) := by
        intro v' a2 e a3 e3
        simp only [hBits, Option.some.injEq, Prod.mk.injEq] at e
        rw [← e.2, hb] at e3
        cases e3
      exact ⟨fun _ => ⟨Or.inr ⟨hno, q_up_s⟩, hfm.upk (by simp)⟩, fun _ => ⟨fun q => absurd (htt.symm.trans q) (by decide), fun _ => ⟨Or.inr ⟨hno, q_up_s⟩, hfm.upk (by simp)⟩⟩⟩
  | succ j ih =>
    intro a v M hj ha h0 hv h1 hf h3 ht
    have e8 : (2 : Int) ^ (8 - j) = 2 * 2 ^ (8 - (j + 1)) := by
      have e2 : 8 - j = (8 - (j + 1)) + 1 := by omega
      rw [e2, Int.pow_succ]
      omega
    refine s_TapedLinesModel_readByte_34 _ _ ⟨fun q => ?_, fun _ => ⟨fun q => absurd ht q, fun _ => ⟨_, cm_readBit hn h1 h3 ha ht, ?_⟩⟩⟩
    · rw [iI_le (by omega) (by omega) (by omega) (by omega)] at q
      omega
    subst hf
    rintro x M' ⟨⟨b, a', hb, rfl, hh, htt⟩ | ⟨hb, htt⟩, hfm⟩
    · have ek : iI ((8 - (j + 1) : Nat) : Int) + iI 1 = iI ((8 - j : Nat) : Int) := by
        rw [iI_add]
        congr 1
        omega
      rw [(addB (k := 8 - (j + 1)) (by omega) h0 hv b).2, ek]
      have hbits : hBits n (M 40) (j + 1) a v = hBits n (M 40) j a' (if b = true then v + 2 ^ (8 - (j + 1)) else v) := by
        rw [hBits, hb]
        cases b <;> rfl
      rw [hbits]
      refine (ih a' _ M' (by omega) (hBit_le hb).1 ?_ ?_ (by rw [hfm.2 33 (by simp)]; exact h1) (hfm.1 40 (by simp) (by decide)) hh htt).wi (fun x M2 hM => ⟨hM.1, hfm.tr hM.2⟩)
      · split <;> omega
      · rw [e8]
        split <;> omega
    · refine (cm_readByte_34t htt _ _).wi (fun x M2 hM => ⟨Or.inr ⟨fun v' a2 e => ?_, hM.1⟩, hfm.tr hM.2⟩)
      rw [hBits, hb] at e
      cases e
/-- what readByte leaves -/
def rbP (M : qM) (f : Nat → Int32) (n a : Nat) (x : Int32) (M' : qM) : Prop := ((∃ v a3, hByte n f a = some (v, a3) ∧ x = iI v ∧ M' 27 35 = iI (a3 : Nat) ∧ M' 27 36 = iI 0) ∨ (hByte n f a = none ∧ M' 27 36 = iI 1)) ∧ fm [] [35, 36] M M'
theorem cm_readByte_2 {n a0 : Nat} {f : Nat → Int32} (hn : n ≤ 7754) : ∀ (m a : Nat) (M : qM), n < a + 2 * m → a ≤ n → hSkip n f (n + 1) a0 = hSkip n f (n + 1) a → M 27 33 = iI n → M 40 = f → M 27 35 = iI a → M 27 36 = iI 0 →
    V l Γ T_TapedLinesModel_readByte (d + 1) r 2 [.ref 27, .int (iI 1), .null, .null] [] (M, L) (q_i L (rbP M f n a0)) := by
  intro m
  induction m with
  | zero => intro a M hm ha; omega
  | succ m ih =>
    intro a M hm ha hs h1 hf h3 ht
    refine s_TapedLinesModel_readByte_2 _ ⟨fun q => absurd q (by decide), fun _ => ⟨fun q => absurd ht q, fun _ => ⟨_, cm_readBit hn h1 h3 ha ht, ?_⟩⟩⟩
    subst hf
    rintro x M' ⟨⟨b, a', hb, rfl, hh, htt⟩ | ⟨hb, htt⟩, hfm⟩
    · have hle := hBit_le hb
      have h1' : M' 27 33 = iI n := by rw [hfm.2 33 (by simp)]; exact h1
      have hf' : M' 40 = M 40 := hfm.1 40 (by simp) (by decide)
      cases b with
      | true =>
        refine ⟨fun q => absurd rfl q, fun _ => (ih a' M' (by omega) hle.1 ?_ h1' hf' hh htt).wi (fun x M2 hM => ⟨hM.1, hfm.tr hM.2⟩)⟩
        rw [hs, hSkip, hb]
        exact hSkip_more n (n + 1) a' (by omega) (by omega)
      | false =>
        refine ⟨fun _ => ?_, fun q => absurd (show ¬ b2 false = iI 1 by decide) q⟩
        have hs2 : hSkip n (M 40) (n + 1) a0 = some a' := by
          rw [hs, hSkip, hb]
        refine s_TapedLinesModel_readByte_2 _ ⟨fun _ => ?_, fun q => absurd rfl q⟩
        refine (cm_readByte_34 (f := M 40) hn 8 a' 0 M' (by omega) hle.1 (by omega) (by decide) h1' hf' hh htt).wi (fun x M2 hM => ⟨?_, hfm.tr hM.2⟩)
        rcases hM.1 with ⟨v', a2, a3, e1, e2, hx, q1, q2⟩ | ⟨hno, hz⟩
        · refine Or.inl ⟨v', a3, ?_, hx, q1, q2⟩
          simp only [hByte, hs2, e1, e2]
        · refine Or.inr ⟨?_, hz⟩
          unfold hByte
          rw [hs2]
          dsimp only
          cases e1 : hBits n (M 40) 8 a' 0 with
          | none => rfl
          | some q =>
            obtain ⟨v', a2⟩ := q
            dsimp only
            have h3 := hno v' a2 e1
            cases e2 : hBit n (M 40) a2 with
            | none => rfl
            | some q2 =>
              obtain ⟨b, a3⟩ := q2
              cases b with
              | true => exact absurd e2 (h3 a3)
              | false => rfl
    · have hnone : hByte n (M 40) a0 = none := by
        unfold hByte
        rw [hs, hSkip, hb]
      have go : ∀ u, V l Γ T_TapedLinesModel_readByte (d + 1) r 2 [.ref 27, .int u, .null, .null] [] (M', L) (q_i L (rbP M (M 40) n a0)) := by
        intro u
        have g2 := (cm_readByte_34t (l := l) (Γ := Γ) (d := d) (r := r) (L := L) htt (iI 0) (iI 0)).wi (P := rbP M (M 40) n a0) (fun x M2 hM => ⟨Or.inr ⟨hnone, hM.1⟩, hfm.tr hM.2⟩)
        exact s_TapedLinesModel_readByte_2 _ ⟨fun _ => g2, fun _ => ⟨fun _ => g2, fun q => absurd (show ¬ M' 27 36 = 0 by rw [htt]; decide) q⟩⟩
      exact ⟨fun _ => go _, fun _ => go _⟩
theorem cm_readByte {M : qM} {n a : Nat} (hn : n ≤ 7754) (h1 : M 27 33 = iI n) (h3 : M 27 35 = iI a) (ha : a ≤ n) (ht : M 27 36 = iI 0) :
    V l Γ T_TapedLinesModel_readByte (d + 1) r 0 [.ref 27, .null, .null, .null] [] (M, L) (q_i L (rbP M (M 40) n a)) :=
  s_TapedLinesModel_readByte_0 (cm_readByte_2 hn (n + 1) a M (by omega) ha rfl h1 rfl h3 ht)
end MHear
