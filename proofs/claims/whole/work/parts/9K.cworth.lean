-- what an expression is worth, the class
theorem cQ.of {e b b' : Nat} {M M1 M2 : qM} {res : Except Int (Int32 × List Int)} {x : Int32} (h : cQ e b M1 res x M2) (f : fr [12] M M1) (hb : b ≤ b') : cQ e b' M res x M2 := by
  refine ⟨f.tr h.1, ?_⟩
  have h2 := h.2
  rcases res with er | ⟨v, r⟩
  · exact cE.wk h2 hb
  · exact h2
section Worth
variable {l : Launch} {Γ : qG} {d r : Nat} {L : Nat → Int64} {va ce : Nat → Int32}
theorem k_one_154 {M : qM} (neg : Bool) (v : Int32) : V l Γ T_Calculator_one (d + 1) r 154 [.null, .null, .int (b2 neg), .int v, .null, .null] [] (M, L) (q_i L (fun x M' => x = (if neg = true then sh (-v) else v) ∧ M' = M)) := by
  refine s_Calculator_one_154 _ _ ?_
  rw [b2_0]
  refine ⟨fun q => ⟨by rw [q]; rfl, rfl⟩, fun q => ⟨?_, rfl⟩⟩
  rw [if_pos (by simpa using q)]
  rfl
def WC (l : Launch) (Γ : qG) (L : Nat → Int64) (va ce : Nat → Int32) (g : List Int → eR) (t lev : Int) (b dd : Nat) : Prop := ∀ (M : qM) (e : Nat) (u : List Int) (res : Except Int (Int32 × List Int)), M 13 = va → M 14 = ce → cS M e u → g u = some res → V l Γ T_Calculator_worth dd 0 0 [.ref 12, .int (iI t), .int (iI lev), .null, .null, .null, .null] [] (M, L) (q_i L (cQ e b M res))
/-- behind the signs -/
theorem k_one_41 {g : List Int → eR} {D : Nat} (hD : D ≤ 3) (G : 0 < D → WC l Γ L va ce g 0 (4 - (D : Int) + 1) D (d + 1)) {M : qM} {e : Nat} {c : Int} {t : List Int} {res : Except Int (Int32 × List Int)} (h13 : M 13 = va) (h14 : M 14 = ce) (h : cS M e (c :: t)) (hp : primF va ce D g (c :: t) = some res) (neg : Bool) :
    V l Γ T_Calculator_one (d + 1 + 1) r 41 [.ref 12, .int (iI (4 - (D : Int))), .int (b2 neg), .null, .null, .null] [] (M, L) (q_i L (fun x M' => fr [12] M M' ∧ match res with
      | .error er => cE M' e (D + 1) er
      | .ok (v, r) => x = (if neg = true then sh (-v) else v) ∧ cS M' e r)) := by
  have hb := (h.2.2.2.2.1).hd
  refine s_Calculator_one_41 _ _ ⟨_, k_ahead h, ?_⟩
  rintro x1 M1 ⟨rfl, rfl⟩
  refine ⟨_, c_isDigit _, ?_⟩
  rintro x2 M2 ⟨rfl, rfl⟩
  rw [List.headD_cons, iI_toInt (by omega) (by omega), b2_0]
  unfold primF at hp
  simp only at hp
  refine ⟨fun q => ?_, fun q => ?_⟩
  · rw [if_neg (by rw [q]; decide)] at hp
    refine ⟨_, k_ahead h, ?_⟩
    rintro x3 M3 ⟨rfl, rfl⟩
    refine ⟨_, c_isVariable _, ?_⟩
    rintro x4 M4 ⟨rfl, rfl⟩
    rw [List.headD_cons, iI_toInt (by omega) (by omega), b2_0]
    refine ⟨fun q2 => ?_, fun q2 => ?_⟩
    · rw [if_neg (by rw [q2]; decide)] at hp
      rw [iI_le (by omega) (by omega) (by omega) (by omega)]
      by_cases hD0 : D = 0
      · rw [if_pos hD0] at hp
        cases hp
      rw [if_neg hD0] at hp
      refine ⟨fun q3 => by omega, fun _ => ⟨_, k_take h, ?_⟩⟩
      rintro x5 M5 ⟨rfl, h5, f5⟩
      rw [iI_eq (by omega) (by omega) (by omega) (by omega)]
      by_cases h40 : c = 40
      · rw [if_pos h40] at hp
        refine ⟨fun _ => ?_, fun q3 => by omega⟩
        refine s_Calculator_one_103 _ _ _ ⟨fun _ => ?_, fun q4 => absurd rfl q4⟩
        rcases eg : g t with _ | rin
        · rw [eg] at hp; cases hp
        rw [eg] at hp
        refine s_Calculator_one_115 _ _ _ ⟨cQ e D M5 rin, ?_, ?_⟩
        · rw [iI_add]
          exact G (by omega) _ e t rin (by rw [f5 13 (by decide)]; exact h13) (by rw [f5 14 (by decide)]; exact h14) h5 eg
        rintro x6 M6 ⟨f6, hq⟩
        rcases rin with er | ⟨v, rr⟩
        · simp only at hp
          cases hp
          refine ⟨_, k_takeE hq (by omega), ?_⟩
          rintro x7 M7 ⟨h7, f7⟩
          refine ⟨fun _ => ?_, fun q4 => absurd rfl q4⟩
          refine (k_one_154 neg x6).wi (fun x M' hM => ?_)
          obtain ⟨-, rfl⟩ := hM
          exact ⟨(f5.tr f6).tr f7, h7⟩
        · obtain ⟨rfl, hq⟩ := hq
          rcases rr with _ | ⟨c2, r2⟩
          · simp at hp
          by_cases h41 : c2 = 41
          · subst h41
            simp only at hp
            cases hp
            refine ⟨_, k_take hq, ?_⟩
            rintro x7 M7 ⟨rfl, h7, f7⟩
            refine ⟨fun _ => ?_, fun q4 => absurd rfl q4⟩
            refine (k_one_154 neg x6).wi (fun x M' hM => ?_)
            obtain ⟨hx, rfl⟩ := hM
            exact ⟨(f5.tr f6).tr f7, hx, h7⟩
          · simp [h41] at hp
      · rw [if_neg h40] at hp
        by_cases h64 : c = 64
        · rw [if_pos h64] at hp
          refine ⟨fun q3 => absurd h64 q3, fun _ => ?_⟩
          rcases t with _ | ⟨c1, t1⟩
          · simp at hp
          by_cases h401 : c1 = 40
          rotate_left
          · simp [h401] at hp
          subst h401
          simp only at hp
          refine s_Calculator_one_103 _ _ _ ⟨fun q4 => absurd q4 (by decide), fun _ => ⟨_, k_take h5, ?_⟩⟩
          rintro x50 M50 ⟨rfl, h50, f50⟩
          rcases eg : g t1 with _ | rin
          · rw [eg] at hp; cases hp
          rw [eg] at hp
          have f550 := f5.tr f50
          refine s_Calculator_one_115 _ _ _ ⟨cQ e D M50 rin, ?_, ?_⟩
          · rw [iI_add]
            exact G (by omega) _ e t1 rin (by rw [f550 13 (by decide)]; exact h13) (by rw [f550 14 (by decide)]; exact h14) h50 eg
          rintro x6 M6 ⟨f6, hq⟩
          rcases rin with er | ⟨v, rr⟩
          · simp only at hp
            cases hp
            refine ⟨_, k_takeE hq (by omega), ?_⟩
            rintro x7 M7 ⟨h7, f7⟩
            refine ⟨fun q4 => absurd q4 (by decide), fun _ => ⟨fun _ => ?_, fun q5 => absurd h7.ne q5⟩⟩
            refine (k_one_154 neg x6).wi (fun x M' hM => ?_)
            obtain ⟨-, rfl⟩ := hM
            exact ⟨(f550.tr f6).tr f7, h7⟩
          · obtain ⟨rfl, hq⟩ := hq
            rcases rr with _ | ⟨c2, r2⟩
            · simp at hp
            by_cases h41 : c2 = 41
            · subst h41
              simp only at hp
              refine ⟨_, k_take hq, ?_⟩
              rintro x7 M7 ⟨rfl, h7, f7⟩
              refine ⟨fun q4 => absurd q4 (by decide), fun _ => ⟨fun q5 => absurd h7.2.2.2.2.2 q5, fun _ => ⟨_, k_cellAt (b := D + 1) h7 x6, ?_⟩⟩⟩
              rintro x8 M8 ⟨f8, hx⟩
              have f58 := ((f550.tr f6).tr f7).tr f8
              refine (k_one_154 neg x8).wi (fun x M' hM => ?_)
              obtain ⟨hx9, rfl⟩ := hM
              by_cases hi : x6 < 0 ∨ ¬ x6 < iI 16
              · rw [if_pos hi] at hp hx
                cases hp
                exact ⟨f58, hx⟩
              · rw [if_neg hi] at hp hx
                cases hp
                obtain ⟨rfl, hx⟩ := hx
                rw [((f550.tr f6).tr f7) 14 (by decide), h14] at hx9
                exact ⟨f58, hx9, hx⟩
            · simp [h41] at hp
        · rw [if_neg h64] at hp
          cases hp
    · have q2 : isV c = true := by simpa using q2
      have hcv : 97 ≤ c ∧ c ≤ 104 := by simpa [isV] using q2
      rw [if_pos q2] at hp
      cases hp
      refine ⟨_, k_takeVariable h q2, ?_⟩
      rintro x6 M6 ⟨rfl, h6, f6⟩
      rw [iI_nat (by omega) (by omega)]
      refine ⟨iI_in (by omega) (by omega) (by omega), (k_one_154 neg _).wi (fun x M' hM => ?_)⟩
      obtain ⟨hx, rfl⟩ := hM
      rw [f6 13 (by decide), h13] at hx
      exact ⟨f6, hx, h6⟩
  · rw [if_pos (by simpa using q)] at hp
    cases hp
    refine ⟨_, k_takeNumber h, ?_⟩
    rintro x7 M7 ⟨rfl, h7, f7⟩
    refine (k_one_154 neg _).wi (fun x M' hM => ?_)
    obtain ⟨hx, rfl⟩ := hM
    exact ⟨f7, hx, h7⟩
theorem k_one_4 {g : List Int → eR} {D : Nat} (hD : D ≤ 3) (G : 0 < D → WC l Γ L va ce g 0 (4 - (D : Int) + 1) D (d + 1)) {e : Nat} : ∀ (u : List Int) (k : Nat) (neg : Bool) (M : qM) (res : Except Int (Int32 × List Int)), M 13 = va → M 14 = ce → cS M e u → k + u.length ≤ 198 → oneF va ce D g neg u = some res →
    V l Γ T_Calculator_one (d + 1 + 1) r 4 [.ref 12, .int (iI (4 - (D : Int))), .int (b2 neg), .int (iI k), .null, .null] [] (M, L) (q_i L (cQ e (D + 1) M res)) := by
  intro u
  induction u with
  | nil => intro k neg M res _ _ _ _ h; cases h
  | cons c t ih =>
    intro k neg M res h13 h14 h hk hp
    have hb := (h.2.2.2.2.1).hd
    simp only [List.length_cons] at hk
    refine s_Calculator_one_4 _ _ _ ?_
    rw [iI_le (by omega) (by omega) (by omega) (by omega)]
    refine ⟨fun q => by omega, fun _ => ⟨_, k_ahead h, ?_⟩⟩
    rintro x1 M1 ⟨rfl, rfl⟩
    rw [List.headD_cons, iI_eq (by omega) (by omega) (by omega) (by omega), iI_add]
    unfold oneF at hp
    refine ⟨fun q => ?_, fun q => ?_⟩
    · rw [if_neg q] at hp
      rcases ep : primF va ce D g (c :: t) with _ | rp
      · rw [ep] at hp; cases hp
      rw [ep] at hp
      refine (k_one_41 hD G h13 h14 h ep neg).wi (fun x M' hM => ?_)
      rcases rp with er | ⟨v, rr⟩
      · simp only at hp
        cases hp
        exact hM
      · simp only at hp
        cases hp
        exact hM
    · have q := Classical.not_not.mp q
      rw [if_pos q] at hp
      refine ⟨_, k_take h, ?_⟩
      rintro x2 M2 ⟨rfl, h2, f2⟩
      have go := ih (k + 1) (!neg) M2 res (by rw [f2 13 (by decide)]; exact h13) (by rw [f2 14 (by decide)]; exact h14) h2 (by omega) hp
      rw [b2_0]
      refine ⟨fun q2 => ?_, fun q2 => ?_⟩
      · have : neg = true := by simpa using q2
        subst this
        exact go.wi (fun x M' hM => hM.of f2 (Nat.le_refl _))
      · have : neg = false := by simpa using q2
        subst this
        exact go.wi (fun x M' hM => hM.of f2 (Nat.le_refl _))
theorem k_worth_3 {g : List Int → eR} {D : Nat} (hD : D ≤ 3) (G : 0 < D → WC l Γ L va ce g 0 (4 - (D : Int) + 1) D (d + 1)) : WC l Γ L va ce (oneF va ce D g false) 3 (4 - (D : Int)) (D + 1) (d + 1 + 1 + 1) := by
  intro M e u res h13 h14 h hp
  have hl := h.len
  refine s_Calculator_worth_0 _ _ ⟨fun _ => ⟨fun q => ?_, fun _ => ⟨_, s_Calculator_one_0 _ (k_one_4 hD G u 0 false M res h13 h14 h (by omega) hp), fun x M' hM => hM⟩⟩, fun q => absurd h.2.2.2.2.2 q⟩
  rw [iI_lt (by omega) (by omega) (by omega) (by omega)] at q
  omega
theorem k_worth_32 {g : List Int → eR} {t lev : Int} {b dd : Nat} (ht : 0 ≤ t ∧ t ≤ 2) (hlev : 0 ≤ lev ∧ lev ≤ 4) (G : WC l Γ L va ce g (t + 1) lev b (dd + 1)) {e : Nat} : ∀ (n k : Nat) (v : Int32) (u : List Int) (M : qM) (res : Except Int (Int32 × List Int)), k + n = 200 → M 13 = va → M 14 = ce → cS M e u → lpF g t n v u = some res →
    V l Γ T_Calculator_worth (dd + 1 + 1) r 32 [.ref 12, .int (iI t), .int (iI lev), .int v, .int (iI k), .null, .null] [] (M, L) (q_i L (cQ e b M res)) := by
  intro n
  induction n with
  | zero => intro k v u M res _ _ _ _ h; cases h
  | succ n ih =>
    intro k v u M res hk h13 h14 h hp
    have hl := h.len
    refine s_Calculator_worth_32 _ _ _ _ ?_
    rw [iI_le (by omega) (by omega) (by omega) (by omega), iI_add, iI_add]
    refine ⟨fun q => by omega, fun _ => ⟨fun q => absurd h.2.2.2.2.2 q, fun _ => ⟨_, k_ahead h, ?_⟩⟩⟩
    rintro x1 M1 ⟨rfl, rfl⟩
    refine ⟨_, c_tierOf _, ?_⟩
    rintro x2 M2 ⟨rfl, rfl⟩
    unfold lpF at hp
    have hh : -1 ≤ u.headD (-1) ∧ u.headD (-1) < 256 := by
      cases u with
      | nil => exact ⟨by decide, by decide⟩
      | cons c t => have := (h.2.2.2.2.1).hd; exact ⟨by show -1 ≤ c; omega, by show c < 256; omega⟩
    have htl := tier_le (u.headD (-1))
    rw [iI_toInt (by omega) (by omega), iI_eq (by omega) (by omega) (by omega) (by omega)]
    by_cases htc : tier (u.headD (-1)) = t
    · rw [if_pos htc] at hp
      refine ⟨fun q => absurd htc q, fun _ => ?_⟩
      rcases u with _ | ⟨c, u1⟩
      · have : (-1 : Int) = t := htc
        omega
      have hb := (h.2.2.2.2.1).hd
      simp only [List.tail_cons, List.headD_cons] at hp
      refine ⟨_, k_take h, ?_⟩
      rintro x3 M3 ⟨rfl, h3, f3⟩
      rcases eg : g u1 with _ | rin
      · rw [eg] at hp; cases hp
      rw [eg] at hp
      refine ⟨_, G M3 e u1 rin (by rw [f3 13 (by decide)]; exact h13) (by rw [f3 14 (by decide)]; exact h14) h3 eg, ?_⟩
      rintro x4 M4 ⟨f4, hq⟩
      have f34 := f3.tr f4
      rcases rin with er | ⟨v2, rr⟩
      · simp only at hp
        cases hp
        refine ⟨fun _ => ?_, fun q => absurd hq.ne q⟩
        refine s_Calculator_worth_32 _ _ _ _ ⟨fun _ => ⟨f34, hq⟩, fun _ => ⟨fun _ => ⟨f34, hq⟩, fun q => absurd hq.ne q⟩⟩
      · obtain ⟨rfl, hq⟩ := hq
        refine ⟨fun q => absurd hq.2.2.2.2.2 q, fun _ => ⟨_, k_combine (b := b) hq ⟨hb.2.2.1, hb.2.2.2⟩ v x4, ?_⟩⟩
        rintro x5 M5 ⟨f5, hx⟩
        have f35 := f34.tr f5
        simp only at hp
        rcases ec : cmb c v x4 with er | v3
        · rw [ec] at hp hx
          simp only at hp hx
          cases hp
          refine s_Calculator_worth_32 _ _ _ _ ⟨fun _ => ⟨f35, hx⟩, fun _ => ⟨fun _ => ⟨f35, hx⟩, fun q => absurd hx.ne q⟩⟩
        · rw [ec] at hp hx
          simp only at hp hx
          obtain ⟨rfl, hx⟩ := hx
          exact (ih (k + 1) x5 rr M5 res (by omega) (by rw [f35 13 (by decide)]; exact h13) (by rw [f35 14 (by decide)]; exact h14) hx hp).wi (fun x M' hM => hM.of f35 (Nat.le_refl _))
    · rw [if_neg htc] at hp
      cases hp
      exact ⟨fun _ => ⟨fr.rf, rfl, h⟩, fun q => absurd htc q⟩
theorem k_tr {g : List Int → eR} {t lev : Int} {b dd : Nat} (ht : 0 ≤ t ∧ t ≤ 2) (hlev : 0 ≤ lev ∧ lev ≤ 4) (G : WC l Γ L va ce g (t + 1) lev b (dd + 1)) : WC l Γ L va ce (trF g t) t lev b (dd + 1 + 1) := by
  intro M e u res h13 h14 h hp
  unfold trF at hp
  refine s_Calculator_worth_0 _ _ ⟨fun _ => ?_, fun q => absurd h.2.2.2.2.2 q⟩
  rw [iI_lt (by omega) (by omega) (by omega) (by omega), iI_add]
  refine ⟨fun _ => ?_, fun q => by omega⟩
  rcases eg : g u with _ | rin
  · rw [eg] at hp; cases hp
  rw [eg] at hp
  refine ⟨_, G M e u rin h13 h14 h eg, ?_⟩
  rintro x1 M1 ⟨f1, hq⟩
  rcases rin with er | ⟨v, rr⟩
  · simp only at hp
    cases hp
    exact s_Calculator_worth_32 _ _ _ _ ⟨fun _ => ⟨f1, hq⟩, fun _ => ⟨fun _ => ⟨f1, hq⟩, fun q => absurd hq.ne q⟩⟩
  · obtain ⟨rfl, hq⟩ := hq
    simp only at hp
    exact (k_worth_32 ht hlev G 200 0 x1 rr M1 res (by omega) (by rw [f1 13 (by decide)]; exact h13) (by rw [f1 14 (by decide)]; exact h14) hq hp).wi (fun x M' hM => hM.of f1 (Nat.le_refl _))
theorem k_ex : ∀ (D : Nat), D ≤ 3 → WC l Γ L va ce (exD va ce (D + 1)) 0 (4 - (D : Int)) (D + 1) (d + 5 * (D + 1) + 1) := by
  intro D
  induction D with
  | zero =>
    intro hD
    have h3 : WC l Γ L va ce (oneF va ce 0 (exD va ce 0) false) 3 (4 - ((0 : Nat) : Int)) (0 + 1) (d + 1 + 1 + 1) := k_worth_3 (d := d) hD (fun q => by omega)
    exact k_tr (t := 0) (by decide) (by decide) (k_tr (t := 1) (by decide) (by decide) (k_tr (t := 2) (by decide) (by decide) h3))
  | succ D ih =>
    intro hD
    have h3 : WC l Γ L va ce (oneF va ce (D + 1) (exD va ce (D + 1)) false) 3 (4 - ((D + 1 : Nat) : Int)) (D + 1 + 1) (d + 5 * (D + 1) + 1 + 1 + 1) := k_worth_3 (d := d + 5 * (D + 1)) hD (fun _ => by
      rw [show (4 : Int) - ((D + 1 : Nat) : Int) + 1 = 4 - (D : Int) by omega]
      exact ih (by omega))
    have hl : 0 ≤ (4 : Int) - ((D + 1 : Nat) : Int) ∧ (4 : Int) - ((D + 1 : Nat) : Int) ≤ 4 := by omega
    rw [show d + 5 * (D + 1 + 1) + 1 = d + 5 * (D + 1) + 1 + 1 + 1 + 1 + 1 + 1 by omega]
    exact k_tr (t := 0) (by decide) hl (k_tr (t := 1) (by decide) hl (k_tr (t := 2) (by decide) hl h3))
theorem k_expression {M : qM} {e : Nat} {u : List Int} {res : Except Int (Int32 × List Int)} (h : cS M e u) (hp : exD (M 13) (M 14) 4 u = some res) : V l Γ T_Calculator_expression (d + 22) r 0 [.ref 12] [] (M, L) (q_i L (cQ e 4 M res)) :=
  s_Calculator_expression_0 (d := d + 21) ⟨_, k_ex (d := d) 3 (by decide) M e u res rfl rfl h hp, fun x M' hM => hM⟩
theorem k_expressionE {M : qM} {e b : Nat} {er : Int} (h : cE M e b er) : V l Γ T_Calculator_expression (d + 22) r 0 [.ref 12] [] (M, L) (q_i L (fun x M' => M' = M)) :=
  s_Calculator_expression_0 (d := d + 21) ⟨_, s_Calculator_worth_0 (d := d + 20) (P := fun x M' => M' = M) _ _ ⟨fun q => absurd q h.ne, fun _ => rfl⟩, fun x M' hM => hM⟩
end Worth
