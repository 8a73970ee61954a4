-- digits, spelling, what is possible
theorem spL_lt (w le : Nat) (c : Int) (n : Nat) : spL w le c n < 2 ^ n := by
  induction n with
  | zero => exact Nat.one_pos
  | succ n ih =>
    unfold spL
    rw [Nat.pow_succ]
    split <;> omega
theorem spL_pos (w le : Nat) (c : Int) (n : Nat) (h : 0 < spL w le c n) : ∃ k, k < n ∧ bt w k = true ∧ lt k le = c - 64 := by
  induction n with
  | zero => exact absurd h (Nat.lt_irrefl 0)
  | succ n ih =>
    unfold spL at h
    by_cases hc : bt w n = true ∧ lt n le = c - 64
    · exact ⟨n, Nat.lt_succ_self n, hc⟩
    · rw [if_neg hc] at h
      obtain ⟨k, h1, h2⟩ := ih h
      exact ⟨k, Nat.lt_succ_of_lt h1, h2⟩
theorem spW_no (w le : Nat) (c : Int) (n : Nat) (h : ¬ 0 ≤ spW w le c n) : ∀ k, k < n → bt w k = true → lt k le = c - 64 → lt k (le + 1) ≠ 0 := by
  induction n with
  | zero => intro k hk; exact absurd hk (Nat.not_lt_zero _)
  | succ n ih =>
    intro k hk h1 h2 h3
    unfold spW at h
    by_cases hc : (bt w n = true ∧ lt n le = c - 64) ∧ lt n (le + 1) = 0
    · rw [if_pos hc] at h
      exact h (by omega)
    · rw [if_neg hc] at h
      by_cases e : k = n
      · subst e
        exact hc ⟨⟨h1, h2⟩, h3⟩
      · exact ih h k (by omega) h1 h2 h3
theorem spW_lo (w le : Nat) (c : Int) (n : Nat) : -1 ≤ spW w le c n ∧ spW w le c n < n := by
  induction n with
  | zero => exact ⟨show (-1 : Int) ≤ -1 by decide, show (-1 : Int) < 0 by decide⟩
  | succ n ih =>
    unfold spW
    split
    · omega
    · omega
theorem lt_len (k i : Nat) (hk : k < 8) (h : lt k i ≠ 0) : i ≤ 5 := by
  have hl : ∀ w, w < 8 → (wl w).length ≤ 6 := by decide
  by_cases hi : i ≤ 5
  · exact hi
  · exact absurd (by simp [lt, List.getD_eq_getElem?_getD, List.getElem?_eq_none (show (wl k).length ≤ i by have := hl k hk; omega)]) h
theorem bt_i : ∀ w : Nat, w < 256 → ∀ k : Nat, k < 8 → ((((iI (w : Int)) >>> ((iI (k : Int)) &&& 31)) &&& (iI 1)) = (iI 1) ↔ bt w k = true) := by decide +kernel
theorem or_i : ∀ k : Nat, k < 8 → ∀ a : Nat, a < 2 ^ k → ((iI (a : Int)) ||| ((iI 1) <<< ((iI (k : Int)) &&& 31))) = iI ((a + 2 ^ k : Nat) : Int) := by decide +kernel
section MRead3
variable {l : Launch} {Γ : qG} {d r : Nat} {L : Nat → Int64} {M : qM} {m : Nat}
theorem cm_lengthen (hm : M 27 10 = iI m) (hm2 : m ≤ 258) {nu c most : Int} (kept : Bool) (hn : M 27 6 = iI nu) (hnb : 0 ≤ nu ∧ nu ≤ 32767) (hc : 48 ≤ c ∧ c ≤ 57) (hmo : 0 ≤ most ∧ most ≤ 32767) : V l Γ T_TapedLinesModel_lengthen (d + 1) r 0 [.ref 27, .int (iI c), .int (iI most), .int (b2 kept)] [] (M, L) (q_i L (fun x M' => ((nu = 0 ∨ most < 10 * nu + c - 48) ∧ x = iI 0 ∧ M' = M) ∨ (¬ (nu = 0 ∨ most < 10 * nu + c - 48) ∧ x = iI 1 ∧ M' = if kept = true then kp (q_up M 27 6 (iI (10 * nu + c - 48))) m c else q_up M 27 6 (iI (10 * nu + c - 48))))) := by
  refine s_TapedLinesModel_lengthen_0 _ _ _ ?_
  rw [hn, iI_0, iI_eq (by omega) (by omega) (by omega) (by omega), iI_mul, iI_add, iI_sub, iI_le (by omega) (by omega) (by omega) (by omega)]
  refine ⟨fun q => Or.inl ⟨Or.inl q, rfl, rfl⟩, fun q => ⟨fun q2 => ⟨fun q3 => ?_, fun q3 => ?_⟩, fun q2 => Or.inl ⟨Or.inr (by omega), rfl, rfl⟩⟩⟩
  · have : kept = false := by
      cases kept with
      | false => rfl
      | true => exact absurd q3 (by decide)
    subst this
    exact Or.inr ⟨by omega, rfl, rfl⟩
  · have : kept = true := by
      cases kept with
      | true => rfl
      | false => exact absurd rfl q3
    subst this
    refine ⟨_, cm_kp (m := m) (by rw [q_up_k (by decide)]; exact hm) (by omega) c, ?_⟩
    rintro M1 rfl
    exact Or.inr ⟨by omega, rfl, rfl⟩
theorem cm_takeDigit (hm : M 27 10 = iI m) (hm2 : m ≤ 258) {st pu de nu li c : Int} (hst : st = 1 ∨ st = 13 ∨ st = 8) (h3 : M 27 3 = iI st) (hp : st = 13 → M 27 4 = iI pu) (hd : st = 13 → M 27 5 = iI de) (hn : M 27 6 = iI nu) (hl : M 27 7 = iI li) (hpb : 0 ≤ pu ∧ pu ≤ 3) (hdb : 0 ≤ de ∧ de ≤ 4) (hnb : 0 ≤ nu ∧ nu ≤ 32767) (hlb : -2147483648 ≤ li ∧ li < 2147483648) (hc : 48 ≤ c ∧ c ≤ 57) : V l Γ T_TapedLinesModel_takeDigit (d + 1 + 1) r 0 [.ref 27, .int (iI c), .null] [] (M, L) (q_i L (TQ M m (tDigit st pu de nu li c))) := by
  have e32 : ∀ (most : Int) (kept : Bool), most = (if st = 13 then 32767 else 99) → kept = decide (st ≠ 1) → V l Γ T_TapedLinesModel_takeDigit (d + 1 + 1) r 32 [.ref 27, .null, .null] [.int (b2 kept), .int (iI most), .int (iI c), .ref 27] (M, L) (q_i L (TQ M m (tDigit st pu de nu li c))) := by
    intro most kept hmo hke
    have hmb : 99 ≤ most ∧ most ≤ 32767 := by rw [hmo]; split <;> omega
    have hm13 : st ≠ 13 → most = 99 := fun q => by rw [hmo, if_neg q]
    have e0 : tDigit st pu de nu li c = if nu = 0 ∨ most < 10 * nu + c - 48 then none else if st = 1 then some ((1, 0, 0, 10 * nu + c - 48, 0, 0, 10 * nu + c - 48), []) else some ((st, pu, de, 10 * nu + c - 48, 0, 0, li), [c]) := by
      unfold tDigit
      rw [← hmo]
    refine s_TapedLinesModel_takeDigit_32 _ _ _ ⟨_, cm_lengthen hm hm2 kept hn hnb hc (by omega), ?_⟩
    rintro x1 M1 (⟨hb, rfl, rfl⟩ | ⟨hb, rfl, rfl⟩)
    · exact ⟨fun _ => ⟨by decide, TQ.n (FM.rf.up (by omega)) (by rw [e0, if_pos hb])⟩, fun _ => ⟨by decide, TQ.n (FM.rf.up (by omega)) (by rw [e0, if_pos hb])⟩⟩
    · by_cases h1 : st = 1
      · have hk : kept = false := by rw [hke]; simp [h1]
        subst hk
        simp only [Bool.false_eq_true, if_false]
        have g3 : q_up M 27 6 (iI (10 * nu + c - 48)) 27 3 = iI st := by rw [q_up_k (by decide)]; exact h3
        rw [g3, iI_eq (by omega) (by omega) (by omega) (by omega)]
        refine ⟨fun q => absurd h1 q, fun _ => ⟨by decide, ?_⟩⟩
        rw [q_up_s]
        refine TQ.s ((FM.rf.up (by omega)).up (by omega)) (by rw [e0, if_neg hb, if_pos h1]) ⟨by rw [q_up_k (by decide), g3, h1], q_up_s, fun q => by omega, fun q => by omega, fun _ => by rw [q_up_k (by decide), q_up_s], fun q => by omega, ?_⟩ (by rw [q_up_k (by decide), q_up_k (by decide)]; exact hm) (fun b hb => by cases hb)
        have := hm13 (by omega)
        show wfs 1 0 0 (10 * nu + c - 48) 0 0 (10 * nu + c - 48)
        unfold wfs
        omega
      · have hk : kept = true := by rw [hke]; simp [h1]
        subst hk
        simp only [if_true]
        have g3 : kp (q_up M 27 6 (iI (10 * nu + c - 48))) m c 27 3 = iI st := by rw [kp_f (by decide), q_up_k (by decide)]; exact h3
        have g7 : kp (q_up M 27 6 (iI (10 * nu + c - 48))) m c 27 7 = iI li := by rw [kp_f (by decide), q_up_k (by decide)]; exact hl
        rw [g3, iI_eq (by omega) (by omega) (by omega) (by omega)]
        refine ⟨fun _ => ⟨by decide, ?_⟩, fun q => absurd h1 q⟩
        have hk : kS M m c (kp (q_up M 27 6 (iI (10 * nu + c - 48))) m c) := ⟨(FM.rf.up (by omega)).tr FM.kp, kp_c, kp_m⟩
        refine TQ.at (hk.up (by omega)) (by rw [e0, if_neg hb, if_neg h1]) (by rw [q_up_k (by decide)]; exact g3) (by rw [q_up_s]; exact g7) (fun q => by rw [q_up_k (by decide), kp_f (by decide), q_up_k (by decide)]; exact hp (by omega)) (fun q => by rw [q_up_k (by decide), kp_f (by decide), q_up_k (by decide)]; exact hd (by omega)) (fun _ => by rw [q_up_k (by decide), kp_f (by decide), q_up_s]) (by omega) (by unfold wfs; omega)
  have e19 : ∀ (most : Int), most = (if st = 13 then 32767 else 99) → V l Γ T_TapedLinesModel_takeDigit (d + 1 + 1) r 19 [.ref 27, .null, .null] [.int (iI most), .int (iI c), .ref 27] (M, L) (q_i L (TQ M m (tDigit st pu de nu li c))) := by
    intro most hmo
    refine s_TapedLinesModel_takeDigit_19 _ _ ?_
    rw [h3, iI_eq (by omega) (by omega) (by omega) (by omega)]
    exact ⟨fun q => e32 most false hmo (by simp [q]), fun q => e32 most true hmo (by simp [q])⟩
  refine s_TapedLinesModel_takeDigit_0 _ ?_
  rw [h3, iI_eq (by omega) (by omega) (by omega) (by omega)]
  exact ⟨fun q => e19 99 (by rw [if_neg q]), fun q => e19 32767 (by rw [if_pos (by omega)])⟩
theorem cm_possible {st pu de : Int} (hsb : 0 ≤ st ∧ st ≤ 16) (hpb : 0 ≤ pu ∧ pu ≤ 3) (hdb : 0 ≤ de ∧ de ≤ 4) (h3 : M 27 3 = iI st) (hp : (st = 13 ∨ st = 14) → M 27 4 = iI pu) (hd : (st = 13 ∨ st = 14) → M 27 5 = iI de) : V l Γ T_TapedLinesModel_possible d r 0 [.ref 27, .null] [] (M, L) (q_i L (fun x M' => x = iI (poss st pu de) ∧ M' = M)) := by
  have no : ¬ (st = 2 ∨ ((st = 14 ∨ st = 13) ∧ de = 1)) → V l Γ T_TapedLinesModel_possible d r 43 [.ref 27, .null] [.int (iI 0)] (M, L) (q_i L (fun x M' => x = iI (poss st pu de) ∧ M' = M)) := by
    intro hn
    have e0 : poss st pu de = 0 := by
      unfold poss
      rw [if_neg (by omega), if_neg (by omega)]
    rw [e0]
    exact s_TapedLinesModel_possible_43 _ ⟨fun _ => s_TapedLinesModel_possible_60 _ ⟨fun _ => ⟨rfl, rfl⟩, fun q => absurd rfl q⟩, fun q => absurd rfl q⟩
  have yes : (st = 13 ∨ st = 14) → V l Γ T_TapedLinesModel_possible d r 30 [.ref 27, .null] [] (M, L) (q_i L (fun x M' => x = iI (poss st pu de) ∧ M' = M)) := by
    intro hs
    refine s_TapedLinesModel_possible_30 ?_
    rw [hd hs, iI_eq (by omega) (by omega) (by omega) (by omega)]
    refine ⟨fun q => no (by omega), fun q => ?_⟩
    have e0 : poss st pu de = if pu = 1 then 1 else if pu = 2 then 32 else 0 := by
      unfold poss
      rw [if_neg (by omega), if_pos (by omega)]
    rw [e0]
    refine s_TapedLinesModel_possible_43 _ ⟨fun q => absurd q (by decide), fun _ => ?_⟩
    rw [hp hs, iI_eq (by omega) (by omega) (by omega) (by omega)]
    refine ⟨fun q1 => s_TapedLinesModel_possible_60 _ ⟨fun q => absurd q (by decide), fun _ => ?_⟩, fun q1 => ⟨by rw [if_pos (by omega)]; rfl, rfl⟩⟩
    rw [hp hs, iI_eq (by omega) (by omega) (by omega) (by omega)]
    exact ⟨fun q2 => ⟨by rw [if_neg q1, if_neg q2]; rfl, rfl⟩, fun q2 => ⟨by rw [if_neg q1, if_pos (by omega)]; rfl, rfl⟩⟩
  refine s_TapedLinesModel_possible_0 ?_
  rw [h3, iI_eq (by omega) (by omega) (by omega) (by omega), iI_eq (by omega) (by omega) (by omega) (by omega), iI_eq (by omega) (by omega) (by omega) (by omega)]
  refine ⟨fun n2 => ⟨fun q => yes (Or.inr q), fun n14 => ⟨fun n13 => no (by omega), fun q => yes (Or.inl (by omega))⟩⟩, fun q2 => ⟨?_, rfl⟩⟩
  unfold poss
  rw [if_pos (by omega)]
  rfl
theorem cm_spell_7 (hm : M 27 10 = iI m) (hm2 : m ≤ 258) {w le : Nat} {li c : Int} (h3 : M 27 3 = iI 16) (h8 : M 27 8 = iI w) (h9 : M 27 9 = iI le) (hl : M 27 7 = iI li) (hlb : -2147483648 ≤ li ∧ li < 2147483648) (hwb : w < 256) (hle : le ≤ 6) (hc : 0 ≤ c ∧ c < 256) : ∀ (j k : Nat), k + j = 8 →
    V l Γ T_TapedLinesModel_spell (d + 1 + 1 + 1) r 7 [.ref 27, .int (iI c), .int (iI (spL w le c k)), .int (iI (spW w le c k)), .int (iI k)] [] (M, L) (q_i L (TQ M m (tSpell w le li c))) := by
  intro j
  induction j with
  | zero =>
    intro k hk
    have hk : k = 8 := by omega
    subst hk
    have b1 := spL_lt w le c 8
    have b2' := spW_lo w le c 8
    refine s_TapedLinesModel_spell_7 _ _ _ _ ⟨fun _ => ?_, fun q => absurd (by decide) q⟩
    rw [h9, iI_add, iI_0, iI_lt (by omega) (by omega) (by omega) (by omega), iI_le (by omega) (by omega) (by omega) (by omega)]
    have f : FM M m (q_up (q_up M 27 8 (iI (spL w le c 8))) 27 9 (iI ((le : Int) + 1))) := (FM.rf.up (by omega)).up (by omega)
    unfold tSpell
    refine ⟨fun hneg => ?_, fun hpos => ?_⟩
    · rw [if_neg (by omega)]
      refine ⟨fun hz => TQ.n f (if_neg (by omega)), fun hz => ?_⟩
      obtain ⟨k, k1, k2, k3⟩ := spL_pos w le c 8 (by omega)
      have k4 := lt_len k (le + 1) k1 (spW_no w le c 8 (by omega) k k1 k2 k3)
      refine TQ.s f (if_pos (by omega)) ⟨by rw [q_up_k (by decide), q_up_k (by decide)]; exact h3, by rw [q_up_k (by decide), q_up_k (by decide)]; exact hl, fun q => by omega, fun q => by omega, fun q => by omega, fun _ => ⟨by rw [q_up_k (by decide), q_up_s], by rw [q_up_s]; rfl⟩, by unfold wfs; omega⟩ (by rw [q_up_k (by decide), q_up_k (by decide)]; exact hm) (fun b hb => by cases hb)
    · rw [if_pos (by omega)]
      obtain ⟨k, k1, k2, k3⟩ := spW_in w le c 8 (by omega)
      rw [k2]
      refine ⟨_, cm_pass (m := m) (by rw [q_up_k (by decide), q_up_k (by decide)]; exact hm) hm2 li (by rw [q_up_k (by decide), q_up_k (by decide)]; exact hl) hlb k k1, ?_⟩
      intro x1 M1 h1
      exact ⟨h1.nz, TQ.from f h1⟩
  | succ j ih =>
    intro k hk
    have b1 := spL_lt w le c k
    have b3 : 2 ^ k ≤ 128 := by
      have : k ≤ 7 := by omega
      calc 2 ^ k ≤ 2 ^ 7 := Nat.pow_le_pow_right (by decide) this
        _ = 128 := rfl
    have b2' := spW_lo w le c k
    refine s_TapedLinesModel_spell_7 _ _ _ _ ⟨fun q => ?_, fun _ => ?_⟩
    · rw [iI_le (by omega) (by omega) (by omega) (by omega)] at q
      omega
    rw [h8, bt_i w hwb k (by omega), iI_add]
    have ek : ((k : Int) + 1) = ((k + 1 : Nat) : Int) := by omega
    rw [ek]
    have next := ih (k + 1) (by omega)
    have skip : ¬ (bt w k = true ∧ lt k le = c - 64) → spL w le c (k + 1) = spL w le c k ∧ spW w le c (k + 1) = spW w le c k := by
      intro hn
      refine ⟨?_, ?_⟩
      · conv => lhs; unfold spL
        rw [if_neg hn]; rfl
      · conv => lhs; unfold spW
        rw [if_neg (fun z => hn z.1)]
    refine ⟨fun nb => ?_, fun qb => ?_⟩
    · obtain ⟨e1, e2⟩ := skip (fun z => nb z.1)
      rw [e1, e2] at next
      exact next
    have qb : bt w k = true := by simpa using qb
    rw [h9]
    refine ⟨_, cm_letter k le (by omega) (by omega), ?_⟩
    rintro x2 M2 ⟨rfl, rfl⟩
    have hlb : ∀ w, w < 8 → ∀ i, i ≤ 5 → 0 ≤ lt w i ∧ lt w i ≤ 26 := by decide
    have hlb2 : ∀ i : Nat, 0 ≤ lt k i ∧ lt k i ≤ 26 := by
      intro i
      by_cases hi : i ≤ 5
      · exact hlb k (by omega) i hi
      · have : lt k i = 0 := by
          by_cases h0 : lt k i = 0
          · exact h0
          · exact absurd (lt_len k i (by omega) h0) hi
        rw [this]
        decide
    have hb1 := hlb2 le
    have hb2 := hlb2 (le + 1)
    rw [iI_sub, iI_add, iI_eq (by omega) (by omega) (by omega) (by omega)]
    refine ⟨fun nl => ?_, fun ql => ?_⟩
    · obtain ⟨e1, e2⟩ := skip (fun z => nl (by omega))
      rw [e1, e2] at next
      exact next
    rw [h9, iI_add]
    have el : ((le : Int) + 1) = ((le + 1 : Nat) : Int) := by omega
    rw [el]
    refine ⟨_, cm_letter k (le + 1) (by omega) (by omega), ?_⟩
    rintro x3 M3 ⟨rfl, rfl⟩
    rw [iI_0, iI_eq (by omega) (by omega) (by omega) (by omega), or_i k (by omega) _ b1]
    have hcnd : bt w k = true ∧ lt k le = c - 64 := ⟨qb, by omega⟩
    have e1 : spL w le c (k + 1) = spL w le c k + 2 ^ k := by
      conv => lhs; unfold spL
      rw [if_pos hcnd]
    rw [e1] at next
    refine ⟨fun nz => ?_, fun qz => ?_⟩
    · have e2 : spW w le c (k + 1) = spW w le c k := by
        conv => lhs; unfold spW
        rw [if_neg (fun z => nz z.2)]
      rw [e2] at next
      exact next
    · have e2 : spW w le c (k + 1) = k := by
        conv => lhs; unfold spW
        rw [if_pos ⟨hcnd, by omega⟩]
      rw [e2] at next
      exact next
theorem cm_spell (hm : M 27 10 = iI m) (hm2 : m ≤ 258) {w le : Nat} {li c : Int} (h3 : M 27 3 = iI 16) (h8 : M 27 8 = iI w) (h9 : M 27 9 = iI le) (hl : M 27 7 = iI li) (hlb : -2147483648 ≤ li ∧ li < 2147483648) (hwb : w < 256) (hle : le ≤ 6) (hc : 0 ≤ c ∧ c < 256) : V l Γ T_TapedLinesModel_spell (d + 1 + 1 + 1) r 0 [.ref 27, .int (iI c), .null, .null, .null] [] (M, L) (q_i L (TQ M m (tSpell w le li c))) :=
  s_TapedLinesModel_spell_0 _ (cm_spell_7 hm hm2 h3 h8 h9 hl hlb hwb hle hc 8 0 rfl)
end MRead3
