-- loops, cells, variables: the class
theorem loI_le (v : Int) : ∀ lo : List (Int × Int32 × Nat), loI v lo ≤ lo.length := by
  intro lo
  induction lo with
  | nil => exact Nat.le_refl _
  | cons q t ih =>
    unfold loI
    split
    · omega
    · simp only [List.length_cons]
      omega
theorem drop_getD {lo : List (Int × Int32 × Nat)} {k : Nat} (h : k < lo.length) : lo.drop k = lo.getD k dL :: lo.drop (k + 1) := by
  rw [List.drop_eq_getElem_cons h, List.getD_eq_getElem?_getD, List.getElem?_eq_getElem h]
  rfl
def loX (v : Int) (lo : List (Int × Int32 × Nat)) : Int := if loI v lo < lo.length then (loI v lo : Int) else -1
section Doing2
variable {l : Launch} {Γ : qG} {d r : Nat} {L : Nat → Int64} {pr : List (Int × List Int)} {s : rS}
theorem k_loopOf_2 {M : qM} {lo : List (Int × Int32 × Nat)} (h6 : lo.length ≤ 6) (h12 : M 9 12 = iI lo.length) (h20 : ∀ k, k < lo.length → M 20 k = iI (lo.getD k dL).1) (hb : ∀ k, k < lo.length → 0 ≤ (lo.getD k dL).1 ∧ (lo.getD k dL).1 < 8) {v : Int} (hv : 0 ≤ v ∧ v < 8) : ∀ (n k : Nat), k + n = lo.length → V l Γ T_Machine_loopOf d r 2 [.ref 9, .int (iI v), .int (iI k)] [] (M, L) (q_i L (fun x M' => x = iI (if k + loI v (lo.drop k) < lo.length then ((k + loI v (lo.drop k) : Nat) : Int) else -1) ∧ M' = M)) := by
  intro n
  induction n with
  | zero =>
    intro k hk
    refine s_Machine_loopOf_2 _ _ ?_
    rw [h12, iI_le (by omega) (by omega) (by omega) (by omega)]
    exact ⟨fun _ => ⟨by rw [if_neg (by omega)], rfl⟩, fun q => by omega⟩
  | succ n ih =>
    intro k hk
    have hkl : k < lo.length := by omega
    have hbk := hb k hkl
    refine s_Machine_loopOf_2 _ _ ?_
    rw [h12, iI_le (by omega) (by omega) (by omega) (by omega), iI_nat (by omega) (by omega), Int.toNat_natCast, h20 k hkl, iI_eq (a := (lo.getD k dL).1) (b := v) (by omega) (by omega) (by omega) (by omega), iI_add, drop_getD hkl, loI]
    refine ⟨fun q => by omega, fun _ => ⟨iI_in (by omega) (by omega) (by omega), fun q => ?_, fun q => ?_⟩⟩
    · rw [if_neg q]
      have := ih (k + 1) (by omega)
      rw [show k + (loI v (lo.drop (k + 1)) + 1) = k + 1 + loI v (lo.drop (k + 1)) by omega]
      exact this
    · rw [if_pos (Classical.not_not.mp q), if_pos (by omega)]
      exact ⟨rfl, rfl⟩
theorem k_loopOf {M : qM} {va ce : Nat → Int32} {lo : List (Int × Int32 × Nat)} {re : List Nat} {ou : List Int} (hR : cR M pr (va, ce, lo, re, ou)) (hg : gds pr (va, ce, lo, re, ou)) {v : Int} (hv : 0 ≤ v ∧ v < 8) : V l Γ T_Machine_loopOf d r 0 [.ref 9, .int (iI v), .null] [] (M, L) (q_i L (fun x M' => x = iI (loX v lo) ∧ M' = M)) := by
  obtain ⟨a1, a2, ⟨a3, a3'⟩, a4, a5⟩ := hR
  obtain ⟨-, -, ⟨h6, hl, -⟩, -⟩ := hg
  have := k_loopOf_2 (l := l) (Γ := Γ) (d := d) (r := r) (L := L) h6 a3 (fun k hk => (a3' k hk).1) (fun k hk => ⟨(hl k hk).1, (hl k hk).2.1⟩) hv lo.length 0 (by omega)
  simp only [List.drop_zero, Nat.zero_add] at this
  exact s_Machine_loopOf_0 _ this
theorem loX_b (v : Int) (lo : List (Int × Int32 × Nat)) (h6 : lo.length ≤ 6) : -1 ≤ loX v lo ∧ loX v lo < 6 := by
  unfold loX
  split <;> omega
theorem k_if {M : qM} {e i : Nat} {b : Int} {u : List Int} (h : cS M e (b :: u)) (ht : tbs (11, 1, 1, 0, 0, 0, 0) u = true) (hP : cPr M pr) (hb : ∀ q ∈ pr, 0 ≤ q.1 ∧ q.1 < 256) (hR : cR M pr s) (hg : gds pr s) (hi : M 9 14 = iI (off pr (i + 1))) : V l Γ T_Machine_jumpIf (d + 22 + 1) r 0 [.ref 9, .null] [] (M, L) (q_i L (pfQ M pr s (exE (sE s u) (fun v r => if v = 0 then .ok (i + 1, s) else doJ pr (numV 0 r.tail).1 s)))) := by
  refine s_Machine_jumpIf_0 ⟨_, k_take h, ?_⟩
  rintro x1 M1 ⟨rfl, h1, f1⟩
  refine ⟨_, k_E h1 (hR.f12 f1) hg ht, ?_⟩
  rintro x2 M2 ⟨f2, hq⟩
  have f12 := f1.tr f2
  have hR2 := hR.f12 f12
  rcases E_end (e := e) h1.len.2 hg ht with ⟨er, ee, he⟩ | ⟨v, rr, ee, hv, h14, htr, hll⟩
  · rw [ee] at hq ⊢
    refine ⟨fun q => absurd q hq.ne, fun _ => ⟨f12.wk (by decide), by rw [f12 9 (by decide)], hq.2.2.2.2.1, by omega, hR2⟩⟩
  · obtain ⟨r', rfl, h7⟩ := end_1 h14 htr
    rw [ee] at hq ⊢
    obtain ⟨rfl, hS⟩ := hq
    refine ⟨fun _ => ⟨fun q => ?_, fun q => ?_⟩, fun q => absurd hS.2.2.2.2.2 q⟩
    · unfold exE
      simp only [List.tail_cons]
      rw [if_neg q]
      have hP2 : cPr M2 pr := ⟨by rw [f12 10 (by decide)]; exact hP.1, hP.2.1, by rw [f12 11 (by decide)]; exact hP.2.2⟩
      exact ⟨_, k_jump (d := d + 20) hS (tbs_7 h7) hP2 hb hR2, fun x M' hM => hM.of f12⟩
    · unfold exE
      simp only
      rw [if_pos (Classical.not_not.mp q)]
      exact ⟨f12.wk (by decide), by rw [f12 9 (by decide)], rfl, by rw [f12 9 (by decide)]; exact hi, hR2⟩
theorem k_setVariable {M : qM} {e i : Nat} {c : Int} {u : List Int} (h : cS M e (c :: 61 :: u)) (hc : isV c = true) (ht : tbs (11, 0, 1, 0, 0, 0, 0) u = true) (hR : cR M pr s) (hg : gds pr s) (hi : M 9 14 = iI (off pr (i + 1))) : V l Γ T_Machine_setVariable (d + 22 + 1) r 0 [.ref 9, .null, .null] [] (M, L) (q_i L (pfQ M pr s (exE (sE s u) (fun v _ => doV i (c - 97) v s)))) := by
  have hcv : 97 ≤ c ∧ c ≤ 104 := by simpa [isV] using hc
  refine s_Machine_setVariable_0 ⟨_, k_takeVariable (d := d + 21) h hc, ?_⟩
  rintro x1 M1 ⟨rfl, h1, f1⟩
  refine ⟨_, k_take h1, ?_⟩
  rintro x2 M2 ⟨rfl, h2, f2⟩
  have f12 := f1.tr f2
  refine ⟨_, k_E h2 (hR.f12 f12) hg ht, ?_⟩
  rintro x3 M3 ⟨f3, hq⟩
  have f13 := f12.tr f3
  have hR3 := hR.f12 f13
  rcases E_end (e := e) h2.len.2 hg ht with ⟨er, ee, he⟩ | ⟨v, rr, ee, hv, h14, htr, hll⟩
  · rw [ee] at hq ⊢
    refine ⟨fun q => absurd q hq.ne, fun _ => ⟨f13.wk (by decide), by rw [f13 9 (by decide)], hq.2.2.2.2.1, by omega, hR3⟩⟩
  · rw [ee] at hq ⊢
    obtain ⟨rfl, hS⟩ := hq
    obtain ⟨va, ce, lo, re, ou⟩ := s
    obtain ⟨a1, a2, a3, a4, a5⟩ := hR3
    rw [iI_nat (by omega) (by omega)]
    refine ⟨fun _ => ⟨iI_in (by omega) (by omega) (by omega), (f13.wk (by decide)).up (by decide), ?_, rfl, ?_, ?_, ?_, ⟨?_, ?_⟩, ⟨?_, ?_⟩, ?_⟩, fun q => absurd hS.2.2.2.2.2 q⟩
    · rw [q_up_o (by decide), f13 9 (by decide)]
    · rw [q_up_o (by decide), f13 9 (by decide)]; exact hi
    · rw [q_up_row, N8_up (by omega), a1]
    · rw [q_up_o (by decide)]; exact a2
    · rw [q_up_o (by decide)]; exact a3.1
    · rw [q_up_o (by decide), q_up_o (by decide), q_up_o (by decide)]; exact a3.2
    · rw [q_up_o (by decide)]; exact a4.1
    · rw [q_up_o (by decide)]; exact a4.2
    · exact a5.keep (q_up_o (by decide)) (q_up_o (by decide))
theorem k_setCell {M : qM} {e i : Nat} {u : List Int} {b b' : Int} (h : cS M e (b :: b' :: u)) (ht : tbs (11, 3, 1, 0, 0, 0, 0) u = true) (hR : cR M pr s) (hg : gds pr s) (hi : M 9 14 = iI (off pr (i + 1))) : V l Γ T_Machine_setCell (d + 22 + 1) r 0 [.ref 9, .null, .null] [] (M, L) (q_i L (pfQ M pr s (exE (sE s u) (fun x r => exE (sE s r.tail.tail) (fun v _ => doC i x v s))))) := by
  refine s_Machine_setCell_0 ⟨_, k_take h, ?_⟩
  rintro x1 M1 ⟨rfl, h1, f1⟩
  refine ⟨_, k_take h1, ?_⟩
  rintro x2 M2 ⟨rfl, h2, f2⟩
  have f12 := f1.tr f2
  refine ⟨_, k_E h2 (hR.f12 f12) hg ht, ?_⟩
  rintro x3 M3 ⟨f3, hq⟩
  have f13 := f12.tr f3
  have hR3 := hR.f12 f13
  rcases E_end (e := e) h2.len.2 hg ht with ⟨er, ee, he⟩ | ⟨v, rr, ee, hv, h14, htr, hll⟩
  · rw [ee] at hq ⊢
    refine ⟨_, k_takeE hq (by omega), ?_⟩
    rintro x4 M4 ⟨h4, f4⟩
    refine ⟨_, k_takeE h4 (by omega), ?_⟩
    rintro x5 M5 ⟨h5, f5⟩
    refine ⟨_, k_expressionE h5, ?_⟩
    rintro x6 M6 rfl
    have f15 := (f13.tr f4).tr f5
    exact ⟨fun q => absurd q h5.ne, fun _ => ⟨f15.wk (by decide), by rw [f15 9 (by decide)], h5.2.2.2.2.1, by omega, hR.f12 f15⟩⟩
  · obtain ⟨r', rfl, h11⟩ := end_3 h14 htr
    rw [ee] at hq ⊢
    obtain ⟨rfl, hS⟩ := hq
    refine ⟨_, k_take hS, ?_⟩
    rintro x4 M4 ⟨rfl, h4, f4⟩
    refine ⟨_, k_take h4, ?_⟩
    rintro x5 M5 ⟨rfl, h5, f5⟩
    have f15 := (f13.tr f4).tr f5
    refine ⟨_, k_E h5 (hR.f12 f15) hg h11, ?_⟩
    rintro x6 M6 ⟨f6, hq6⟩
    have f16 := f15.tr f6
    have hR6 := hR.f12 f16
    rw [exE]
    simp only [List.tail_cons]
    rcases E_end (e := e) h5.len.2 hg h11 with ⟨er, ee6, he⟩ | ⟨v6, rr, ee6, hv6, h146, htr6, hll6⟩
    · rw [ee6] at hq6 ⊢
      exact ⟨fun q => absurd q hq6.ne, fun _ => ⟨f16.wk (by decide), by rw [f16 9 (by decide)], hq6.2.2.2.2.1, by omega, hR6⟩⟩
    · rw [ee6] at hq6 ⊢
      obtain ⟨rfl, hS6⟩ := hq6
      obtain ⟨va, ce, lo, re, ou⟩ := s
      rw [exE]
      unfold doC
      simp only
      have bad : (x3 < 0 ∨ ¬ x3 < iI 16) → pfQ M pr (va, ce, lo, re, ou) (if x3 < 0 ∨ ¬ x3 < iI 16 then .error 6 else .ok (i + 1, va, va_up ce x3.toNatClampNeg x6, lo, re, ou)) (iI 6) M6 := by
        intro hx
        rw [if_pos hx]
        exact ⟨f16.wk (by decide), by rw [f16 9 (by decide)], rfl, by decide, hR6⟩
      refine ⟨fun _ => ⟨fun q => bad (Or.inl q), fun q => ⟨fun q2 => ?_, fun q2 => bad (Or.inr q2)⟩⟩, fun q => absurd hS6.2.2.2.2.2 q⟩
      have hx : ¬ (x3 < 0 ∨ ¬ x3 < iI 16) := by rintro (z | z); exact q z; exact z q2
      have hk := i16 hx
      rw [if_neg hx]
      obtain ⟨a1, a2, a3, a4, a5⟩ := hR6
      have i1 : ¬ x3.toInt < 0 := fun z => q (Int32.lt_iff_toInt_lt.mpr z)
      have i2 : x3.toInt < 16 := by
        have := Int32.lt_iff_toInt_lt.mp q2
        rw [iI_toInt (by decide) (by decide)] at this
        exact this
      have i3 : vp_in x3 16 := by
        have e1 : x3 = iI x3.toInt := by
          apply Int32.toInt_inj.mp
          rw [iI_toInt (by omega) (by omega)]
        rw [e1]
        exact iI_in (by omega) (by omega) (by omega)
      refine ⟨i3, (f16.wk (by decide)).up (by decide), ?_, rfl, ?_, ?_, ?_, ⟨?_, ?_⟩, ⟨?_, ?_⟩, ?_⟩
      · rw [q_up_o (by decide), f16 9 (by decide)]
      · rw [q_up_o (by decide), f16 9 (by decide)]; exact hi
      · rw [q_up_o (by decide)]; exact a1
      · rw [q_up_row, N16_up hk, a2]
      · rw [q_up_o (by decide)]; exact a3.1
      · rw [q_up_o (by decide), q_up_o (by decide), q_up_o (by decide)]; exact a3.2
      · rw [q_up_o (by decide)]; exact a4.1
      · rw [q_up_o (by decide)]; exact a4.2
      · exact a5.keep (q_up_o (by decide)) (q_up_o (by decide))
theorem k_openLoop_88 {M M0 : qM} {i : Nat} {v : Int} (hv : 0 ≤ v ∧ v < 8) {va ce : Nat → Int32} {lo : List (Int × Int32 × Nat)} {re : List Nat} {ou : List Int} (hR : cR M pr (va, ce, lo, re, ou)) (hg : gds pr (va, ce, lo, re, ou)) (hi : M 9 14 = iI (off pr (i + 1))) (f : fr [12] M0 M) (x y : Int32) : V l Γ T_Machine_openLoop (d + 1) r 88 [.ref 9, .int (iI v), .int x, .int y, .null, .null] [.int (iI (loI v lo))] (M, L) (q_i L (pfQ M0 pr (va, ce, lo, re, ou) (doF i v x y (va, ce, lo, re, ou)))) := by
  have hle := loI_le v lo
  have h6 := hg.2.2.1.1
  refine s_Machine_openLoop_88 _ _ _ _ ?_
  unfold doF
  simp only
  obtain ⟨a1, a2, a3, a4, a5⟩ := hR
  rw [iI_lt (by omega) (by omega) (by omega) (by omega), iI_nat (z := v) (by omega) (by omega), iI_nat (z := ((loI v lo : Nat) : Int)) (by omega) (by omega), Int.toNat_natCast, hi, iI_add]
  refine ⟨fun q => ?_, fun q => ?_⟩
  · rw [if_pos (by omega)]
    refine ⟨iI_in (by omega) (by omega) (by omega), iI_in (by omega) (by omega) (by omega), iI_in (by omega) (by omega) (by omega), iI_in (by omega) (by omega) (by omega), (((((f.wk (by decide)).up (by decide)).up (by decide)).up (by decide)).up (by decide)).up (by decide), ?_, rfl, ?_, ?_, ?_, ⟨?_, ?_⟩, ⟨?_, ?_⟩, ?_⟩
    · rw [q_up_k (by decide), q_up_o (by decide), q_up_o (by decide), q_up_o (by decide), q_up_o (by decide), f 9 (by decide)]
    · rw [q_up_k (by decide), q_up_o (by decide), q_up_o (by decide), q_up_o (by decide), q_up_o (by decide)]; exact hi
    · rw [q_up_o (by decide), q_up_o (by decide), q_up_o (by decide), q_up_o (by decide), q_up_row, N8_up (by omega), a1]
    · rw [q_up_o (by decide), q_up_o (by decide), q_up_o (by decide), q_up_o (by decide), q_up_o (by decide)]; exact a2
    · rw [q_up_s, List.length_append, List.length_take, List.length_singleton]; exact congrArg iI (by omega)
    · intro k hk
      rw [List.length_append, List.length_take, List.length_singleton] at hk
      rw [q_up_o (o' := 20) (by decide), q_up_o (o' := 20) (by decide), q_up_o (o' := 20) (by decide), q_up_o (o := 9) (o' := 21) (by decide), q_up_o (o := 22) (o' := 21) (by decide), q_up_o (o := 9) (o' := 22) (by decide)]
      by_cases hk2 : k = loI v lo
      · subst hk2
        rw [q_up_s, q_up_s, q_up_s]
        have e : (lo.take (loI v lo) ++ [(v, y, i + 1)]).getD (loI v lo) dL = (v, y, i + 1) := by
          simp only [List.getD_eq_getElem?_getD]
          rw [List.getElem?_append_right (by rw [List.length_take]; omega), List.length_take, show loI v lo - min (loI v lo) lo.length = 0 by omega]
          rfl
        rw [e]
        exact ⟨rfl, rfl, rfl⟩
      · have e : (lo.take (loI v lo) ++ [(v, y, i + 1)]).getD k dL = lo.getD k dL := by
          simp only [List.getD_eq_getElem?_getD]
          rw [List.getElem?_append_left (by rw [List.length_take]; omega), List.getElem?_take_of_lt (by omega)]
        rw [e, q_up_k hk2, q_up_k hk2, q_up_k hk2, q_up_o (o' := 20) (by decide), q_up_o (o := 20) (o' := 21) (by decide), q_up_o (o := 13) (o' := 21) (by decide), q_up_o (o := 21) (o' := 22) (by decide), q_up_o (o := 20) (o' := 22) (by decide), q_up_o (o := 13) (o' := 22) (by decide)]
        exact a3.2 k (by omega)
    · rw [q_up_k (by decide), q_up_o (by decide), q_up_o (by decide), q_up_o (by decide), q_up_o (by decide)]; exact a4.1
    · rw [q_up_o (by decide), q_up_o (by decide), q_up_o (by decide), q_up_o (by decide), q_up_o (by decide)]; exact a4.2
    · exact a5.keep (by rw [q_up_o (by decide), q_up_o (by decide), q_up_o (by decide), q_up_o (by decide), q_up_o (by decide)]) (by rw [q_up_o (by decide), q_up_o (by decide), q_up_o (by decide), q_up_o (by decide), q_up_o (by decide)])
  · rw [if_neg (by omega)]
    exact ⟨f.wk (by decide), by rw [f 9 (by decide)], rfl, by decide, a1, a2, a3, a4, a5⟩
theorem k_openLoop {M : qM} {e i : Nat} {b c : Int} {u : List Int} (h : cS M e (b :: c :: 61 :: u)) (hc : isV c = true) (ht : tbs (11, 2, 1, 0, 0, 0, 0) u = true) (hR : cR M pr s) (hg : gds pr s) (hi : M 9 14 = iI (off pr (i + 1))) : V l Γ T_Machine_openLoop (d + 22 + 1) r 0 [.ref 9, .null, .null, .null, .null, .null] [] (M, L) (q_i L (pfQ M pr s (exE (sE s u) (fun x r => exE (sE s r.tail) (fun y _ => doF i (c - 97) x y s))))) := by
  have hcv : 97 ≤ c ∧ c ≤ 104 := by simpa [isV] using hc
  refine s_Machine_openLoop_0 ⟨_, k_take h, ?_⟩
  rintro x1 M1 ⟨rfl, h1, f1⟩
  refine ⟨_, k_takeVariable (d := d + 21) h1 hc, ?_⟩
  rintro x2 M2 ⟨rfl, h2, f2⟩
  refine ⟨_, k_take h2, ?_⟩
  rintro x3 M3 ⟨rfl, h3, f3⟩
  have f13 := (f1.tr f2).tr f3
  refine ⟨_, k_E h3 (hR.f12 f13) hg ht, ?_⟩
  rintro x4 M4 ⟨f4, hq⟩
  have f14 := f13.tr f4
  rcases E_end (e := e) h3.len.2 hg ht with ⟨er, ee, he⟩ | ⟨v, rr, ee, hv, h14, htr, hll⟩
  · rw [ee] at hq ⊢
    refine ⟨_, k_takeE hq (by omega), ?_⟩
    rintro x5 M5 ⟨h5, f5⟩
    refine ⟨_, k_expressionE h5, ?_⟩
    rintro x6 M6 rfl
    have f15 := f14.tr f5
    exact ⟨fun q => absurd q h5.ne, fun _ => ⟨f15.wk (by decide), by rw [f15 9 (by decide)], h5.2.2.2.2.1, by omega, hR.f12 f15⟩⟩
  · obtain ⟨r', rfl, h11⟩ := end_2 h14 htr
    rw [ee] at hq ⊢
    obtain ⟨rfl, hS⟩ := hq
    refine ⟨_, k_take hS, ?_⟩
    rintro x5 M5 ⟨rfl, h5, f5⟩
    have f15 := f14.tr f5
    refine ⟨_, k_E h5 (hR.f12 f15) hg h11, ?_⟩
    rintro x6 M6 ⟨f6, hq6⟩
    have f16 := f15.tr f6
    have hR6 := hR.f12 f16
    rw [exE]
    simp only [List.tail_cons]
    rcases E_end (e := e) h5.len.2 hg h11 with ⟨er, ee6, he⟩ | ⟨v6, rr, ee6, hv6, h146, htr6, hll6⟩
    · rw [ee6] at hq6 ⊢
      exact ⟨fun q => absurd q hq6.ne, fun _ => ⟨f16.wk (by decide), by rw [f16 9 (by decide)], hq6.2.2.2.2.1, by omega, hR6⟩⟩
    · rw [ee6] at hq6 ⊢
      obtain ⟨rfl, hS6⟩ := hq6
      obtain ⟨va, ce, lo, re, ou⟩ := s
      rw [exE]
      have h6 := hg.2.2.1.1
      have hxb := loX_b (c - 97) lo h6
      have hle := loI_le (c - 97) lo
      refine ⟨fun _ => ⟨_, k_loopOf hR6 hg (by omega), ?_⟩, fun q => absurd hS6.2.2.2.2.2 q⟩
      rintro x7 M7 ⟨rfl, rfl⟩
      have go := k_openLoop_88 (l := l) (Γ := Γ) (d := d + 22) (r := r) (L := L) (i := i) (v := c - 97) (by omega) hR6 hg (by rw [f16 9 (by decide)]; exact hi) f16 x4 x6
      rw [iI_eq (by omega) (by omega) (by omega) (by omega), hR6.2.2.1.1]
      unfold loX
      by_cases hf : loI (c - 97) lo < lo.length
      · rw [if_pos hf]
        exact ⟨fun _ => go, fun q => by omega⟩
      · rw [if_neg hf]
        rw [show loI (c - 97) lo = lo.length by omega] at go
        exact ⟨fun q => absurd rfl q, fun _ => go⟩
theorem k_closeLoop {M : qM} {e i : Nat} {b c : Int} (h : cS M e [b, c]) (hc : isV c = true) (hR : cR M pr s) (hg : gds pr s) (hi : M 9 14 = iI (off pr (i + 1))) : V l Γ T_Machine_closeLoop (d + 1 + 1) r 0 [.ref 9, .null, .null] [] (M, L) (q_i L (pfQ M pr s (doN i (c - 97) s))) := by
  have hcv : 97 ≤ c ∧ c ≤ 104 := by simpa [isV] using hc
  refine s_Machine_closeLoop_0 ⟨_, k_take h, ?_⟩
  rintro x1 M1 ⟨rfl, h1, f1⟩
  refine ⟨_, k_takeVariable h1 hc, ?_⟩
  rintro x2 M2 ⟨rfl, h2, f2⟩
  have f12 := f1.tr f2
  have hR2 := hR.f12 f12
  obtain ⟨va, ce, lo, re, ou⟩ := s
  have h6 := hg.2.2.1.1
  have hxb := loX_b (c - 97) lo h6
  refine ⟨_, k_loopOf hR2 hg (by omega), ?_⟩
  rintro x3 M3 ⟨rfl, rfl⟩
  obtain ⟨a1, a2, a3, a4, a5⟩ := hR2
  unfold doN
  simp only
  rw [iI_eq (by omega) (by omega) (by omega) (by omega)]
  by_cases hf : loI (c - 97) lo < lo.length
  · have ex : loX (c - 97) lo = ((loI (c - 97) lo : Nat) : Int) := by unfold loX; rw [if_pos hf]
    have hva : M3 13 (c - 97).toNat = va (c - 97).toNat := by rw [← a1, N8_v hc]
    rw [if_pos hf, ex, iI_nat (z := c - 97) (by omega) (by omega), iI_nat (z := ((loI (c - 97) lo : Nat) : Int)) (by omega) (by omega), Int.toNat_natCast, q_up_s, (a3.2 _ hf).2.1, (a3.2 _ hf).2.2, hva, iI_add]
    refine ⟨fun _ => ⟨iI_in (by omega) (by omega) (by omega), iI_in (by omega) (by omega) (by omega), iI_in (by omega) (by omega) (by omega), iI_in (by omega) (by omega) (by omega), fun q => ?_, fun q => ?_⟩, fun q => by omega⟩
    · rw [if_pos (show sh (va (c - 97).toNat + iI 1) ≤ _ from q)]
      refine ⟨iI_in (by omega) (by omega) (by omega), (((f12.wk (by decide)).up (by decide)).up (by decide)).up (by decide), ?_, rfl, q_up_s, ?_, ?_, ⟨?_, ?_⟩, ⟨?_, ?_⟩, ?_⟩
      · rw [q_up_k (by decide), q_up_k (by decide), q_up_o (by decide), f12 9 (by decide)]
      · rw [q_up_o (by decide), q_up_o (by decide), q_up_row, N8_up (by omega), a1]
        rfl
      · rw [q_up_o (by decide), q_up_o (by decide), q_up_o (by decide)]; exact a2
      · rw [q_up_k (by decide), q_up_s, List.length_take]; exact congrArg iI (by omega)
      · intro k hk
        rw [List.length_take] at hk
        have e : (lo.take (loI (c - 97) lo + 1)).getD k dL = lo.getD k dL := by
          simp only [List.getD_eq_getElem?_getD]
          rw [List.getElem?_take_of_lt (by omega)]
        rw [e, q_up_o (o' := 20) (by decide), q_up_o (o' := 20) (by decide), q_up_o (o' := 20) (by decide), q_up_o (o' := 21) (by decide), q_up_o (o' := 21) (by decide), q_up_o (o' := 21) (by decide), q_up_o (o' := 22) (by decide), q_up_o (o' := 22) (by decide), q_up_o (o' := 22) (by decide)]
        exact a3.2 k (by omega)
      · rw [q_up_k (by decide), q_up_k (by decide), q_up_o (by decide)]; exact a4.1
      · rw [q_up_o (by decide), q_up_o (by decide), q_up_o (by decide)]; exact a4.2
      · exact a5.keep (by rw [q_up_o (by decide), q_up_o (by decide), q_up_o (by decide)]) (by rw [q_up_o (by decide), q_up_o (by decide), q_up_o (by decide)])
    · rw [if_neg (show ¬ sh (va (c - 97).toNat + iI 1) ≤ _ from q)]
      refine ⟨((f12.wk (by decide)).up (by decide)).up (by decide), ?_, rfl, ?_, ?_, ?_, ⟨?_, ?_⟩, ⟨?_, ?_⟩, ?_⟩
      · rw [q_up_k (by decide), q_up_o (by decide), f12 9 (by decide)]
      · rw [q_up_k (by decide), q_up_o (by decide), f12 9 (by decide)]; exact hi
      · rw [q_up_o (by decide), q_up_row, N8_up (by omega), a1]
        rfl
      · rw [q_up_o (by decide), q_up_o (by decide)]; exact a2
      · rw [q_up_s, List.length_take]; exact congrArg iI (by omega)
      · intro k hk
        rw [List.length_take] at hk
        have e : (lo.take (loI (c - 97) lo)).getD k dL = lo.getD k dL := by
          simp only [List.getD_eq_getElem?_getD]
          rw [List.getElem?_take_of_lt (by omega)]
        rw [e, q_up_o (o' := 20) (by decide), q_up_o (o' := 20) (by decide), q_up_o (o' := 21) (by decide), q_up_o (o' := 21) (by decide), q_up_o (o' := 22) (by decide), q_up_o (o' := 22) (by decide)]
        exact a3.2 k (by omega)
      · rw [q_up_k (by decide), q_up_o (by decide)]; exact a4.1
      · rw [q_up_o (by decide), q_up_o (by decide)]; exact a4.2
      · exact a5.keep (by rw [q_up_o (by decide), q_up_o (by decide)]) (by rw [q_up_o (by decide), q_up_o (by decide)])
  · have ex : loX (c - 97) lo = -1 := by unfold loX; rw [if_neg hf]
    rw [if_neg hf, ex]
    exact ⟨fun q => absurd rfl q, fun _ => ⟨f12.wk (by decide), by rw [f12 9 (by decide)], rfl, by decide, a1, a2, a3, a4, a5⟩⟩
end Doing2
