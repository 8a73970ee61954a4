-- writing, and a statement whole: the class
theorem sgn_len {a : Int} : (sgn a).length ≤ 6 := by
  unfold sgn dec
  rw [List.length_append, dgl_len]
  have := upD_le a.natAbs 4 0
  split <;> simp <;> omega
theorem dgl_bb (n : Nat) : ∀ k, ∀ c ∈ dgl n k, 0 ≤ c ∧ c < 65536 := by
  intro k
  induction k with
  | zero =>
    intro c hc
    simp only [dgl, List.mem_singleton] at hc
    omega
  | succ k ih =>
    intro c hc
    rw [dgl] at hc
    rcases List.mem_cons.mp hc with rfl | hc
    · omega
    · exact ih c hc
theorem sgn_b (a : Int) : ∀ c ∈ sgn a, 0 ≤ c ∧ c < 65536 := by
  intro c hc
  unfold sgn at hc
  rcases List.mem_append.mp hc with hc | hc
  · split at hc
    · simp only [List.mem_singleton] at hc
      omega
    · cases hc
  · exact dgl_bb _ _ c hc
section Doing3
variable {l : Launch} {Γ : qG} {d r : Nat} {L : Nat → Int64} {pr : List (Int × List Int)} {s : rS}
theorem k_writeRow_34 {e : Nat} (he : e ≤ 200) : ∀ (t : List Int) (M : qM) (ou : List Int), t ≠ [] → cB (M 11) e t → shIs M 16 ou → ou.length + (t.length - 1) ≤ 100 → V l Γ T_Machine_writeRow (d + 1) r 34 [.ref 9, .null, .int (iI ((e : Int) - 1)), .int (iI ((e - t.length : Nat) : Int))] [] (M, L) (q_i L (fun x M' => x = iI 0 ∧ shIs M' 16 (ou ++ t.take (t.length - 1)) ∧ fr [16, 17] M M')) := by
  intro t
  induction t with
  | nil => intro M ou h; exact absurd rfl h
  | cons c t ih =>
    intro M ou _ hB hs hl
    obtain ⟨k1, k2, k3, k4⟩ := hB.hd
    have hcp : cp 17 = 100 := by decide
    refine s_Machine_writeRow_34 _ _ ?_
    simp only [List.length_cons] at hl ⊢
    rw [iI_le (by omega) (by omega) (by omega) (by omega), iI_nat (by omega) (by omega), Int.toNat_natCast, k1, i2c_z ⟨k3, k4⟩, iI_add]
    rcases t with _ | ⟨c2, t2⟩
    · refine ⟨fun _ => ⟨trivial, ?_, fr.rf⟩, fun q => by simp at q; omega⟩
      simp
      exact hs
    · simp only [List.length_cons] at k2 hl ⊢
      refine ⟨fun q => by omega, fun _ => ⟨iI_in (by omega) (by omega) (by omega), _, c_append 16 (by decide) hs k3 (by omega), ?_⟩⟩
      rintro x1 M1 ⟨rfl, rfl⟩
      have h3 := shApp_is (c := c) hs
      rw [if_pos (by show ou.length < cp 17; omega)] at h3
      have hf := shApp_fr (M := M) (o := 16) (t := ou) (c := c)
      have := ih (shApp M 16 ou c) (ou ++ [c]) (by simp) (by rw [hf 11 (by decide)]; exact hB.tl) h3 (by simp; omega)
      simp only [List.length_cons] at this
      rw [show ((e - (t2.length + 1 + 1) : Nat) : Int) + 1 = ((e - (t2.length + 1) : Nat) : Int) by omega]
      refine this.wi (fun x M' hM => ⟨hM.1, ?_, hf.tr hM.2.2⟩)
      have a := hM.2.1
      rw [List.append_assoc] at a
      exact a
theorem k_room {M : qM} {ou : List Int} (hs : shIs M 16 ou) {n : Nat} (hn : n ≤ 1000) : V l Γ T_Sheet_hasRoomFor d r 0 [.ref 16, .int (iI n)] [] (M, L) (q_i L (fun x M' => x = b2 (decide (ou.length + n ≤ 100)) ∧ M' = M)) := by
  have hcp : cp 17 = 100 := by decide
  have hl := hs.2.1
  have hl : ou.length ≤ cp 17 := hl
  refine s_Sheet_hasRoomFor_0 16 rfl _ ?_
  rw [hs.1, iI_nI, show cp (16 + 1) = 100 from hcp, iI_sub, iI_lt (by omega) (by omega) (by omega) (by omega)]
  exact ⟨fun q => ⟨b2_f (by simp; omega), rfl⟩, fun q => ⟨b2_t (by simp; omega), rfl⟩⟩
theorem k_write {M : qM} {e i : Nat} {u : List Int} (h : cS M e (63 :: u)) (hu : (∃ t, u = 34 :: t ∧ t ≠ [] ∧ ∀ c ∈ t, 32 ≤ c ∧ c ≤ 126) ∨ (u.headD 0 ≠ 34 ∧ tbs (11, 0, 1, 0, 0, 0, 0) u = true)) (hR : cR M pr s) (hg : gds pr s) (hi : M 9 14 = iI (off pr (i + 1))) (he : e = off pr (i + 1)) (h95 : M 9 5 = iI ((e - (u.length + 3) : Nat) : Int)) : V l Γ T_Machine_write (d + 22 + 1) r 0 [.ref 9, .null] [] (M, L) (q_i L (pfQ M pr s (if u.headD 0 = 34 then doW i (u.tail.take (u.tail.length - 1)) s else exE (sE s u) (fun v _ => doW i (sgn v.toInt ++ [32]) s)))) := by
  have hen := h.2.1
  refine s_Machine_write_0 ⟨_, k_take h, ?_⟩
  rintro x1 M1 ⟨rfl, h1, f1⟩
  refine ⟨_, k_ahead h1, ?_⟩
  rintro x2 M2 ⟨rfl, rfl⟩
  have hR1 := hR.f12 f1
  rcases hu with ⟨t, rfl, htn, htc⟩ | ⟨hne, ht⟩
  · rw [List.headD_cons, List.headD_cons, if_pos rfl, List.tail_cons]
    refine ⟨fun q => absurd rfl q, fun _ => ?_⟩
    obtain ⟨va, ce, lo, re, ou⟩ := s
    obtain ⟨a1, a2, a3, a4, a5⟩ := hR1
    have hB := h1.2.2.2.2.1.tl
    have hl3 := h.len
    simp only [List.length_cons] at hl3 h95
    have htl : 0 < t.length := List.length_pos_iff.mpr htn
    have e14 : M2 9 14 = iI e := by rw [f1 9 (by decide), hi, he]
    have e95 : M2 9 5 = iI ((e - (t.length + 1 + 3) : Nat) : Int) := by rw [f1 9 (by decide)]; exact h95
    have hou := hg.2.2.2.2.1
    refine ⟨pfQ M pr (va, ce, lo, re, ou) (doW i (t.take (t.length - 1)) (va, ce, lo, re, ou)), ?_, fun x M' hM => hM⟩
    refine s_Machine_writeRow_0 ?_
    rw [e14, e95, iI_sub, iI_add, iI_add, iI_sub, show (e : Int) - 1 - (((e - (t.length + 1 + 3) : Nat) : Int) + 2 + 2) = ((t.length - 1 : Nat) : Int) by omega, show ((e - (t.length + 1 + 3) : Nat) : Int) + 2 + 2 = ((e - t.length : Nat) : Int) by omega]
    refine ⟨_, k_room a5 (by omega), ?_⟩
    rintro x3 M3 ⟨rfl, rfl⟩
    rw [b2_0]
    unfold doW
    simp only
    rw [List.length_take, show min (t.length - 1) t.length = t.length - 1 by omega]
    refine ⟨fun q => ?_, fun q => ?_⟩
    · have q : ou.length + (t.length - 1) ≤ 100 := by simpa using q
      rw [if_pos q]
      refine (k_writeRow_34 hen t M3 ou htn hB a5 q).wi (fun x M' hM => ?_)
      obtain ⟨rfl, hs, f⟩ := hM
      refine ⟨(f1.wk (by decide)).tr (f.wk (by decide)), by rw [f 9 (by decide), f1 9 (by decide)], rfl, by rw [f 9 (by decide), e14, he], ?_, ?_, ?_, ?_, hs⟩
      · rw [f 13 (by decide)]; exact a1
      · rw [f 14 (by decide)]; exact a2
      · rw [f 9 (by decide), f 20 (by decide), f 21 (by decide), f 22 (by decide)]; exact a3
      · rw [f 9 (by decide), f 23 (by decide)]; exact a4
    · have q : ¬ ou.length + (t.length - 1) ≤ 100 := by simpa using q
      rw [if_neg q]
      exact ⟨f1.wk (by decide), by rw [f1 9 (by decide)], rfl, by decide, a1, a2, a3, a4, a5⟩
  · rw [if_neg hne]
    have hx : ¬ iI (u.headD (-1)) = iI 34 := by
      rcases u with _ | ⟨c, t⟩
      · decide
      · have hb := (h1.2.2.2.2.1).hd
        rw [List.headD_cons, iI_eq (by omega) (by omega) (by omega) (by omega)]
        exact hne
    refine ⟨fun _ => ⟨_, k_E h1 hR1 hg ht, ?_⟩, fun q => absurd hx q⟩
    rintro x3 M3 ⟨f3, hq⟩
    have f13 := f1.tr f3
    have hR3 := hR.f12 f13
    rcases E_end (e := e) h1.len.2 hg ht with ⟨er, ee, he'⟩ | ⟨v, rr, ee, hv, h14, htr, hll⟩
    · rw [ee] at hq ⊢
      exact ⟨fun q => absurd q hq.ne, fun _ => ⟨f13.wk (by decide), by rw [f13 9 (by decide)], hq.2.2.2.2.1, by omega, hR3⟩⟩
    · rw [ee] at hq ⊢
      obtain ⟨rfl, hS⟩ := hq
      refine ⟨fun _ => ?_, fun q => absurd hS.2.2.2.2.2 q⟩
      unfold isSh at hv
      have ex : x3 = iI x3.toInt := by
        apply Int32.toInt_inj.mp
        rw [iI_toInt (by omega) (by omega)]
      have hsl := sgn_len (a := x3.toInt)
      have hcp : cp 19 = 8 := by decide
      have hap := c_appendNumber (l := l) (Γ := Γ) (d := d + 21) (r := 0) (L := L) 18 (Or.inr rfl) x3.toInt hv (t := []) (M := q_up M3 18 1 (iI 0)) shIs.wipe
      rw [← ex] at hap
      refine ⟨_, hap, ?_⟩
      rintro M4 ⟨s4, f4⟩
      rw [List.nil_append] at s4
      refine ⟨_, c_app 18 (by decide) s4 (by decide), ?_⟩
      rintro x5 M5 ⟨s5, f5⟩
      rw [List.take_of_length_le (by show (sgn x3.toInt ++ [32]).length ≤ cp 19; rw [List.length_append, List.length_singleton]; omega)] at s5
      have f35 : fr [18, 19] M3 M5 := ((fr.rf.up (by decide)).tr f4).tr f5
      rw [exE]
      obtain ⟨va, ce, lo, re, ou⟩ := s
      obtain ⟨a1, a2, a3, a4, a5⟩ := hR3
      have a5' : shIs M5 16 ou := a5.keep (f35 16 (by decide)) (f35 17 (by decide))
      have f15 : fr cF M M5 := (f13.wk (by decide)).tr (f35.wk (by decide))
      have g9 : M5 9 = M 9 := by rw [f35 9 (by decide), f13 9 (by decide)]
      have hlen : (sgn x3.toInt ++ [32]).length ≤ 7 := by rw [List.length_append, List.length_singleton]; omega
      rw [s5.1]
      refine ⟨_, k_room a5' (by omega), ?_⟩
      rintro x6 M6 ⟨rfl, rfl⟩
      rw [b2_0]
      unfold doW
      simp only
      refine ⟨fun q => ?_, fun q => ?_⟩
      · have q : ou.length + (sgn x3.toInt ++ [32]).length ≤ 100 := by simpa using q
        rw [if_pos q]
        have hcp17 : cp (16 + 1) = 100 := by decide
        refine ⟨_, s_Sheet_appendSheet_0 16 18 (Or.inr ⟨rfl, rfl⟩) (c_appendSheet_2 (d := d + 21) (Or.inr ⟨rfl, rfl⟩) (u := sgn x3.toInt ++ [32]) (fun c hc => ?_) (sgn x3.toInt ++ [32]).length 0 M6 ou (by omega) a5' s5 (by omega)), ?_⟩
        · rcases List.mem_append.mp hc with hc | hc
          · exact sgn_b _ c hc
          · simp only [List.mem_singleton] at hc
            omega
        rintro M7 ⟨s7, f7⟩
        rw [List.drop_zero] at s7
        have f37 : fr [16, 17, 18, 19] M3 M7 := (f35.wk (by decide)).tr (f7.wk (by decide))
        refine ⟨f15.tr (f7.wk (by decide)), by rw [f7 9 (by decide), g9], rfl, by rw [f7 9 (by decide), g9, hi], ?_, ?_, ?_, ?_, s7⟩
        · rw [f37 13 (by decide)]; exact a1
        · rw [f37 14 (by decide)]; exact a2
        · rw [f37 9 (by decide), f37 20 (by decide), f37 21 (by decide), f37 22 (by decide)]; exact a3
        · rw [f37 9 (by decide), f37 23 (by decide)]; exact a4
      · have q : ¬ ou.length + (sgn x3.toInt ++ [32]).length ≤ 100 := by simpa using q
        rw [if_neg q]
        refine ⟨f15, by rw [g9], rfl, by decide, ?_, ?_, ?_, ?_, a5'⟩
        · rw [f35 13 (by decide)]; exact a1
        · rw [f35 14 (by decide)]; exact a2
        · rw [f35 9 (by decide), f35 20 (by decide), f35 21 (by decide), f35 22 (by decide)]; exact a3
        · rw [f35 9 (by decide), f35 23 (by decide)]; exact a4
end Doing3
