-- words and statements spelled out on a sheet
theorem take_cut (a b : List Int) (n : Nat) : (a.take n ++ b).take n = (a ++ b).take n := by
  by_cases h : a.length ≤ n
  · rw [List.take_of_length_le h]
  · rw [List.take_left' (by simp; omega), List.take_append_of_le_length (by omega)]
theorem spl_cons (fs : Bool) (b : Int) (u : List Int) : spl fs (b :: u) = (if 128 ≤ b ∧ b ≤ 135 then (if fs = true then [] else [32]) ++ (wl (b - 128).toNat).map (· + 64) ++ (if u = [] then [] else [32]) else [b]) ++ spl false u := rfl
theorem i2c_c : ∀ c : Nat, c < 256 → ((iI (c : Int)).toUInt32 % 65536).toInt32 = iI (c : Int) := by decide +kernel
theorem i2c_z {c : Int} (h : 0 ≤ c ∧ c < 256) : ((iI c).toUInt32 % 65536).toInt32 = iI c := by
  have := i2c_c c.toNat (by omega)
  rw [show ((c.toNat : Nat) : Int) = c by omega] at this
  exact this
section Spell
variable {l : Launch} {Γ : qG} {d r : Nat} {L : Nat → Int64}
theorem c_app {M : qM} (o : Nat) (ho : o = 1 ∨ o = 3 ∨ o = 7 ∨ o = 16 ∨ o = 18) {t : List Int} {c : Int} (h : shIs M o (t.take (cp (o + 1)))) (hc : 0 ≤ c ∧ c < 65536) : V l Γ T_Sheet_append d r 0 [.ref o, .int (iI c)] [] (M, L) (q_i L (fun _ M' => shIs M' o ((t ++ [c]).take (cp (o + 1))) ∧ fr [o, o + 1] M M')) := by
  refine (c_append o ho h hc.1 hc.2).mono (fun q S hq => ?_)
  obtain ⟨x, M', e1, e2, -, rfl⟩ := hq
  refine ⟨x, _, e1, e2, ?_, shApp_fr⟩
  have := shApp_is (c := c) h
  rw [← take_cut]
  by_cases hl : (t.take (cp (o + 1))).length < cp (o + 1)
  · rw [if_pos hl] at this
    have e : (t.take (cp (o + 1)) ++ [c]).take (cp (o + 1)) = t.take (cp (o + 1)) ++ [c] := List.take_of_length_le (by simp only [List.length_append, List.length_singleton]; omega)
    rw [e]
    exact this
  · rw [if_neg hl] at this
    have e : (t.take (cp (o + 1)) ++ [c]).take (cp (o + 1)) = t.take (cp (o + 1)) := List.take_left' (by have := List.length_take_le (cp (o + 1)) t; omega)
    rw [e]
    exact this
theorem c_appendWord_14 {M : qM} (o : Nat) (ho : (o = 3) ∨ (o = 7)) (w : Nat) (hw : w < 8) (cc : Bool) (t : List Int) : ∀ (j k : Nat) (M : qM), k + j = (wl w).length → shIs M o (t.take (cp (o + 1))) → V l Γ T_Sheet_appendWord (d + 5 + 1) r 14 [.ref o, .ref (60 + w), .null, .int (b2 cc), .int (iI k)] [] (M, L) (q_n L (fun M' => shIs M' o ((t ++ ((wl w).drop k).map (· + 64) ++ (if cc = true then [32] else [])).take (cp (o + 1))) ∧ fr [o, o + 1] M M')) := by
  have ho5 : o = 1 ∨ o = 3 ∨ o = 7 ∨ o = 16 ∨ o = 18 := by omega
  have hl : ∀ w, w < 8 → (wl w).length ≤ 6 := by decide
  have hl := hl w hw
  intro j
  induction j generalizing t with
  | zero =>
    intro k M hk h
    refine s_Sheet_appendWord_14 o ho _ _ _ (by omega) ?_
    rw [show 60 + w - 60 = w by omega, iI_le (by omega) (by omega) (by omega) (by omega), b2_0]
    refine ⟨by omega, fun _ => ⟨fun q => ?_, fun q => ?_⟩, fun q => by omega⟩
    · rw [List.drop_eq_nil_of_le (by omega), if_neg (by simp [q])]
      simp only [List.map_nil, List.append_nil]
      exact ⟨h, fr.rf⟩
    · rw [List.drop_eq_nil_of_le (by omega), if_pos (by simpa using q)]
      simp only [List.map_nil, List.append_nil]
      refine ⟨_, c_app o ho5 h (by decide), ?_⟩
      intro x1 M1 h1
      exact h1
  | succ j ih =>
    intro k M hk h
    have hkl : k < (wl w).length := by omega
    have hlt : lt w k = (wl w)[k] := by simp [lt, List.getD_eq_getElem?_getD, hkl]
    have hlb : ∀ w, w < 8 → ∀ k, k < (wl w).length → 1 ≤ lt w k ∧ lt w k ≤ 26 := by decide
    have hlb := hlb w hw k hkl
    refine s_Sheet_appendWord_14 o ho _ _ _ (by omega) ?_
    rw [show 60 + w - 60 = w by omega, iI_le (by omega) (by omega) (by omega) (by omega), iI_toInt (by omega) (by omega), Int.toNat_natCast, iI_add]
    refine ⟨by omega, fun q => by omega, fun _ => ⟨by omega, by omega, _, c_app o ho5 h (by omega), ?_⟩⟩
    rintro x2 M2 ⟨h2, f2⟩
    rw [show ((k : Int) + 1) = ((k + 1 : Nat) : Int) by omega]
    refine (ih (t ++ [lt w k + 64]) (k + 1) M2 (by omega) h2).mono (fun q S hq => ?_)
    obtain ⟨M', e1, e2, h3, f3⟩ := hq
    refine ⟨M', e1, e2, ?_, f2.tr f3⟩
    rw [List.drop_eq_getElem_cons hkl, ← hlt]
    simp only [List.map_cons]
    rw [show t ++ ((lt w k + 64) :: ((wl w).drop (k + 1)).map (· + 64)) = t ++ [lt w k + 64] ++ ((wl w).drop (k + 1)).map (· + 64) by simp]
    exact h3
theorem c_appendWord {M : qM} (o : Nat) (ho : (o = 3) ∨ (o = 7)) (w : Nat) (hw : w < 8) (bb cc : Bool) (t : List Int) (h : shIs M o (t.take (cp (o + 1)))) : V l Γ T_Sheet_appendWord (d + 5 + 1) r 0 [.ref o, .ref (60 + w), .int (b2 bb), .int (b2 cc), .null] [] (M, L) (q_n L (fun M' => shIs M' o ((t ++ (if bb = true then [32] else []) ++ (wl w).map (· + 64) ++ (if cc = true then [32] else [])).take (cp (o + 1))) ∧ fr [o, o + 1] M M')) := by
  have ho5 : o = 1 ∨ o = 3 ∨ o = 7 ∨ o = 16 ∨ o = 18 := by omega
  refine s_Sheet_appendWord_0 o ho _ _ _ (by omega) ?_
  rw [b2_0]
  refine ⟨fun q => ?_, fun q => ⟨_, c_app o ho5 h (by decide), ?_⟩⟩
  · rw [if_neg (by simp [q]), List.append_nil]
    exact c_appendWord_14 (M := M) o ho w hw cc t (wl w).length 0 M (by omega) h
  · rintro x1 M1 ⟨h1, f1⟩
    rw [if_pos (by simpa using q)]
    refine (c_appendWord_14 (M := M) o ho w hw cc (t ++ [32]) (wl w).length 0 M1 (by omega) h1).mono (fun q S hq => ?_)
    obtain ⟨M', e1, e2, h3, f3⟩ := hq
    exact ⟨M', e1, e2, h3, f1.tr f3⟩
/-- spell, from the k-th byte on -/
theorem c_spell_3 (o w : Nat) (ho : (o = 3 ∧ w = 11) ∨ (o = 7 ∧ w = 26)) (bs : List Int) (from_ : Nat) (hbs : ∀ b ∈ bs, 0 ≤ b ∧ b < 256) (hfb : from_ + bs.length ≤ cp w) (hwc : cp w ≤ 257) : ∀ (u : List Int) (k : Nat) (t : List Int) (M : qM), bs.drop k = u → k ≤ bs.length → (∀ i, i < bs.length → M w (from_ + i) = iI (bs.getD i 0)) → shIs M o (t.take (cp (o + 1))) → V l Γ T_Sheet_spell (d + 6 + 1) r 3 [.ref o, .ref w, .int (iI from_), .int (iI bs.length), .int (iI k), .null] [] (M, L) (q_n L (fun M' => shIs M' o ((t ++ spl (decide (k = 0)) u).take (cp (o + 1))) ∧ fr [o, o + 1] M M')) := by
  have ho5 : o = 1 ∨ o = 3 ∨ o = 7 ∨ o = 16 ∨ o = 18 := by omega
  have ho2 : (o = 3) ∨ (o = 7) := by omega
  have hwo : w ≠ o ∧ w ≠ o + 1 := by omega
  intro u
  induction u with
  | nil =>
    intro k t M hu hk hw h
    have hkl : bs.length ≤ k := by
      have : (bs.drop k).length = 0 := by rw [hu]; rfl
      simp at this
      omega
    refine s_Sheet_spell_3 o w ho _ _ _ ?_
    rw [iI_le (by omega) (by omega) (by omega) (by omega)]
    refine ⟨fun _ => ⟨?_, fr.rf⟩, fun q => by omega⟩
    simp only [spl, List.append_nil]
    exact h
  | cons b u ih =>
    intro k t M hu hk hw h
    have hkl : k < bs.length := by
      have : (bs.drop k).length = u.length + 1 := by rw [hu]; rfl
      simp at this
      omega
    have hd := List.drop_eq_getElem_cons hkl
    rw [hd] at hu
    have hb : bs[k] = b := (List.cons.inj hu).1
    have hu2 : bs.drop (k + 1) = u := (List.cons.inj hu).2
    have hul : u.length = bs.length - (k + 1) := by rw [← hu2]; simp
    have hbb := hbs b (by rw [← hb]; exact List.getElem_mem hkl)
    have hmk : M w (from_ + k) = iI b := by
      rw [hw k hkl]
      congr 1
      simp [List.getD_eq_getElem?_getD, hkl, hb]
    have step : ∀ (t2 : List Int) (M1 : qM), shIs M1 o (t2.take (cp (o + 1))) → fr [o, o + 1] M M1 → t ++ spl (decide (k = 0)) (b :: u) = t2 ++ spl false u → V l Γ T_Sheet_spell (d + 6 + 1) r 3 [.ref o, .ref w, .int (iI from_), .int (iI bs.length), .int (iI ((k : Int) + 1)), .null] [] (M1, L) (q_n L (fun M' => shIs M' o ((t ++ spl (decide (k = 0)) (b :: u)).take (cp (o + 1))) ∧ fr [o, o + 1] M M')) := by
      intro t2 M1 h1 f1 e
      rw [show ((k : Int) + 1) = ((k + 1 : Nat) : Int) by omega]
      refine (ih (k + 1) t2 M1 hu2 (by omega) (fun i hi => by rw [f1 w (by simp; omega)]; exact hw i hi) h1).mono (fun q S hq => ?_)
      obtain ⟨M', e1, e2, h3, f3⟩ := hq
      refine ⟨M', e1, e2, ?_, f1.tr f3⟩
      rw [e]
      have : decide (k + 1 = 0) = false := by simp
      rw [this] at h3
      exact h3
    have one : ¬ (128 ≤ b ∧ b ≤ 135) → ∃ P1 : Int32 → qM → Prop, V l Γ T_Sheet_append (d + 6) 0 0 [.ref o, .int (iI b)] [] (M, L) (q_i L P1) ∧ ∀ (x1 : Int32) (M1 : qM), P1 x1 M1 → V l Γ T_Sheet_spell (d + 6 + 1) r 3 [.ref o, .ref w, .int (iI from_), .int (iI bs.length), .int (iI ((k : Int) + 1)), .null] [] (M1, L) (q_n L (fun M' => shIs M' o ((t ++ spl (decide (k = 0)) (b :: u)).take (cp (o + 1))) ∧ fr [o, o + 1] M M')) := by
      intro hn
      refine ⟨_, c_app o ho5 h (by omega), ?_⟩
      rintro x1 M1 ⟨h1, f1⟩
      refine step (t ++ [b]) M1 h1 f1 ?_
      rw [spl_cons, if_neg hn]
      simp
    refine s_Sheet_spell_3 o w ho _ _ _ ?_
    have hwin : vp_in (iI ((from_ : Int) + (k : Int))) (cp w) := iI_in (by omega) (by omega) (by omega)
    rw [iI_le (by omega) (by omega) (by omega) (by omega), iI_add (from_ : Int) (k : Int), iI_nat (z := (from_ : Int) + (k : Int)) (by omega) (by omega), show ((from_ : Int) + (k : Int)).toNat = from_ + k by omega, hmk, iI_add (k : Int) 1, i2c_z hbb]
    refine ⟨fun q => by omega, fun _ => ⟨hwin, fun q => one ?_, fun q => ⟨fun q2 => ?_, fun q2 => one ?_⟩⟩⟩
    · rw [iI_lt (by omega) (by omega) (by omega) (by omega)] at q
      omega
    · rw [iI_lt (by omega) (by omega) (by omega) (by omega)] at q
      rw [iI_le (by omega) (by omega) (by omega) (by omega)] at q2
      obtain ⟨v, rfl⟩ : ∃ v : Nat, b = 128 + v := ⟨(b - 128).toNat, by omega⟩
      have e1 : (128 + (v : Int) - 128) = v := by omega
      refine ⟨_, c_spelling v (by omega), ?_⟩
      rintro y M2 ⟨rfl, rfl⟩
      have go : ∀ bb : Bool, bb = decide (¬ k = 0) → V l Γ T_Sheet_spell (d + 6 + 1) r 60 [.ref o, .ref w, .int (iI from_), .int (iI bs.length), .int (iI k), .null] [.int (b2 bb), .ref (60 + v), .ref o] (M2, L) (q_n L (fun M' => shIs M' o ((t ++ spl (decide (k = 0)) ((128 + (v : Int)) :: u)).take (cp (o + 1))) ∧ fr [o, o + 1] M2 M')) := by
        intro bb hbb2
        have eb : (if decide (k = 0) = true then ([] : List Int) else [32]) = if bb = true then [32] else [] := by
          rw [hbb2]
          by_cases h0 : k = 0 <;> simp [h0]
        have fin : ∀ cc : Bool, (if u = [] then ([] : List Int) else [32]) = (if cc = true then [32] else []) → ∃ P1 : qM → Prop, V l Γ T_Sheet_appendWord (d + 6) 0 0 [.ref o, .ref (60 + v), .int (b2 bb), .int (b2 cc), .null] [] (M2, L) (q_n L P1) ∧ ∀ (M1 : qM), P1 M1 → V l Γ T_Sheet_spell (d + 6 + 1) r 3 [.ref o, .ref w, .int (iI from_), .int (iI bs.length), .int (iI ((k : Int) + 1)), .null] [] (M1, L) (q_n L (fun M' => shIs M' o ((t ++ spl (decide (k = 0)) ((128 + (v : Int)) :: u)).take (cp (o + 1))) ∧ fr [o, o + 1] M2 M')) := by
          intro cc hcc
          refine ⟨_, c_appendWord o ho2 v (by omega) bb cc t h, ?_⟩
          rintro M1 ⟨h1, f1⟩
          refine step _ M1 h1 f1 ?_
          rw [spl_cons, if_pos (by omega), e1, Int.toNat_natCast, eb, hcc]
          simp
        refine s_Sheet_spell_60 o w ho _ _ _ _ _ ?_
        rw [iI_sub, iI_le (by omega) (by omega) (by omega) (by omega), iI_add (k : Int) 1]
        refine ⟨fun q3 => fin false ?_, fun q3 => fin true ?_⟩
        · have : u = [] := List.length_eq_zero_iff.mp (by omega)
          rw [if_pos this]; rfl
        · have : u ≠ [] := fun e => by rw [e] at hul; simp at hul; omega
          rw [if_neg this]; rfl
      rw [iI_0, iI_le (by omega) (by omega) (by omega) (by omega)]
      exact ⟨fun q3 => go false (by symm; simp; omega), fun q3 => go true (by symm; simp; omega)⟩
    · rw [iI_le (by omega) (by omega) (by omega) (by omega)] at q2
      omega
theorem c_spell {M : qM} (o w : Nat) (ho : (o = 3 ∧ w = 11) ∨ (o = 7 ∧ w = 26)) (bs : List Int) (from_ : Nat) (t : List Int) (hbs : ∀ b ∈ bs, 0 ≤ b ∧ b < 256) (hfb : from_ + bs.length ≤ cp w) (hw : ∀ i, i < bs.length → M w (from_ + i) = iI (bs.getD i 0)) (h : shIs M o (t.take (cp (o + 1)))) : V l Γ T_Sheet_spell (d + 6 + 1) r 0 [.ref o, .ref w, .int (iI from_), .int (iI bs.length), .null, .null] [] (M, L) (q_n L (fun M' => shIs M' o ((t ++ spl true bs).take (cp (o + 1))) ∧ fr [o, o + 1] M M')) := by
  have hwc : cp w ≤ 257 := by rcases ho with ⟨rfl, rfl⟩ | ⟨rfl, rfl⟩ <;> decide
  exact s_Sheet_spell_0 o w ho _ _ (c_spell_3 o w ho bs from_ hbs hfb hwc bs 0 t M rfl (Nat.zero_le _) hw h)
end Spell
