-- the reference's reader, code by code and byte by byte
section MRead4
variable {l : Launch} {Γ : qG} {d r : Nat} {L : Nat → Int64} {M : qM} {m : Nat}
theorem cm_nzP {M1 : qM} {res : Option (rA × List Int)} {T2 : qT} {ls : List Value} (h : V l Γ T2 d 0 0 ls [] (M1, L) (q_i L (TQ M m res))) : ∃ P2 : Int32 → qM → Prop, V l Γ T2 d 0 0 ls [] (M1, L) (q_i L P2) ∧ ∀ (x2 : Int32) (M2 : qM), P2 x2 M2 → narrow .boolean (.int x2) = .int x2 ∧ TQ M m res x2 M2 := ⟨_, h, fun _ _ q => ⟨q.nz, q⟩⟩
theorem cm_takeOther (hm : M 27 10 = iI m) (hm2 : m ≤ 258) {st pu de nu li c : Int} {w le : Nat} (h : mSt M (st, pu, de, nu, w, le, li)) (h1 : st ≠ 1) (hc : 0 ≤ c ∧ c < 256) : V l Γ T_TapedLinesModel_takeOther (d + 1 + 1 + 1) r 0 [.ref 27, .int (iI c)] [] (M, L) (q_i L (TQ M m (tOther st pu de li c))) := by
  obtain ⟨h3, hl, hp, hd, hn, -, hw⟩ := h
  unfold wfs at hw
  obtain ⟨wst, wpu, wde, wnu, -, -, wli⟩ := hw
  refine s_TapedLinesModel_takeOther_0 _ ?_
  rw [h3, iI_toInt (by omega) (by omega)]
  have hk := kS.kp (M := M) (m := m) (c := c)
  have g7 : kp M m c 27 7 = iI li := by rw [kp_f (by decide)]; exact hl
  unfold tOther
  refine ⟨fun e => ?_, fun n0 => ⟨fun e => absurd e h1, fun _ => ⟨fun e => ?_, fun n2 => ⟨fun e => ?_, fun n3 => ⟨fun e => ?_, fun n4 => ⟨fun e => ?_, fun n5 => ⟨fun e => ?_, fun n7 => ⟨fun e => ?_, fun n9 => ⟨fun e => ?_, fun n10 => ⟨fun e => ?_, fun n11 => ⟨fun e => ?_, fun n12 => ⟨fun e => ?_, fun n13 => ⟨fun e => ?_, fun n14 => ?_⟩⟩⟩⟩⟩⟩⟩⟩⟩⟩⟩⟩⟩
  · rw [if_pos e]
    exact cm_nzP (cm_takeFirst hm hc)
  · rw [if_neg n0, if_pos e]
    exact cm_nzP (cm_takeBegin hm hm2 hl wli hc)
  · rw [if_neg n0, if_neg n2, if_pos e]
    refine ⟨_, cm_kp hm (by omega) c, ?_⟩
    rintro M1 rfl
    rw [iI_eq (by omega) (by omega) (by omega) (by omega)]
    refine ⟨fun q => TQ.n hk.1 (if_neg q), fun q => cm_opb _ ?_⟩
    exact TQ.at (((hk.up (by omega)).up (by omega)).up (by omega)) (if_pos (by omega)) q_up_s (by rw [q_up_k (by decide), q_up_k (by decide), q_up_k (by decide)]; exact g7) (fun _ => by rw [q_up_k (by decide), q_up_k (by decide), q_up_s, kp_f (by decide)]; exact hp (Or.inl e)) (fun _ => by rw [q_up_k (by decide), q_up_s]) (fun q => by omega) (by decide) (by unfold wfs; omega)
  · rw [if_neg n0, if_neg n2, if_neg n3, if_pos e]
    refine ⟨_, cm_kp hm (by omega) c, ?_⟩
    rintro M1 rfl
    rw [iI_eq (by omega) (by omega) (by omega) (by omega)]
    refine ⟨fun q => TQ.n hk.1 (if_neg q), fun q => cm_opb _ ?_⟩
    exact TQ.at (((hk.up (by omega)).up (by omega)).up (by omega)) (if_pos (by omega)) q_up_s (by rw [q_up_k (by decide), q_up_k (by decide), q_up_k (by decide)]; exact g7) (fun _ => by rw [q_up_k (by decide), q_up_k (by decide), q_up_s]) (fun _ => by rw [q_up_k (by decide), q_up_s]) (fun q => by omega) (by decide) (by unfold wfs; omega)
  · rw [if_neg n0, if_neg n2, if_neg n3, if_neg n4, if_pos e, iI_eq (by omega) (by omega) (by omega) (by omega)]
    refine ⟨fun q => ?_, fun q => ?_⟩
    · rw [if_neg q]
      refine ⟨_, cm_open _, ?_⟩
      rintro x2 M2 ⟨-, rfl⟩
      have f : FM M m (q_up (q_up (q_up M 27 4 (iI 0)) 27 5 (iI 1)) 27 3 (iI 11)) := ((FM.rf.up (by omega)).up (by omega)).up (by omega)
      refine ⟨_, cm_takeOne (m := m) (pu := 0) (de := 1) (li := li) (c := c) (by rw [q_up_k (by decide), q_up_k (by decide), q_up_k (by decide)]; exact hm) hm2 q_up_s (by rw [q_up_k (by decide), q_up_k (by decide), q_up_s]) (by rw [q_up_k (by decide), q_up_s]) (by rw [q_up_k (by decide), q_up_k (by decide), q_up_k (by decide)]; exact hl) (by decide) (by decide) wli hc, ?_⟩
      intro x3 M3 h3
      exact ⟨h3.nz, TQ.from f h3⟩
    · rw [if_pos (by omega)]
      refine ⟨_, cm_kp hm (by omega) c, ?_⟩
      rintro M1 rfl
      exact cm_goz 6 (TQ.at (hk.up (by omega)) rfl q_up_s (by rw [q_up_k (by decide)]; exact g7) (fun q => by omega) (fun q => by omega) (fun q => by omega) (by decide) (by unfold wfs; omega))
  · rw [if_neg n0, if_neg n2, if_neg n3, if_neg n4, if_neg n5, if_pos e]
    refine ⟨_, cm_kp hm (by omega) c, ?_⟩
    rintro M1 rfl
    rw [iI_sub, iI_lt (by omega) (by omega) (by omega) (by omega), iI_lt (by omega) (by omega) (by omega) (by omega)]
    refine ⟨fun q => TQ.n (hk.1.up (by omega)) (if_neg (by omega)), fun q => ⟨fun q2 => TQ.n (hk.1.up (by omega)) (if_neg (by omega)), fun q2 => cm_gob 8 ?_⟩⟩
    exact TQ.at ((hk.up (by omega)).up (by omega)) (if_pos (by omega)) q_up_s (by rw [q_up_k (by decide), q_up_k (by decide)]; exact g7) (fun q => by omega) (fun q => by omega) (fun _ => by rw [q_up_k (by decide), q_up_s]) (by decide) (by unfold wfs; omega)
  · rw [if_neg n0, if_neg n2, if_neg n3, if_neg n4, if_neg n5, if_neg n7, if_pos e]
    refine ⟨_, cm_kp hm (by omega) c, ?_⟩
    rintro M1 rfl
    refine ⟨_, cm_isVariable _, ?_⟩
    rintro x2 M2 ⟨rfl, rfl⟩
    rw [iI_toInt (by omega) (by omega), b2_0]
    refine ⟨fun q => TQ.n (hk.1.up (by omega)) (if_neg (by simp [q])), fun q => cm_gob 3 ?_⟩
    exact TQ.at ((hk.up (by omega)).up (by omega)) (if_pos (by simpa using q)) q_up_s (by rw [q_up_k (by decide), q_up_k (by decide)]; exact g7) (fun _ => by rw [q_up_k (by decide), q_up_s]) (fun q => by omega) (fun q => by omega) (by decide) (by unfold wfs; omega)
  · rw [if_neg n0, if_neg n2, if_neg n3, if_neg n4, if_neg n5, if_neg n7, if_neg n9, if_pos e]
    refine ⟨_, cm_kp hm (by omega) c, ?_⟩
    rintro M1 rfl
    refine ⟨_, cm_isVariable _, ?_⟩
    rintro x2 M2 ⟨rfl, rfl⟩
    rw [iI_toInt (by omega) (by omega), b2_0]
    refine ⟨fun q => TQ.n hk.1 (if_neg (by simp [q])), fun q => cm_gob 15 ?_⟩
    exact TQ.at (hk.up (by omega)) (if_pos (by simpa using q)) q_up_s (by rw [q_up_k (by decide)]; exact g7) (fun q => by omega) (fun q => by omega) (fun q => by omega) (by decide) (by unfold wfs; omega)
  · rw [if_neg n0, if_neg n2, if_neg n3, if_neg n4, if_neg n5, if_neg n7, if_neg n9, if_neg n10, if_pos e]
    exact cm_nzP (cm_takeOne hm hm2 (by rw [h3, e]) (hp (by omega)) (hd (by omega)) hl wpu wde wli hc)
  · rw [if_neg n0, if_neg n2, if_neg n3, if_neg n4, if_neg n5, if_neg n7, if_neg n9, if_neg n10, if_neg n11, if_pos e, hd (by omega), iI_add, iI_le (by omega) (by omega) (by omega) (by omega)]
    refine ⟨fun q => TQ.n (FM.rf.up (by omega)) (if_neg (by omega)), fun q => ?_⟩
    refine ⟨_, s_TapedLinesModel_takeSign_0 (P := TQ M m (if de < 4 ∧ c = 40 then some ((11, pu, de + 1, 0, 0, 0, li), [c]) else none)) _ _ _ ⟨_, cm_kp (m := m) (by rw [q_up_k (by decide)]; exact hm) (by omega) c, ?_⟩, fun x M' hq => hq.br⟩
    rintro M1 rfl
    have hk2 : kS M m c (kp (q_up M 27 5 (iI (de + 1))) m c) := ⟨(FM.rf.up (by omega)).tr FM.kp, kp_c, kp_m⟩
    rw [iI_eq (by omega) (by omega) (by omega) (by omega)]
    refine ⟨fun q2 => TQ.n hk2.1 (if_neg (by omega)), fun q2 => cm_gob 11 ?_⟩
    exact TQ.at (hk2.up (by omega)) (if_pos (by omega)) q_up_s (by rw [q_up_k (by decide), kp_f (by decide), q_up_k (by decide)]; exact hl) (fun _ => by rw [q_up_k (by decide), kp_f (by decide), q_up_k (by decide)]; exact hp (by omega)) (fun _ => by rw [q_up_k (by decide), kp_f (by decide), q_up_s]) (fun q => by omega) (by decide) (by unfold wfs; omega)
  · rw [if_neg n0, if_neg n2, if_neg n3, if_neg n4, if_neg n5, if_neg n7, if_neg n9, if_neg n10, if_neg n11, if_neg n12, if_pos (by omega)]
    exact cm_nzP (cm_takeBehind hm hm2 (hp (by omega)) (hd (by omega)) hl wpu wde wli hc)
  · rw [if_neg n0, if_neg n2, if_neg n3, if_neg n4, if_neg n5, if_neg n7, if_neg n9, if_neg n10, if_neg n11, if_neg n12, if_pos (by omega)]
    exact cm_nzP (cm_takeBehind hm hm2 (hp (by omega)) (hd (by omega)) hl wpu wde wli hc)
  · rw [if_neg n0, if_neg n2, if_neg n3, if_neg n4, if_neg n5, if_neg n7, if_neg n9, if_neg n10, if_neg n11, if_neg n12, if_neg (by omega)]
    exact TQ.n FM.rf rfl
theorem cm_takeSpace (hm : M 27 10 = iI m) {st pu de nu li : Int} {w le : Nat} (h : mSt M (st, pu, de, nu, w, le, li)) (h16 : st ≠ 16) : V l Γ T_TapedLinesModel_takeSpace d r 0 [.ref 27] [] (M, L) (q_i L (TQ M m (some (spc st pu de li, [])))) := by
  obtain ⟨h3, hl, hp, hd, hn, -, hw⟩ := h
  unfold wfs at hw
  obtain ⟨wst, wpu, wde, wnu, -, -, wli⟩ := hw
  have go : ∀ (z : Int), z ≠ 16 → (0 ≤ z ∧ z ≤ 16) → (∃ pu' de', spc st pu de li = (z, pu', de', 0, 0, 0, li) ∧ (0 ≤ pu' ∧ pu' ≤ 3) ∧ (0 ≤ de' ∧ de' ≤ 4) ∧ ((z = 3 ∨ (11 ≤ z ∧ z ≤ 14)) → M 27 4 = iI pu') ∧ ((11 ≤ z ∧ z ≤ 14) → M 27 5 = iI de') ∧ ¬ (z = 1 ∨ z = 13 ∨ z = 8)) → V l Γ T_TapedLinesModel_takeSpace d r 45 [.ref 27] [.int (iI z), .ref 27] (M, L) (q_i L (TQ M m (some (spc st pu de li, [])))) := by
    rintro z hz hzb ⟨pu', de', e, hpb, hdb, h4, h5, hno⟩
    refine s_TapedLinesModel_takeSpace_45 _ ?_
    rw [iI_eq (by omega) (by omega) (by omega) (by omega)]
    refine ⟨fun q => absurd q hz, fun _ => ?_⟩
    rw [e]
    exact TQ.s (FM.rf.up (by omega)) rfl ⟨q_up_s, by rw [q_up_k (by decide)]; exact hl, fun q => by rw [q_up_k (by decide)]; exact h4 q, fun q => by rw [q_up_k (by decide)]; exact h5 q, fun q => absurd q hno, fun q => absurd q hz, by unfold wfs; omega⟩ (by rw [q_up_k (by decide)]; exact hm) (fun b hb => by cases hb)
  refine s_TapedLinesModel_takeSpace_0 ?_
  rw [h3, iI_eq (by omega) (by omega) (by omega) (by omega), iI_eq (by omega) (by omega) (by omega) (by omega), iI_eq (by omega) (by omega) (by omega) (by omega)]
  refine ⟨fun n1 => ⟨fun n13 => ⟨fun n8 => go st h16 wst ⟨pu, de, ?_, wpu, wde, hp, hd, by omega⟩, fun q8 => go 15 (by decide) (by decide) ⟨0, 0, ?_, by decide, by decide, fun q => by omega, fun q => by omega, by decide⟩⟩, fun q13 => go 14 (by decide) (by decide) ⟨pu, de, ?_, wpu, wde, fun _ => hp (by omega), fun _ => hd (by omega), by decide⟩⟩, fun q1 => go 2 (by decide) (by decide) ⟨0, 0, ?_, by decide, by decide, fun q => by omega, fun q => by omega, by decide⟩⟩
  · unfold spc
    rw [if_neg n1, if_neg n13, if_neg n8]
  · unfold spc
    rw [if_neg n1, if_neg n13, if_pos (by omega)]
  · unfold spc
    rw [if_neg n1, if_pos (by omega)]
  · unfold spc
    rw [if_pos (by omega)]
theorem cm_take (hm : M 27 10 = iI m) (hm2 : m ≤ 258) {s : rA} {c : Int} (h : mSt M s) (hc : 0 ≤ c ∧ c < 256) : V l Γ T_TapedLinesModel_take (d + 1 + 1 + 1 + 1) r 0 [.ref 27, .int (iI c)] [] (M, L) (q_i L (TQ M m (tk s c))) := by
  obtain ⟨st, pu, de, nu, w, le, li⟩ := s
  have hS := h
  obtain ⟨h3, hl, hp, hd, hn, h16, hw⟩ := h
  unfold wfs at hw
  obtain ⟨wst, wpu, wde, wnu, ww, wle, wli⟩ := hw
  refine s_TapedLinesModel_take_0 _ ?_
  rw [h3, iI_eq (by omega) (by omega) (by omega) (by omega), iI_eq (by omega) (by omega) (by omega) (by omega), iI_eq (by omega) (by omega) (by omega) (by omega)]
  unfold tk
  refine ⟨fun n6 => ?_, fun q6 => ?_⟩
  rotate_left
  · have q6 : st = 6 := by omega
    simp only [if_pos q6]
    exact cm_nzP (cm_takeQuoted hm hm2 (by rw [h3]; exact congrArg iI (by omega)) hl wli hc)
  simp only [if_neg n6]
  refine ⟨fun n16 => ?_, fun q16 => ?_⟩
  rotate_left
  · have q16 : st = 16 := by omega
    simp only [if_pos q16]
    obtain ⟨g8, g9⟩ := h16 q16
    exact cm_nzP (cm_spell hm hm2 (by rw [h3, q16]) g8 g9 hl wli ww wle hc)
  simp only [if_neg n16]
  refine ⟨fun n32 => ?_, fun q32 => ?_⟩
  rotate_left
  · have q32 : c = 32 := by omega
    simp only [if_pos q32]
    exact cm_nzP (cm_takeSpace hm hS n16)
  simp only [if_neg n32]
  -- behind the digits
  have beh : ¬ (isD c = true ∧ (st = 1 ∨ st = 13 ∨ st = 8)) → V l Γ T_TapedLinesModel_take (d + 1 + 1 + 1 + 1) r 80 [.ref 27, .int (iI c)] [] (M, L) (q_i L (TQ M m (if isD c = true ∧ (st = 1 ∨ st = 13 ∨ st = 8) then tDigit st pu de nu li c else if 65 ≤ c ∧ c ≤ 90 then tSpell (poss (bg st) pu de) 0 li c else tOther (bg st) pu de li c))) := by
    intro hnd
    rw [if_neg hnd]
    have go : ∀ (z : Int), z = bg st → V l Γ T_TapedLinesModel_take (d + 1 + 1 + 1 + 1) r 97 [.ref 27, .int (iI c)] [.int (iI z), .ref 27] (M, L) (q_i L (TQ M m (if 65 ≤ c ∧ c ≤ 90 then tSpell (poss (bg st) pu de) 0 li c else tOther (bg st) pu de li c))) := by
      intro z hz
      rw [← hz]
      have hzb : z ≠ 1 ∧ z ≠ 16 ∧ z ≠ 6 ∧ (0 ≤ z ∧ z ≤ 16) ∧ (z ≠ 2 → z = st) := by
        unfold bg at hz
        split at hz <;> omega
      have f : FM M m (q_up M 27 3 (iI z)) := FM.rf.up (by omega)
      have hS2 : mSt (q_up M 27 3 (iI z)) (z, pu, de, nu, w, le, li) := by
        refine ⟨q_up_s, by rw [q_up_k (by decide)]; exact hl, fun q => by rw [q_up_k (by decide)]; exact hp (by omega), fun q => by rw [q_up_k (by decide)]; exact hd (by omega), fun q => by rw [q_up_k (by decide)]; exact hn (by omega), fun q => by omega, by unfold wfs; omega⟩
      have oth : ¬ (65 ≤ c ∧ c ≤ 90) → ∃ P1 : Int32 → qM → Prop, V l Γ T_TapedLinesModel_takeOther (d + 1 + 1 + 1) 0 0 [.ref 27, .int (iI c)] [] (q_up M 27 3 (iI z), L) (q_i L P1) ∧ ∀ (x1 : Int32) (M1 : qM), P1 x1 M1 → narrow .boolean (.int x1) = .int x1 ∧ TQ M m (if 65 ≤ c ∧ c ≤ 90 then tSpell (poss z pu de) 0 li c else tOther z pu de li c) x1 M1 := by
        intro hn2
        rw [if_neg hn2]
        refine ⟨_, cm_takeOther (m := m) (by rw [q_up_k (by decide)]; exact hm) hm2 hS2 hzb.1 hc, ?_⟩
        intro x1 M1 h1
        exact ⟨h1.nz, TQ.from f h1⟩
      refine s_TapedLinesModel_take_97 _ _ ?_
      rw [iI_lt (by omega) (by omega) (by omega) (by omega), iI_lt (by omega) (by omega) (by omega) (by omega)]
      refine ⟨fun q => oth (by omega), fun q => ⟨fun q2 => oth (by omega), fun q2 => ?_⟩⟩
      rw [if_pos (by omega)]
      refine ⟨_, cm_possible (st := z) (pu := pu) (de := de) hzb.2.2.2.1 wpu wde q_up_s (fun q => hS2.2.2.1 (by omega)) (fun q => hS2.2.2.2.1 (by omega)), ?_⟩
      rintro x3 M3 ⟨rfl, rfl⟩
      have f2 : FM M m (q_up (q_up (q_up (q_up M 27 3 (iI z)) 27 8 (iI (poss z pu de))) 27 9 (iI 0)) 27 3 (iI 16)) := ((f.up (by omega)).up (by omega)).up (by omega)
      have hpl : poss z pu de < 256 := by
        unfold poss
        split
        · decide
        · split
          · split
            · decide
            · split <;> decide
          · decide
      refine ⟨_, cm_spell (m := m) (w := poss z pu de) (le := 0) (li := li) (c := c) (by rw [q_up_k (by decide), q_up_k (by decide), q_up_k (by decide), q_up_k (by decide)]; exact hm) hm2 q_up_s (by rw [q_up_k (by decide), q_up_k (by decide), q_up_s]) (by rw [q_up_k (by decide), q_up_s]; rfl) (by rw [q_up_k (by decide), q_up_k (by decide), q_up_k (by decide), q_up_k (by decide)]; exact hl) wli hpl (by decide) hc, ?_⟩
      intro x4 M4 h4
      exact ⟨h4.nz, TQ.from f2 h4⟩
    refine s_TapedLinesModel_take_80 _ ?_
    rw [h3, iI_eq (by omega) (by omega) (by omega) (by omega)]
    exact ⟨fun q => go st (by unfold bg; rw [if_neg q]), fun q => go 2 (by unfold bg; rw [if_pos (by omega)])⟩
  refine ⟨_, cm_isDigit _, ?_⟩
  rintro x1 M1 ⟨rfl, rfl⟩
  rw [iI_toInt (by omega) (by omega), b2_0]
  refine ⟨fun nd => beh (fun z => by simp [nd] at z), fun qd => ?_⟩
  have qd : isD c = true := by simpa using qd
  have hcb : 48 ≤ c ∧ c ≤ 57 := by simpa [isD] using qd
  have dig : (st = 1 ∨ st = 13 ∨ st = 8) → ∃ P2 : Int32 → qM → Prop, V l Γ T_TapedLinesModel_takeDigit (d + 1 + 1 + 1) 0 0 [.ref 27, .int (iI c), .null] [] (M1, L) (q_i L P2) ∧ ∀ (x2 : Int32) (M2 : qM), P2 x2 M2 → narrow .boolean (.int x2) = .int x2 ∧ TQ M1 m (if isD c = true ∧ (st = 1 ∨ st = 13 ∨ st = 8) then tDigit st pu de nu li c else if 65 ≤ c ∧ c ≤ 90 then tSpell (poss (bg st) pu de) 0 li c else tOther (bg st) pu de li c) x2 M2 := by
    intro hs
    rw [if_pos ⟨qd, hs⟩]
    exact cm_nzP (cm_takeDigit hm hm2 hs h3 (fun q => hp (by omega)) (fun q => hd (by omega)) (hn hs) hl wpu wde wnu wli hcb)
  rw [h3, iI_eq (by omega) (by omega) (by omega) (by omega), iI_eq (by omega) (by omega) (by omega) (by omega), iI_eq (by omega) (by omega) (by omega) (by omega)]
  exact ⟨fun q => dig (Or.inl q), fun n1 => ⟨fun q => dig (Or.inr (Or.inl q)), fun n13 => ⟨fun n8 => beh (by omega), fun q8 => dig (Or.inr (Or.inr (by omega)))⟩⟩⟩
end MRead4
