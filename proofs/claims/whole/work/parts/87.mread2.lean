-- what a code has left behind once it is kept
def kS (M : qM) (m : Nat) (c : Int) (M1 : qM) : Prop := FM M m M1 ∧ M1 27 10 = iI ((m + 1 : Nat) : Int) ∧ M1 29 m = iI c
theorem kS.kp {M : qM} {m : Nat} {c : Int} : kS M m c (kp M m c) := ⟨FM.kp, kp_c, kp_m⟩
theorem kS.up {M M1 : qM} {m : Nat} {c : Int} {k : Nat} {v : Int32} (h : kS M m c M1) (hk : 3 ≤ k ∧ k ≤ 9) : kS M m c (q_up M1 27 k v) := ⟨h.1.up (by omega), by rw [q_up_k (by omega)]; exact h.2.1, by rw [q_up_o (by decide)]; exact h.2.2⟩
/-- a stage is taken -/
theorem TQ.at {M M' : qM} {m : Nat} {c : Int} {res : Option (rA × List Int)} {st pu de nu li : Int} (h : kS M m c M') (e : res = some ((st, pu, de, nu, 0, 0, li), [c])) (h3 : M' 27 3 = iI st) (hl : M' 27 7 = iI li) (hp : (st = 3 ∨ (11 ≤ st ∧ st ≤ 14)) → M' 27 4 = iI pu) (hd : (11 ≤ st ∧ st ≤ 14) → M' 27 5 = iI de) (hn : (st = 1 ∨ st = 13 ∨ st = 8) → M' 27 6 = iI nu) (h16 : st ≠ 16) (hw : wfs st pu de nu 0 0 li) : TQ M m res (iI 1) M' :=
  TQ.s h.1 e ⟨h3, hl, hp, hd, hn, fun q => absurd q h16, hw⟩ h.2.1 (fun b hb => by cases hb; exact h.2.2)
theorem TQ.br {M M' : qM} {m : Nat} {res : Option (rA × List Int)} {x : Int32} (h : TQ M m res x M') : (x = 0 → TQ M m res (iI 0) M') ∧ (¬ x = 0 → TQ M m res (iI 1) M') := by
  have hx : x = iI 0 ∨ x = iI 1 := by
    obtain ⟨-, h⟩ := h
    cases res with
    | none => exact Or.inl h
    | some q => exact Or.inr h.1
  rcases hx with rfl | rfl
  · exact ⟨fun _ => h, fun q => absurd rfl q⟩
  · exact ⟨fun q => absurd q (by decide), fun _ => h⟩
theorem iI_b2t : b2 true = iI 1 := rfl
section MRead2
variable {l : Launch} {Γ : qG} {d r : Nat} {L : Nat → Int64} {M : qM} {m : Nat}
/-- go behind a kept code, its answer handed on -/
theorem cm_goz {M1 : qM} {P : Int32 → qM → Prop} (z : Int) (h : P (iI 1) (q_up M1 27 3 (iI z))) : ∃ P2 : Int32 → qM → Prop, V l Γ T_TapedLinesModel_go d 0 0 [.ref 27, .int (iI z)] [] (M1, L) (q_i L P2) ∧ ∀ (x2 : Int32) (M2 : qM), P2 x2 M2 → narrow .boolean (.int x2) = .int x2 ∧ P x2 M2 := by
  refine ⟨_, cm_go _, ?_⟩
  rintro x2 M2 ⟨rfl, rfl⟩
  exact ⟨b2_n _, h⟩
theorem cm_gob {M1 : qM} {P : Int32 → qM → Prop} (z : Int) (h : P (iI 1) (q_up M1 27 3 (iI z))) : ∃ P2 : Int32 → qM → Prop, V l Γ T_TapedLinesModel_go d 0 0 [.ref 27, .int (iI z)] [] (M1, L) (q_i L P2) ∧ ∀ (x2 : Int32) (M2 : qM), P2 x2 M2 → (x2 = 0 → P (iI 0) M2) ∧ (¬ x2 = 0 → P (iI 1) M2) := by
  refine ⟨_, cm_go _, ?_⟩
  rintro x2 M2 ⟨rfl, rfl⟩
  exact ⟨fun q => absurd q (by decide), fun _ => h⟩
theorem cm_opb {M1 : qM} {P : Int32 → qM → Prop} (v : Int32) (h : P (iI 1) (q_up (q_up (q_up M1 27 4 v) 27 5 (iI 1)) 27 3 (iI 11))) : ∃ P2 : Int32 → qM → Prop, V l Γ T_TapedLinesModel_open (d + 1) 0 0 [.ref 27, .int v] [] (M1, L) (q_i L P2) ∧ ∀ (x2 : Int32) (M2 : qM), P2 x2 M2 → (x2 = 0 → P (iI 0) M2) ∧ (¬ x2 = 0 → P (iI 1) M2) := by
  refine ⟨_, cm_open _, ?_⟩
  rintro x2 M2 ⟨rfl, rfl⟩
  exact ⟨fun q => absurd q (by decide), fun _ => h⟩
theorem cm_takeOne (hm : M 27 10 = iI m) (hm2 : m ≤ 258) {pu de li c : Int} (h3 : M 27 3 = iI 11) (hp : M 27 4 = iI pu) (hd : M 27 5 = iI de) (hl : M 27 7 = iI li) (hpb : 0 ≤ pu ∧ pu ≤ 3) (hdb : 0 ≤ de ∧ de ≤ 4) (hlb : -2147483648 ≤ li ∧ li < 2147483648) (hc : 0 ≤ c ∧ c < 256) : V l Γ T_TapedLinesModel_takeOne (d + 1) r 0 [.ref 27, .int (iI c)] [] (M, L) (q_i L (TQ M m (tOne pu de li c))) := by
  refine s_TapedLinesModel_takeOne_0 _ ⟨_, cm_kp hm (by omega) c, ?_⟩
  rintro M1 rfl
  refine ⟨_, cm_isDigit _, ?_⟩
  rintro x2 M2 ⟨rfl, rfl⟩
  rw [iI_toInt (by omega) (by omega), b2_0]
  have g3 : kp M m c 27 3 = iI 11 := by rw [kp_f (by decide)]; exact h3
  have g4 : kp M m c 27 4 = iI pu := by rw [kp_f (by decide)]; exact hp
  have g5 : kp M m c 27 5 = iI de := by rw [kp_f (by decide)]; exact hd
  have g7 : kp M m c 27 7 = iI li := by rw [kp_f (by decide)]; exact hl
  have hk := kS.kp (M := M) (m := m) (c := c)
  refine ⟨fun nd => ?_, fun qd => ?_⟩
  · refine ⟨_, cm_isVariable _, ?_⟩
    rintro x3 M3 ⟨rfl, rfl⟩
    rw [iI_toInt (by omega) (by omega), b2_0]
    refine ⟨fun nv => ?_, fun qv => ?_⟩
    · have last : c ≠ 40 ∨ 4 ≤ de → V l Γ T_TapedLinesModel_takeOne (d + 1) r 67 [.ref 27, .int (iI c)] [] (kp M m c, L) (q_i L (TQ M m (tOne pu de li c))) := by
        intro h40
        refine s_TapedLinesModel_takeOne_67 _ ?_
        rw [iI_eq (by omega) (by omega) (by omega) (by omega), iI_eq (by omega) (by omega) (by omega) (by omega), g5, iI_le (by omega) (by omega) (by omega) (by omega)]
        have e0 : tOne pu de li c = if c = 64 then (if de < 4 then some ((12, pu, de, 0, 0, 0, li), [c]) else none) else if c = 45 then some ((11, pu, de, 0, 0, 0, li), [c]) else none := by
          unfold tOne
          rw [if_neg (by simp [nd]), if_neg (by simp [nv])]
          by_cases q : c = 40
          · rw [if_pos q, if_neg (show ¬ de < 4 by omega), if_neg (show ¬ c = 64 by omega), if_neg (show ¬ c = 45 by omega)]
          · rw [if_neg q]
        refine ⟨fun n64 => ⟨fun n45 => TQ.n hk.1 (by rw [e0, if_neg n64, if_neg n45]), fun q45 => ?_⟩, fun q64 => ⟨fun hge => TQ.n hk.1 (by rw [e0, if_pos (by omega), if_neg (by omega)]), fun hlt => ?_⟩⟩
        · exact TQ.at hk (by rw [e0, if_neg n64, if_pos (by omega)]) g3 g7 (fun _ => g4) (fun _ => g5) (fun q => by omega) (by decide) (by unfold wfs; omega)
        · exact cm_gob 12 (TQ.at (hk.up (by omega)) (by rw [e0, if_pos (by omega), if_pos (by omega)]) q_up_s (by rw [q_up_k (by decide)]; exact g7) (fun _ => by rw [q_up_k (by decide)]; exact g4) (fun _ => by rw [q_up_k (by decide)]; exact g5) (fun q => by omega) (by decide) (by unfold wfs; omega))
      rw [iI_eq (by omega) (by omega) (by omega) (by omega), g5, iI_le (by omega) (by omega) (by omega) (by omega), iI_add]
      refine ⟨fun n40 => last (Or.inl n40), fun q40 => ⟨fun hge => last (Or.inr hge), fun hlt => ?_⟩⟩
      have e0 : tOne pu de li c = some ((11, pu, de + 1, 0, 0, 0, li), [c]) := by
        unfold tOne
        rw [if_neg (by simp [nd]), if_neg (by simp [nv]), if_pos (by omega), if_pos (by omega)]
      exact TQ.at (hk.up (by omega)) e0 (by rw [q_up_k (by decide)]; exact g3) (by rw [q_up_k (by decide)]; exact g7) (fun _ => by rw [q_up_k (by decide)]; exact g4) (fun _ => q_up_s) (fun q => by omega) (by decide) (by unfold wfs; omega)
    · have qv : isV c = true := by simpa using qv
      refine cm_goz 14 (TQ.at (hk.up (by omega)) (st := 14) (pu := pu) (de := de) (nu := 0) (li := li) ?_ q_up_s (by rw [q_up_k (by decide)]; exact g7) (fun _ => by rw [q_up_k (by decide)]; exact g4) (fun _ => by rw [q_up_k (by decide)]; exact g5) (fun q => by omega) (by decide) (by unfold wfs; omega))
      unfold tOne
      rw [if_neg (by simp [nd]), if_pos qv]
  · have qd : isD c = true := by simpa using qd
    have hcb : 48 ≤ c ∧ c ≤ 57 := by simpa [isD] using qd
    rw [iI_sub]
    refine cm_goz 13 (TQ.at ((hk.up (by omega)).up (by omega)) (st := 13) (pu := pu) (de := de) (nu := c - 48) (li := li) ?_ q_up_s (by rw [q_up_k (by decide), q_up_k (by decide)]; exact g7) (fun _ => by rw [q_up_k (by decide), q_up_k (by decide)]; exact g4) (fun _ => by rw [q_up_k (by decide), q_up_k (by decide)]; exact g5) (fun q => by rw [q_up_k (by decide), q_up_s]) (by decide) (by unfold wfs; omega))
    unfold tOne
    rw [if_pos qd]
theorem cm_takeBehind (hm : M 27 10 = iI m) (hm2 : m ≤ 258) {pu de li c : Int} (hp : M 27 4 = iI pu) (hd : M 27 5 = iI de) (hl : M 27 7 = iI li) (hpb : 0 ≤ pu ∧ pu ≤ 3) (hdb : 0 ≤ de ∧ de ≤ 4) (hlb : -2147483648 ≤ li ∧ li < 2147483648) (hc : 0 ≤ c ∧ c < 256) : V l Γ T_TapedLinesModel_takeBehind (d + 1) r 0 [.ref 27, .int (iI c), .null, .null] [] (M, L) (q_i L (TQ M m (tBehind pu de li c))) := by
  refine s_TapedLinesModel_takeBehind_0 _ ⟨_, cm_kp hm (by omega) c, ?_⟩
  rintro M1 rfl
  have g4 : kp M m c 27 4 = iI pu := by rw [kp_f (by decide)]; exact hp
  have g5 : kp M m c 27 5 = iI de := by rw [kp_f (by decide)]; exact hd
  have g7 : kp M m c 27 7 = iI li := by rw [kp_f (by decide)]; exact hl
  have hk := kS.kp (M := M) (m := m) (c := c)
  rw [iI_eq (by omega) (by omega) (by omega) (by omega), iI_eq (by omega) (by omega) (by omega) (by omega), iI_eq (by omega) (by omega) (by omega) (by omega), iI_eq (by omega) (by omega) (by omega) (by omega), iI_eq (by omega) (by omega) (by omega) (by omega), iI_eq (by omega) (by omega) (by omega) (by omega), iI_eq (by omega) (by omega) (by omega) (by omega), iI_eq (by omega) (by omega) (by omega) (by omega), iI_eq (by omega) (by omega) (by omega) (by omega), g5, g4, iI_eq (by omega) (by omega) (by omega) (by omega), iI_eq (by omega) (by omega) (by omega) (by omega)]
  refine ⟨fun n41 => ?_, fun q41 => ?_⟩
  · have op : tier c ≠ -1 → V l Γ T_TapedLinesModel_takeBehind (d + 1) r 140 [.ref 27, .null, .null, .null] [] (kp M m c, L) (q_i L (TQ M m (tBehind pu de li c))) := by
      intro ht
      refine s_TapedLinesModel_takeBehind_140 (cm_gob 11 (TQ.at (hk.up (by omega)) (st := 11) (pu := pu) (de := de) (nu := 0) (li := li) ?_ q_up_s (by rw [q_up_k (by decide)]; exact g7) (fun _ => by rw [q_up_k (by decide)]; exact g4) (fun _ => by rw [q_up_k (by decide)]; exact g5) (fun q => by omega) (by decide) (by unfold wfs; omega)))
      unfold tBehind
      rw [if_neg n41, if_neg ht]
    refine ⟨fun q => op (by rw [q]; decide), fun n1 => ⟨fun q => op (by rw [q]; decide), fun n2 => ⟨fun q => op (by rw [q]; decide), fun n3 => ⟨fun q => op (by rw [q]; decide), fun n4 => ⟨fun q => op (by rw [q]; decide), fun n5 => ⟨fun q => op (by rw [q]; decide), fun n6 => ⟨fun q => op (by rw [q]; decide), fun n7 => ⟨fun n8 => ?_, fun q => op (by rw [show c = 37 by omega]; decide)⟩⟩⟩⟩⟩⟩⟩⟩
    refine TQ.n hk.1 ?_
    unfold tBehind
    rw [if_neg n41, if_pos]
    unfold tier
    rw [if_neg (by omega), if_neg (by omega), if_neg (by omega)]
  · have q41 : c = 41 := by omega
    have e0 : tBehind pu de li c = if de = 1 ∧ pu = 3 then some ((3, 0, 0, 0, 0, 0, li), [c]) else if 1 < de then some ((14, pu, de - 1, 0, 0, 0, li), [c]) else none := by
      unfold tBehind
      rw [if_pos q41]
    rw [e0]
    have no : ¬ (de = 1 ∧ pu = 3) → V l Γ T_TapedLinesModel_takeBehind (d + 1) r 32 [.ref 27, .null, .null, .null] [.int (iI 0)] (kp M m c, L) (q_i L (TQ M m (if de = 1 ∧ pu = 3 then some ((3, 0, 0, 0, 0, 0, li), [c]) else if 1 < de then some ((14, pu, de - 1, 0, 0, 0, li), [c]) else none))) := by
      intro hn
      rw [if_neg hn]
      refine s_TapedLinesModel_takeBehind_32 _ ⟨fun _ => ?_, fun q => absurd rfl q⟩
      rw [g5, iI_sub]
      refine s_TapedLinesModel_takeBehind_54 _ _ ⟨fun q => absurd rfl q, fun _ => ?_⟩
      rw [q_up_s, iI_0, iI_le (by omega) (by omega) (by omega) (by omega)]
      refine ⟨fun hle => ?_, fun hgt => ?_⟩
      · refine s_TapedLinesModel_takeBehind_73 _ _ ⟨fun _ => ⟨by decide, TQ.n ((((FM.kp).up (by omega)).up (by omega)).up (by omega)) (by rw [if_neg (by omega)])⟩, fun q => absurd rfl q⟩
      · refine s_TapedLinesModel_takeBehind_73 _ _ ⟨fun _ => ⟨by decide, ?_⟩, fun q => absurd rfl q⟩
        exact TQ.at (((hk.up (by omega)).up (by omega)).up (by omega)) (by rw [if_pos (by omega)]) (by rw [q_up_k (by decide), q_up_s]) (by rw [q_up_k (by decide), q_up_k (by decide), q_up_k (by decide)]; exact g7) (fun _ => by rw [q_up_s, q_up_k (by decide), q_up_k (by decide)]; exact g4) (fun _ => by rw [q_up_k (by decide), q_up_k (by decide), q_up_s]) (fun q => by omega) (by decide) (by unfold wfs; omega)
    refine ⟨fun n1 => no (by omega), fun q1 => ⟨fun n3 => no (by omega), fun q3 => ?_⟩⟩
    rw [if_pos (by omega)]
    refine s_TapedLinesModel_takeBehind_32 _ ⟨fun q => absurd q (by decide), fun _ => ?_⟩
    refine s_TapedLinesModel_takeBehind_54 _ _ ⟨fun _ => ?_, fun q => absurd (by decide) q⟩
    refine s_TapedLinesModel_takeBehind_73 _ _ ⟨fun q => absurd q (by decide), fun _ => ⟨by decide, ?_⟩⟩
    exact TQ.at (((hk.up (by omega)).up (by omega)).up (by omega)) rfl (by rw [q_up_k (by decide), q_up_s]) (by rw [q_up_k (by decide), q_up_k (by decide), q_up_k (by decide)]; exact g7) (fun _ => q_up_s) (fun q => by omega) (fun q => by omega) (by decide) (by unfold wfs; omega)
theorem cm_takeBegin (hm : M 27 10 = iI m) (hm2 : m ≤ 258) {li c : Int} (hl : M 27 7 = iI li) (hlb : -2147483648 ≤ li ∧ li < 2147483648) (hc : 0 ≤ c ∧ c < 256) : V l Γ T_TapedLinesModel_takeBegin (d + 1) r 0 [.ref 27, .int (iI c)] [] (M, L) (q_i L (TQ M m (tBegin li c))) := by
  refine s_TapedLinesModel_takeBegin_0 _ ⟨_, cm_kp hm (by omega) c, ?_⟩
  rintro M1 rfl
  have g7 : kp M m c 27 7 = iI li := by rw [kp_f (by decide)]; exact hl
  have hk := kS.kp (M := M) (m := m) (c := c)
  refine ⟨_, cm_isVariable _, ?_⟩
  rintro x2 M2 ⟨rfl, rfl⟩
  rw [iI_toInt (by omega) (by omega), b2_0, iI_eq (by omega) (by omega) (by omega) (by omega), iI_eq (by omega) (by omega) (by omega) (by omega)]
  have go : ∀ st : Int, (st = 3 ∨ st = 4 ∨ st = 5) → tBegin li c = some ((st, 0, 0, 0, 0, 0, li), [c]) → TQ M m (tBegin li c) (iI 1) (q_up (q_up (kp M m c) 27 4 (iI 0)) 27 3 (iI st)) := by
    intro st hst e
    exact TQ.at ((hk.up (by omega)).up (by omega)) e q_up_s (by rw [q_up_k (by decide), q_up_k (by decide)]; exact g7) (fun _ => by rw [q_up_k (by decide), q_up_s]) (fun q => by omega) (fun q => by omega) (by omega) (by unfold wfs; omega)
  refine ⟨fun nv => ⟨fun n64 => ⟨fun n63 => TQ.n (hk.1.up (by omega)) ?_, fun q63 => cm_gob 5 (go 5 (by omega) ?_)⟩, fun q64 => cm_goz 4 (go 4 (by omega) ?_)⟩, fun qv => cm_goz 3 (go 3 (by omega) ?_)⟩
  · unfold tBegin
    rw [if_neg (by simp [nv]), if_neg n64, if_neg n63]
  · unfold tBegin
    rw [if_neg (by simp [nv]), if_neg n64, if_pos (by omega)]
  · unfold tBegin
    rw [if_neg (by simp [nv]), if_pos (by omega)]
  · unfold tBegin
    rw [if_pos (by simpa using qv)]
theorem cm_takeFirst (hm : M 27 10 = iI m) {c : Int} (hc : 0 ≤ c ∧ c < 256) : V l Γ T_TapedLinesModel_takeFirst (d + 1) r 0 [.ref 27, .int (iI c)] [] (M, L) (q_i L (TQ M m (if 49 ≤ c ∧ c ≤ 57 then some ((1, 0, 0, c - 48, 0, 0, c - 48), []) else none))) := by
  refine s_TapedLinesModel_takeFirst_0 _ ?_
  rw [iI_sub, iI_lt (by omega) (by omega) (by omega) (by omega), iI_lt (by omega) (by omega) (by omega) (by omega)]
  have f : FM M m (q_up (q_up M 27 6 (iI (c - 48))) 27 7 (iI (c - 48))) := (FM.rf.up (by omega)).up (by omega)
  refine ⟨fun q => TQ.n f (if_neg (by omega)), fun q => ⟨fun q2 => TQ.n f (if_neg (by omega)), fun q2 => cm_gob 1 ?_⟩⟩
  refine TQ.s (f.up (by omega)) (if_pos (by omega)) ⟨q_up_s, by rw [q_up_k (by decide), q_up_s], fun q => by omega, fun q => by omega, fun _ => by rw [q_up_k (by decide), q_up_k (by decide), q_up_s], fun q => by omega, by unfold wfs; omega⟩ (by rw [q_up_k (by decide), q_up_k (by decide), q_up_k (by decide)]; exact hm) (fun b hb => by cases hb)
theorem cm_takeQuoted (hm : M 27 10 = iI m) (hm2 : m ≤ 258) {li c : Int} (h3 : M 27 3 = iI 6) (hl : M 27 7 = iI li) (hlb : -2147483648 ≤ li ∧ li < 2147483648) (hc : 0 ≤ c ∧ c < 256) : V l Γ T_TapedLinesModel_takeQuoted (d + 1) r 0 [.ref 27, .int (iI c)] [] (M, L) (q_i L (TQ M m (tQuoted li c))) := by
  refine s_TapedLinesModel_takeQuoted_0 _ ⟨_, cm_kp hm (by omega) c, ?_⟩
  rintro M1 rfl
  have g3 : kp M m c 27 3 = iI 6 := by rw [kp_f (by decide)]; exact h3
  have g7 : kp M m c 27 7 = iI li := by rw [kp_f (by decide)]; exact hl
  have hk := kS.kp (M := M) (m := m) (c := c)
  rw [iI_lt (by omega) (by omega) (by omega) (by omega), iI_lt (by omega) (by omega) (by omega) (by omega), iI_eq (by omega) (by omega) (by omega) (by omega)]
  unfold tQuoted
  refine ⟨fun q => TQ.n hk.1 (if_neg (by omega)), fun q => ⟨fun q2 => TQ.n hk.1 (if_neg (by omega)), fun q2 => ⟨fun q3 => ?_, fun q3 => cm_gob 15 ?_⟩⟩⟩
  · exact TQ.at hk (by rw [if_pos (by omega), if_neg q3]) g3 g7 (fun q => by omega) (fun q => by omega) (fun q => by omega) (by decide) (by unfold wfs; omega)
  · exact TQ.at (hk.up (by omega)) (by rw [if_pos (by omega), if_pos (by omega)]) q_up_s (by rw [q_up_k (by decide)]; exact g7) (fun q => by omega) (fun q => by omega) (fun q => by omega) (by decide) (by unfold wfs; omega)
end MRead2
