-- the reference's reader at work
def FM (M : qM) (m : Nat) (M' : qM) : Prop := fr [27, 29] M M' ∧ (∀ k, k < 3 ∨ 10 < k → M' 27 k = M 27 k) ∧ ∀ j, j < m → M' 29 j = M 29 j
theorem FM.rf {M : qM} {m : Nat} : FM M m M := ⟨fr.rf, fun _ _ => rfl, fun _ _ => rfl⟩
theorem FM.tr {M M1 M2 : qM} {m : Nat} (h : FM M m M1) (h2 : FM M1 m M2) : FM M m M2 := ⟨h.1.tr h2.1, fun k hk => (h2.2.1 k hk).trans (h.2.1 k hk), fun j hj => (h2.2.2 j hj).trans (h.2.2 j hj)⟩
theorem FM.up {M M1 : qM} {m k : Nat} {v : Int32} (h : FM M m M1) (hk : 3 ≤ k ∧ k ≤ 10) : FM M m (q_up M1 27 k v) := by
  refine ⟨h.1.up (by simp), fun j hj => ?_, fun j hj => ?_⟩
  · rw [q_up_k (by omega)]; exact h.2.1 j hj
  · rw [q_up_o (by decide)]; exact h.2.2 j hj
theorem FM.up29 {M M1 : qM} {m k : Nat} {v : Int32} (h : FM M m M1) (hk : m ≤ k) : FM M m (q_up M1 29 k v) := by
  refine ⟨h.1.up (by simp), fun j hj => ?_, fun j hj => ?_⟩
  · rw [q_up_o (by decide)]; exact h.2.1 j hj
  · rw [q_up_k (by omega)]; exact h.2.2 j hj
def wfs (st pu de nu : Int) (w le : Nat) (li : Int) : Prop := (0 ≤ st ∧ st ≤ 16) ∧ (0 ≤ pu ∧ pu ≤ 3) ∧ (0 ≤ de ∧ de ≤ 4) ∧ (0 ≤ nu ∧ nu ≤ 32767) ∧ w < 256 ∧ le ≤ 6 ∧ -2147483648 ≤ li ∧ li < 2147483648
def mSt (M : qM) (s : rA) : Prop := match s with
  | (st, pu, de, nu, w, le, li) => M 27 3 = iI st ∧ M 27 7 = iI li ∧ ((st = 3 ∨ (11 ≤ st ∧ st ≤ 14)) → M 27 4 = iI pu) ∧ ((11 ≤ st ∧ st ≤ 14) → M 27 5 = iI de) ∧ ((st = 1 ∨ st = 13 ∨ st = 8) → M 27 6 = iI nu) ∧ (st = 16 → M 27 8 = iI w ∧ M 27 9 = iI le) ∧ wfs st pu de nu w le li
def TQ (M : qM) (m : Nat) (res : Option (rA × List Int)) (x : Int32) (M' : qM) : Prop := FM M m M' ∧ (match res with
  | none => x = iI 0
  | some q => x = iI 1 ∧ mSt M' q.1 ∧ M' 27 10 = iI ((m + q.2.length : Nat) : Int) ∧ ∀ b, q.2 = [b] → M' 29 m = iI b)
theorem TQ.n {M M' : qM} {m : Nat} {res : Option (rA × List Int)} (h : FM M m M') (e : res = none) : TQ M m res (iI 0) M' := by
  subst e
  exact ⟨h, rfl⟩
theorem TQ.s {M M' : qM} {m : Nat} {res : Option (rA × List Int)} {s : rA} {o : List Int} (h : FM M m M') (e : res = some (s, o)) (h1 : mSt M' s) (h2 : M' 27 10 = iI ((m + o.length : Nat) : Int)) (h3 : ∀ b, o = [b] → M' 29 m = iI b) : TQ M m res (iI 1) M' := by
  subst e
  exact ⟨h, rfl, h1, h2, h3⟩
theorem TQ.nz {M M' : qM} {m : Nat} {res : Option (rA × List Int)} {x : Int32} (h : TQ M m res x M') : narrow .boolean (.int x) = .int x := by
  obtain ⟨-, h⟩ := h
  cases res with
  | none => rw [show x = iI 0 from h]; decide
  | some q => rw [show x = iI 1 from h.1]; decide
theorem TQ.from {M M1 M' : qM} {m : Nat} {res : Option (rA × List Int)} {x : Int32} (f : FM M m M1) (h : TQ M1 m res x M') : TQ M m res x M' := ⟨f.tr h.1, h.2⟩
def kp (M : qM) (m : Nat) (c : Int) : qM := q_up (q_up M 29 m (iI c)) 27 10 (iI ((m + 1 : Nat) : Int))
theorem FM.kp {M : qM} {m : Nat} {c : Int} : FM M m (kp M m c) := (FM.rf.up29 (Nat.le_refl _)).up (by omega)
theorem kp_f {M : qM} {m : Nat} {c : Int} {k : Nat} (h : k ≠ 10) : kp M m c 27 k = M 27 k := by
  unfold kp
  rw [q_up_k h, q_up_o (by decide)]
theorem kp_c {M : qM} {m : Nat} {c : Int} : kp M m c 27 10 = iI ((m + 1 : Nat) : Int) := q_up_s
theorem kp_m {M : qM} {m : Nat} {c : Int} : kp M m c 29 m = iI c := by
  unfold kp
  rw [q_up_o (by decide), q_up_s]
section MRead
variable {l : Launch} {Γ : qG} {d r : Nat} {L : Nat → Int64} {M : qM} {m : Nat}
theorem cm_kp (hm : M 27 10 = iI m) (hm2 : m ≤ 259) (c : Int) : V l Γ T_TapedLinesModel_keep d r 0 [.ref 27, .int (iI c)] [] (M, L) (q_n L (fun M' => M' = kp M m c)) := by
  refine s_TapedLinesModel_keep_0 _ ?_
  rw [hm, iI_nat (by omega) (by omega), iI_add, Int.toNat_natCast]
  exact ⟨iI_in (by omega) (by omega) (by omega), rfl⟩
theorem cm_letter (w i : Nat) (hw : w < 8) (hi : i ≤ 1000) : V l Γ T_TapedLinesModel_letter d r 0 [.int (iI w), .int (iI i), .null] [] (M, L) (q_i L (fun x M' => x = iI (lt w i) ∧ M' = M)) := by
  have e5 : ∀ (w : Nat), w < 8 → ∀ i, ¬ i ≤ 5 → lt w i = 0 := by
    intro w hw i hi
    have hl : ∀ w, w < 8 → (wl w).length ≤ 6 := by decide
    simp [lt, List.getD_eq_getElem?_getD, List.getElem?_eq_none (show (wl w).length ≤ i by have := hl w hw; omega)]
  have go : ∀ (z : Int), (∀ i : Nat, i ≤ 5 → ((iI z) >>> (((iI 5) * iI (i : Int)) &&& 31)) &&& (iI 31) = iI (lt w i)) → V l Γ T_TapedLinesModel_letter d r 93 [.null, .int (iI i), .int (iI z)] [] (M, L) (q_i L (fun x M' => x = iI (lt w i) ∧ M' = M)) := by
    intro z hz
    refine s_TapedLinesModel_letter_93 _ _ ?_
    rw [iI_le (by omega) (by omega) (by omega) (by omega)]
    exact ⟨fun q => ⟨hz i (by omega), rfl⟩, fun q => ⟨by rw [e5 w hw i (by omega)], rfl⟩⟩
  refine s_TapedLinesModel_letter_0 _ _ ?_
  rw [iI_toInt (by omega) (by omega)]
  refine ⟨fun q => go _ ?_, fun q0 => ⟨fun q => go _ ?_, fun q1 => ⟨fun q => go _ ?_, fun q2 => ⟨fun q => go _ ?_, fun q3 => ⟨fun q => go _ ?_, fun q4 => ⟨fun q => go _ ?_, fun q5 => ⟨fun q => go _ ?_, fun q6 => go _ ?_⟩⟩⟩⟩⟩⟩⟩
  · have : w = 0 := by omega
    subst this
    decide +kernel
  · have : w = 1 := by omega
    subst this
    decide +kernel
  · have : w = 2 := by omega
    subst this
    decide +kernel
  · have : w = 3 := by omega
    subst this
    decide +kernel
  · have : w = 4 := by omega
    subst this
    decide +kernel
  · have : w = 5 := by omega
    subst this
    decide +kernel
  · have : w = 6 := by omega
    subst this
    decide +kernel
  · have : w = 7 := by omega
    subst this
    decide +kernel
theorem cm_pass (hm : M 27 10 = iI m) (hm2 : m ≤ 258) (li : Int) (hl : M 27 7 = iI li) (hli : -2147483648 ≤ li ∧ li < 2147483648) (w : Nat) (hw : w < 8) : V l Γ T_TapedLinesModel_pass (d + 1 + 1) r 0 [.ref 27, .int (iI w)] [] (M, L) (q_i L (TQ M m (some (pas w li, [128 + (w : Int)])))) := by
  refine s_TapedLinesModel_pass_0 _ ?_
  rw [iI_toInt (by omega) (by omega), iI_add]
  refine ⟨_, cm_kp hm (by omega) _, ?_⟩
  rintro M1 rfl
  have one : ∀ (z : Int), pas w li = (z, 0, 0, 0, 0, 0, li) → (z = 7 ∨ z = 15 ∨ z = 9 ∨ z = 10) → ∃ P2 : Int32 → qM → Prop, V l Γ T_TapedLinesModel_go (d + 1) 0 0 [.ref 27, .int (iI z)] [] (kp M m (128 + (w : Int)), L) (q_i L P2) ∧ ∀ (x2 : Int32) (M2 : qM), P2 x2 M2 → narrow .boolean (.int x2) = .int x2 ∧ TQ M m (some (pas w li, [128 + (w : Int)])) x2 M2 := by
    intro z hz hz2
    refine ⟨_, cm_go _, ?_⟩
    rintro x2 M2 ⟨rfl, rfl⟩
    refine ⟨b2_n _, TQ.s (FM.kp.up (by omega)) rfl ?_ ?_ ?_⟩
    · rw [hz]
      exact ⟨q_up_s, by rw [q_up_k (by decide), kp_f (by decide)]; exact hl, fun q => by omega, fun q => by omega, fun q => by omega, fun q => by omega, by unfold wfs; omega⟩
    · rw [q_up_k (by decide), kp_c]; rfl
    · intro b hb
      cases hb
      rw [q_up_o (by decide), kp_m]
  have opn : ∀ (z : Int), pas w li = (11, z, 1, 0, 0, 0, li) → (z = 0 ∨ z = 1) → ∃ P2 : Int32 → qM → Prop, V l Γ T_TapedLinesModel_open (d + 1) 0 0 [.ref 27, .int (iI z)] [] (kp M m (128 + (w : Int)), L) (q_i L P2) ∧ ∀ (x2 : Int32) (M2 : qM), P2 x2 M2 → narrow .boolean (.int x2) = .int x2 ∧ TQ M m (some (pas w li, [128 + (w : Int)])) x2 M2 := by
    intro z hz hz2
    refine ⟨_, cm_open _, ?_⟩
    rintro x2 M2 ⟨rfl, rfl⟩
    refine ⟨b2_n _, TQ.s (((FM.kp.up (by omega)).up (by omega)).up (by omega)) rfl ?_ ?_ ?_⟩
    · rw [hz]
      exact ⟨q_up_s, by rw [q_up_k (by decide), q_up_k (by decide), q_up_k (by decide), kp_f (by decide)]; exact hl, fun _ => by rw [q_up_k (by decide), q_up_k (by decide), q_up_s], fun _ => by rw [q_up_k (by decide), q_up_s], fun q => by omega, fun q => by omega, by unfold wfs; omega⟩
    · rw [q_up_k (by decide), q_up_k (by decide), q_up_k (by decide), kp_c]; rfl
    · intro b hb
      cases hb
      rw [q_up_o (by decide), q_up_o (by decide), q_up_o (by decide), kp_m]
  have : w = 0 ∨ w = 1 ∨ w = 2 ∨ w = 3 ∨ w = 4 ∨ w = 5 ∨ w = 6 ∨ w = 7 := by omega
  refine ⟨fun q => one 7 ?_ (by omega), fun q0 => ⟨fun q => one 7 ?_ (by omega), fun q1 => ⟨fun q => one 15 ?_ (by omega), fun q2 => ⟨fun q => opn 1 ?_ (by omega), fun q3 => ⟨fun q => one 9 ?_ (by omega), fun q4 => ⟨fun q => opn 0 ?_ (by omega), fun q5 => ⟨fun q => one 15 ?_ (by omega), fun q7 => one 10 ?_ (by omega)⟩⟩⟩⟩⟩⟩⟩
  · have : w = 0 := by omega
    subst this
    rfl
  · have : w = 1 := by omega
    subst this
    rfl
  · have : w = 2 := by omega
    subst this
    rfl
  · have : w = 3 := by omega
    subst this
    rfl
  · have : w = 4 := by omega
    subst this
    rfl
  · have : w = 5 := by omega
    subst this
    rfl
  · have : w = 7 := by omega
    subst this
    rfl
  · have : w = 6 := by omega
    subst this
    rfl
end MRead
