-- both sides tied: what holds at the head of the law's loop
def R_text (M : qM) : Prop := ∃ t : List Int, shIs M 1 t ∧ mText M t ∧ ∀ c ∈ t, 32 ≤ c ∧ c ≤ 126
def R_out (M : qM) : Prop := ∃ o : List Int, shIs M 16 o ∧ rowIs M 27 24 37 o ∧ ∀ c ∈ o, 0 ≤ c ∧ c < 65536
def R_page (M : qM) : Prop := ∃ g : List Int, shIs M 3 g ∧ rowIs M 27 37 41 g ∧ ∀ c ∈ g, 0 ≤ c ∧ c < 65536
def R_tape (M : qM) : Prop := ∃ n : Nat, n ≤ 7754 ∧ M 24 2 = iI n ∧ M 27 33 = iI n ∧ ∀ j, j < n → M 25 j = M 40 j
def isSh (x : Int32) : Prop := -32768 ≤ x.toInt ∧ x.toInt ≤ 32767
def R_vars (M : qM) : Prop := (∀ k, k < 8 → M 13 k = M 31 k ∧ isSh (M 13 k)) ∧ ∀ k, k < 16 → M 14 k = M 32 k ∧ isSh (M 14 k)
/-- the statements okS, rising numbers of 1 .. 99 -/
def okP (okS : List Int → Prop) (pr : List (Int × List Int)) : Prop := rising pr ∧ ∀ q ∈ pr, 1 ≤ q.1 ∧ q.1 ≤ 99 ∧ okS q.2
/-- loops and returns while it runs -/
def R_loops (M : qM) (pr : List (Int × List Int)) : Prop := (∃ n : Nat, n ≤ 6 ∧ M 9 12 = iI n ∧ M 27 18 = iI n ∧ (∀ k, k < n → M 20 k = M 33 k ∧ 0 ≤ (M 20 k).toInt ∧ (M 20 k).toInt < 8 ∧ M 21 k = M 34 k ∧ isSh (M 21 k) ∧ ∃ i, i ≤ pr.length ∧ M 22 k = iI (off pr i) ∧ M 35 k = iI (off pr i)) ∧ ∀ j k, j < n → k < n → M 20 j = M 20 k → j = k) ∧
  ∃ n : Nat, n ≤ 6 ∧ M 9 13 = iI n ∧ M 27 22 = iI n ∧ ∀ k, k < n → ∃ i, i ≤ pr.length ∧ M 23 k = iI (off pr i) ∧ M 36 k = iI (off pr i)
def R_state (M : qM) (pr : List (Int × List Int)) : Prop := ∃ z : Int, M 9 4 = iI z ∧ M 27 14 = iI z ∧ (z = 0 ∨ z = 1 ∨ z = 2 ∨ (11 ≤ z ∧ z ≤ 17)) ∧ ((z = 1 ∨ 11 ≤ z) → ∃ i, i < pr.length ∧ M 9 5 = iI (off pr i) ∧ M 27 15 = iI (off pr i)) ∧ (z = 1 → R_loops M pr)
def R_prog (okS : List Int → Prop) (M : qM) : Prop := ∃ pr : List (Int × List Int), cPr M pr ∧ mPr M pr ∧ okP okS pr ∧ R_state M pr
def Rel (okS : List Int → Prop) (M : qM) : Prop := R_text M ∧ R_out M ∧ R_page M ∧ R_tape M ∧ R_vars M ∧ R_prog okS M
section Keep
variable {os ks : List Nat} {M M' : qM} {okS : List Int → Prop}
theorem R_text.keep (h : R_text M) (f : fm os ks M M') (ho : ∀ o ∈ [1, 2, 28], o ∉ os) (hk : 1 ∉ ks) : R_text M' := by
  obtain ⟨t, h1, h2, h3⟩ := h
  refine ⟨t, h1.keep (f.1 1 (ho 1 (by simp)) (by decide)) (f.1 2 (ho 2 (by simp)) (by decide)), ?_, h3⟩
  unfold mText
  rw [f.2 1 hk, f.1 28 (ho 28 (by simp)) (by decide)]
  exact h2
theorem R_out.keep (h : R_out M) (f : fm os ks M M') (ho : ∀ o ∈ [16, 17, 37], o ∉ os) (hk : 24 ∉ ks) : R_out M' := by
  obtain ⟨t, h1, h2, h3⟩ := h
  exact ⟨t, h1.keep (f.1 16 (ho 16 (by simp)) (by decide)) (f.1 17 (ho 17 (by simp)) (by decide)), h2.keep (f.2 24 hk) (f.1 37 (ho 37 (by simp)) (by decide)), h3⟩
theorem R_page.keep (h : R_page M) (f : fm os ks M M') (ho : ∀ o ∈ [3, 4, 41], o ∉ os) (hk : 37 ∉ ks) : R_page M' := by
  obtain ⟨t, h1, h2, h3⟩ := h
  exact ⟨t, h1.keep (f.1 3 (ho 3 (by simp)) (by decide)) (f.1 4 (ho 4 (by simp)) (by decide)), h2.keep (f.2 37 hk) (f.1 41 (ho 41 (by simp)) (by decide)), h3⟩
theorem R_tape.keep (h : R_tape M) (f : fm os ks M M') (ho : ∀ o ∈ [24, 25, 40], o ∉ os) (hk : 33 ∉ ks) : R_tape M' := by
  obtain ⟨n, h1, h2, h3, h4⟩ := h
  refine ⟨n, h1, ?_, ?_, ?_⟩
  · rw [f.1 24 (ho 24 (by simp)) (by decide)]; exact h2
  · rw [f.2 33 hk]; exact h3
  · rw [f.1 25 (ho 25 (by simp)) (by decide), f.1 40 (ho 40 (by simp)) (by decide)]; exact h4
theorem R_vars.keep (h : R_vars M) (f : fm os ks M M') (ho : ∀ o ∈ [13, 14, 31, 32], o ∉ os) : R_vars M' := by
  unfold R_vars
  rw [f.1 13 (ho 13 (by simp)) (by decide), f.1 14 (ho 14 (by simp)) (by decide), f.1 31 (ho 31 (by simp)) (by decide), f.1 32 (ho 32 (by simp)) (by decide)]
  exact h
theorem R_loops.keep {pr : List (Int × List Int)} (h : R_loops M pr) (f : fm os ks M M') (ho : ∀ o ∈ [9, 20, 21, 22, 23, 33, 34, 35, 36], o ∉ os) (hk : ∀ k ∈ [18, 22], k ∉ ks) : R_loops M' pr := by
  unfold R_loops
  rw [f.1 9 (ho 9 (by simp)) (by decide), f.1 20 (ho 20 (by simp)) (by decide), f.1 21 (ho 21 (by simp)) (by decide), f.1 22 (ho 22 (by simp)) (by decide), f.1 23 (ho 23 (by simp)) (by decide), f.1 33 (ho 33 (by simp)) (by decide), f.1 34 (ho 34 (by simp)) (by decide), f.1 35 (ho 35 (by simp)) (by decide), f.1 36 (ho 36 (by simp)) (by decide), f.2 18 (hk 18 (by simp)), f.2 22 (hk 22 (by simp))]
  exact h
theorem R_state.keep {pr : List (Int × List Int)} (h : R_state M pr) (f : fm os ks M M') (ho : ∀ o ∈ [9, 20, 21, 22, 23, 33, 34, 35, 36], o ∉ os) (hk : ∀ k ∈ [14, 15, 18, 22], k ∉ ks) : R_state M' pr := by
  obtain ⟨z, h1, h2, h3, h4, h5⟩ := h
  have e9 := f.1 9 (ho 9 (by simp)) (by decide)
  refine ⟨z, ?_, ?_, h3, ?_, fun q => (h5 q).keep f ho (fun k hk2 => hk k (by simp at hk2; rcases hk2 with rfl | rfl <;> simp))⟩
  · rw [e9]; exact h1
  · rw [f.2 14 (hk 14 (by simp))]; exact h2
  · rw [e9, f.2 15 (hk 15 (by simp))]; exact h4
theorem R_prog.keep (h : R_prog okS M) (f : fm os ks M M') (ho : ∀ o ∈ [9, 10, 11, 20, 21, 22, 23, 30, 33, 34, 35, 36], o ∉ os) (hk : ∀ k ∈ [12, 14, 15, 18, 22], k ∉ ks) : R_prog okS M' := by
  obtain ⟨pr, h1, h2, h3, h4⟩ := h
  refine ⟨pr, ?_, ?_, h3, h4.keep f (fun o ho2 => ho o (by simp at ho2; rcases ho2 with rfl | rfl | rfl | rfl | rfl | rfl | rfl | rfl | rfl <;> simp)) (fun k hk2 => hk k (by simp at hk2; rcases hk2 with rfl | rfl | rfl | rfl <;> simp))⟩
  · unfold cPr
    rw [f.1 10 (ho 10 (by simp)) (by decide), f.1 11 (ho 11 (by simp)) (by decide)]
    exact h1
  · exact h2.keep (f.2 12 (hk 12 (by simp))) (f.1 30 (ho 30 (by simp)) (by decide))
theorem fr.fm {os : List Nat} {M M1 : qM} (h : fr os M M1) (h27 : 27 ∉ os) : fm os [] M M1 := ⟨fun o a _ => h o a, fun k _ => congrFun (h 27 h27) k⟩
end Keep
theorem i2c_char (x : Int32) : ∃ c : Int, 0 ≤ c ∧ c < 65536 ∧ (x.toUInt32 % 65536).toInt32 = iI c := by
  have hlt : (x.toUInt32 % 65536).toNat < 65536 := by
    rw [UInt32.toNat_mod]
    exact Nat.mod_lt _ (by decide)
  refine ⟨((x.toUInt32 % 65536).toNat : Int), by omega, by omega, ?_⟩
  apply Int32.toInt_inj.mp
  rw [iI_toInt (by omega) (by omega)]
  show (x.toUInt32 % 65536).toInt32.toBitVec.toInt = _
  rw [show (x.toUInt32 % 65536).toInt32.toBitVec = (x.toUInt32 % 65536).toBitVec from rfl, BitVec.toInt_eq_toNat_of_lt]
  · rfl
  · show 2 * (x.toUInt32 % 65536).toNat < 2 ^ 32
    omega
theorem lg_cmp_self (x : Int64) : lg_cmp x x = 0 := by
  unfold lg_cmp
  rw [if_neg (by rw [gt_iff_lt, Int64.lt_iff_toInt_lt]; omega), if_pos rfl]
-- two calls with equal answers
section Pairs
variable (l : Launch) (Γ : qG) (d : Nat) (L : Nat → Int64)
def pairI (Tc Tm : qT) (ac am : List Value) (M : qM) (R : qM → Prop) : Prop := ∃ P1 : Int32 → qM → Prop, V l Γ Tc d 0 0 ac [] (M, L) (q_i L P1) ∧ ∀ (x1 : Int32) (M1 : qM), P1 x1 M1 → ∃ P2 : Int32 → qM → Prop, V l Γ Tm d 0 0 am [] (M1, L) (q_i L P2) ∧ ∀ (x2 : Int32) (M2 : qM), P2 x2 M2 → x1 = x2 ∧ R M2
def pairN (Tc Tm : qT) (ac am : List Value) (M : qM) (R : qM → Prop) : Prop := ∃ P1 : qM → Prop, V l Γ Tc d 0 0 ac [] (M, L) (q_n L P1) ∧ ∀ (M1 : qM), P1 M1 → ∃ P2 : qM → Prop, V l Γ Tm d 0 0 am [] (M1, L) (q_n L P2) ∧ ∀ (M2 : qM), P2 M2 → R M2
/-- a helper and the reference: fault and answer alike -/
def pairH (Th : qT) (hh : List (Nat × Nat × Nat × Nat)) (Tm : qT) (ah am : List Value) (M : qM) (R : qM → Prop) : Prop := ∃ P1 : Int32 → qM → (Nat → Int64) → Prop, VH l Γ Th hh d 1 0 ah [] (M, L) (q_h P1) ∧ ∀ (x1 : Int32) (M1 : qM) (L1 : Nat → Int64), P1 x1 M1 L1 → ∃ P2 : Int32 → qM → Prop, V l Γ Tm d 0 0 am [] (M1, L1) (q_i L1 P2) ∧ ∀ (x2 : Int32) (M2 : qM), P2 x2 M2 → M2 27 0 = x1 ∧ (x1 = 0 → L1 0 = x2.toInt64) ∧ R M2
def pairW (Th : qT) (hh : List (Nat × Nat × Nat × Nat)) (Tm : qT) (ah am : List Value) (M : qM) (R : qM → Prop) : Prop := ∃ P1 : Int32 → qM → (Nat → Int64) → Prop, VH l Γ Th hh d 1 0 ah [] (M, L) (q_h P1) ∧ ∀ (x1 : Int32) (M1 : qM) (L1 : Nat → Int64), P1 x1 M1 L1 → ∃ P2 : qM → Prop, V l Γ Tm d 0 0 am [] (M1, L1) (q_n L1 P2) ∧ ∀ (M2 : qM), P2 M2 → M2 27 0 = x1 ∧ R M2
end Pairs
