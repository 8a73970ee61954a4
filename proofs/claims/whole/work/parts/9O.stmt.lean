-- expressions whole, and what a statement's bytes are
section MWork3
variable {l : Launch} {Γ : qG} {d r : Nat} {L : Nat → Int64}
theorem m_work {M : qM} {e : Nat} (he : e ≤ 200) {u : List Int} {res : Except Int (Int32 × List Int)} (hB : cB (M 30) e u) (h26 : M 27 26 = iI 0) (hw : wk (M 31) (M 32) u 0 [] [] 0 true = some res) : V l Γ T_TapedLinesModel_work (d + 1 + 1 + 1 + 1) r 0 [.ref 27, .int (iI ((e - u.length : Nat) : Int)), .int (iI e), .null, .null, .null, .null] [] (M, L) (q_n L (mW M e res)) := by
  have hl := hB.1
  refine s_TapedLinesModel_work_0 _ _ ((m_work_23 he u.length u [] [] 0 true _ res (Nat.le_refl _) ?_ ?_ ?_ ⟨?_, ?_, trivial, trivial⟩ (by simp; omega) (by simp; omega) (by decide) (by omega) ?_ q_up_s hw).wn (fun M' hM => hM.of (((fm.rf.upk (by simp)).upk (by simp)).upk (by simp))))
  · rw [q_up_o (by decide), q_up_o (by decide), q_up_o (by decide)]; exact hB
  · rw [q_up_o (by decide), q_up_o (by decide), q_up_o (by decide)]
  · rw [q_up_o (by decide), q_up_o (by decide), q_up_o (by decide)]
  · rw [q_up_k (by decide), q_up_k (by decide), q_up_s]; rfl
  · rw [q_up_k (by decide), q_up_s]; rfl
  · rw [q_up_k (by decide), q_up_k (by decide), q_up_k (by decide)]; exact h26
end MWork3
def N8 (f : Nat → Int32) : Nat → Int32 := fun k => if k < 8 then f k else 0
def N16 (f : Nat → Int32) : Nat → Int32 := fun k => if k < 16 then f k else 0
theorem i16 {i : Int32} (h : ¬ (i < 0 ∨ ¬ i < iI 16)) : i.toNatClampNeg < 16 := by
  have h1 : ¬ i.toInt < 0 := fun z => h (Or.inl (Int32.lt_iff_toInt_lt.mpr z))
  have h2 : i.toInt < 16 := by
    by_cases q : i < iI 16
    · have := Int32.lt_iff_toInt_lt.mp q
      rw [iI_toInt (by decide) (by decide)] at this
      exact this
    · exact absurd (Or.inr q) h
  show i.toInt.toNat < 16
  omega
theorem i15 {i : Int32} (h : ¬ (i < 0 ∨ ¬ i ≤ iI 15)) : i.toNatClampNeg < 16 := by
  have h1 : ¬ i.toInt < 0 := fun z => h (Or.inl (Int32.lt_iff_toInt_lt.mpr z))
  have h2 : i.toInt ≤ 15 := by
    by_cases q : i ≤ iI 15
    · have := Int32.le_iff_toInt_le.mp q
      rw [iI_toInt (by decide) (by decide)] at this
      exact this
    · exact absurd (Or.inr q) h
  show i.toInt.toNat < 16
  omega
theorem N8_v {c : Int} (h : isV c = true) (f : Nat → Int32) : N8 f (c - 97).toNat = f (c - 97).toNat := by
  have hcv : 97 ≤ c ∧ c ≤ 104 := by simpa [isV] using h
  unfold N8
  rw [if_pos (by omega)]
theorem N16_i {k : Nat} (h : k < 16) (f : Nat → Int32) : N16 f k = f k := by
  unfold N16
  rw [if_pos h]
theorem primF_N (va ce : Nat → Int32) (D : Nat) (g : List Int → eR) (l : List Int) : primF (N8 va) (N16 ce) D g l = primF va ce D g l := by
  unfold primF
  rcases l with _ | ⟨c, t⟩
  · rfl
  simp only
  by_cases h1 : isD c = true
  · rw [if_pos h1, if_pos h1]
  rw [if_neg h1, if_neg h1]
  by_cases h2 : isV c = true
  · rw [if_pos h2, if_pos h2, N8_v h2]
  rw [if_neg h2, if_neg h2]
  by_cases h3 : D = 0
  · rw [if_pos h3, if_pos h3]
  rw [if_neg h3, if_neg h3]
  by_cases h4 : c = 40
  · rw [if_pos h4, if_pos h4]
  rw [if_neg h4, if_neg h4]
  by_cases h5 : c = 64
  · rw [if_pos h5, if_pos h5]
    rcases t with _ | ⟨c1, t1⟩
    · rfl
    by_cases h6 : c1 = 40
    · subst h6
      simp only
      rcases g t1 with _ | (e | ⟨i, _ | ⟨c2, r⟩⟩)
      · rfl
      · rfl
      · rfl
      · by_cases h7 : c2 = 41
        · subst h7
          simp only
          by_cases h8 : i < 0 ∨ ¬ i < iI 16
          · rw [if_pos h8, if_pos h8]
          · rw [if_neg h8, if_neg h8, N16_i (i16 h8)]
        · simp [h7]
    · simp [h6]
  · rw [if_neg h5, if_neg h5]
theorem oneF_N (va ce : Nat → Int32) (D : Nat) (g : List Int → eR) (l : List Int) : ∀ b, oneF (N8 va) (N16 ce) D g b l = oneF va ce D g b l := by
  induction l with
  | nil => intro b; rfl
  | cons c t ih =>
    intro b
    unfold oneF
    rw [primF_N, ih]
theorem exD_N (va ce : Nat → Int32) : ∀ (D : Nat) (l : List Int), exD (N8 va) (N16 ce) D l = exD va ce D l := by
  intro D
  induction D with
  | zero => intro l; rfl
  | succ D ih =>
    intro l
    have e : oneF (N8 va) (N16 ce) D (exD (N8 va) (N16 ce) D) false = oneF va ce D (exD va ce D) false := by
      rw [show exD (N8 va) (N16 ce) D = exD va ce D from funext ih]
      exact funext (fun l => oneF_N va ce D _ l false)
    unfold exD
    rw [e]
theorem wk_N (va ce : Nat → Int32) : ∀ (u : List Int) (k : Nat) (vs : List Int32) (ss : List Int) (o : Int) (w : Bool), wk (N8 va) (N16 ce) u k vs ss o w = wk va ce u k vs ss o w := by
  intro u
  induction u with
  | nil => intro k vs ss o w; rfl
  | cons c t ih =>
    intro k vs ss o w
    cases k with
    | succ k => exact ih k vs ss o w
    | zero =>
      cases w with
      | true =>
        rw [wk, wk]
        by_cases h1 : isD c = true
        · rw [if_pos h1, if_pos h1, ih]
        rw [if_neg h1, if_neg h1]
        by_cases h2 : isV c = true
        · rw [if_pos h2, if_pos h2, N8_v h2, ih]
        rw [if_neg h2, if_neg h2, ih, ih, ih]
      | false =>
        rw [wk, wk]
        by_cases h1 : 128 ≤ c ∨ (c = 41 ∧ o = 0)
        · rw [if_pos h1, if_pos h1]
        rw [if_neg h1, if_neg h1]
        by_cases h2 : c = 41
        · rw [if_pos h2, if_pos h2]
          rcases apD 1 ss vs with _ | (e | ⟨vs', _ | ⟨s, ss'⟩⟩)
          · rfl
          · rfl
          · rfl
          · simp only
            by_cases h3 : s = 64
            · rw [if_pos h3, if_pos h3]
              rcases vs' with _ | ⟨i, vt⟩
              · rfl
              · simp only
                by_cases h4 : i < 0 ∨ ¬ i ≤ iI 15
                · rw [if_pos h4, if_pos h4]
                · rw [if_neg h4, if_neg h4, N16_i (i15 h4), ih]
            · rw [if_neg h3, if_neg h3, ih]
        rw [if_neg h2, if_neg h2]
        by_cases h3 : tier c = -1
        · rw [if_pos h3, if_pos h3]
        rw [if_neg h3, if_neg h3]
        rcases apD (rnk c) ss vs with _ | (e | ⟨vs', ss'⟩)
        · rfl
        · rfl
        · simp only
          rw [ih]
/-- a whole expression: both ways give the same -/
def EX (va ce : Nat → Int32) (u : List Int) : Except Int (Int32 × List Int) := match exD va ce 4 u with
  | some res => res
  | none => .error 0
theorem ex_fin {va ce : Nat → Int32} (hva : ∀ k, k < 8 → isSh (va k)) (hce : ∀ k, k < 16 → isSh (ce k)) {pu li : Int} {u : List Int} (h : tbs (11, pu, 1, 0, 0, 0, li) u = true) (hl : u.length ≤ 198) : exD va ce 4 u = some (EX va ce u) ∧ wk va ce u 0 [] [] 0 true = some (EX va ce u) ∧ ((∃ e, EX va ce u = .error e ∧ (e = 5 ∨ e = 6)) ∨ ∃ v r, EX va ce u = .ok (v, r) ∧ isSh v ∧ tbs (14, pu, 1, 0, 0, 0, li) r = true ∧ tier (r.headD (-1)) < 0 ∧ r.length < u.length) := by
  rcases X_ex (pu := pu) (li := li) hva hce 3 (by decide) u h hl with ⟨e, e1, e2, e3⟩ | ⟨v, r, e1, e2, e3, e4, e5, e6⟩
  · have eE : EX va ce u = .error e := by unfold EX; rw [e1]
    rw [eE]
    exact ⟨e1, e3 [] [] (Or.inr (by decide)), Or.inl ⟨e, rfl, e2⟩⟩
  · have eE : EX va ce u = .ok (v, r) := by unfold EX; rw [e1]
    rw [eE]
    refine ⟨e1, ?_, Or.inr ⟨v, r, rfl, e2, e3, e4, e5⟩⟩
    have := e6 [] [] (Or.inr (by decide))
    rw [show (4 : Int) - ((3 : Nat) : Int) - 1 = 0 from rfl] at this
    rw [this]
    rcases r with _ | ⟨c, r⟩
    · rfl
    · have hc := hd_14 e3 c r rfl
      have e4 : tier c < 0 := e4
      have := tier_le c
      rw [wk, if_pos (by omega)]
      rfl
/-- where an expression ends -/
theorem end_0 {li : Int} {r : List Int} (h : tbs (14, 0, 1, 0, 0, 0, li) r = true) (ht : tier (r.headD (-1)) < 0) : r = [] := by
  rcases r with _ | ⟨c, r⟩
  · rfl
  · have ht : tier c < 0 := ht
    have := tier_le c
    rcases tbs_14 h with q | q | q
    · have := q.2.2.1
      rw [show poss 14 0 1 = 0 from rfl, bt_0] at this
      cases this
    · omega
    · omega
theorem end_1 {li : Int} {r : List Int} (h : tbs (14, 1, 1, 0, 0, 0, li) r = true) (ht : tier (r.headD (-1)) < 0) : ∃ r', r = 128 :: r' ∧ tbs (7, 0, 0, 0, 0, 0, li) r' = true := by
  rcases r with _ | ⟨c, r⟩
  · rw [tbs] at h
    unfold whl at h
    simp at h
  · have ht : tier c < 0 := ht
    have := tier_le c
    rcases tbs_14 h with q | q | q
    · obtain ⟨q1, q2, q3, q4⟩ := q
      have hp : poss 14 1 1 = 1 := rfl
      rw [hp] at q3
      have hc : c = 128 := by
        have hk : (c - 128).toNat < 8 := by omega
        have : ∀ k : Fin 8, bt 1 k.val = true → k.val = 0 := by decide
        have := this ⟨(c - 128).toNat, hk⟩ q3
        have : (c - 128).toNat = 0 := this
        omega
      subst hc
      exact ⟨r, rfl, q4⟩
    · omega
    · omega
theorem end_2 {li : Int} {r : List Int} (h : tbs (14, 2, 1, 0, 0, 0, li) r = true) (ht : tier (r.headD (-1)) < 0) : ∃ r', r = 133 :: r' ∧ tbs (11, 0, 1, 0, 0, 0, li) r' = true := by
  rcases r with _ | ⟨c, r⟩
  · rw [tbs] at h
    unfold whl at h
    simp at h
  · have ht : tier c < 0 := ht
    have := tier_le c
    rcases tbs_14 h with q | q | q
    · obtain ⟨q1, q2, q3, q4⟩ := q
      have hp : poss 14 2 1 = 32 := rfl
      rw [hp] at q3
      have hc : c = 133 := by
        have hk : (c - 128).toNat < 8 := by omega
        have : ∀ k : Fin 8, bt 32 k.val = true → k.val = 5 := by decide
        have := this ⟨(c - 128).toNat, hk⟩ q3
        have : (c - 128).toNat = 5 := this
        omega
      subst hc
      exact ⟨r, rfl, q4⟩
    · omega
    · omega
theorem tbs_3 {pu li : Int} {u : List Int} (h : tbs (3, pu, 0, 0, 0, 0, li) u = true) : ∃ t, u = 61 :: t ∧ tbs (11, pu, 1, 0, 0, 0, li) t = true := by
  rcases u with _ | ⟨c, t⟩
  · rw [tbs] at h
    unfold whl at h
    simp at h
  · rw [tbs_c] at h
    by_cases h1 : 128 ≤ c
    · rw [tb_hi (by decide) h1, if_neg (by rintro ⟨-, z⟩; rw [show poss 3 pu 0 = 0 from rfl, bt_0] at z; cases z)] at h
      cases h
    · rw [tb_lo (by decide) (by omega) (by rintro ⟨-, z⟩; omega), show tOther 3 pu 0 li c = if c = 61 then some ((11, pu, 1, 0, 0, 0, li), [c]) else none from rfl] at h
      by_cases k : c = 61
      · rw [if_pos k] at h
        subst k
        exact ⟨t, rfl, h⟩
      · rw [if_neg k] at h; cases h
theorem end_3 {li : Int} {r : List Int} (h : tbs (14, 3, 1, 0, 0, 0, li) r = true) (ht : tier (r.headD (-1)) < 0) : ∃ r', r = 41 :: 61 :: r' ∧ tbs (11, 0, 1, 0, 0, 0, li) r' = true := by
  rcases r with _ | ⟨c, r⟩
  · rw [tbs] at h
    unfold whl at h
    simp at h
  · have ht : tier c < 0 := ht
    have := tier_le c
    rcases tbs_14 h with q | q | q
    · have := q.2.2.1
      rw [show poss 14 3 1 = 0 from rfl, bt_0] at this
      cases this
    · obtain ⟨rfl, q⟩ := q
      rcases q with ⟨-, -, q⟩ | ⟨q, -⟩
      · obtain ⟨t, rfl, h11⟩ := tbs_3 q
        exact ⟨t, rfl, h11⟩
      · omega
    · omega
/-- a line's number as a target -/
def tg (u : List Int) : Prop := (∀ c ∈ u, isD c = true) ∧ 1 ≤ (numV 0 u).1 ∧ (numV 0 u).1 ≤ 99 ∧ (numV 0 u).2 = []
theorem tbs_8 {pu de li : Int} (t : List Int) : ∀ nu : Int, 1 ≤ nu → nu ≤ 99 → tbs (8, pu, de, nu, 0, 0, li) t = true → (∀ c ∈ t, isD c = true) ∧ 1 ≤ (numV nu t).1 ∧ (numV nu t).1 ≤ 99 ∧ (numV nu t).2 = [] := by
  induction t with
  | nil => intro nu h1 h2 h; exact ⟨fun c hc => (by cases hc), h1, h2, rfl⟩
  | cons c t ih =>
    intro nu h1 h2 h
    rw [tbs_c] at h
    by_cases hc : isD c = true
    · have hcd : 48 ≤ c ∧ c ≤ 57 := by simpa [isD] using hc
      have e : tb (8, pu, de, nu, 0, 0, li) c = tDigit 8 pu de nu li c := by
        unfold tb
        simp only
        rw [if_neg (by decide), if_neg (by omega), if_pos (by simp [hc])]
      rw [e] at h
      unfold tDigit at h
      by_cases k : nu = 0 ∨ (if (8 : Int) = 13 then 32767 else 99) < 10 * nu + c - 48
      · rw [if_pos k] at h; cases h
      · rw [if_neg k, if_neg (by decide)] at h
        rw [if_neg (by decide)] at k
        obtain ⟨a1, a2, a3, a4⟩ := ih (10 * nu + c - 48) (by omega) (by omega) h
        unfold numV
        rw [if_pos hc]
        refine ⟨fun x hx => ?_, a2, a3, a4⟩
        rcases List.mem_cons.mp hx with rfl | hx
        · exact hc
        · exact a1 x hx
    · exfalso
      by_cases k1 : 128 ≤ c
      · rw [tb_hi (by decide) k1, if_neg (by rintro ⟨-, z⟩; rw [show poss 8 pu de = 0 from rfl, bt_0] at z; cases z)] at h
        cases h
      · rw [tb_lo (by decide) (by omega) (fun z => hc z.1), show tOther 8 pu de li c = none from rfl] at h
        cases h
theorem tbs_7 {li : Int} {u : List Int} (h : tbs (7, 0, 0, 0, 0, 0, li) u = true) : tg u := by
  rcases u with _ | ⟨c, t⟩
  · rw [tbs] at h
    unfold whl at h
    simp at h
  · rw [tbs_c] at h
    by_cases h1 : 128 ≤ c
    · rw [tb_hi (by decide) h1, if_neg (by rintro ⟨-, z⟩; rw [show poss 7 0 0 = 0 from rfl, bt_0] at z; cases z)] at h
      cases h
    · rw [tb_lo (by decide) (by omega) (by rintro ⟨-, z⟩; omega), show tOther 7 0 0 li c = if 49 ≤ c ∧ c ≤ 57 then some ((8, 0, 0, c - 48, 0, 0, li), [c]) else none from rfl] at h
      by_cases k : 49 ≤ c ∧ c ≤ 57
      · rw [if_pos k] at h
        obtain ⟨a1, a2, a3, a4⟩ := tbs_8 t (c - 48) (by omega) (by omega) h
        have hc : isD c = true := by simp [isD]; omega
        have e : numV 0 (c :: t) = numV (c - 48) t := by
          rw [numV, if_pos hc]
          congr 1
          omega
        unfold tg
        rw [e]
        refine ⟨fun x hx => ?_, a2, a3, a4⟩
        rcases List.mem_cons.mp hx with rfl | hx
        · exact hc
        · exact a1 x hx
      · rw [if_neg k] at h; cases h
theorem tbs_15 {li : Int} {u : List Int} (h : tbs (15, 0, 0, 0, 0, 0, li) u = true) : u = [] := by
  rcases u with _ | ⟨c, t⟩
  · rfl
  · rw [tbs_c] at h
    by_cases h1 : 128 ≤ c
    · rw [tb_hi (by decide) h1, if_neg (by rintro ⟨-, z⟩; rw [show poss 15 0 0 = 0 from rfl, bt_0] at z; cases z)] at h
      cases h
    · rw [tb_lo (by decide) (by omega) (by rintro ⟨-, z⟩; omega), show tOther 15 0 0 li c = none from rfl] at h
      cases h
theorem tbs_9 {li : Int} {u : List Int} (h : tbs (9, 0, 0, 0, 0, 0, li) u = true) : ∃ c t, u = c :: 61 :: t ∧ isV c = true ∧ tbs (11, 2, 1, 0, 0, 0, li) t = true := by
  rcases u with _ | ⟨c, t⟩
  · rw [tbs] at h
    unfold whl at h
    simp at h
  · rw [tbs_c] at h
    by_cases h1 : 128 ≤ c
    · rw [tb_hi (by decide) h1, if_neg (by rintro ⟨-, z⟩; rw [show poss 9 0 0 = 0 from rfl, bt_0] at z; cases z)] at h
      cases h
    · rw [tb_lo (by decide) (by omega) (by rintro ⟨-, z⟩; omega), show tOther 9 0 0 li c = if isV c = true then some ((3, 2, 0, 0, 0, 0, li), [c]) else none from rfl] at h
      by_cases k : isV c = true
      · rw [if_pos k] at h
        obtain ⟨t', rfl, h11⟩ := tbs_3 h
        exact ⟨c, t', rfl, k, h11⟩
      · rw [if_neg k] at h; cases h
theorem tbs_10 {li : Int} {u : List Int} (h : tbs (10, 0, 0, 0, 0, 0, li) u = true) : ∃ c, u = [c] ∧ isV c = true := by
  rcases u with _ | ⟨c, t⟩
  · rw [tbs] at h
    unfold whl at h
    simp at h
  · rw [tbs_c] at h
    by_cases h1 : 128 ≤ c
    · rw [tb_hi (by decide) h1, if_neg (by rintro ⟨-, z⟩; rw [show poss 10 0 0 = 0 from rfl, bt_0] at z; cases z)] at h
      cases h
    · rw [tb_lo (by decide) (by omega) (by rintro ⟨-, z⟩; omega), show tOther 10 0 0 li c = if isV c = true then some ((15, 0, 0, 0, 0, 0, li), [c]) else none from rfl] at h
      by_cases k : isV c = true
      · rw [if_pos k] at h
        have := tbs_15 h
        subst this
        exact ⟨c, rfl, k⟩
      · rw [if_neg k] at h; cases h
theorem tbs_6 {li : Int} (u : List Int) : tbs (6, 0, 0, 0, 0, 0, li) u = true → u ≠ [] ∧ ∀ c ∈ u, 32 ≤ c ∧ c ≤ 126 := by
  induction u with
  | nil =>
    intro h
    rw [tbs] at h
    unfold whl at h
    simp at h
  | cons c t ih =>
    intro h
    rw [tbs_c, show tb (6, 0, 0, 0, 0, 0, li) c = tQuoted li c from rfl] at h
    unfold tQuoted at h
    by_cases k : 32 ≤ c ∧ c ≤ 126
    · rw [if_pos k] at h
      refine ⟨by simp, fun x hx => ?_⟩
      rcases List.mem_cons.mp hx with rfl | hx
      · exact k
      by_cases k2 : c = 34
      · rw [if_pos k2] at h
        rw [tbs_15 h] at hx
        cases hx
      · rw [if_neg k2] at h
        exact (ih h).2 x hx
    · rw [if_neg k] at h; cases h
theorem tbs_5 {li : Int} {u : List Int} (h : tbs (5, 0, 0, 0, 0, 0, li) u = true) : (∃ t, u = 34 :: t ∧ t ≠ [] ∧ ∀ c ∈ t, 32 ≤ c ∧ c ≤ 126) ∨ (u.headD 0 ≠ 34 ∧ tbs (11, 0, 1, 0, 0, 0, li) u = true) := by
  rcases u with _ | ⟨c, t⟩
  · rw [tbs] at h
    unfold whl at h
    simp at h
  · rw [tbs_c] at h
    by_cases h1 : 128 ≤ c
    · rw [tb_hi (by decide) h1, if_neg (by rintro ⟨-, z⟩; rw [show poss 5 0 0 = 0 from rfl, bt_0] at z; cases z)] at h
      cases h
    · rw [tb_lo (by decide) (by omega) (by rintro ⟨-, z⟩; omega), show tOther 5 0 0 li c = if c = 34 then some ((6, 0, 0, 0, 0, 0, li), [c]) else tOne 0 1 li c from rfl] at h
      by_cases k : c = 34
      · rw [if_pos k] at h
        subst k
        have := tbs_6 t h
        exact Or.inl ⟨t, rfl, this.1, this.2⟩
      · rw [if_neg k] at h
        refine Or.inr ⟨k, ?_⟩
        rw [tbs_c, tb_lo (by decide) (by omega) (by rintro ⟨-, z⟩; omega)]
        exact h
theorem tbs_4 {li : Int} {u : List Int} (h : tbs (4, 0, 0, 0, 0, 0, li) u = true) : ∃ t, u = 40 :: t ∧ tbs (11, 3, 1, 0, 0, 0, li) t = true := by
  rcases u with _ | ⟨c, t⟩
  · rw [tbs] at h
    unfold whl at h
    simp at h
  · rw [tbs_c] at h
    by_cases h1 : 128 ≤ c
    · rw [tb_hi (by decide) h1, if_neg (by rintro ⟨-, z⟩; rw [show poss 4 0 0 = 0 from rfl, bt_0] at z; cases z)] at h
      cases h
    · rw [tb_lo (by decide) (by omega) (by rintro ⟨-, z⟩; omega), show tOther 4 0 0 li c = if c = 40 then some ((11, 3, 1, 0, 0, 0, li), [c]) else none from rfl] at h
      by_cases k : c = 40
      · rw [if_pos k] at h
        subst k
        exact ⟨t, rfl, h⟩
      · rw [if_neg k] at h; cases h
/-- the kinds of statements -/
theorem okSt_kinds {o : List Int} (h : okSt o) : (∃ u, o = 128 :: u ∧ tg u) ∨ (∃ u, o = 129 :: u ∧ tg u) ∨ o = [130] ∨ o = [135] ∨ (∃ u, o = 131 :: u ∧ tbs (11, 1, 1, 0, 0, 0, 0) u = true) ∨ (∃ c u, o = 132 :: c :: 61 :: u ∧ isV c = true ∧ tbs (11, 2, 1, 0, 0, 0, 0) u = true) ∨ (∃ c, o = [134, c] ∧ isV c = true) ∨ (∃ u, o = 63 :: 34 :: u ∧ u ≠ [] ∧ ∀ c ∈ u, 32 ≤ c ∧ c ≤ 126) ∨ (∃ u, o = 63 :: u ∧ u.headD 0 ≠ 34 ∧ tbs (11, 0, 1, 0, 0, 0, 0) u = true) ∨ (∃ u, o = 64 :: 40 :: u ∧ tbs (11, 3, 1, 0, 0, 0, 0) u = true) ∨ ∃ c u, o = c :: 61 :: u ∧ isV c = true ∧ tbs (11, 0, 1, 0, 0, 0, 0) u = true := by
  obtain ⟨hne, h⟩ := h
  rcases o with _ | ⟨b, u⟩
  · exact absurd rfl hne
  rw [tbs_c] at h
  by_cases h1 : 128 ≤ b
  · rw [tb_hi (by decide) h1] at h
    by_cases k : b < 136 ∧ bt (poss 2 0 0) (b - 128).toNat = true
    · rw [if_pos k] at h
      simp only at h
      have hb : b = 128 ∨ b = 129 ∨ b = 130 ∨ b = 131 ∨ b = 132 ∨ b = 133 ∨ b = 134 ∨ b = 135 := by omega
      rcases hb with rfl | rfl | rfl | rfl | rfl | rfl | rfl | rfl
      · exact Or.inl ⟨u, rfl, tbs_7 h⟩
      · exact Or.inr (Or.inl ⟨u, rfl, tbs_7 h⟩)
      · rw [tbs_15 (u := u) h]
        exact Or.inr (Or.inr (Or.inl rfl))
      · exact Or.inr (Or.inr (Or.inr (Or.inr (Or.inl ⟨u, rfl, h⟩))))
      · obtain ⟨c, t, rfl, a, b⟩ := tbs_9 (u := u) h
        exact Or.inr (Or.inr (Or.inr (Or.inr (Or.inr (Or.inl ⟨c, t, rfl, a, b⟩)))))
      · exact absurd k.2 (by decide)
      · obtain ⟨c, rfl, a⟩ := tbs_10 (u := u) h
        exact Or.inr (Or.inr (Or.inr (Or.inr (Or.inr (Or.inr (Or.inl ⟨c, rfl, a⟩))))))
      · rw [tbs_15 (u := u) h]
        exact Or.inr (Or.inr (Or.inr (Or.inl rfl)))
    · rw [if_neg k] at h; cases h
  · rw [tb_lo (by decide) (by omega) (by rintro ⟨-, z⟩; omega), show tOther 2 0 0 0 b = tBegin 0 b from rfl] at h
    unfold tBegin at h
    by_cases k1 : isV b = true
    · rw [if_pos k1] at h
      obtain ⟨t, rfl, h11⟩ := tbs_3 h
      exact Or.inr (Or.inr (Or.inr (Or.inr (Or.inr (Or.inr (Or.inr (Or.inr (Or.inr (Or.inr ⟨b, t, rfl, k1, h11⟩)))))))))
    rw [if_neg k1] at h
    by_cases k2 : b = 64
    · rw [if_pos k2] at h
      obtain ⟨t, rfl, h11⟩ := tbs_4 h
      subst k2
      exact Or.inr (Or.inr (Or.inr (Or.inr (Or.inr (Or.inr (Or.inr (Or.inr (Or.inr (Or.inl ⟨t, rfl, h11⟩)))))))))
    rw [if_neg k2] at h
    by_cases k3 : b = 63
    · rw [if_pos k3] at h
      subst k3
      rcases tbs_5 h with ⟨t, rfl, a, b⟩ | ⟨a, b⟩
      · exact Or.inr (Or.inr (Or.inr (Or.inr (Or.inr (Or.inr (Or.inr (Or.inl ⟨t, rfl, a, b⟩)))))))
      · exact Or.inr (Or.inr (Or.inr (Or.inr (Or.inr (Or.inr (Or.inr (Or.inr (Or.inl ⟨u, rfl, a, b⟩))))))))
    rw [if_neg k3] at h
    cases h
