-- the reference takes a program from the tape
theorem sumZ_snoc (k : Int) (t : List Int) (c : Int) : sumZ k (t ++ [c]) = sumZ k t + (k + t.length) * c := by
  induction t generalizing k with
  | nil => simp [sumZ]
  | cons a t iht =>
    rw [List.cons_append, sumZ, sumZ, iht, List.length_cons]
    rw [show k + 1 + (t.length : Int) = k + ((t.length + 1 : Nat) : Int) by omega]
    omega
def kp3 (M M' : qM) : Prop := M' 30 = M 30 ∧ M' 27 12 = M 27 12 ∧ M' 27 14 = M 27 14
def ldP (n : Nat) (f : Nat → Int32) (M : qM) (x : Int32) (M' : qM) : Prop := fm [29, 30] [0, 3, 4, 5, 6, 7, 8, 9, 10, 12, 14, 35, 36] M M' ∧ ((hAll n f = none ∧ x = iI (-2) ∧ kp3 M M') ∨ ∃ t, hAll n f = some t ∧ ((ldR t = none ∧ x = iI (-3) ∧ kp3 M M') ∨ ∃ pr, ldR t = some pr ∧ x = iI pr.length ∧ mPr M' pr ∧ M' 27 14 = iI 0))
theorem ldP.back {n : Nat} {f : Nat → Int32} {M M1 M2 : qM} {x : Int32} (h : ldP n f M1 x M2) (f1 : fm [29] [0, 3, 4, 5, 6, 7, 8, 9, 10, 35, 36] M M1) : ldP n f M x M2 := by
  have f1' : fm [29, 30] [0, 3, 4, 5, 6, 7, 8, 9, 10, 12, 14, 35, 36] M M1 := ⟨fun o a b => f1.1 o (fun z => a (by simp at z ⊢; omega)) b, fun k a => f1.2 k (fun z => a (by simp at z ⊢; omega))⟩
  have kk : kp3 M1 M2 → kp3 M M2 := fun ⟨a, b, c⟩ => ⟨a.trans (f1.1 30 (by decide) (by decide)), b.trans (f1.2 12 (by decide)), c.trans (f1.2 14 (by decide))⟩
  refine ⟨f1'.tr h.1, ?_⟩
  rcases h.2 with ⟨a, b, c⟩ | ⟨t, a, ⟨b, c, e⟩ | h3⟩
  · exact Or.inl ⟨a, b, kk c⟩
  · exact Or.inr ⟨t, a, Or.inl ⟨b, c, kk e⟩⟩
  · exact Or.inr ⟨t, a, Or.inr h3⟩
section MLoad
variable {l : Launch} {Γ : qG} {d r : Nat} {L : Nat → Int64}
theorem cm_load_66t {M : qM} (h : M 27 36 = iI 1) (v1 v2 : Int32) : V l Γ T_TapedLinesModel_load (d + 1 + 1) r 66 [.ref 27, .int v1, .int v2, .null, .null] [] (M, L) (q_i L (fun x M' => x = iI (-2) ∧ fm [] [35, 36] M M')) := by
  refine s_TapedLinesModel_load_66 _ _ ⟨_, cm_readByte_torn h, ?_⟩
  rintro x1 M1 ⟨t1, f1⟩
  refine ⟨_, cm_readByte_torn t1, ?_⟩
  rintro x2 M2 ⟨t2, f2⟩
  rw [t2]
  exact ⟨fun q => absurd q (by decide), fun _ => ⟨rfl, f1.tr f2⟩⟩
theorem cm_load_110 {pr : List (Int × List Int)} {e : List Int} (he : enc pr = e) (hl : e.length ≤ 200) : ∀ (j k : Nat) (M : qM), k + j = e.length → rw (M 29) e → (∀ i, i < k → M 30 i = iI (e.getD i 0)) → V l Γ T_TapedLinesModel_load (d + 1) r 110 [.ref 27, .int (iI e.length), .null, .null, .int (iI k)] [] (M, L) (q_i L (fun x M' => x = iI pr.length ∧ mPr M' pr ∧ M' 27 14 = iI 0 ∧ fm [30] [12, 14] M M')) := by
  intro j
  induction j with
  | zero =>
    intro k M hk h29 h30
    refine s_TapedLinesModel_load_110 _ _ ?_
    rw [iI_le (by omega) (by omega) (by omega) (by omega)]
    have hm : mPr (q_up (q_up M 27 12 (iI e.length)) 27 14 (iI 0)) pr := by
      refine ⟨by rw [q_up_k (by decide), q_up_s, he], by rw [he]; exact hl, fun i hi => ?_⟩
      rw [q_up_o (by decide), q_up_o (by decide), he]
      rw [he] at hi
      exact h30 i (by omega)
    refine ⟨fun _ => ⟨_, cm_countLines hm, ?_⟩, fun q => by omega⟩
    rintro x M1 ⟨rfl, rfl⟩
    exact ⟨rfl, hm, q_up_s, (fm.rf.upk (by simp)).upk (by simp)⟩
  | succ j ih =>
    intro k M hk h29 h30
    refine s_TapedLinesModel_load_110 _ _ ?_
    rw [iI_le (by omega) (by omega) (by omega) (by omega), iI_nat (by omega) (by omega), Int.toNat_natCast, iI_add, h29 k (by omega)]
    refine ⟨fun q => by omega, fun _ => ⟨iI_in (by omega) (by omega) (by omega), iI_in (by omega) (by omega) (by omega), ?_⟩⟩
    refine (ih (k + 1) _ (by omega) (by rw [q_up_o (by decide)]; exact h29) (fun i hi => ?_)).wi (fun x M' hM => ⟨hM.1, hM.2.1, hM.2.2.1, (fm.rf.upo (by simp) (by decide)).tr hM.2.2.2⟩)
    by_cases hik : i = k
    · rw [hik, q_up_s]
    · rw [q_up_k hik]
      exact h30 i (by omega)
theorem cm_load_66 {n : Nat} {f : Nat → Int32} (hn : n ≤ 7754) {w : List Int} (hw : w.length ≤ 255) (hwb : ∀ b ∈ w, 0 ≤ b ∧ b < 256) {a : Nat} (ha : a ≤ n) (hall : hAll n f = match hBytes n f 2 a with | none => none | some (t2, _) => some (w ++ t2)) {M : qM} (h33 : M 27 33 = iI n) (h40 : M 40 = f) (h35 : M 27 35 = iI a) (h36 : M 27 36 = iI 0) (h29 : rw (M 29) w) :
    V l Γ T_TapedLinesModel_load (d + 5 + 1 + 1) r 66 [.ref 27, .int (iI w.length), .int (iI (sumZ 1 w % 65536)), .null, .null] [] (M, L) (q_i L (ldP n f M)) := by
  refine s_TapedLinesModel_load_66 _ _ ⟨_, cm_readByte (d := d + 5) hn h33 h35 ha h36, ?_⟩
  rintro x1 M1 ⟨hb1, f1⟩
  rw [h40] at hb1
  rw [hBytes_s] at hall
  have w1 : fm [29, 30] [0, 3, 4, 5, 6, 7, 8, 9, 10, 12, 14, 35, 36] M M1 := f1.wk (by decide) (by decide)
  have kpp : ∀ M', fm [29] [0, 3, 4, 5, 6, 7, 8, 9, 10, 35, 36] M M' → kp3 M M' := fun M' z => ⟨z.1 30 (by decide) (by decide), z.2 12 (by decide), z.2 14 (by decide)⟩
  rcases hb1 with ⟨v1, a1, e1, rfl, g35, g36⟩ | ⟨e1, g36⟩
  · obtain ⟨c1, c2, c3⟩ := hByte_le e1
    rw [e1] at hall
    simp only at hall
    rw [hBytes_s] at hall
    refine ⟨_, cm_readByte (d := d + 5) hn (by rw [f1.2 33 (by decide)]; exact h33) g35 c1 g36, ?_⟩
    rintro x2 M2 ⟨hb2, f2⟩
    rw [f1.1 40 (by decide) (by decide), h40] at hb2
    have f12 := f1.tr f2
    have w2 : fm [29, 30] [0, 3, 4, 5, 6, 7, 8, 9, 10, 12, 14, 35, 36] M M2 := f12.wk (by decide) (by decide)
    have k2 := kpp M2 (f12.wk (by decide) (by decide))
    rcases hb2 with ⟨v2, a2, e2, rfl, k35, k36⟩ | ⟨e2, k36⟩
    · obtain ⟨d1, d2, d3⟩ := hByte_le e2
      rw [e2] at hall
      simp only [hBytes] at hall
      rw [k36]
      refine ⟨fun _ => ?_, fun q => absurd rfl q⟩
      have b3 : 0 ≤ sumZ 1 w % 65536 ∧ sumZ 1 w % 65536 < 65536 := by omega
      rw [or8' ⟨by omega, by omega⟩ ⟨by omega, by omega⟩, iI_eq (by omega) (by omega) (by omega) (by omega)]
      have eE : ldE (w ++ [v1, v2]) = w := by
        unfold ldE
        rw [List.length_append, List.take_append_of_le_length (by simp)]
        rw [List.take_of_length_le (by simp)]
      have eR : ldR (w ++ [v1, v2]) = if 256 * v1 + v2 = sumZ 1 w % 65536 ∧ w.length ≤ 200 then prs 300 0 w else none := by
        unfold ldR
        rw [eE]
        have l1 : (w ++ [v1, v2]).length - 2 = w.length := by rw [List.length_append]; show w.length + 2 - 2 = _; omega
        rw [l1]
        have l2 : (w ++ [v1, v2]).getD w.length 0 = v1 := by simp [List.getD_eq_getElem?_getD]
        have l3 : (w ++ [v1, v2]).getD (w.length + 1) 0 = v2 := by simp [List.getD_eq_getElem?_getD]
        rw [l2, l3]
      refine ⟨fun q => ⟨w2, Or.inr ⟨_, hall, Or.inl ⟨by rw [eR, if_neg (fun z => q z.1)], rfl, k2⟩⟩⟩, fun q => ?_⟩
      have q := Classical.not_not.mp q
      have h29' : rw (M2 29) w := by rw [f12.1 29 (by decide) (by decide)]; exact h29
      refine ⟨_, cm_isProgram (d := d) w hw hwb h29', ?_⟩
      rintro x3 M3 ⟨rfl, f3⟩
      have f3m : fm [29] [3, 4, 5, 6, 7, 8, 9, 10] M2 M3 := ⟨fun o a b => f3.1 o (fun z => by simp at z a; omega), fun k a => f3.2.1 k (by simp at a; omega)⟩
      have f13 : fm [29] [0, 3, 4, 5, 6, 7, 8, 9, 10, 35, 36] M M3 := (f12.wk (by decide) (by decide)).tr (f3m.wk (by decide) (by decide))
      rw [b2_0]
      refine ⟨fun q2 => ?_, fun q2 => ⟨f13.wk (by decide) (by decide), Or.inr ⟨_, hall, Or.inl ⟨?_, rfl, kpp M3 f13⟩⟩⟩⟩
      · have q2 : (prs 300 0 w).isSome = true ∧ w.length ≤ 200 := by simpa using q2
        obtain ⟨pr, hpr⟩ := Option.isSome_iff_exists.mp q2.1
        have hld : ldR (w ++ [v1, v2]) = some pr := by rw [eR, if_pos ⟨q, q2.2⟩]; exact hpr
        have k1 := (ldR_ok hld).1
        rw [eE] at k1
        have h29'' : rw (M3 29) w := fun i hi => by rw [f3.2.2 i (by omega)]; exact h29' i hi
        refine (cm_load_110 k1 q2.2 w.length 0 M3 (by omega) h29'' (fun i hi => by omega)).wi (fun x M' hM => ?_)
        exact ⟨(f13.wk (by decide) (by decide)).tr (hM.2.2.2.wk (by decide) (by decide)), Or.inr ⟨_, hall, Or.inr ⟨pr, hld, hM.1, hM.2.1, hM.2.2.1⟩⟩⟩
      · rw [eR]
        split
        · rename_i hc
          rcases hp : prs 300 0 w with _ | pr
          · rfl
          · exact absurd (by rw [hp]; simp [hc.2]) q2
        · rfl
    · rw [e2] at hall
      rw [k36]
      exact ⟨fun q => absurd q (by decide), fun _ => ⟨w2, Or.inl ⟨hall, rfl, k2⟩⟩⟩
  · rw [e1] at hall
    refine ⟨_, cm_readByte_torn (d := d + 5) g36, ?_⟩
    rintro x2 M2 ⟨t2, f2⟩
    have f12 := f1.tr f2
    rw [t2]
    exact ⟨fun q => absurd q (by decide), fun _ => ⟨f12.wk (by decide) (by decide), Or.inl ⟨hall, rfl, kpp M2 (f12.wk (by decide) (by decide))⟩⟩⟩
theorem cm_load_24t {M : qM} (h : M 27 36 = iI 1) (v1 v2 v3 : Int32) : V l Γ T_TapedLinesModel_load (d + 1 + 1) r 24 [.ref 27, .int v1, .int v2, .int v3, .null] [] (M, L) (q_i L (fun x M' => x = iI (-2) ∧ fm [] [35, 36] M M')) :=
  s_TapedLinesModel_load_24 _ _ _ ⟨fun _ => cm_load_66t h _ _, fun _ => ⟨fun _ => cm_load_66t h _ _, fun q => absurd (show ¬ M 27 36 = 0 by rw [h]; decide) q⟩⟩
theorem cm_load_24 {n : Nat} {f : Nat → Int32} (hn : n ≤ 7754) {s a1 : Nat} (hs : s ≤ 255) (h0 : hByte n f 0 = some ((s : Int), a1)) : ∀ (j : Nat) (w : List Int) (a : Nat) (M : qM), w.length + j = s → a ≤ n → hBytes n f w.length a1 = some (w, a) → M 27 33 = iI n → M 40 = f → M 27 35 = iI a → M 27 36 = iI 0 → rw (M 29) w →
    V l Γ T_TapedLinesModel_load (d + 5 + 1 + 1) r 24 [.ref 27, .int (iI s), .int (iI (sumZ 1 w % 65536)), .int (iI w.length), .null] [] (M, L) (q_i L (ldP n f M)) := by
  have hA : hAll n f = match hBytes n f (s + 2) a1 with | none => none | some (t, _) => some t := by
    unfold hAll
    rw [h0]
    simp only [Int.toNat_natCast]
    rcases hBytes n f (s + 2) a1 with _ | ⟨t, a2⟩ <;> rfl
  intro j
  induction j with
  | zero =>
    intro w a M hw ha hb h33 h40 h35 h36 h29
    refine s_TapedLinesModel_load_24 _ _ _ ?_
    rw [iI_le (by omega) (by omega) (by omega) (by omega), show (s : Int) = (w.length : Int) by omega]
    refine ⟨fun _ => cm_load_66 hn (by omega) (hBytes_ok hb).2 ha ?_ h33 h40 h35 h36 h29, fun q => by omega⟩
    rw [hA, show s + 2 = w.length + 2 by omega, hBytes_app, hb]
    simp only
    rcases hBytes n f 2 a with _ | ⟨t2, a2⟩ <;> rfl
  | succ j ih =>
    intro w a M hw ha hb h33 h40 h35 h36 h29
    refine s_TapedLinesModel_load_24 _ _ _ ?_
    rw [iI_le (by omega) (by omega) (by omega) (by omega), h36, iI_nat (by omega) (by omega), Int.toNat_natCast, iI_add]
    refine ⟨fun q => by omega, fun _ => ⟨fun q => absurd rfl q, fun _ => ⟨_, cm_readByte (d := d + 5) hn h33 h35 ha h36, ?_⟩⟩⟩
    rintro x1 M1 ⟨hb1, f1⟩
    rw [h40] at hb1
    refine ⟨iI_in (by omega) (by omega) (by omega), iI_in (by omega) (by omega) (by omega), ?_⟩
    rw [q_up_s]
    have f1' : fm [29] [0, 3, 4, 5, 6, 7, 8, 9, 10, 35, 36] M (q_up M1 29 w.length x1) := (f1.wk (by decide) (by decide)).tr (fm.rf.upo (by decide) (by decide))
    have hA1 : hAll n f = match hBytes n f (j + 2 + 1) a with | none => none | some (t2, _) => some (w ++ t2) := by
      rw [hA, show s + 2 = w.length + (j + 2 + 1) by omega, hBytes_app, hb]
      simp only
      rcases hBytes n f (j + 2 + 1) a with _ | ⟨t2, a2⟩ <;> rfl
    rcases hb1 with ⟨v, a3, e1, rfl, g35, g36⟩ | ⟨e1, g36⟩
    · obtain ⟨c1, c2, c3⟩ := hByte_le e1
      refine ⟨_, cm_sumWith _ _ _, ?_⟩
      rintro x2 M2 ⟨rfl, rfl⟩
      have es : (sumZ 1 w % 65536 + ((w.length : Int) + 1) * v) % 65536 = sumZ 1 (w ++ [v]) % 65536 := by
        rw [sumZ_snoc, Int.add_comm 1 (w.length : Int)]
        omega
      rw [es, show ((w.length : Int) + 1) = ((w ++ [v]).length : Int) by simp]
      refine (ih (w ++ [v]) a3 _ (by rw [List.length_append, List.length_singleton]; omega) c1 ?_ ?_ ?_ ?_ ?_ ?_).wi (fun x M' hM => hM.back f1')
      · rw [List.length_append, List.length_singleton, hBytes_app, hb]
        simp only [hBytes, e1]
      · rw [q_up_o (by decide), f1.2 33 (by decide)]; exact h33
      · rw [q_up_o (by decide), f1.1 40 (by decide) (by decide)]; exact h40
      · rw [q_up_o (by decide)]; exact g35
      · rw [q_up_o (by decide)]; exact g36
      · have e2 : q_up M1 29 w.length (iI v) 29 = va_up (M1 29) w.length (iI v) := by simp [q_up, va_up]
        rw [e2]
        exact rw_snoc (by rw [f1.1 29 (by decide) (by decide)]; exact h29)
    · rw [hBytes_s, e1] at hA1
      refine ⟨fun x M' => M' = q_up M1 29 w.length x1, s_TapedLinesModel_sumWith_0 _ _ _ rfl, ?_⟩
      rintro x2 M2 rfl
      refine (cm_load_24t (by rw [q_up_o (by decide)]; exact g36) _ _ _).wi (fun x M' hM => ?_)
      have f2 := f1'.tr (hM.2.wk (by decide) (by decide))
      exact ⟨f2.wk (by decide) (by decide), Or.inl ⟨hA1, hM.1, f2.1 30 (by decide) (by decide), f2.2 12 (by decide), f2.2 14 (by decide)⟩⟩
theorem cm_load {n : Nat} (hn : n ≤ 7754) {M : qM} (h33 : M 27 33 = iI n) : V l Γ T_TapedLinesModel_load (d + 5 + 1 + 1) r 0 [.ref 27, .null, .null, .null, .null] [] (M, L) (q_i L (ldP n (M 40) M)) := by
  refine s_TapedLinesModel_load_0 ⟨_, cm_readByte (d := d + 5) (n := n) (a := 0) hn (by rw [q_up_k (by decide), q_up_k (by decide), q_up_k (by decide)]; exact h33) (by rw [q_up_k (by decide), q_up_s]; rfl) (Nat.zero_le _) q_up_s, ?_⟩
  rintro x1 M1 ⟨hb1, f1⟩
  have f0 : fm [29] [0, 3, 4, 5, 6, 7, 8, 9, 10, 35, 36] M M1 := (((fm.rf.upk (by decide)).upk (by decide)).upk (by decide)).tr (f1.wk (by decide) (by decide))
  rw [show q_up (q_up (q_up M 27 0 (iI 0)) 27 35 (iI 0)) 27 36 (iI 0) 40 = M 40 by rw [q_up_o (by decide), q_up_o (by decide), q_up_o (by decide)]] at hb1
  rcases hb1 with ⟨v, a3, e1, rfl, g35, g36⟩ | ⟨e1, g36⟩
  · obtain ⟨c1, c2, c3⟩ := hByte_le e1
    have := cm_load_24 (l := l) (Γ := Γ) (d := d) (r := r) (L := L) hn (s := v.toNat) (a1 := a3) (by omega) (by rw [show ((v.toNat : Nat) : Int) = v by omega]; exact e1) v.toNat [] a3 M1 (by simp) c1 rfl (by rw [f0.2 33 (by decide)]; exact h33) (f0.1 40 (by decide) (by decide)) g35 g36 (rw_nil _)
    rw [show ((v.toNat : Nat) : Int) = v by omega] at this
    exact this.wi (fun x M' hM => hM.back f0)
  · refine (cm_load_24t g36 _ _ _).wi (fun x M' hM => ?_)
    have f2 := f0.tr (hM.2.wk (by decide) (by decide))
    refine ⟨f2.wk (by decide) (by decide), Or.inl ⟨?_, hM.1, f2.1 30 (by decide) (by decide), f2.2 12 (by decide), f2.2 14 (by decide)⟩⟩
    unfold hAll
    rw [e1]
end MLoad
section PLoad
variable {l : Launch} {Γ : qG} {M : qM}
theorem pair_load (h : Rel okSt M) : p_load l Γ 99 M (Rel okSt) := by
  intro L
  obtain ⟨h1, h2, h3, h4, h5, h6⟩ := h
  obtain ⟨n, n1, n2, n3, n4⟩ := h4
  obtain ⟨pr, c1, m1, hok, hst⟩ := h6
  refine ⟨_, c_load n1 n2, ?_⟩
  rintro x1 M1 ⟨f1, g1, e1⟩
  refine ⟨_, cm_load n1 (M := M1) (by rw [f1 27 (by decide)]; exact n3), ?_⟩
  rintro x2 M2 ⟨f2, e2⟩
  have e40 : hAll n (M1 40) = hAll n (M 25) := by
    rw [f1 40 (by decide)]
    exact (hAll_same n4).symm
  rw [e40] at e2
  have f : fm [5, 6, 7, 8, 9, 10, 11, 24, 26, 29, 30] [0, 3, 4, 5, 6, 7, 8, 9, 10, 12, 14, 35, 36] M M2 := ((f1.fm (by decide)).wk (by decide) (by decide)).tr (f2.wk (by decide) (by decide))
  have hT : R_tape M2 := by
    refine ⟨n, n1, ?_, ?_, fun j hj => ?_⟩
    · rw [f2.1 24 (by decide) (by decide)]; exact g1
    · rw [f.2 33 (by decide)]; exact n3
    · rw [f.1 25 (by decide) (by decide), f.1 40 (by decide) (by decide)]; exact n4 j hj
  have stay : (M1 9 = M 9 ∧ M1 10 = M 10 ∧ M1 11 = M 11) → kp3 M1 M2 → R_prog okSt M2 := by
    rintro ⟨a9, a10, a11⟩ ⟨b30, b12, b14⟩
    have f' : fm [5, 6, 7, 8, 24, 26, 29] [0, 3, 4, 5, 6, 7, 8, 9, 10, 35, 36] M M2 := by
      refine ⟨fun o a b => ?_, fun k a => ?_⟩
      · by_cases k9 : o = 9
        · subst k9; rw [f2.1 9 (by decide) (by decide), a9]
        by_cases k10 : o = 10
        · subst k10; rw [f2.1 10 (by decide) (by decide), a10]
        by_cases k11 : o = 11
        · subst k11; rw [f2.1 11 (by decide) (by decide), a11]
        by_cases k30 : o = 30
        · subst k30; rw [b30, f1 30 (by decide)]
        exact f.1 o (by simp at a ⊢; omega) b
      · by_cases k12 : k = 12
        · subst k12; rw [b12, f1 27 (by decide)]
        by_cases k14 : k = 14
        · subst k14; rw [b14, f1 27 (by decide)]
        exact f.2 k (by simp at a ⊢; omega)
    exact R_prog.keep ⟨pr, c1, m1, hok, hst⟩ f' (by decide) (by decide)
  have rest : R_text M2 ∧ R_out M2 ∧ R_page M2 ∧ R_vars M2 := ⟨h1.keep f (by decide) (by decide), h2.keep f (by decide) (by decide), h3.keep f (by decide) (by decide), h5.keep f (by decide)⟩
  obtain ⟨r1, r2, r3, r4⟩ := rest
  rcases e1 with ⟨p1, rfl, p3⟩ | ⟨t, p1, e1⟩
  · rcases e2 with ⟨q1, rfl, q3⟩ | ⟨t2, q1, e2⟩
    · exact ⟨rfl, r1, r2, r3, hT, r4, stay p3 q3⟩
    · rw [p1] at q1; cases q1
  · rcases e2 with ⟨q1, rfl, q3⟩ | ⟨t2, q1, e2⟩
    · rw [p1] at q1; cases q1
    · rw [p1] at q1
      cases q1
      rcases e1 with ⟨u1, rfl, u3⟩ | ⟨pr1, u1, rfl, u3, u4⟩
      · rcases e2 with ⟨w1, rfl, w3⟩ | ⟨pr2, w1, e2⟩
        · exact ⟨rfl, r1, r2, r3, hT, r4, stay u3 w3⟩
        · rw [u1] at w1; cases w1
      · rcases e2 with ⟨w1, rfl, w3⟩ | ⟨pr2, w1, rfl, w3, w4⟩
        · rw [u1] at w1; cases w1
        · rw [u1] at w1
          cases w1
          refine ⟨rfl, r1, r2, r3, hT, r4, pr1, ⟨?_, u3.2.1, ?_⟩, w3, (ldR_ok u1).2.2, 0, ?_, w4, Or.inl rfl, fun q => by omega, fun q => by omega⟩
          · rw [f2.1 10 (by decide) (by decide)]; exact u3.1
          · rw [f2.1 11 (by decide) (by decide)]; exact u3.2.2
          · rw [f2.1 9 (by decide) (by decide)]; exact u4
end PLoad
