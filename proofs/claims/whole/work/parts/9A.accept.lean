-- the class looks whether bytes are a statement
theorem acc_no {bs : List Int} (h : ¬ cAcc ((spl true bs).take 256) bs) : bs.length ≤ 240 → ¬ okSt bs := by
  intro hl ho
  obtain ⟨h1, h2⟩ := acc_whole ho hl
  rw [List.take_of_length_le h1] at h
  exact h h2
section Accept
variable {l : Launch} {Γ : qG} {d r : Nat} {L : Nat → Int64}
theorem c_same {M : qM} {o bs : List Int} (from_ : Nat) (h6 : rw (M 6) o) (hol : o.length = bs.length) (hob : ∀ b ∈ o, 0 ≤ b ∧ b < 136) (hbs : ∀ b ∈ bs, 0 ≤ b ∧ b < 256) (hfb : from_ + bs.length ≤ 257) (hlen : bs.length ≤ 256) (hw : ∀ i, i < bs.length → M 26 (from_ + i) = iI (bs.getD i 0)) : ∀ (j k : Nat), k + j = bs.length → (∀ i, i < k → o.getD i 0 = bs.getD i 0) → V l Γ T_LineReader_acceptsStatement (d + 1) r 53 [.ref 5, .ref 26, .int (iI from_), .int (iI bs.length), .int (iI k)] [] (M, L) (q_i L (fun x M' => ((x = iI 1 ∧ o = bs) ∨ (x = iI 0 ∧ o ≠ bs)) ∧ M' = M)) := by
  intro j
  induction j with
  | zero =>
    intro k hk he
    refine s_LineReader_acceptsStatement_53 7 (Or.inr rfl) _ _ _ ?_
    rw [iI_le (by omega) (by omega) (by omega) (by omega)]
    refine ⟨fun _ => ⟨Or.inl ⟨rfl, ?_⟩, rfl⟩, fun q => by omega⟩
    refine List.ext_getElem hol (fun i h1 h2 => ?_)
    have := he i (by omega)
    simpa [List.getD_eq_getElem?_getD, h1, h2] using this
  | succ j ih =>
    intro k hk he
    refine s_LineReader_acceptsStatement_53 7 (Or.inr rfl) _ _ _ ?_
    have hk1 : k < bs.length := by omega
    have hk2 : k < o.length := by omega
    have b1 := hob (o.getD k 0) (by rw [List.getD_eq_getElem?_getD, List.getElem?_eq_getElem hk2]; exact List.getElem_mem hk2)
    have b2' := hbs (bs.getD k 0) (by rw [List.getD_eq_getElem?_getD, List.getElem?_eq_getElem hk1]; exact List.getElem_mem hk1)
    rw [iI_le (by omega) (by omega) (by omega) (by omega), iI_add (from_ : Int) (k : Int), iI_nat (z := (k : Int)) (by omega) (by omega), iI_nat (z := (from_ : Int) + (k : Int)) (by omega) (by omega), Int.toNat_natCast, show ((from_ : Int) + (k : Int)).toNat = from_ + k by omega, h6 k hk2, hw k hk1, iI_add]
    refine ⟨fun q => by omega, fun _ => ⟨iI_in (by omega) (by omega) (by omega), iI_in (by omega) (by omega) (by omega), fun q => ?_, fun q => ⟨Or.inr ⟨rfl, fun e => q (by rw [e])⟩, rfl⟩⟩⟩
    rw [show ((k : Int) + 1) = ((k + 1 : Nat) : Int) by omega]
    refine ih (k + 1) (by omega) (fun i hi => ?_)
    by_cases hik : i = k
    · rw [hik]
      exact (iI_eq (by omega) (by omega) (by omega) (by omega)).mp q
    · exact he i (by omega)
theorem c_acceptsStatement {M : qM} (bs : List Int) (from_ : Nat) (hbs : ∀ b ∈ bs, 0 ≤ b ∧ b < 256) (hfb : from_ + bs.length ≤ 257) (hlen : bs.length ≤ 256) (hw : ∀ i, i < bs.length → M 26 (from_ + i) = iI (bs.getD i 0)) : V l Γ T_LineReader_acceptsStatement (d + 7 + 1) r 0 [.ref 5, .ref 26, .int (iI from_), .int (iI bs.length), .null] [] (M, L) (q_i L (fun x M' => ((x = iI 1 ∧ okSt bs) ∨ (x = iI 0 ∧ (bs.length ≤ 240 → ¬ okSt bs))) ∧ fr [5, 6, 7, 8] M M')) := by
  have h7 : (7 : Nat) = 1 ∨ (7 : Nat) = 7 := Or.inr rfl
  have hcp : cp (7 + 1) = 256 := by decide
  have hcp26 : cp 26 = 257 := by decide
  refine s_LineReader_acceptsStatement_0 7 h7 _ _ ⟨_, c_spell 7 26 (Or.inr ⟨rfl, rfl⟩) bs from_ [] hbs (by omega) (fun i hi => by rw [q_up_o (by decide)]; exact hw i hi) shIs.wipe, ?_⟩
  rintro M1 ⟨g1, f1⟩
  rw [List.nil_append, hcp] at g1
  have fA : fr [5, 6, 7, 8] M M1 := (fr.rf.up (by simp)).tr (f1.wk (by simp))
  refine ⟨_, s_LineReader_open_0 7 h7 (P := fun M' => M' = q_up (q_up (q_up M1 5 4 (Int32.ofNat 7)) 5 3 (iI 0)) 5 1 (iI 0)) rfl, ?_⟩
  rintro M2 rfl
  have hub : ∀ c ∈ (spl true bs).take 256, 0 ≤ c ∧ c < 65536 := fun c hc => spl_b true bs hbs c (List.mem_of_mem_take hc)
  have hul : ((spl true bs).take 256).length ≤ 256 := List.length_take_le _ _
  have h2 := rdS_open h7 g1 hub
  have fB : fr [5, 6, 7, 8] M (q_up (q_up (q_up M1 5 4 (Int32.ofNat 7)) 5 3 (iI 0)) 5 1 (iI 0)) := ((fA.up (by simp)).up (by simp)).up (by simp)
  have hno := acc_no (bs := bs)
  have hyes := acc_sound (u := (spl true bs).take 256) (bs := bs) hul
  have hsnd := fun o => acc_sound (u := (spl true bs).take 256) (bs := o) hul
  generalize (spl true bs).take 256 = u at h2 hno hyes hsnd hul
  refine ⟨_, c_readStatement h7 h2, ?_⟩
  rintro x3 M3 ⟨rfl, ⟨o3, h3, h4⟩, f3⟩
  have fC := fB.tr (f3.1.wk (by simp))
  rw [b2_0]
  refine ⟨fun q => ⟨Or.inr ⟨rfl, hno (fun z => by rw [z.1] at q; cases q)⟩, fC⟩, fun q => ?_⟩
  have q : (rStmt u).1 = true := by simpa using q
  have h4 := h4 q
  rw [List.nil_append] at h4
  subst h4
  refine ⟨_, c_reachesEnd h7 h3, ?_⟩
  rintro x5 M5 ⟨rfl, h5, f5⟩
  have fD := fC.tr (f5.1.wk (by simp))
  rw [b2_0]
  refine ⟨fun q2 => ⟨Or.inr ⟨rfl, hno (fun z => by simp [z.2.1] at q2)⟩, fD⟩, fun q2 => ?_⟩
  have q2 : sk (rStmt u).2.1 = [] := by simpa using q2
  have hok := hsnd _ ⟨q, q2, rfl⟩
  obtain ⟨w5, e5, -, hw5⟩ := h5.2.2.2.1
  have hol : (rStmt u).2.2.length ≤ 256 := by
    have : w5.length + (sk (rStmt u).2.1).length = u.length := by rw [← List.length_append, ← e5]
    omega
  rw [h5.2.2.2.2.1, iI_eq (by omega) (by omega) (by omega) (by omega)]
  refine ⟨fun q3 => ?_, fun q3 => ⟨Or.inr ⟨rfl, hno (fun z => q3 (by rw [z.2.2]))⟩, fD⟩⟩
  refine (c_same from_ h5.2.2.2.2.2 (by omega) (okSt_b hok) hbs hfb hlen (fun i hi => by rw [fD 26 (by decide)]; exact hw i hi) bs.length 0 (by omega) (fun i hi => absurd hi (Nat.not_lt_zero _))).wi (fun x M' z => ?_)
  obtain ⟨hx, rfl⟩ := z
  refine ⟨?_, fD⟩
  rcases hx with ⟨rfl, he⟩ | ⟨rfl, he⟩
  · exact Or.inl ⟨rfl, hyes ⟨q, q2, he⟩⟩
  · exact Or.inr ⟨rfl, hno (fun z => he z.2.2)⟩
end Accept
