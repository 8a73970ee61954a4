-- the reference looks whether bytes are a program
section MProg
variable {l : Launch} {Γ : qG} {d r : Nat} {L : Nat → Int64}
theorem cm_isProgram_7 (e : List Int) (he : e.length ≤ 255) (heb : ∀ b ∈ e, 0 ≤ b ∧ b < 256) (M0 : qM) (hw0 : ∀ i, i < e.length → M0 29 i = iI (e.getD i 0)) : ∀ (f : Nat) (last : Int) (p : Nat) (M : qM), e.length - p < f → p ≤ e.length → (0 ≤ last ∧ last ≤ 99) → FM M0 258 M → V l Γ T_TapedLinesModel_isProgram (d + 5 + 1) r 7 [.ref 27, .int (iI e.length), .int (iI p), .int (iI last), .int (b2 true)] [] (M, L) (q_i L (fun x M' => x = b2 ((prs f last (e.drop p)).isSome && decide (e.length ≤ 200)) ∧ FM M0 258 M')) := by
  intro f
  induction f with
  | zero => intro last p M h; omega
  | succ f ih =>
    intro last p M hf hp hla fM
    have hw : ∀ i, i < e.length → M 29 i = iI (e.getD i 0) := fun i hi => by rw [fM.2.2 i (by omega)]; exact hw0 i hi
    have no : prs (f + 1) last (e.drop p) = none → ∀ M', FM M0 258 M' → p < e.length → V l Γ T_TapedLinesModel_isProgram (d + 5 + 1) r 99 [.ref 27, .int (iI e.length), .int (iI p), .null, .null] [.int (iI 0)] (M', L) (q_i L (fun x M' => x = b2 ((prs (f + 1) last (e.drop p)).isSome && decide (e.length ≤ 200)) ∧ FM M0 258 M')) := by
      intro hn M' f' hpl
      rw [hn]
      refine s_TapedLinesModel_isProgram_99 _ _ _ ⟨iI_in (by omega) (by omega) (by omega), fun _ => ?_, fun q => absurd rfl q⟩
      exact s_TapedLinesModel_isProgram_7 _ _ _ _ ⟨fun _ => s_TapedLinesModel_isProgram_133 _ _ ⟨fun _ => ⟨rfl, f'⟩, fun q => absurd rfl q⟩, fun q => absurd rfl q⟩
    refine s_TapedLinesModel_isProgram_7 _ _ _ _ ⟨fun q => absurd q (by decide), fun _ => ?_⟩
    rw [iI_le (by omega) (by omega) (by omega) (by omega)]
    rcases ed : e.drop p with _ | ⟨z, tl⟩
    · have hpl : e.length ≤ p := by
        have : (e.drop p).length = 0 := by rw [ed]; rfl
        simp at this
        omega
      rw [prs_0]
      refine ⟨fun _ => s_TapedLinesModel_isProgram_133 _ _ ⟨fun q => absurd q (by decide), fun _ => ?_⟩, fun q => by omega⟩
      rw [iI_lt (by omega) (by omega) (by omega) (by omega)]
      exact ⟨fun q => ⟨b2_f (by simp; omega), fM⟩, fun q => ⟨b2_t (by simp; omega), fM⟩⟩
    · have hpl : p < e.length := by
        have : (e.drop p).length = tl.length + 1 := by rw [ed]; rfl
        simp at this
        omega
      have hzp : e.getD p 0 = z := by
        have : (e.drop p).getD 0 0 = z := by rw [ed]; rfl
        simpa [List.getD_eq_getElem?_getD] using this
      have hzb := heb z (by rw [← List.take_append_drop p e, ed]; simp)
      rw [ed] at no
      refine ⟨fun q => by omega, fun _ => ?_⟩
      rw [iI_nat (z := (p : Int)) (by omega) (by omega), Int.toNat_natCast, hw p hpl, hzp, iI_le (by omega) (by omega) (by omega) (by omega), iI_le (by omega) (by omega) (by omega) (by omega), iI_add, iI_add, iI_le (by omega) (by omega) (by omega) (by omega)]
      rcases tl with _ | ⟨k, rest⟩
      · have hlen : e.length = p + 1 := by
          have : (e.drop p).length = 1 := by rw [ed]; rfl
          simp at this
          omega
        have no := no (prs_1 _ _ _) M fM hpl
        exact ⟨iI_in (by omega) (by omega) (by omega), fun _ => no, fun _ => ⟨iI_in (by omega) (by omega) (by omega), fun _ => no, fun _ => ⟨fun _ => no, fun q => by omega⟩⟩⟩
      · obtain ⟨d1, d2, d3, d4⟩ := drop_two ed
        rw [prs_2] at no
        have hkb := heb k (by rw [← List.take_append_drop p e, ed]; simp)
        refine ⟨iI_in (by omega) (by omega) (by omega), fun q => no (if_neg (by omega)) M fM hpl, fun q => ⟨iI_in (by omega) (by omega) (by omega), fun q2 => no (if_neg (by omega)) M fM hpl, fun q2 => ⟨fun q3 => by omega, fun _ => ?_⟩⟩⟩
        rw [iI_nat (z := (p : Int) + 1) (by omega) (by omega), show ((p : Int) + 1).toNat = p + 1 by omega, hw (p + 1) (by omega), d3, iI_add, iI_0, iI_le (by omega) (by omega) (by omega) (by omega), iI_lt (by omega) (by omega) (by omega) (by omega)]
        refine ⟨iI_in (by omega) (by omega) (by omega), fun q3 => no (if_neg (by omega)) M fM hpl, fun q3 => ⟨iI_in (by omega) (by omega) (by omega), fun q4 => no (if_neg (by omega)) M fM hpl, fun q4 => ⟨iI_in (by omega) (by omega) (by omega), ?_⟩⟩⟩
        have hkl : k.toNat ≤ rest.length := by omega
        have htl : (rest.take k.toNat).length = k.toNat := by rw [List.length_take]; omega
        have hrb : ∀ b ∈ rest.take k.toNat, 0 ≤ b ∧ b < 256 := fun b hb => heb b (by rw [← List.take_append_drop p e, ed]; exact List.mem_append_right _ (List.mem_cons_of_mem _ (List.mem_cons_of_mem _ (List.mem_of_mem_take hb))))
        have hst := cm_isStatement (l := l) (Γ := Γ) (d := d) (r := 0) (L := L) (M := M) (rest.take k.toNat) hrb (p + 2) (by omega) (fun i hi => by
          rw [hw (p + 2 + i) (by omega), d4 i (by omega)]
          congr 1
          simp only [List.getD_eq_getElem?_getD]
          rw [List.getElem?_take_of_lt (by omega)])
        rw [htl, show ((p + 2 : Nat) : Int) = (p : Int) + 2 by omega, show ((p + 2 + k.toNat : Nat) : Int) = (p : Int) + 2 + k by omega] at hst
        refine ⟨_, hst, ?_⟩
        rintro x1 M1 ⟨hx, f1⟩
        have f1 : FM M0 258 M1 := fM.tr f1
        have hx : x1 = b2 (okB (rest.take k.toNat)) := hx
        subst hx
        rw [← iI_0, b2_0]
        refine ⟨fun q5 => no (if_neg (fun z => by rw [z.2.2.2.2] at q5; cases q5)) M1 f1 hpl, fun q5 => ?_⟩
        have q5 : okB (rest.take k.toNat) = true := by simpa using q5
        refine s_TapedLinesModel_isProgram_99 _ _ _ ⟨iI_in (by omega) (by omega) (by omega), fun q6 => absurd q6 (by decide), fun _ => ?_⟩
        have hw1 : ∀ i, i < e.length → M1 29 i = iI (e.getD i 0) := fun i hi => by rw [f1.2.2 i (by omega)]; exact hw0 i hi
        rw [iI_add, iI_add, iI_nat (z := (p : Int)) (by omega) (by omega), Int.toNat_natCast, hw1 p hpl, hzp, iI_nat (z := (p : Int) + 1) (by omega) (by omega), show ((p : Int) + 1).toNat = p + 1 by omega, hw1 (p + 1) (by omega), d3, iI_add]
        refine ⟨iI_in (by omega) (by omega) (by omega), ?_⟩
        rw [show ((p : Int) + 2 + k) = ((p + 2 + k.toNat : Nat) : Int) by omega]
        refine (ih z (p + 2 + k.toNat) M1 (by omega) (by omega) (by omega) f1).wi (fun x M' hq => ?_)
        obtain ⟨a1, f2⟩ := hq
        refine ⟨?_, f2⟩
        rw [a1, prs_2, if_pos ⟨by omega, by omega, by omega, by omega, q5⟩]
        have edr : e.drop (p + 2 + k.toNat) = rest.drop k.toNat := by
          rw [show p + 2 + k.toNat = p + (2 + k.toNat) by omega, ← List.drop_drop, ed, show 2 + k.toNat = k.toNat + 1 + 1 by omega]
          rfl
        rw [edr, Option.isSome_map]
theorem cm_isProgram {M : qM} (e : List Int) (he : e.length ≤ 255) (heb : ∀ b ∈ e, 0 ≤ b ∧ b < 256) (hw : ∀ i, i < e.length → M 29 i = iI (e.getD i 0)) : V l Γ T_TapedLinesModel_isProgram (d + 5 + 1) r 0 [.ref 27, .int (iI e.length), .null, .null, .null] [] (M, L) (q_i L (fun x M' => x = b2 ((prs 300 0 e).isSome && decide (e.length ≤ 200)) ∧ FM M 258 M')) :=
  s_TapedLinesModel_isProgram_0 _ (cm_isProgram_7 e he heb M hw 300 0 0 M (by omega) (Nat.zero_le _) (by decide) FM.rf)
end MProg
