-- bytes that are a program
def okB (o : List Int) : Bool := decide (o ≠ []) && tbs (2, 0, 0, 0, 0, 0, 0) o
theorem okB_iff (o : List Int) : okB o = true ↔ okSt o := by
  unfold okB okSt
  simp
def prs : Nat → Int → List Int → Option (List (Int × List Int))
  | 0, _, _ => none
  | f + 1, last, e => match e with
    | [] => some []
    | [_] => none
    | z :: k :: rest => if last < z ∧ z ≤ 99 ∧ 0 < k ∧ k ≤ rest.length ∧ okB (rest.take k.toNat) = true then (prs f z (rest.drop k.toNat)).map (fun pr => (z, rest.take k.toNat) :: pr) else none
theorem prs_0 (f : Nat) (last : Int) : prs (f + 1) last [] = some [] := rfl
theorem prs_1 (f : Nat) (last z : Int) : prs (f + 1) last [z] = none := rfl
theorem prs_2 (f : Nat) (last z k : Int) (rest : List Int) : prs (f + 1) last (z :: k :: rest) = if last < z ∧ z ≤ 99 ∧ 0 < k ∧ k ≤ rest.length ∧ okB (rest.take k.toNat) = true then (prs f z (rest.drop k.toNat)).map (fun pr => (z, rest.take k.toNat) :: pr) else none := rfl
theorem prs_ok : ∀ (f : Nat) (last : Int) (e : List Int) (pr : List (Int × List Int)), prs f last e = some pr → enc pr = e ∧ pr.Pairwise (fun a b => a.1 < b.1) ∧ ∀ q ∈ pr, last < q.1 ∧ q.1 ≤ 99 ∧ okSt q.2 := by
  intro f
  induction f with
  | zero => intro last e pr h; cases h
  | succ f ih =>
    intro last e pr h
    rcases e with _ | ⟨z, _ | ⟨k, rest⟩⟩
    · rw [prs_0] at h
      cases h
      exact ⟨rfl, List.Pairwise.nil, fun q hq => by cases hq⟩
    · rw [prs_1] at h
      cases h
    · rw [prs_2] at h
      by_cases hc : last < z ∧ z ≤ 99 ∧ 0 < k ∧ k ≤ rest.length ∧ okB (rest.take k.toNat) = true
      · rw [if_pos hc] at h
        rcases e1 : prs f z (rest.drop k.toNat) with _ | pr1
        · rw [e1] at h; cases h
        · rw [e1] at h
          have h : (z, rest.take k.toNat) :: pr1 = pr := Option.some.inj h
          subst h
          obtain ⟨a1, a2, a3⟩ := ih z _ pr1 e1
          refine ⟨?_, List.Pairwise.cons (fun q hq => (a3 q hq).1) a2, fun q hq => ?_⟩
          · show z :: ((rest.take k.toNat).length : Int) :: (rest.take k.toNat ++ enc pr1) = _
            rw [a1, List.take_append_drop, List.length_take]
            congr 2
            omega
          · rcases List.mem_cons.mp hq with rfl | hq
            · exact ⟨hc.1, hc.2.1, (okB_iff _).mp hc.2.2.2.2⟩
            · have := a3 q hq
              exact ⟨by omega, this.2⟩
      · rw [if_neg hc] at h
        cases h
theorem drop_two {e : List Int} {p : Nat} {z k : Int} {rest : List Int} (h : e.drop p = z :: k :: rest) : p + 2 + rest.length = e.length ∧ e.getD p 0 = z ∧ e.getD (p + 1) 0 = k ∧ ∀ i, i < rest.length → e.getD (p + 2 + i) 0 = rest.getD i 0 := by
  have hl : (e.drop p).length = rest.length + 2 := by rw [h]; rfl
  simp only [List.length_drop] at hl
  have hg : ∀ i, e.getD (p + i) 0 = (z :: k :: rest).getD i 0 := by
    intro i
    rw [← h]
    simp [List.getD_eq_getElem?_getD]
  refine ⟨by omega, hg 0, hg 1, fun i _ => ?_⟩
  have := hg (2 + i)
  rw [show p + (2 + i) = p + 2 + i by omega, show 2 + i = i + 1 + 1 by omega] at this
  exact this
section Prog
variable {l : Launch} {Γ : qG} {d r : Nat} {L : Nat → Int64}
theorem c_acceptsProgram_5 (e : List Int) (he : e.length ≤ 255) (heb : ∀ b ∈ e, 0 ≤ b ∧ b < 256) : ∀ (f : Nat) (last : Int) (p : Nat) (M : qM), e.length - p < f → p ≤ e.length → (0 ≤ last ∧ last ≤ 99) → (∀ i, i < e.length → M 26 i = iI (e.getD i 0)) → V l Γ T_LineReader_acceptsProgram (d + 8 + 1) r 5 [.ref 5, .ref 26, .int (iI e.length), .int (iI last), .int (iI p), .null] [] (M, L) (q_i L (fun x M' => ((e.length ≤ 200 → x = b2 (prs f last (e.drop p)).isSome) ∧ (200 < e.length → x = iI 0)) ∧ fr [5, 6, 7, 8] M M')) := by
  intro f
  induction f with
  | zero => intro last p M h; omega
  | succ f ih =>
    intro last p M hf hp hla hw
    have no : prs (f + 1) last (e.drop p) = none → ∀ M', fr [5, 6, 7, 8] M M' → ((e.length ≤ 200 → iI 0 = b2 (prs (f + 1) last (e.drop p)).isSome) ∧ (200 < e.length → iI 0 = iI 0)) ∧ fr [5, 6, 7, 8] M M' := by
      intro hn M' fM
      rw [hn]
      exact ⟨⟨fun _ => rfl, fun _ => rfl⟩, fM⟩
    refine s_LineReader_acceptsProgram_5 7 (Or.inr rfl) _ _ _ ?_
    rw [iI_le (by omega) (by omega) (by omega) (by omega), iI_lt (by omega) (by omega) (by omega) (by omega), iI_add, iI_add, iI_le (by omega) (by omega) (by omega) (by omega)]
    rcases ed : e.drop p with _ | ⟨z, _ | ⟨k, rest⟩⟩
    · have hpl : e.length ≤ p := by
        have : (e.drop p).length = 0 := by rw [ed]; rfl
        simp at this
        omega
      rw [prs_0]
      exact ⟨fun _ => ⟨fun q => ⟨⟨fun q2 => by omega, fun _ => rfl⟩, fr.rf⟩, fun q => ⟨⟨fun _ => rfl, fun q2 => by omega⟩, fr.rf⟩⟩, fun q => by omega⟩
    · have hpl : e.length = p + 1 := by
        have : (e.drop p).length = 1 := by rw [ed]; rfl
        simp at this
        omega
      rw [ed] at no
      exact ⟨fun q => by omega, fun _ => ⟨fun _ => no (prs_1 _ _ _) M fr.rf, fun q => by omega⟩⟩
    · obtain ⟨d1, d2, d3, d4⟩ := drop_two ed
      rw [ed] at no
      rw [prs_2] at no
      have hzb := heb z (by rw [← List.take_append_drop p e, ed]; simp)
      have hkb := heb k (by rw [← List.take_append_drop p e, ed]; simp)
      refine ⟨fun q => by omega, fun _ => ⟨fun q => no (if_neg (by omega)) M fr.rf, fun q => ?_⟩⟩
      rw [iI_nat (z := (p : Int)) (by omega) (by omega), Int.toNat_natCast, hw p (by omega), d2, iI_le (by omega) (by omega) (by omega) (by omega), iI_le (by omega) (by omega) (by omega) (by omega), iI_nat (z := (p : Int) + 1) (by omega) (by omega), show ((p : Int) + 1).toNat = p + 1 by omega, hw (p + 1) (by omega), d3, iI_sub, iI_lt (by omega) (by omega) (by omega) (by omega)]
      refine ⟨iI_in (by omega) (by omega) (by omega), fun q2 => no (if_neg (by omega)) M fr.rf, fun q2 => ⟨iI_in (by omega) (by omega) (by omega), fun q3 => ⟨iI_in (by omega) (by omega) (by omega), iI_in (by omega) (by omega) (by omega), fun q4 => no (if_neg (by omega)) M fr.rf, fun q4 => ?_⟩, fun q3 => no (if_neg (by omega)) M fr.rf⟩⟩
      have hkl : k.toNat ≤ rest.length := by omega
      have htl : (rest.take k.toNat).length = k.toNat := by rw [List.length_take]; omega
      have hrb : ∀ b ∈ rest.take k.toNat, 0 ≤ b ∧ b < 256 := fun b hb => heb b (by rw [← List.take_append_drop p e, ed]; exact List.mem_append_right _ (List.mem_cons_of_mem _ (List.mem_cons_of_mem _ (List.mem_of_mem_take hb))))
      have hacc := c_acceptsStatement (l := l) (Γ := Γ) (d := d) (r := 0) (L := L) (M := M) (rest.take k.toNat) (p + 2) hrb (by omega) (by omega) (fun i hi => by
        rw [hw (p + 2 + i) (by omega), d4 i (by omega)]
        congr 1
        simp only [List.getD_eq_getElem?_getD]
        rw [List.getElem?_take_of_lt (by omega)])
      rw [htl, show ((p + 2 : Nat) : Int) = (p : Int) + 2 by omega, show ((k.toNat : Nat) : Int) = k by omega] at hacc
      refine ⟨_, hacc, ?_⟩
      rintro x1 M1 ⟨hx, f1⟩
      rcases hx with ⟨rfl, hok⟩ | ⟨rfl, hno⟩
      · refine ⟨fun _ => ?_, fun q5 => absurd (by decide) q5⟩
        have hk0 : 0 < k := by
          by_cases h0 : 0 < k
          · exact h0
          · exact absurd (List.length_eq_zero_iff.mp (by omega)) hok.1
        rw [iI_add, show ((p : Int) + 2 + k) = ((p + 2 + k.toNat : Nat) : Int) by omega]
        refine (ih z (p + 2 + k.toNat) M1 (by omega) (by omega) (by omega) (fun i hi => by rw [f1 26 (by decide)]; exact hw i hi)).wi (fun x M' hq => ?_)
        obtain ⟨⟨a1, a2⟩, f2⟩ := hq
        refine ⟨⟨fun q6 => ?_, a2⟩, f1.tr f2⟩
        rw [a1 q6, prs_2, if_pos ⟨by omega, by omega, hk0, by omega, (okB_iff _).mpr hok⟩]
        have edr : e.drop (p + 2 + k.toNat) = rest.drop k.toNat := by
          rw [show p + 2 + k.toNat = p + (2 + k.toNat) by omega, ← List.drop_drop, ed, show 2 + k.toNat = k.toNat + 1 + 1 by omega]
          rfl
        rw [edr, Option.isSome_map]
      · refine ⟨fun q5 => absurd rfl q5, fun _ => ⟨⟨fun q6 => ?_, fun _ => rfl⟩, f1⟩⟩
        have hno := hno (by omega)
        rw [prs_2, if_neg (fun z => hno ((okB_iff _).mp z.2.2.2.2))]
        rfl
theorem c_acceptsProgram {M : qM} (e : List Int) (he : e.length ≤ 255) (heb : ∀ b ∈ e, 0 ≤ b ∧ b < 256) (hw : ∀ i, i < e.length → M 26 i = iI (e.getD i 0)) : V l Γ T_LineReader_acceptsProgram (d + 8 + 1) r 0 [.ref 5, .ref 26, .int (iI e.length), .null, .null, .null] [] (M, L) (q_i L (fun x M' => x = b2 ((prs 300 0 e).isSome && decide (e.length ≤ 200)) ∧ fr [5, 6, 7, 8] M M')) := by
  refine s_LineReader_acceptsProgram_0 7 (Or.inr rfl) _ ((c_acceptsProgram_5 e he heb 300 0 0 M (by omega) (Nat.zero_le _) (by decide) hw).wi (fun x M' hq => ?_))
  obtain ⟨⟨a1, a2⟩, f2⟩ := hq
  refine ⟨?_, f2⟩
  by_cases h : e.length ≤ 200
  · rw [a1 h]; simp [h]
  · rw [a2 (by omega)]; simp [h]; rfl
end Prog
