-- a program from the tape
theorem shl8 : ∀ x : Fin 256, (iI (x.val : Int) <<< (iI 8 &&& 31)) = iI (256 * (x.val : Int)) := by decide +kernel
theorem shl8' {x : Int} (h : 0 ≤ x ∧ x < 256) : (iI x <<< (iI 8 &&& 31)) = iI (256 * x) := by
  have := shl8 ⟨x.toNat, by omega⟩
  rw [show (((⟨x.toNat, by omega⟩ : Fin 256).val : Nat) : Int) = x by show ((x.toNat : Nat) : Int) = x; omega] at this
  exact this
theorem iI_bn (n : Nat) : (iI (n : Int)).toBitVec = BitVec.ofNat 32 n := BitVec.ofInt_natCast 32 n
theorem or8 (x y : Nat) (hx : x < 256) (hy : y < 256) : (iI (256 * (x : Int)) ||| iI (y : Int)) = iI (256 * (x : Int) + (y : Int)) := by
  apply Int32.toBitVec_inj.mp
  rw [Int32.toBitVec_or, show 256 * (x : Int) = ((256 * x : Nat) : Int) by omega, show ((256 * x : Nat) : Int) + (y : Int) = ((256 * x + y : Nat) : Int) by omega, iI_bn, iI_bn, iI_bn]
  apply BitVec.eq_of_toNat_eq
  rw [BitVec.toNat_or, BitVec.toNat_ofNat, BitVec.toNat_ofNat, BitVec.toNat_ofNat, Nat.mod_eq_of_lt (by omega), Nat.mod_eq_of_lt (by omega), Nat.mod_eq_of_lt (by omega)]
  exact (Nat.two_pow_add_eq_or_of_lt (i := 8) hy x).symm
theorem or8' {x y : Int} (hx : 0 ≤ x ∧ x < 256) (hy : 0 ≤ y ∧ y < 256) : ((iI x <<< (iI 8 &&& 31)) ||| iI y) = iI (256 * x + y) := by
  rw [shl8' hx]
  have := or8 x.toNat y.toNat (by omega) (by omega)
  rw [show ((x.toNat : Nat) : Int) = x by omega, show ((y.toNat : Nat) : Int) = y by omega] at this
  exact this
/-- what the bytes t with their sum are -/
def ldE (t : List Int) : List Int := t.take (t.length - 2)
def ldR (t : List Int) : Option (List (Int × List Int)) := if 256 * t.getD (t.length - 2) 0 + t.getD (t.length - 2 + 1) 0 = sumZ 1 (ldE t) % 65536 ∧ (ldE t).length ≤ 200 then prs 300 0 (ldE t) else none
theorem ldE_len (t : List Int) : (ldE t).length = t.length - 2 := by
  unfold ldE
  rw [List.length_take]
  omega
theorem ldE_get {t : List Int} {i : Nat} (h : i < (ldE t).length) : (ldE t).getD i 0 = t.getD i 0 := by
  rw [ldE_len] at h
  unfold ldE
  simp only [List.getD_eq_getElem?_getD]
  rw [List.getElem?_take_of_lt h]
theorem ldE_mem {t : List Int} {b : Int} (h : b ∈ ldE t) : b ∈ t := List.mem_of_mem_take h
theorem getD_mem {t : List Int} {i : Nat} (h : i < t.length) : t.getD i 0 ∈ t := by
  rw [List.getD_eq_getElem?_getD, List.getElem?_eq_getElem h]
  exact List.getElem_mem h
theorem ldR_ok {t : List Int} {pr : List (Int × List Int)} (h : ldR t = some pr) : enc pr = ldE t ∧ (enc pr).length ≤ 200 ∧ okP okSt pr := by
  unfold ldR at h
  split at h
  · rename_i hc
    obtain ⟨a1, a2, a3⟩ := prs_ok _ _ _ _ h
    refine ⟨a1, by rw [a1]; exact hc.2, (rising_iff _).mpr a2, fun q hq => ?_⟩
    have := a3 q hq
    exact ⟨by omega, this.2⟩
  · cases h
section Load
variable {l : Launch} {Γ : qG} {d r : Nat} {L : Nat → Int64}
theorem c_load {M : qM} {n : Nat} (hn : n ≤ 7754) (h2 : M 24 2 = iI n) : V l Γ T_TapedLines_load (d + 8 + 1 + 1) r 0 [.ref 0, .null] [] (M, L) (q_i L (fun x M' => fr [5, 6, 7, 8, 9, 10, 11, 24, 26] M M' ∧ M' 24 2 = iI n ∧ ((hAll n (M 25) = none ∧ x = iI (-2) ∧ M' 9 = M 9 ∧ M' 10 = M 10 ∧ M' 11 = M 11) ∨ ∃ t, hAll n (M 25) = some t ∧ ((ldR t = none ∧ x = iI (-3) ∧ M' 9 = M 9 ∧ M' 10 = M 10 ∧ M' 11 = M 11) ∨ ∃ pr, ldR t = some pr ∧ x = iI pr.length ∧ cPr M' pr ∧ M' 9 4 = iI 0)))) := by
  refine s_TapedLines_load_0 ⟨_, c_hear (d := d + 7) hn h2, ?_⟩
  rintro x1 M1 ⟨hx, f1, g1⟩
  have wk : ∀ o ∈ [24, 26], o ∈ [5, 6, 7, 8, 9, 10, 11, 24, 26] := by decide
  rcases hx with ⟨e, rfl⟩ | ⟨t, e, rfl, hr⟩
  · exact ⟨fun q => absurd rfl q, fun _ => ⟨f1.wk wk, g1, Or.inl ⟨e, rfl, f1 9 (by decide), f1 10 (by decide), f1 11 (by decide)⟩⟩⟩
  · obtain ⟨t1, t2, t3⟩ := hAll_ok e
    have hl := ldE_len t
    rw [show (t.length : Int) - 2 = ((ldE t).length : Int) by omega]
    rw [iI_eq (by omega) (by omega) (by omega) (by omega)]
    refine ⟨fun _ => ⟨fun x M' => x = iI (256 * t.getD (t.length - 2) 0 + t.getD (t.length - 2 + 1) 0) ∧ M' = M1, ?_, ?_⟩, fun q => by omega⟩
    · refine s_Tape_heardSum_0 _ ?_
      rw [iI_add, iI_nat (by omega) (by omega), Int.toNat_natCast, iI_nat (by omega) (by omega), show (((ldE t).length : Int) + 1).toNat = t.length - 2 + 1 by omega, hl, hr _ (by omega), hr _ (by omega), shl8' (t3 _ (getD_mem (by omega))), iI_add]
      exact ⟨iI_in (by omega) (by omega) (by omega), iI_in (by omega) (by omega) (by omega), rfl, rfl⟩
    rintro x2 M2 ⟨rfl, rfl⟩
    have b1 := t3 _ (getD_mem (t := t) (i := t.length - 2) (by omega))
    have b2' := t3 _ (getD_mem (t := t) (i := t.length - 2 + 1) (by omega))
    have hcp : cp 26 = 257 := by decide
    have hre : rw (M2 26) (ldE t) := fun i hi => by rw [hr i (by omega), ldE_get hi]
    refine ⟨_, c_sumOf (Or.inr rfl) hre (by omega), ?_⟩
    rintro x3 M3 ⟨rfl, rfl⟩
    unfold sumI
    have b3 : 0 ≤ sumZ 1 (ldE t) % 65536 ∧ sumZ 1 (ldE t) % 65536 < 65536 := by omega
    rw [iI_eq (by omega) (by omega) (by omega) (by omega)]
    refine ⟨fun q => ⟨f1.wk wk, g1, Or.inr ⟨t, e, Or.inl ⟨?_, rfl, f1 9 (by decide), f1 10 (by decide), f1 11 (by decide)⟩⟩⟩, fun q => ⟨_, c_acceptsProgram (ldE t) (by omega) (fun b hb => t3 b (ldE_mem hb)) hre, ?_⟩⟩
    · unfold ldR
      rw [if_neg (fun z => q z.1)]
    have q := Classical.not_not.mp q
    rintro x4 M4 ⟨rfl, f4⟩
    have f14 : fr [5, 6, 7, 8, 24, 26] M M4 := (f1.wk (by decide)).tr (f4.wk (by decide))
    rw [b2_0]
    refine ⟨fun q2 => ?_, fun q2 => ⟨f14.wk (by decide), by rw [f4 24 (by decide)]; exact g1, Or.inr ⟨t, e, Or.inl ⟨?_, rfl, f14 9 (by decide), f14 10 (by decide), f14 11 (by decide)⟩⟩⟩⟩
    · have q2 : (prs 300 0 (ldE t)).isSome = true ∧ (ldE t).length ≤ 200 := by simpa using q2
      obtain ⟨pr, hpr⟩ := Option.isSome_iff_exists.mp q2.1
      have hld : ldR t = some pr := by
        unfold ldR
        rw [if_pos ⟨q, q2.2⟩]
        exact hpr
      obtain ⟨k1, k2, k3⟩ := ldR_ok hld
      have hre4 : rw (M4 26) (ldE t) := by rw [f4 26 (by decide)]; exact hre
      refine ⟨fun M' => M' = q_up (q_cp M4 26 11 (iI 0) (iI 0) (iI (ldE t).length)) 10 1 (iI (ldE t).length), ?_, ?_⟩
      · refine s_Program_become_0 _ ?_
        rw [iI_nat (z := 0) (by omega) (by omega), iI_nat (z := ((ldE t).length : Int)) (by omega) (by omega), Int.toNat_natCast]
        refine ⟨⟨by decide, by decide, ?_, ?_, ?_⟩, rfl⟩
        · rw [iI_0, iI_lt (by omega) (by omega) (by omega) (by omega)]; omega
        · show (0 : Nat) + (ldE t).length ≤ 257; omega
        · show (0 : Nat) + (ldE t).length ≤ 200; omega
      rintro M5 rfl
      have hc : cPr (q_up (q_up (q_cp M4 26 11 (iI 0) (iI 0) (iI (ldE t).length)) 10 1 (iI (ldE t).length)) 9 4 (iI 0)) pr := by
        refine ⟨?_, k2, fun i hi => ?_⟩
        · rw [q_up_o (by decide), q_up_s, k1]
        · have := q_cp_s (M := M4) (o := 26) (o' := 11) (k := i) (a := 0) (b := 0) (n := (ldE t).length) (by omega) (by omega) (by omega)
          rw [k1] at hi ⊢
          rw [q_up_o (by decide), q_up_o (by decide), show iI (0 : Int) = iI ((0 : Nat) : Int) from rfl, this, if_pos (by omega), show 0 + (i - 0) = i by omega]
          exact hre4 i hi
      refine ⟨_, c_countLines hc, ?_⟩
      rintro x6 M6 ⟨rfl, rfl⟩
      refine ⟨?_, ?_, Or.inr ⟨t, e, Or.inr ⟨pr, hld, rfl, hc, q_up_s⟩⟩⟩
      · intro o ho
        have ho9 : o ≠ 9 := fun z => ho (by rw [z]; decide)
        have ho10 : o ≠ 10 := fun z => ho (by rw [z]; decide)
        have ho11 : o ≠ 11 := fun z => ho (by rw [z]; decide)
        rw [q_up_o ho9, q_up_o ho10, q_cp_o ho11]
        exact f14 o (fun z => ho (by simp at z ⊢; omega))
      · rw [q_up_o (by decide), q_up_o (by decide), q_cp_o (by decide), f4 24 (by decide)]
        exact g1
    · unfold ldR
      split
      · rename_i hc
        rcases hp : prs 300 0 (ldE t) with _ | pr
        · rfl
        · exact absurd (by rw [hp]; simp [hc.2]) q2
      · rfl
end Load
