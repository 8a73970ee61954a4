section PairsC
variable {l : Launch} {Γ : qG} {M : qM} {okS : List Int → Prop}
theorem pair_wobble (htr : l.stackTraces = false) (h : Rel okS M) : p_wobble l Γ 99 M (Rel okS) := by
  intro L a b
  obtain ⟨n, hn, e1, e2, hv⟩ := h.2.2.2.1
  by_cases hin : 0 ≤ b.toInt ∧ b.toInt ≤ 50
  · have hnot : ¬ (b < 0 ∨ iI 50 < b) := by
      rw [x0lt, ltx (by decide) (by decide)]
      omega
    have hsh := c_shake (l := l) (Γ := Γ) (d := 96) (r := 0) (L := L) hin.1 hin.2 hn a e1
    rw [iI_self] at hsh
    refine ⟨_, H_wobble_in a b (V.tnin (s_TapedLines_wobble_0 a b (P := fun M' => M' 25 = shk b n 0 a (M 25) ∧ fr [25] M M') htr (by decide) (by decide) ?_)), ?_⟩
    · rw [x0lt, xle (by decide) (by decide)]
      exact ⟨fun q => by omega, fun _ => ⟨fun _ => ⟨_, hsh, fun M1 z => z⟩, fun q => by omega⟩⟩
    rintro x1 M1 L1 ⟨rfl, ⟨g1, f1⟩, rfl⟩
    have f1 := f1.fm (by decide)
    refine ⟨_, cm_wobble (c := n) hn a b (by rw [f1.2 33 (by simp)]; exact e2), ?_⟩
    rintro M2 ⟨-, z⟩
    obtain ⟨g0, g2, f2⟩ := z hnot
    have f : fm [25, 40] [0] M M2 := (f1.wk (by simp) (by simp)).tr (f2.wk (by simp) (by simp))
    refine ⟨g0, h.1.keep f (by decide) (by decide), h.2.1.keep f (by decide) (by decide), h.2.2.1.keep f (by decide) (by decide), ⟨n, hn, ?_, ?_, fun j hj => ?_⟩, h.2.2.2.2.1.keep f (by decide), h.2.2.2.2.2.keep f (by decide) (by decide)⟩
    · rw [f.1 24 (by decide) (by decide)]; exact e1
    · rw [f.2 33 (by decide)]; exact e2
    · rw [f2.1 25 (by decide) (by decide), g1, g2, f1.1 40 (by decide) (by decide)]
      exact shk_same b n 0 a _ _ hv (by omega) j hj
  · have hyes : b < 0 ∨ iI 50 < b := by
      rw [x0lt, ltx (by decide) (by decide)]
      omega
    refine ⟨_, H_wobble_out a b (E := fun ec M' => ec = 1 ∧ M' = M) (fun ec M' z => z.1) (V.tnout (s_TapedLines_wobble_0 a b htr (by decide) (by decide) ?_)), ?_⟩
    · rw [x0lt, xle (by decide) (by decide)]
      exact ⟨fun _ => ⟨rfl, rfl⟩, fun _ => ⟨fun q => by omega, fun _ => ⟨rfl, rfl⟩⟩⟩
    rintro x1 M1 L1 ⟨⟨rfl, -, rfl⟩, rfl⟩
    refine ⟨_, cm_wobble (c := n) hn a b e2, ?_⟩
    rintro M2 ⟨z, -⟩
    rw [z hyes]
    exact ⟨q_up_s, h.fault _⟩
theorem cm_setWave {d r : Nat} {L : Nat → Int64} {n : Nat} (hn : n ≤ 7754) (a b : Int32) (e2 : M 27 33 = iI n) :
    V l Γ T_TapedLinesModel_setWave (d + 1) r 0 [.ref 27, .int a, .int b, .null] [] (M, L) (q_i L (fun x M' => (¬ (0 ≤ a.toInt ∧ a.toInt < n) → M' = q_up M 27 0 (iI 1)) ∧ ((0 ≤ a.toInt ∧ a.toInt < n) → ¬ (1 ≤ b.toInt ∧ b.toInt ≤ 100) → M' = q_up M 27 0 (iI 2)) ∧ ((0 ≤ a.toInt ∧ a.toInt < n) → (1 ≤ b.toInt ∧ b.toInt ≤ 100) → x = M 40 a.toNatClampNeg ∧ M' = q_up (q_up M 27 0 (iI 0)) 40 a.toNatClampNeg b))) := by
  have k34 : ∀ u v : Bool, (u = true ↔ ¬ (0 ≤ a.toInt ∧ a.toInt < n)) → (v = true ↔ ¬ (1 ≤ b.toInt ∧ b.toInt ≤ 100)) → V l Γ T_TapedLinesModel_setWave (d + 1) r 34 [.ref 27, .int a, .int b, .null] [.int (b2 v), .int (b2 u), .ref 27] (M, L) (q_i L (fun x M' => (¬ (0 ≤ a.toInt ∧ a.toInt < n) → M' = q_up M 27 0 (iI 1)) ∧ ((0 ≤ a.toInt ∧ a.toInt < n) → ¬ (1 ≤ b.toInt ∧ b.toInt ≤ 100) → M' = q_up M 27 0 (iI 2)) ∧ ((0 ≤ a.toInt ∧ a.toInt < n) → (1 ≤ b.toInt ∧ b.toInt ≤ 100) → x = M 40 a.toNatClampNeg ∧ M' = q_up (q_up M 27 0 (iI 0)) 40 a.toNatClampNeg b))) := by
    intro u v hu hv
    refine s_TapedLinesModel_setWave_34 _ _ _ _ ⟨_, cm_refused u v, ?_⟩
    rintro x M' ⟨rfl, rfl⟩
    cases u with
    | true =>
      have h1 := hu.mp rfl
      exact ⟨fun z => absurd (show b2 true = 0 from z) (by decide), fun _ => ⟨fun _ => rfl, fun z => absurd z h1, fun z => absurd z h1⟩⟩
    | false =>
      have h1 : 0 ≤ a.toInt ∧ a.toInt < n := Classical.not_not.mp (fun z => by have := hu.mpr z; cases this)
      cases v with
      | true =>
        have h2 := hv.mp rfl
        exact ⟨fun z => absurd z (by decide), fun _ => ⟨fun z => absurd h1 z, fun _ _ => rfl, fun _ z => absurd z h2⟩⟩
      | false =>
        have h2 : 1 ≤ b.toInt ∧ b.toInt ≤ 100 := Classical.not_not.mp (fun z => by have := hv.mpr z; cases this)
        have hin : vp_in a 8200 := by rw [vp_in_iff]; omega
        refine ⟨fun _ => ⟨hin, hin, fun z => absurd h1 z, fun _ z => absurd h2 z, fun _ _ => ⟨?_, rfl⟩⟩, fun z => absurd (by decide) z⟩
        rw [q_up_o (by decide)]
  have k18 : ∀ u : Bool, (u = true ↔ ¬ (0 ≤ a.toInt ∧ a.toInt < n)) → V l Γ T_TapedLinesModel_setWave (d + 1) r 18 [.ref 27, .int a, .int b, .null] [.int (b2 u), .ref 27] (M, L) (q_i L (fun x M' => (¬ (0 ≤ a.toInt ∧ a.toInt < n) → M' = q_up M 27 0 (iI 1)) ∧ ((0 ≤ a.toInt ∧ a.toInt < n) → ¬ (1 ≤ b.toInt ∧ b.toInt ≤ 100) → M' = q_up M 27 0 (iI 2)) ∧ ((0 ≤ a.toInt ∧ a.toInt < n) → (1 ≤ b.toInt ∧ b.toInt ≤ 100) → x = M 40 a.toNatClampNeg ∧ M' = q_up (q_up M 27 0 (iI 0)) 40 a.toNatClampNeg b))) := by
    intro u hu
    refine s_TapedLinesModel_setWave_18 _ _ _ ?_
    rw [xlt (by decide) (by decide), xle (by decide) (by decide)]
    exact ⟨fun q => k34 u true hu ⟨fun _ z => by omega, fun _ => rfl⟩, fun q => ⟨fun q2 => k34 u false hu ⟨fun z => (by cases z), fun z => absurd ⟨by omega, q2⟩ z⟩, fun q2 => k34 u true hu ⟨fun _ z => by omega, fun _ => rfl⟩⟩⟩
  refine s_TapedLinesModel_setWave_0 _ _ ?_
  rw [e2, x0lt, xlt (by omega) (by omega)]
  exact ⟨fun q => k18 true ⟨fun _ z => by omega, fun _ => rfl⟩, fun q => ⟨fun q2 => k18 false ⟨fun z => (by cases z), fun z => absurd ⟨by omega, q2⟩ z⟩, fun q2 => k18 true ⟨fun _ z => by omega, fun _ => rfl⟩⟩⟩
theorem pair_setWave (htr : l.stackTraces = false) (h : Rel okS M) : p_setWave l Γ 99 M (Rel okS) := by
  intro L a b
  obtain ⟨n, hn, e1, e2, hv⟩ := h.2.2.2.1
  by_cases hin : 0 ≤ a.toInt ∧ a.toInt < n
  · by_cases hb : 1 ≤ b.toInt ∧ b.toInt ≤ 100
    · have hk : a.toNatClampNeg < n := by rw [clampI]; omega
      have hvp : vp_in a 7754 := by rw [vp_in_iff]; omega
      refine ⟨_, H_setWave_in a b (V.tin (s_TapedLines_setWave_0 a b (P := fun x M' => x = M 25 a.toNatClampNeg ∧ M' = q_up M 25 a.toNatClampNeg b) htr (by decide) (by decide) ?_)), ?_⟩
      · rw [e1, x0lt, xlt (by omega) (by omega), xlt (by decide) (by decide), xle (by decide) (by decide)]
        exact ⟨fun q => by omega, fun _ => ⟨fun _ => ⟨fun q => by omega, fun _ => ⟨fun _ => ⟨hvp, hvp, rfl, rfl⟩, fun q => by omega⟩⟩, fun q => by omega⟩⟩
      rintro x1 M1 L1 ⟨rfl, v, ⟨rfl, rfl⟩, rfl⟩
      have f1 : fm [25] [] M (q_up M 25 a.toNatClampNeg b) := fm.rf.upo (by simp) (by decide)
      refine ⟨_, cm_setWave (n := n) hn a b (by rw [f1.2 33 (by simp)]; exact e2), ?_⟩
      rintro x2 M2 ⟨-, -, z⟩
      obtain ⟨rfl, rfl⟩ := z hin hb
      have f : fm [25, 40] [0] M (q_up (q_up (q_up M 25 a.toNatClampNeg b) 27 0 (iI 0)) 40 a.toNatClampNeg b) := ((f1.wk (by simp) (by simp)).upk (by simp)).upo (by simp) (by decide)
      refine ⟨?_, fun _ => ?_, h.1.keep f (by decide) (by decide), h.2.1.keep f (by decide) (by decide), h.2.2.1.keep f (by decide) (by decide), ⟨n, hn, ?_, ?_, fun j hj => ?_⟩, h.2.2.2.2.1.keep f (by decide), h.2.2.2.2.2.keep f (by decide) (by decide)⟩
      · rw [q_up_o (by decide), q_up_s]
      · rw [upd0, q_up_o (by decide), hv _ hk]
      · rw [f.1 24 (by decide) (by decide)]; exact e1
      · rw [f.2 33 (by decide)]; exact e2
      · rw [q_up_o (show (25 : Nat) ≠ 40 by decide), q_up_o (show (25 : Nat) ≠ 27 by decide)]
        by_cases q : j = a.toNatClampNeg
        · rw [q, q_up_s, q_up_s]
        · rw [q_up_k q, q_up_k q, q_up_o (by decide), q_up_o (by decide)]
          exact hv j hj
    · refine ⟨_, H_setWave_out a b (E := fun ec M' => ec = 1 ∧ M' = M) (fun ec M' z => Or.inr z.1) (V.tout (s_TapedLines_setWave_0 a b htr (by decide) (by decide) ?_)), ?_⟩
      · rw [e1, x0lt, xlt (by omega) (by omega), xlt (by decide) (by decide), xle (by decide) (by decide)]
        exact ⟨fun q => by omega, fun _ => ⟨fun _ => ⟨fun q => ⟨rfl, rfl⟩, fun _ => ⟨fun q => by omega, fun _ => ⟨rfl, rfl⟩⟩⟩, fun q => by omega⟩⟩
      rintro x1 M1 L1 ⟨⟨rfl, z, -⟩ | ⟨rfl, -, rfl⟩, rfl⟩
      · cases z
      · refine ⟨_, cm_setWave (n := n) hn a b e2, ?_⟩
        rintro x2 M2 ⟨-, z, -⟩
        rw [z hin hb]
        exact ⟨q_up_s, fun z => absurd z (by decide), h.fault _⟩
  · refine ⟨_, H_setWave_out a b (E := fun ec M' => ec = 0 ∧ M' = M) (fun ec M' z => Or.inl z.1) (V.tout (s_TapedLines_setWave_0 a b htr (by decide) (by decide) ?_)), ?_⟩
    · rw [e1, x0lt, xlt (by omega) (by omega), xlt (by decide) (by decide), xle (by decide) (by decide)]
      exact ⟨fun q => ⟨rfl, rfl⟩, fun _ => ⟨fun q => by omega, fun _ => ⟨rfl, rfl⟩⟩⟩
    rintro x1 M1 L1 ⟨⟨rfl, -, rfl⟩ | ⟨rfl, z, -⟩, rfl⟩
    · refine ⟨_, cm_setWave (n := n) hn a b e2, ?_⟩
      rintro x2 M2 ⟨z, -, -⟩
      rw [z hin]
      exact ⟨q_up_s, fun z => absurd z (by decide), h.fault _⟩
    · cases z
end PairsC
