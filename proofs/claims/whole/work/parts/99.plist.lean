-- list, both sides
theorem spl_b (fs : Bool) (o : List Int) (h : ∀ b ∈ o, 0 ≤ b ∧ b < 256) : ∀ c ∈ spl fs o, 0 ≤ c ∧ c < 65536 := by
  induction o generalizing fs with
  | nil => intro c hc; cases hc
  | cons b o ih =>
    intro c hc
    rw [spl_cons, List.mem_append] at hc
    have hb := h b (by simp)
    rcases hc with hc | hc
    · by_cases hw : 128 ≤ b ∧ b ≤ 135
      · rw [if_pos hw, List.mem_append, List.mem_append] at hc
        rcases hc with (hc | hc) | hc
        · split at hc
          · cases hc
          · rw [List.mem_singleton] at hc; omega
        · rw [List.mem_map] at hc
          obtain ⟨a, ha, rfl⟩ := hc
          have hwl : ∀ k, k < 8 → ∀ a ∈ wl k, 1 ≤ a ∧ a ≤ 26 := by decide
          have := hwl (b - 128).toNat (by omega) a ha
          omega
        · split at hc
          · cases hc
          · rw [List.mem_singleton] at hc; omega
      · rw [if_neg hw, List.mem_singleton] at hc
        omega
    · exact ih false (fun x hx => h x (by simp [hx])) c hc
theorem dgl_b (n k : Nat) : ∀ c ∈ dgl n k, 0 ≤ c ∧ c < 65536 := by
  induction k with
  | zero =>
    intro c hc
    have : c = 48 + ((n / 10 ^ 0 % 10 : Nat) : Int) := by simpa [dgl] using hc
    omega
  | succ k ih =>
    intro c hc
    rcases List.mem_cons.mp hc with h | h
    · omega
    · exact ih c h
/-- a line as list shows it -/
def shown (q : Int × List Int) : List Int := sgn q.1 ++ [32] ++ spl true q.2
theorem shown_len {q : Int × List Int} (h1 : 1 ≤ q.1 ∧ q.1 ≤ 99) (h2 : okSt q.2) (h3 : q.2.length ≤ 198) : (shown q).length ≤ 215 ∧ sgn q.1 = dec q.1.toNat ∧ (sgn q.1).length ≤ 2 ∧ (spl true q.2).length ≤ 212 := by
  have hs : sgn q.1 = dec q.1.toNat := by
    unfold sgn
    rw [if_neg (by omega), List.nil_append, show q.1.natAbs = q.1.toNat by omega]
  have hd : (dec q.1.toNat).length ≤ 2 := by
    rw [dec_2 _ (by omega)]
    split <;> simp
  have hw := tbs_wc cn_2 h2.2
  have hp : pot (2, 0, 0, 0, 0, 0, 0) = 2 := rfl
  have hl := spl_len true q.2
  refine ⟨?_, hs, by rw [hs]; exact hd, by omega⟩
  unfold shown
  rw [hs]
  simp only [List.length_append, List.length_singleton]
  omega
theorem shown_b {q : Int × List Int} (h2 : okSt q.2) : ∀ c ∈ shown q, 0 ≤ c ∧ c < 65536 := by
  intro c hc
  unfold shown sgn dec at hc
  rw [List.mem_append, List.mem_append, List.mem_append] at hc
  rcases hc with ((hc | hc) | hc) | hc
  · split at hc
    · rw [List.mem_singleton] at hc; omega
    · cases hc
  · exact dgl_b _ _ c hc
  · rw [List.mem_singleton] at hc; omega
  · exact spl_b true q.2 (fun b hb => by have := okSt_b h2 b hb; omega) c hc
theorem enc_by {pr : List (Int × List Int)} {i : Nat} (h : i < pr.length) (k : Nat) (hk : k < (pr[i]).2.length) : (enc pr).getD (off pr i + 2 + k) 0 = (pr[i]).2.getD k 0 := by
  rw [show off pr i + 2 + k = off pr i + (2 + k) by omega, enc_at, List.drop_eq_getElem_cons h]
  show ((pr[i]).1 :: ((pr[i]).2.length : Int) :: ((pr[i]).2 ++ enc (pr.drop (i + 1)))).getD (2 + k) 0 = _
  rw [show 2 + k = k + 1 + 1 by omega]
  simp [List.getD_eq_getElem?_getD, List.getElem?_append_left hk]
section PList
variable {l : Launch} {Γ : qG} {d r : Nat} {L : Nat → Int64} {M : qM}
theorem cm_lineAt {pr : List (Int × List Int)} (h : mPr M pr) (a : Int32) (hl : pr.length ≤ 200) (i : Nat) (hi : i < pr.length) (ha : a.toInt = i) : V l Γ T_TapedLinesModel_lineAt d r 0 [.ref 27, .int a, .null, .null] [] (M, L) (q_i L (fun x M' => x = iI (off pr i) ∧ M' = M)) := by
  have hE := h.2.1
  have go : ∀ (j k : Nat), k + j = i → V l Γ T_TapedLinesModel_lineAt d r 4 [.ref 27, .int a, .int (iI (off pr k)), .int (iI k)] [] (M, L) (q_i L (fun x M' => x = iI (off pr i) ∧ M' = M)) := by
    intro j
    induction j with
    | zero =>
      intro k hk
      have : k = i := by omega
      subst this
      refine s_TapedLinesModel_lineAt_4 _ _ _ ⟨fun _ => ⟨rfl, rfl⟩, fun q => ?_⟩
      rw [xle (by omega) (by omega)] at q
      omega
    | succ j ih =>
      intro k hk
      have hkl : k < pr.length := by omega
      have ho := off_lt hkl
      have hs := off_s hkl
      refine s_TapedLinesModel_lineAt_4 _ _ _ ⟨fun q => ?_, fun _ => ?_⟩
      · rw [xle (by omega) (by omega)] at q
        omega
      rw [h.1, iI_le (by omega) (by omega) (by omega) (by omega), iI_add (off pr k : Int) 1, iI_add (off pr k : Int) 2, iI_nat (z := (off pr k : Int) + 1) (by omega) (by omega), show ((off pr k : Int) + 1).toNat = off pr k + 1 by omega, h.2.2 _ (by omega), enc_len hkl, iI_add, iI_add]
      refine ⟨fun q => by omega, fun _ => ⟨iI_in (by omega) (by omega) (by omega), ?_⟩⟩
      have := ih (k + 1) (by omega)
      rw [hs] at this
      rw [show ((off pr k : Int) + 2 + ((pr[k]).2.length : Int)) = ((off pr k + 2 + (pr[k]).2.length : Nat) : Int) by omega, show ((k : Int) + 1) = ((k + 1 : Nat) : Int) by omega]
      exact this
  exact s_TapedLinesModel_lineAt_0 _ (go i 0 (by omega))
end PList
section PList2
variable {l : Launch} {Γ : qG} {M : qM}
theorem pair_list (htr : l.stackTraces = false) (h : Rel okSt M) : p_list l Γ 99 M (Rel okSt) := by
  intro L a
  have hRel := h
  obtain ⟨h1, h2, h3, h4, h5, h6⟩ := h
  obtain ⟨pr, c1, m1, ⟨hr, hq⟩, hst⟩ := h6
  by_cases hin : 0 ≤ a.toInt ∧ a.toInt < pr.length
  rotate_left
  · exact pair_list_out htr c1 m1 a hin (hRel.fault _)
  have hE := c1.2.1
  obtain ⟨i, hia⟩ : ∃ i : Nat, a.toInt = i := ⟨a.toInt.toNat, by omega⟩
  have hi : i < pr.length := by omega
  have hple : pr.length ≤ 200 := by
    have : ∀ q : List (Int × List Int), q.length ≤ (enc q).length := by
      intro q
      induction q with
      | nil => exact Nat.le_refl _
      | cons x t ih2 => simp [enc]; omega
    have := this pr
    omega
  have hqi := hq _ (List.getElem_mem hi)
  have hol := off_lt hi
  have hen := enc_n hi
  have hel := enc_len hi
  have hby := fun k hk => enc_by hi k hk
  obtain ⟨sl, sd, sl2, sl3⟩ := shown_len (q := pr[i]) ⟨hqi.1, hqi.2.1⟩ hqi.2.2 (by omega)
  have sb := shown_b (q := pr[i]) hqi.2.2
  have hbb := okSt_b hqi.2.2
  generalize pr[i] = q at hqi hol hen hel hby sl sd sl2 sl3 sb hbb
  have e256 : cp (3 + 1) = 256 := by decide
  have hto : a.toInt.toNat = i := by omega
  refine ⟨_, H_list_in a (V.tin (s_TapedLines_list_0 a (P := fun x M' => x = iI (shown q).length ∧ shIs M' 3 (shown q) ∧ fr [3, 4] M M') htr (by decide) (by decide) ⟨_, c_lineAt c1 a, ?_⟩)), ?_⟩
  · rintro x M1 ⟨rfl, rfl⟩
    rw [if_pos hin, hto, iI_eq (by omega) (by omega) (by omega) (by omega), iI_nat (by omega) (by omega), Int.toNat_natCast, c1.2.2 _ (by omega), hen]
    refine ⟨fun _ => ⟨iI_in (by omega) (by omega) (by omega), _, c_appendNumber 3 (Or.inl rfl) q.1 (by omega) (t := []) shIs.wipe, ?_⟩, fun z => by omega⟩
    rintro M2 ⟨g2, f2⟩
    refine ⟨_, c_app 3 (by omega) g2 (by decide), ?_⟩
    rintro x3 M3 ⟨g3, f3⟩
    have fM : fr [3, 4] M1 M3 := (fr.rf.up (by simp)).tr (f2.tr f3)
    rw [iI_add, iI_add, iI_nat (by omega) (by omega), show ((off pr i : Int) + 1).toNat = off pr i + 1 by omega, fM 11 (by decide), c1.2.2 _ (by omega), hel]
    refine ⟨iI_in (by omega) (by omega) (by omega), ?_⟩
    have hcp11 : cp 11 = 200 := by decide
    have hs := c_spell (l := l) (Γ := Γ) (d := 90) (r := 0) (L := L) (M := M3) 3 11 (Or.inl ⟨rfl, rfl⟩) q.2 (off pr i + 2) ([] ++ sgn q.1 ++ [32]) (fun b hb => by have := hbb b hb; omega) (by omega) (fun k hk => by rw [fM 11 (by decide), c1.2.2 _ (by omega), hby k hk]) g3
    rw [show ((off pr i + 2 : Nat) : Int) = (off pr i : Int) + 2 by omega] at hs
    refine ⟨_, hs, ?_⟩
    rintro M4 ⟨g4, f4⟩
    have e4 : ([] ++ sgn q.1 ++ [32] ++ spl true q.2).take (cp (3 + 1)) = shown q := by
      rw [List.nil_append]
      exact List.take_of_length_le (by rw [e256]; exact Nat.le_trans sl (by decide))
    rw [e4] at g4
    exact ⟨g4.1, g4, fM.tr f4⟩
  rintro x1 M1 L1 ⟨rfl, v, ⟨rfl, g1, f1⟩, rfl⟩
  have m2 : mPr M1 pr := ⟨by rw [f1 27 (by decide)]; exact m1.1, m1.2.1, by rw [f1 30 (by decide)]; exact m1.2.2⟩
  refine ⟨fun x M' => x = iI (shown q).length ∧ M' 27 0 = iI 0 ∧ rowIs M' 27 37 41 (shown q) ∧ fm [41] [0, 37] M1 M', s_TapedLinesModel_list_0 a ⟨fun z => ?_, fun _ => ⟨_, cm_countLines m2, ?_⟩⟩, ?_⟩
  · rw [x0lt] at z
    omega
  · rintro x M' ⟨rfl, rfl⟩
    rw [xlt (by omega) (by omega)]
    refine ⟨fun _ => ?_, fun z => by omega⟩
    refine s_TapedLinesModel_list_18 _ _ ⟨_, cm_refused false false, ?_⟩
    rintro x2 M2 ⟨rfl, rfl⟩
    refine ⟨fun _ => ?_, fun z => absurd rfl z⟩
    have hz0 : (if false = true then iI 1 else if false = true then iI 2 else iI 0) = iI 0 := rfl
    rw [hz0]
    generalize hM3 : q_up (q_up M' 27 0 (iI 0)) 27 37 (iI 0) = M3
    have k0 : M3 27 0 = iI 0 := by rw [← hM3, q_up_k (by decide), q_up_s]
    have k37 : M3 27 37 = iI 0 := by rw [← hM3, q_up_s]
    have f3 : fm [41] [0, 37] M' M3 := by rw [← hM3]; exact (fm.rf.upk (by simp)).upk (by simp)
    have m3 : mPr M3 pr := ⟨by rw [f3.2 12 (by decide)]; exact m2.1, m2.2.1, by rw [f3.1 30 (by decide) (by decide)]; exact m2.2.2⟩
    clear hM3
    refine ⟨_, cm_lineAt m3 a hple i hi hia, ?_⟩
    rintro x4 M4 ⟨rfl, rfl⟩
    rw [iI_add, iI_nat (z := (off pr i : Int)) (by omega) (by omega), Int.toNat_natCast, iI_nat (z := (off pr i : Int) + 1) (by omega) (by omega), show ((off pr i : Int) + 1).toNat = off pr i + 1 by omega, m3.2.2 _ (by omega), m3.2.2 _ (by omega), hen, hel]
    refine ⟨iI_in (by omega) (by omega) (by omega), iI_in (by omega) (by omega) (by omega), ?_⟩
    have hpn := cm_putNumber (l := l) (Γ := Γ) (d := 90) (r := 0) (L := vp_updL L 0 (iI (shown q).length).toInt64) (M := M4) (g := []) q.1.toNat (by omega) ⟨k37, rw_nil _⟩ (by decide)
    rw [show ((q.1.toNat : Nat) : Int) = q.1 by omega] at hpn
    refine ⟨_, V.deeper hpn (by decide), ?_⟩
    rintro M5 ⟨g5, f5⟩
    rw [List.nil_append, ← sd] at g5
    refine ⟨_, cm_putG g5 (by omega), ?_⟩
    rintro M6 ⟨g6, f6⟩
    have f46 : fm [41] [37] M4 M6 := f5.tr f6
    have hl66 := cm_list_66 (l := l) (Γ := Γ) (d := 97) (r := 0) (L := vp_updL L 0 (iI (shown q).length).toInt64) q.2 (off pr i + 2) hbb (by omega) q.2 0 (sgn q.1 ++ [32]) M6 rfl (Nat.zero_le _) (fun k hk => by rw [f46.1 30 (by decide) (by decide), m3.2.2 _ (by omega), hby k hk]) g6 (by simp only [List.length_append, List.length_singleton, decide_true]; omega)
    rw [show ((off pr i + 2 : Nat) : Int) - 2 = (off pr i : Int) by omega] at hl66
    refine hl66.wi (fun x7 M7 z => ?_)
    obtain ⟨hx, g7, f7⟩ := z
    have f47 := f46.tr f7
    refine ⟨hx, by rw [f47.2 0 (by decide)]; exact k0, g7, f3.tr (f47.wk (by simp) (by simp))⟩
  · rintro x2 M2 ⟨rfl, z0, g2, f2⟩
    have f : fm [3, 4, 41] [0, 37] M M2 := ((f1.fm (by decide)).wk (by simp) (by simp)).tr (f2.wk (by simp) (by simp))
    refine ⟨z0, fun _ => upd0 _ _, h1.keep f (by decide) (by decide), h2.keep f (by decide) (by decide), ⟨shown q, g1.keep (f2.1 3 (by decide) (by decide)) (f2.1 4 (by decide) (by decide)), g2, sb⟩, h4.keep f (by decide) (by decide), h5.keep f (by decide), (show R_prog okSt M from ⟨pr, c1, m1, ⟨hr, hq⟩, hst⟩).keep f (by decide) (by decide)⟩
end PList2
