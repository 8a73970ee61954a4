-- list, both sides
theorem spl_b (fs : Bool) (o : List Int) (h : ∀ b ∈ o, 0 ≤ b ∧ b < 256) : ∀ c ∈ spl fs o, 0 ≤ c ∧ c < 65536 := by
  induction o generalizing fs with
  | nil => intro c hc; cases hc
  | cons b o ih =>
    intro c hc
    rw [spl_cons, List.mem_append] at hc
    have hb := h b (by simp)
    rcases hc with hc | hc
    · by_cases hw : 128 ≤ b ∧ b ≤ 135
      · rw [if_pos hw, List.mem_append, List.mem_append] at hc
        rcases hc with (hc | hc) | hc
        · split at hc
          · cases hc
          · rw [List.mem_singleton] at hc; omega
        · rw [List.mem_map] at hc
          obtain ⟨a, ha, rfl⟩ := hc
          have hwl : ∀ k, k < 8 → ∀ a ∈ wl k, 1 ≤ a ∧ a ≤ 26 := by decide
          have := hwl (b - 128).toNat (by omega) a ha
          omega
        · split at hc
          · cases hc
          · rw [List.mem_singleton] at hc; omega
      · rw [if_neg hw, List.mem_singleton] at hc
        omega
    · exact ih false (fun x hx => h x (by simp [hx])) c hc
theorem dgl_b (n k : Nat) : ∀ c ∈ dgl n k, 0 ≤ c ∧ c < 65536 := by
  induction k with
  | zero =>
    intro c hc
    have : c = 48 + ((n / 10 ^ 0 % 10 : Nat) : Int) := by simpa [dgl] using hc
    omega
  | succ k ih =>
    intro c hc
    rcases List.mem_cons.mp hc with h | h
    · omega
    · exact ih c h
/-- a line as list shows it -/
def shown (q : Int × List Int) : List Int := sgn q.1 ++ [32] ++ spl true q.2
theorem shown_len {q : Int × List Int} (h1 : 1 ≤ q.1 ∧ q.1 ≤ 99) (h2 : okSt q.2) (h3 : q.2.length ≤ 198) : (shown q).length ≤ 215 ∧ sgn q.1 = dec q.1.toNat ∧ (sgn q.1).length ≤ 2 ∧ (spl true q.2).length ≤ 212 := by
  have hs : sgn q.1 = dec q.1.toNat := by
    unfold sgn
    rw [if_neg (by omega), List.nil_append, show q.1.natAbs = q.1.toNat by omega]
  have hd : (dec q.1.toNat).length ≤ 2 := by
    rw [dec_2 _ (by omega)]
    split <;> simp
  have hw := tbs_wc cn_2 h2.2
  have hp : pot (2, 0, 0, 0, 0, 0, 0) = 2 := rfl
  have hl := spl_len true q.2
  refine ⟨?_, hs, by rw [hs]; exact hd, by omega⟩
  unfold shown
  rw [hs]
  simp only [List.length_append, List.length_singleton]
  omega
theorem shown_b {q : Int × List Int} (h2 : okSt q.2) : ∀ c ∈ shown q, 0 ≤ c ∧ c < 65536 := by
  intro c hc
  unfold shown sgn dec at hc
  rw [List.mem_append, List.mem_append, List.mem_append] at hc
  rcases hc with ((hc | hc) | hc) | hc
  · split at hc
    · rw [List.mem_singleton] at hc; omega
    · cases hc
  · exact dgl_b _ _ c hc
  · rw [List.mem_singleton] at hc; omega
  · exact spl_b true q.2 (fun b hb => by have := okSt_b h2 b hb; omega) c hc
theorem enc_by {pr : List (Int × List Int)} {i : Nat} (h : i < pr.length) (k : Nat) (hk : k < (pr[i]).2.length) : (enc pr).getD (off pr i + 2 + k) 0 = (pr[i]).2.getD k 0 := by
  rw [show off pr i + 2 + k = off pr i + (2 + k) by omega, enc_at, List.drop_eq_getElem_cons h]
  show ((pr[i]).1 :: ((pr[i]).2.length : Int) :: ((pr[i]).2 ++ enc (pr.drop (i + 1)))).getD (2 + k) 0 = _
  rw [show 2 + k = k + 1 + 1 by omega]
  simp [List.getD_eq_getElem?_getD, List.getElem?_append_left hk]
section PList
variable {l : Launch} {Γ : qG} {d r : Nat} {L : Nat → Int64} {M : qM}
theorem cm_lineAt {pr : List (Int × List Int)} (h : mPr M pr) (a : Int32) (hl : pr.length ≤ 200) (i : Nat) (hi : i < pr.length) (ha : a.toInt = i) : V l Γ T_TapedLinesModel_lineAt d r 0 [.ref 27, .int a, .null, .null] [] (M, L) (q_i L (fun x M' => x = iI (off pr i) ∧ M' = M)) := by
  have hE := h.2.1
  have go : ∀ (j k : Nat), k + j = i → V l Γ T_TapedLinesModel_lineAt d r 4 [.ref 27, .int a, .int (iI (off pr k)), .int (iI k)] [] (M, L) (q_i L (fun x M' => x = iI (off pr i) ∧ M' = M)) := by
    intro j
    induction j with
    | zero =>
      intro k hk
      have : k = i := by omega
      subst this
      refine s_TapedLinesModel_lineAt_4 _ _ _ ⟨fun _ => ⟨rfl, rfl⟩, fun q => ?_⟩
      rw [xle (by omega) (by omega)] at q
      omega
    | succ j ih =>
      intro k hk
      have hkl : k < pr.length := by omega
      have ho := off_lt hkl
      have hs := off_s hkl
      refine s_TapedLinesModel_lineAt_4 _ _ _ ⟨fun q => ?_, fun _ => ?_⟩
      · rw [xle (by omega) (by omega)] at q
        omega
      rw [h.1, iI_le (by omega) (by omega) (by omega) (by omega), iI_add (off pr k : Int) 1, iI_add (off pr k : Int) 2, iI_nat (z := (off pr k : Int) + 1) (by omega) (by omega), show ((off pr k : Int) + 1).toNat = off pr k + 1 by omega, h.2.2 _ (by omega), enc_len hkl, iI_add, iI_add]
      refine ⟨fun q => by omega, fun _ => ⟨iI_in (by omega) (by omega) (by omega), ?_⟩⟩
      have := ih (k + 1) (by omega)
      rw [hs] at this
      rw [show ((off pr k : Int) + 2 + ((pr[k]).2.length : Int)) = ((off pr k + 2 + (pr[k]).2.length : Nat) : Int) by omega, show ((k : Int) + 1) = ((k + 1 : Nat) : Int) by omega]
      exact this
  exact s_TapedLinesModel_lineAt_0 _ (go i 0 (by omega))
end PList
