-- a statement done and settled, and a run: the class
theorem pfQ.of2 {M M1 M2 : qM} {pr : List (Int × List Int)} {s : rS} {res : pR} {x : Int32} (h : pfQ M1 pr s res x M2) (f : fr cF M M1) (h95 : M1 9 5 = M 9 5) : pfQ M pr s res x M2 := by
  obtain ⟨a, b, c⟩ := h
  refine ⟨f.tr a, b.trans h95, ?_⟩
  rcases res with e | ⟨j, s'⟩
  · exact c
  · exact c
theorem off_lt_iff {pr : List (Int × List Int)} {j : Nat} (hj : j ≤ pr.length) : (enc pr).length ≤ off pr j ↔ ¬ j < pr.length := by
  constructor
  · intro h hl
    have := off_lt hl
    omega
  · intro h
    have : j = pr.length := by omega
    subst this
    rw [off_end]
    exact Nat.le_refl _
def runP (pr : List (Int × List Int)) : Nat → Nat → Nat → rS → Nat × Int × Nat × rS
  | 0, dn, i, s => (dn, 1, i, s)
  | n + 1, dn, i, s => match doP pr i (pr.getD i (0, [])).2 s with
    | .error e => (dn, 10 + e, i, s)
    | .ok (j, s') => if j < pr.length then runP pr n (dn + 1) j s' else (dn + 1, 2, j, s')
theorem pr_get {pr : List (Int × List Int)} {i : Nat} (h : i < pr.length) : pr.getD i (0, []) = pr[i] := by
  rw [List.getD_eq_getElem?_getD, List.getElem?_eq_getElem h]
  rfl
theorem st_len {pr : List (Int × List Int)} {i : Nat} (h : i < pr.length) (hl : (enc pr).length ≤ 200) : (pr[i]).2.length ≤ 198 ∧ off pr (i + 1) ≤ 200 := by
  have h1 := off_lt h
  have h2 := off_le pr (i + 1)
  omega
section CRun
variable {l : Launch} {Γ : qG} {d r : Nat} {L : Nat → Int64} {pr : List (Int × List Int)} {s : rS}
theorem k_perform {M : qM} {i : Nat} (hP : cPr M pr) (hok : okP okSt pr) (hi : i < pr.length) (h95 : M 9 5 = iI (off pr i)) (hR : cR M pr s) (hg : gds pr s) : V l Γ T_Machine_perform (d + 23 + 1) r 0 [.ref 9] [] (M, L) (q_i L (pfQ M pr s (doP pr i (pr[i]).2 s))) := by
  have hb : ∀ q ∈ pr, 0 ≤ q.1 ∧ q.1 < 256 := fun q hm => by have := hok.2 q hm; omega
  have hst : okSt (pr[i]).2 := (hok.2 _ (List.getElem_mem hi)).2.2
  have hob := okSt_b hst
  have hl := off_lt hi
  have hs := off_s hi
  have hpl := hP.2.1
  refine s_Machine_perform_0 ?_
  rw [h95]
  refine ⟨_, c_behind hP hi, ?_⟩
  rintro x1 M1 ⟨rfl, rfl⟩
  rw [h95, iI_add]
  refine ⟨fun M' => M' = _, s_Calculator_open_0 _ _ rfl, ?_⟩
  rintro M2 hM2
  have f2 : fr cF M1 M2 := by
    rw [hM2]
    exact ((((fr.rf.up (by decide)).up (by decide)).up (by decide)).up (by decide)).up (by decide)
  have g95 : M2 9 5 = M1 9 5 := by rw [hM2, q_up_o (by decide), q_up_o (by decide), q_up_o (by decide), q_up_o (by decide), q_up_k (by decide)]
  have g14 : M2 9 14 = iI (off pr (i + 1)) := by rw [hM2, q_up_o (by decide), q_up_o (by decide), q_up_o (by decide), q_up_o (by decide), q_up_s]
  have hR2 : cR M2 pr s := by
    refine hR.keep (fun o ho => ?_) ?_ ?_
    · have h9 : o ≠ 9 := by simp at ho; omega
      have h12 : o ≠ 12 := by simp at ho; omega
      rw [hM2, q_up_o h12, q_up_o h12, q_up_o h12, q_up_o h12, q_up_o h9]
    · rw [hM2, q_up_o (by decide), q_up_o (by decide), q_up_o (by decide), q_up_o (by decide), q_up_k (by decide)]
    · rw [hM2, q_up_o (by decide), q_up_o (by decide), q_up_o (by decide), q_up_o (by decide), q_up_k (by decide)]
  have hP2 : cPr M2 pr := ⟨by rw [f2 10 (by decide)]; exact hP.1, hP.2.1, by rw [f2 11 (by decide)]; exact hP.2.2⟩
  have hS : cS M2 (off pr (i + 1)) (pr[i]).2 := by
    refine ⟨?_, by omega, ?_, ?_, ⟨by omega, fun k hk => ?_, fun b hbb => by have := hob b hbb; omega⟩, ?_⟩
    · rw [hM2, q_up_k (by decide), q_up_k (by decide), q_up_k (by decide), q_up_s]
    · rw [hM2, q_up_k (by decide), q_up_s]
    · rw [hM2, q_up_k (by decide), q_up_k (by decide), q_up_s]; exact congrArg iI (by omega)
    · rw [hP2.2.2 _ (by omega), show off pr (i + 1) - (pr[i]).2.length + k = off pr i + 2 + k by omega, enc_by hi k hk]
    · rw [hM2, q_up_s]
  have hlen := (st_len hi hpl).1
  refine ⟨_, k_ahead hS, ?_⟩
  rintro x3 M3 ⟨rfl, rfl⟩
  rcases okSt_kinds hst with ⟨u, eo, h⟩ | ⟨u, eo, h⟩ | eo | eo | ⟨u, eo, h⟩ | ⟨c, u, eo, hc, h⟩ | ⟨c, eo, hc⟩ | ⟨u, eo, h1, h2⟩ | ⟨u, eo, h1, h⟩ | ⟨u, eo, h⟩ | ⟨c, u, eo, hc, h⟩
  · rw [eo] at hS ⊢
    rw [List.headD_cons, iI_toInt (by decide) (by decide)]
    refine ⟨fun q => by omega, fun _ => ⟨fun q => by omega, fun _ => ⟨fun _ => ⟨_, k_jump (d := d + 21) hS h hP2 hb hR2, fun x M' hM => hM.of2 f2 g95⟩, fun q => absurd rfl q⟩⟩⟩
  · rw [eo] at hS ⊢
    rw [List.headD_cons, iI_toInt (by decide) (by decide)]
    refine ⟨fun q => by omega, fun _ => ⟨fun q => by omega, fun _ => ⟨fun q => by omega, fun _ => ⟨fun _ => ⟨_, k_gosub (d := d + 20) hS h hP2 hb hR2 hg g14, fun x M' hM => hM.of2 f2 g95⟩, fun q => absurd rfl q⟩⟩⟩⟩
  · rw [eo]
    rw [List.headD_cons, iI_toInt (by decide) (by decide)]
    refine ⟨fun q => by omega, fun _ => ⟨fun q => by omega, fun _ => ⟨fun q => by omega, fun _ => ⟨fun q => by omega, fun _ => ⟨fun _ => ⟨_, k_return hR2 hg, fun x M' hM => hM.of2 f2 g95⟩, fun q => absurd rfl q⟩⟩⟩⟩⟩
  · rw [eo]
    rw [List.headD_cons, iI_toInt (by decide) (by decide)]
    refine ⟨fun q => by omega, fun _ => ⟨fun q => by omega, fun _ => ⟨fun q => by omega, fun _ => ⟨fun q => by omega, fun _ => ⟨fun q => by omega, fun _ => ⟨fun q => by omega, fun _ => ⟨fun q => by omega, fun _ => ⟨fun q => by omega, fun _ => ⟨fun _ => ?_, fun q => absurd rfl q⟩⟩⟩⟩⟩⟩⟩⟩⟩
    refine ⟨f2.up (by decide), by rw [q_up_k (by decide)]; exact g95, rfl, ?_, hR2.keep (fun o ho => q_up_o (by simp at ho; omega)) (q_up_k (by decide)) (q_up_k (by decide))⟩
    rw [q_up_s, hP2.1, off_end]
  · rw [eo] at hS ⊢
    rw [List.headD_cons, iI_toInt (by decide) (by decide)]
    refine ⟨fun q => by omega, fun _ => ⟨fun q => by omega, fun _ => ⟨fun q => by omega, fun _ => ⟨fun q => by omega, fun _ => ⟨fun q => by omega, fun _ => ⟨fun _ => ⟨_, k_if hS h hP2 hb hR2 hg g14, fun x M' hM => hM.of2 f2 g95⟩, fun q => absurd rfl q⟩⟩⟩⟩⟩⟩
  · rw [eo] at hS ⊢
    rw [List.headD_cons, iI_toInt (by decide) (by decide)]
    refine ⟨fun q => by omega, fun _ => ⟨fun q => by omega, fun _ => ⟨fun q => by omega, fun _ => ⟨fun q => by omega, fun _ => ⟨fun q => by omega, fun _ => ⟨fun q => by omega, fun _ => ⟨fun _ => ⟨_, k_openLoop hS hc h hR2 hg g14, fun x M' hM => hM.of2 f2 g95⟩, fun q => absurd rfl q⟩⟩⟩⟩⟩⟩⟩
  · rw [eo] at hS ⊢
    rw [List.headD_cons, iI_toInt (by decide) (by decide)]
    refine ⟨fun q => by omega, fun _ => ⟨fun q => by omega, fun _ => ⟨fun q => by omega, fun _ => ⟨fun q => by omega, fun _ => ⟨fun q => by omega, fun _ => ⟨fun q => by omega, fun _ => ⟨fun q => by omega, fun _ => ⟨fun _ => ⟨_, k_closeLoop (d := d + 21) hS hc hR2 hg g14, fun x M' hM => hM.of2 f2 g95⟩, fun q => absurd rfl q⟩⟩⟩⟩⟩⟩⟩⟩
  · have e95 : M3 9 5 = iI ((off pr (i + 1) - ((34 :: u).length + 3) : Nat) : Int) := by
      rw [g95, h95]
      refine congrArg iI ?_
      rw [eo] at hs
      simp only [List.length_cons] at hs ⊢
      omega
    rw [eo] at hS ⊢
    rw [List.headD_cons, iI_toInt (by decide) (by decide)]
    refine ⟨fun _ => ⟨_, k_write hS (Or.inl ⟨u, rfl, h1, h2⟩) hR2 hg g14 rfl e95, fun x M' hM => hM.of2 f2 g95⟩, fun q => absurd rfl q⟩
  · have e95 : M3 9 5 = iI ((off pr (i + 1) - (u.length + 3) : Nat) : Int) := by
      rw [g95, h95]
      refine congrArg iI ?_
      rw [eo] at hs
      simp only [List.length_cons] at hs ⊢
      omega
    rw [eo] at hS ⊢
    rw [List.headD_cons, iI_toInt (by decide) (by decide)]
    refine ⟨fun _ => ⟨_, k_write hS (Or.inr ⟨h1, h⟩) hR2 hg g14 rfl e95, fun x M' hM => hM.of2 f2 g95⟩, fun q => absurd rfl q⟩
  · rw [eo] at hS ⊢
    rw [List.headD_cons, iI_toInt (by decide) (by decide)]
    refine ⟨fun q => by omega, fun _ => ⟨fun _ => ⟨_, k_setCell hS h hR2 hg g14, fun x M' hM => hM.of2 f2 g95⟩, fun q => absurd rfl q⟩⟩
  · have hcv : 97 ≤ c ∧ c ≤ 104 := by simpa [isV] using hc
    have e : doP pr i (c :: 61 :: u) s = exE (sE s u) (fun v _ => doV i (c - 97) v s) := by
      unfold doP
      rw [List.headD_cons, if_neg (by omega), if_neg (by omega), if_neg (by omega), if_neg (by omega), if_neg (by omega), if_neg (by omega), if_neg (by omega), if_neg (by omega), if_neg (by omega)]
      rfl
    rw [eo] at hS ⊢
    rw [e, List.headD_cons, iI_toInt (by omega) (by omega)]
    refine ⟨fun q => by omega, fun _ => ⟨fun q => by omega, fun _ => ⟨fun q => by omega, fun _ => ⟨fun q => by omega, fun _ => ⟨fun q => by omega, fun _ => ⟨fun q => by omega, fun _ => ⟨fun q => by omega, fun _ => ⟨fun q => by omega, fun _ => ⟨fun q => by omega, fun _ => ⟨_, k_setVariable hS hc h hR2 hg g14, fun x M' hM => hM.of2 f2 g95⟩⟩⟩⟩⟩⟩⟩⟩⟩⟩
/-- the class after a run -/
def cEnd (M0 : qM) (pr : List (Int × List Int)) (rr : Nat × Int × Nat × rS) (x : Int32) (M' : qM) : Prop := x = iI rr.1 ∧ M' 9 4 = iI rr.2.1 ∧ M' 9 5 = iI (off pr rr.2.2.1) ∧ cR M' pr rr.2.2.2 ∧ fr cF M0 M'
theorem k_run {M0 : qM} (htr : l.stackTraces = false) (hok : okP okSt pr) {n : Nat} (hn : n ≤ 1000) : ∀ (m k i : Nat) (s : rS) (M : qM), k + m = n → i < pr.length → cPr M pr → M 9 4 = iI 1 → M 9 5 = iI (off pr i) → cR M pr s → gds pr s → fr cF M0 M →
    V l Γ T_TapedLines_run (d + 32 + 1) (r + 1) 43 [.ref 0, .int (iI n), .int (iI k), .int (iI k)] [] (M, L) (q_ti L (cEnd M0 pr (runP pr m k i s)) (fun _ _ => False)) := by
  intro m
  induction m with
  | zero =>
    intro k i s M hk hi hP h94 h95 hR hg f
    refine s_TapedLines_run_43 _ _ _ htr (by omega) (by omega) ?_
    rw [iI_le (by omega) (by omega) (by omega) (by omega)]
    exact ⟨fun _ => ⟨rfl, h94, h95, hR, f⟩, fun q => by omega⟩
  | succ m ih =>
    intro k i s M hk hi hP h94 h95 hR hg f
    have hst : okSt (pr[i]).2 := (hok.2 _ (List.getElem_mem hi)).2.2
    have hgq := doP_g hg hi hst (st_len hi hP.2.1).1
    refine s_TapedLines_run_43 _ _ _ htr (by omega) (by omega) ?_
    rw [iI_le (by omega) (by omega) (by omega) (by omega), iI_add]
    refine ⟨fun q => by omega, fun _ => ⟨fun q => absurd h94 q, fun _ => ⟨_, k_perform (d := d + 8) hP hok hi h95 hR hg, ?_⟩⟩⟩
    rintro x1 M1 ⟨f1, g95, hq⟩
    have hP1 : cPr M1 pr := ⟨by rw [f1 10 (by decide)]; exact hP.1, hP.2.1, by rw [f1 11 (by decide)]; exact hP.2.2⟩
    have f01 := f.tr f1
    rw [runP, pr_get hi]
    rcases ed : doP pr i (pr[i]).2 s with er | ⟨j, s'⟩
    · rw [ed] at hq hgq
      obtain ⟨rfl, hb, hR1⟩ := hq
      refine ⟨fun x M' => x = iI 0 ∧ M' = q_up M1 9 4 (iI (10 + er)), s_Machine_settle_0 (d := d + 31) _ ?_, ?_⟩
      · rw [iI_0, iI_eq (by omega) (by omega) (by omega) (by omega), iI_add]
        exact ⟨fun q => by omega, fun _ => ⟨rfl, rfl⟩⟩
      · rintro x2 M2 ⟨rfl, rfl⟩
        have hfin : cEnd M0 pr (k, 10 + er, i, s) (iI k) (q_up M1 9 4 (iI (10 + er))) := ⟨rfl, q_up_s, by rw [q_up_k (by decide), g95, h95], hR1.keep (fun o ho => q_up_o (by simp at ho; omega)) (q_up_k (by decide)) (q_up_k (by decide)), f01.up (by decide)⟩
        refine ⟨fun _ => ?_, fun q => absurd rfl q⟩
        refine s_TapedLines_run_43 _ _ _ htr (by omega) (by omega) ⟨fun _ => hfin, fun _ => ⟨fun _ => hfin, fun q => ?_⟩⟩
        rw [q_up_s, iI_eq (by omega) (by omega) (by omega) (by omega)] at q
        omega
    · rw [ed] at hq hgq
      obtain ⟨rfl, g14, hR1⟩ := hq
      obtain ⟨hj, hg1⟩ := hgq
      have hjle := off_le pr j
      have hpl := hP.2.1
      refine ⟨fun x M' => x = iI 1 ∧ M' = q_up (q_up M1 9 5 (iI (off pr j))) 9 4 (iI (if j < pr.length then 1 else 2)), s_Machine_settle_0 (d := d + 31) _ ⟨fun _ => ⟨fun M' => M' = q_up (q_up M1 9 5 (iI (off pr j))) 9 4 (iI (if j < pr.length then 1 else 2)), s_Machine_arriveAt_0 _ ?_, fun M2 h2 => ⟨rfl, h2⟩⟩, fun q => absurd rfl q⟩, ?_⟩
      · rw [hP1.1, g14, iI_le (by omega) (by omega) (by omega) (by omega)]
        have := off_lt_iff hj
        refine ⟨fun q => ?_, fun q => ?_⟩
        · rw [if_neg (by omega)]
        · rw [if_pos (by omega)]
      · rintro x2 M2 ⟨rfl, rfl⟩
        have hR2 : cR (q_up (q_up M1 9 5 (iI (off pr j))) 9 4 (iI (if j < pr.length then 1 else 2))) pr s' := hR1.keep (fun o ho => by rw [q_up_o (by simp at ho; omega), q_up_o (by simp at ho; omega)]) (by rw [q_up_k (by decide), q_up_k (by decide)]) (by rw [q_up_k (by decide), q_up_k (by decide)])
        have f02 : fr cF M0 (q_up (q_up M1 9 5 (iI (off pr j))) 9 4 (iI (if j < pr.length then 1 else 2))) := (f01.up (by decide)).up (by decide)
        refine ⟨fun q => absurd q (by decide), fun _ => ?_⟩
        simp only
        by_cases hjl : j < pr.length
        · rw [if_pos hjl] at hR2 f02 ⊢
          rw [if_pos hjl]
          have hP2 : cPr (q_up (q_up M1 9 5 (iI (off pr j))) 9 4 (iI 1)) pr := ⟨by rw [q_up_o (by decide), q_up_o (by decide)]; exact hP1.1, hP1.2.1, by rw [q_up_o (by decide), q_up_o (by decide)]; exact hP1.2.2⟩
          exact ih (k + 1) j s' _ (by omega) hjl hP2 q_up_s (by rw [q_up_k (by decide), q_up_s]) hR2 hg1 f02
        · rw [if_neg hjl] at hR2 f02 ⊢
          rw [if_neg hjl]
          have hfin : cEnd M0 pr (k + 1, 2, j, s') (iI ((k : Int) + 1)) (q_up (q_up M1 9 5 (iI (off pr j))) 9 4 (iI 2)) := ⟨rfl, q_up_s, by rw [q_up_k (by decide), q_up_s], hR2, f02⟩
          refine s_TapedLines_run_43 _ _ _ htr (by omega) (by omega) ⟨fun _ => hfin, fun _ => ⟨fun _ => hfin, fun q => ?_⟩⟩
          rw [q_up_s] at q
          exact absurd (by decide) q
end CRun
