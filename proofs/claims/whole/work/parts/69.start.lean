def lw_gv : List Cond := flatC (Jvm.Cond.and given_1 narrow_1)
theorem lw_g {w : Cond} (n : Nat) (h : decide (lw_gv[n]? = some w) = true) : w ∈ lw_gv := List.mem_of_getElem? (of_decide_eq_true h)
theorem lw_tm {w : Cond} (n : Nat) (h : decide (lw_tbl[n]? = some w) = true) : w ∈ lw_tbl := List.mem_of_getElem? (of_decide_eq_true h)
set_option maxRecDepth 100000 in
theorem lw_NM : ∀ w ∈ NM, Cond.methodLinkNest w.1 w.2.1 w.2.2.1 w.2.2.2 ∈ lw_tbl := List.forall_mem_cons.mpr ⟨lw_tm 354 (by decide +kernel), List.forall_mem_cons.mpr ⟨lw_tm 381 (by decide +kernel), List.forall_mem_cons.mpr ⟨lw_tm 456 (by decide +kernel), List.forall_mem_cons.mpr ⟨lw_tm 459 (by decide +kernel), List.forall_mem_cons.mpr ⟨lw_tm 469 (by decide +kernel), List.forall_mem_cons.mpr ⟨lw_tm 543 (by decide +kernel), List.forall_mem_cons.mpr ⟨lw_tm 580 (by decide +kernel), List.forall_mem_cons.mpr ⟨lw_tm 757 (by decide +kernel), List.forall_mem_cons.mpr ⟨lw_tm 786 (by decide +kernel), List.forall_mem_cons.mpr ⟨lw_tm 795 (by decide +kernel), List.forall_mem_nil _⟩⟩⟩⟩⟩⟩⟩⟩⟩⟩
set_option maxRecDepth 100000 in
theorem lw_SR : ∀ w ∈ SR, Cond.stringRef w.1 w.2.1 w.2.2.1 ∈ lw_tbl := List.forall_mem_cons.mpr ⟨lw_tm 384 (by decide +kernel), List.forall_mem_cons.mpr ⟨lw_tm 385 (by decide +kernel), List.forall_mem_cons.mpr ⟨lw_tm 386 (by decide +kernel), List.forall_mem_cons.mpr ⟨lw_tm 387 (by decide +kernel), List.forall_mem_cons.mpr ⟨lw_tm 388 (by decide +kernel), List.forall_mem_cons.mpr ⟨lw_tm 389 (by decide +kernel), List.forall_mem_cons.mpr ⟨lw_tm 390 (by decide +kernel), List.forall_mem_cons.mpr ⟨lw_tm 391 (by decide +kernel), List.forall_mem_nil _⟩⟩⟩⟩⟩⟩⟩⟩
theorem lw_XC : ∀ w ∈ XC, Cond.castable w w ∈ lw_tbl := List.forall_mem_cons.mpr ⟨lw_tm 617 (by decide +kernel), List.forall_mem_cons.mpr ⟨lw_tm 704 (by decide +kernel), List.forall_mem_cons.mpr ⟨lw_tm 719 (by decide +kernel), List.forall_mem_nil _⟩⟩⟩
theorem lw_XD : ∀ w ∈ XD, Cond.declares w ∈ lw_tbl := List.forall_mem_cons.mpr ⟨lw_tm 618 (by decide +kernel), List.forall_mem_cons.mpr ⟨lw_tm 620 (by decide +kernel), List.forall_mem_cons.mpr ⟨lw_tm 622 (by decide +kernel), List.forall_mem_nil _⟩⟩⟩
theorem lw_XL : ∀ w ∈ XL, Cond.laysStatic w.1 w.2.1 w.2.2 ∈ lw_tbl := List.forall_mem_cons.mpr ⟨lw_tm 642 (by decide +kernel), List.forall_mem_cons.mpr ⟨lw_tm 644 (by decide +kernel), List.forall_mem_nil _⟩⟩
def lw_s (i : Nat) : Term := .string "TapedLines" (173 + 2 * i)
def lw_exP : List Nat := [41, 49, 59, 71, 80, 91, 102, 116]
def lw_coP : List Nat := [42, 50, 60, 72, 81, 92, 103, 117]
def lw_arP : List Nat := [43, 51, 61, 73, 82, 93, 104, 118]
def lw_leP : List Nat := [44, 52, 62, 74, 83, 94, 105, 119]
def lw_elP : List (List Nat) := [[45, 46, 47, 48], [53, 54, 55, 56, 57], [63, 64, 65, 66, 67, 68], [75, 76], [84, 85, 86], [95, 96], [106, 107, 108, 109], [120, 121, 122]]
def lw_neP : List (List Nat) := [[0, 0, 0, 0, 0, 0, 0, 0], [58, 0, 0, 0, 0, 0, 0, 0], [69, 70, 0, 0, 0, 0, 0, 0], [77, 78, 79, 0, 0, 0, 0, 0], [87, 88, 89, 90, 0, 0, 0, 0], [97, 98, 99, 100, 101, 0, 0, 0], [110, 111, 112, 113, 114, 115, 0, 0], [123, 124, 125, 126, 127, 128, 129, 0]]
set_option maxRecDepth 100000 in
theorem lw_strs : (List.range 8).all (fun i => decide (lw_gv[lw_exP.getD i 0]? = some (Cond.exactly (lw_s i) "java/lang/String")) && decide (lw_gv[lw_coP.getD i 0]? = some (Cond.eq (.field (lw_s i) "java/lang/String" "coder" "B") (.int 0))) && decide (lw_gv[lw_arP.getD i 0]? = some (Cond.arrayOf (.field (lw_s i) "java/lang/String" "value" "[B") .byte)) && decide (lw_gv[lw_leP.getD i 0]? = some (Cond.eq (.length (.field (lw_s i) "java/lang/String" "value" "[B")) (.int (Int32.ofNat (q_len.getD i 0))))) && (List.range (q_len.getD i 0)).all (fun j => decide (lw_gv[(lw_elP.getD i []).getD j 0]? = some (Cond.eq (.elem (.field (lw_s i) "java/lang/String" "value" "[B") (.int (Int32.ofNat j))) (.int ((q_byt.getD i []).getD j 0))))) && (List.range i).all (fun j => decide (lw_gv[(lw_neP.getD i []).getD j 0]? = some (Cond.not (Cond.eq (lw_s j) (lw_s i)))))) = true := by decide +kernel
theorem lw_noc {A B : String} {args : Array Value} {s : State} (h : (Cond.not (Cond.castable A B)).before args s = true) {a b : ClassId} (ha : s.vm.findClass A = some a) (hb : s.vm.findClass B = some b) : s.vm.assignable a b = false := by
  simp only [Cond.before, Cond.holds, Cond.value, ha, hb] at h
  simpa using h
theorem lw_arr {args : Array Value} {s : State} {ty : FieldType} (hty : ty = .int ∨ ty = .char ∨ ty = .long) (h : (Cond.arrayClass ty).before args s = true) : ∃ cA : ClassId, ArrOfT s cA ty ∧ va_RA s cA ty := by
  obtain ⟨cA, kA, comp, h1, h2, h3⟩ := Cond.arrayClass_spec h
  exact ⟨cA, fun n z => ⟨fun k h => (by cases h), kA, h2, comp, h3⟩, by rcases hty with rfl | rfl | rfl <;> exact h1⟩
set_option maxRecDepth 100000 in
theorem lw_insts : ∀ (ci : Nat) (r : vw_C), vwCl[ci]? = some r → Cond.instantiable r.1 r.2.2 ∈ WG := by
  intro ci r h
  have hl : ci < 8 := (List.getElem?_eq_some_iff.mp h).1
  have key : ∀ ci, ci < 8 → match vwCl[ci]? with
    | some r => Cond.instantiable r.1 r.2.2 ∈ WG
    | none => True := by
    intro ci hc
    match ci, hc with
    | 0, _ => exact q_w 197 (by decide +kernel)
    | 1, _ => exact q_w 142 (by decide +kernel)
    | 2, _ => exact q_w 174 (by decide +kernel)
    | 3, _ => exact q_w 180 (by decide +kernel)
    | 4, _ => exact q_w 123 (by decide +kernel)
    | 5, _ => exact q_w 279 (by decide +kernel)
    | 6, _ => exact q_w 115 (by decide +kernel)
    | 7, _ => exact q_w 891 (by decide +kernel)
  have h2 := key ci hl
  rw [h] at h2
  exact h2
theorem lw_K {s : State} {b L : Nat} {xs : Nat → Int32} (hts : ∀ w ∈ lw_tbl, w.before #[Value.ref b] s = true) (hgv : (Jvm.Cond.and given_1 narrow_1).before #[Value.ref b] s = true) (hX : va_X b L xs s s.heap) (hbl : b < s.heap.size) :
    ∃ (D : va_G) (tys : List (ClassId × FieldType)) (adK : Nat → Nat), va_K D vwCl tys s ∧ tys.map (fun q => q.2) = [.int, .char, .long] ∧ ∀ Γ : qG, Γ.1 = D → Γ.2.1 = tys → (∀ i, Γ.2.2.1 (60 + i) = adK i) → Γ.2.2.1 50 = b → Γ.2.2.2.1 = xs → Γ.2.2.2.2 = L → q_K Γ (fun q => s.heap.size ≤ q) s := by
  have hs : ∀ c ∈ lw_gv, c.before #[Value.ref b] s = true := flat_of_before _ hgv
  have hWG : ∀ w ∈ WG, w.before #[Value.ref b] s = true := fun w hw => hts w (List.mem_filter.mp hw).1
  have hA : ∀ a : Nat, a < s.heap.size → ¬ s.heap.size ≤ a := fun a h => by omega
  have hk : ∀ ci : Nat, ∃ q : ClassId × (Nat → Nat), ∀ r, vwCl[ci]? = some r → u_Kn s r.1 r.2.1 r.2.2 q.1 q.2 := by
    intro ci
    cases hr : vwCl[ci]? with
    | none => exact ⟨(0, fun _ => 0), fun r h => by cases h⟩
    | some r =>
      obtain ⟨cC, iS, h⟩ := u_known hWG (q_lays ci r hr) (hWG _ (lw_insts ci r hr))
      exact ⟨(cC, iS), fun r' h' => by cases h'; exact h⟩
  obtain ⟨f, hf⟩ := Classical.axiomOfChoice hk
  obtain ⟨cI, i1, i2⟩ := lw_arr (Or.inl rfl) (hWG _ (q_w 172 (by decide +kernel)))
  obtain ⟨cC, c1, c2⟩ := lw_arr (Or.inr (Or.inl rfl)) (hWG _ (q_w 140 (by decide +kernel)))
  obtain ⟨cJ, j1, j2⟩ := lw_arr (Or.inr (Or.inr rfl)) (hWG _ (q_w 1339 (by decide +kernel)))
  have hall := lw_strs
  have hat : ∀ i, i < 8 → _ := fun i hi => List.all_eq_true.mp hall i (List.mem_range.mpr hi)
  simp only [Bool.and_eq_true, decide_eq_true_eq] at hat
  have hno : ∀ i j : Nat, i < 8 → j < i → (Cond.not (Cond.eq (lw_s j) (lw_s i))).before #[Value.ref b] s = true := fun i j hi hj => hs _ (List.mem_of_getElem? (of_decide_eq_true (List.all_eq_true.mp (hat i hi).2 j (List.mem_range.mpr hj))))
  obtain ⟨adK, adV, hS, hE⟩ := vk_Sof (args := #[Value.ref b]) (s := s) (N := 8) (tm := lw_s) (len := q_len) (byt := q_byt) (A := fun q => s.heap.size ≤ q) (by decide) (fun i hi => hs _ (List.mem_of_getElem? (hat i hi).1.1.1.1.1)) (fun i hi => hs _ (List.mem_of_getElem? (hat i hi).1.1.1.1.2)) (fun i hi => hs _ (List.mem_of_getElem? (hat i hi).1.1.1.2)) (fun i hi => hs _ (List.mem_of_getElem? (hat i hi).1.1.2)) (fun i hi j hj => hs _ (List.mem_of_getElem? (of_decide_eq_true (List.all_eq_true.mp (hat i hi).1.2 j (List.mem_range.mpr hj)))))
    (fun i j hi hj hne => by
      rcases Nat.lt_or_gt_of_ne hne with h | h
      · exact Or.inl (hno j i hj h)
      · exact Or.inr (hno i j hi h)) hA
  have hKk : va_K (fun c => (f c).1, fun c => (f c).2) vwCl [(cI, .int), (cC, .char), (cJ, .long)] s := by
    refine ⟨fun c q hq => hf c q hq, fun k q hq => ?_⟩
    match k with
    | 0 => cases hq; exact ⟨i1, i2⟩
    | 1 => cases hq; exact ⟨c1, c2⟩
    | 2 => cases hq; exact ⟨j1, j2⟩
    | k + 3 => cases hq
  refine ⟨(fun c => (f c).1, fun c => (f c).2), [(cI, .int), (cC, .char), (cJ, .long)], adK, hKk, rfl, ?_⟩
  rintro ⟨D, tys, ad, xs', L'⟩ rfl rfl h60 h50 rfl rfl
  dsimp only at h60 h50
  refine ⟨hKk, rfl, (fun w hw => by cases hw), fun w hw => va_Nw.of rfl (hts _ (lw_NM w hw)), ⟨⟨adV, ?_⟩, fun w hw => ?_, ⟨?_, ?_, ?_⟩, ?_, ?_, ?_, ?_, ?_⟩, ?_⟩
  · have e : (fun i => ad (60 + i)) = adK := funext h60
    show vk_S 8 q_len q_byt (fun i => ad (60 + i)) adV _ s s.heap
    rw [e]
    exact hS
  · have key : ∀ w ∈ SR, ∃ i, i < 8 ∧ w.2.2.2 = i ∧ Term.string w.1 w.2.1 = lw_s i := by decide +kernel
    obtain ⟨i, hi, e1, e2⟩ := key w hw
    refine vk_R.of (A := #[Value.ref b]) (hts _ (lw_SR w hw)) ?_
    show (Term.string w.1 w.2.1).eval _ _ _ _ _ = some (.ref (ad (60 + w.2.2.2)))
    rw [e1, e2, h60]
    exact hE i hi
  · show va_X (ad 50) _ _ s s.heap
    rw [h50]
    exact hX
  · show ad 50 < _
    rw [h50]
    exact hbl
  · show ¬ s.heap.size ≤ ad 50
    rw [h50]
    omega
  · exact va_Zof (hts _ (lw_tm 401 (by decide +kernel))) (hts _ (lw_tm 102 (by decide +kernel))) (va_eqi (hs _ (lw_g 4 (by decide +kernel)))) hA
  · exact va_Zqof (hts _ (lw_XL ("java/lang/Throwable", "UNASSIGNED_STACK", "[Ljava/lang/StackTraceElement;") (by decide))) (hts _ (lw_tm 107 (by decide +kernel))) (hs _ (lw_g 9 (by decide +kernel))) hA
  · exact va_Zqof (hts _ (lw_XL ("java/lang/Throwable", "SUPPRESSED_SENTINEL", "Ljava/util/List;") (by decide))) (hts _ (lw_tm 107 (by decide +kernel))) (hs _ (lw_g 10 (by decide +kernel))) hA
  · intro q cell hq hc
    have := (Array.getElem?_eq_some_iff.mp hc).1
    omega
  · exact va_Zqof (hts _ (lw_tm 417 (by decide +kernel))) (hts _ (lw_tm 104 (by decide +kernel))) (hs _ (lw_g 5 (by decide +kernel))) hA
  · refine ⟨fun w hw => va_Nw.of rfl (hts _ (lw_XC w hw)), fun w hw => va_Nw.of rfl (hts _ (lw_XD w hw)), fun w hw => ?_, fun i j hij a b ha hb => ?_⟩
    · exact hts _ (lw_XL w hw)
    · simp only [XN, List.mem_cons, List.not_mem_nil, or_false, Prod.mk.injEq] at hij
      rcases hij with ⟨rfl, rfl⟩ | ⟨rfl, rfl⟩
      · exact lw_noc (hs _ (lw_g 30 (by decide +kernel))) ha hb
      · exact lw_noc (hs _ (lw_g 19 (by decide +kernel))) ha hb
