def q_A (Γ : qG) (sz : Nat) : Nat → Prop := fun q => (∃ o, o < oT.length ∧ q = Γ.2.2.1 o) ∨ sz ≤ q
def q_Pc (Γ : qG) (S : qS) (vs : List Value) (sz : Nat) : Array Value → State → Prop := fun a U => a = (vs.map (q_v Γ.2.2.1)).toArray ∧ U.heap.size = sz ∧ va_P Γ.1 vwCl (q_ws Γ S) U.heap ∧ va_D (q_A Γ sz) (q_ws Γ S) ∧ q_K Γ (q_A Γ sz) U
def q_rm (d r : Nat) : Room := { frames := d, cells := r, slots := 8 * r, locals := 40 * d }
def q_good (T : qT) : Prop := q_ok T = true ∧ Cond.code T.1 T.2.1 T.2.2.1 T.2.2.2.1 ∈ WG ∧ plainName T.1.cls = true ∧ T.2.2.1 ≤ 21
theorem q_sl_cat1 {vs : List Value} (h : ∀ v ∈ vs, v.category = 1) : lg_sl vs = vs.map Slot.val := by
  induction vs with
  | nil => rfl
  | cons v r ih =>
    have h1 := h v List.mem_cons_self
    have h2 := ih (fun w hw => h w (List.mem_cons_of_mem _ hw))
    unfold lg_sl at h2 ⊢
    rw [List.flatMap_cons, h2, if_neg (by omega)]
    rfl
theorem q_entry (ad : Nat → Nat) {vs : List Value} {n : Nat} (hc : ∀ v ∈ vs, v.category = 1) (hn : vs.length ≤ n) :
    q_lh ad (vs ++ List.replicate (n - vs.length) .null) n (lg_sl (vs.map (q_v ad)) ++ List.replicate (n - (lg_sl (vs.map (q_v ad))).length) Slot.unset).toArray := by
  have hc2 : ∀ v ∈ vs.map (q_v ad), v.category = 1 := by
    intro v hv
    obtain ⟨w, hw, rfl⟩ := List.mem_map.mp hv
    rw [q_v_cat]
    exact hc w hw
  have e := q_sl_cat1 hc2
  have hle : (lg_sl (vs.map (q_v ad))).length ≤ n := by rw [e, List.length_map, List.length_map]; exact hn
  have h1 := lv_entry (vs.map (q_v ad)) hle
  refine ⟨h1.1, by rw [List.length_append, List.length_replicate]; omega, h1.2.1, fun i v hv => ?_, fun i v hv hnn => ?_⟩
  · have hm := List.mem_of_getElem? hv
    rcases List.mem_append.mp hm with h | h
    · exact hc v h
    · rw [List.eq_of_mem_replicate h]; rfl
  · by_cases hi : i < vs.length
    · rw [List.getElem?_append_left hi] at hv
      rw [List.getElem?_toArray, e, List.getElem?_append_left (by rw [List.length_map, List.length_map]; exact hi), List.getElem?_map, List.getElem?_map, hv]
      rfl
    · rw [List.getElem?_append_right (by omega)] at hv
      exact absurd (List.eq_of_mem_replicate (List.mem_of_getElem? hv)) hnn
theorem q_met {l : Launch} {Γ : qG} {T : qT} {d r sz : Nat} {S : qS} {Q : qO → qS → Prop} {vs : List Value} (hg : q_good T) (hc : ∀ v ∈ vs, v.category = 1) (hn : vs.length ≤ T.2.2.1)
    (hno : ∀ ec S, ¬ Q (.inr ec) S) (hv : V l Γ T d r 0 (vs ++ List.replicate (T.2.2.1 - vs.length) .null) [] S Q) : Met l T.1 (Cond.code T.1 T.2.1 T.2.2.1 T.2.2.2.1 :: WG) (q_rm d r) (q_Pc Γ S vs sz) (q_Q Γ (q_A Γ sz) Q) r (8 * r) (q_A Γ sz) := by
  refine Met.ofW (cc := T.2.1) (maxL := T.2.2.1) (ret := T.2.2.2.1) hg.2.2.1 rfl ?_
  intro p e s m args below meth c s₁ B hml hp
  obtain ⟨rfl, hsz, hP, hD, hK⟩ := hp
  have hts := atoms_spec (ws := Cond.code T.1 T.2.1 T.2.2.1 T.2.2.2.1 :: WG) B.pre
  rw [lg_entry_eq]
  have hw := hv (q_A Γ sz) p e (q_rm d r) s m ((vs.map (q_v Γ.2.2.1)).toArray) below meth c s.heap [] 0 0 _ hg.1 ⟨B.exec, B.bytes, hml, B.returns, B.notSynchronized, findClass_of_methodNamed B.named, fun w h => hts w (List.mem_cons_of_mem _ h), hK, fun q h => Or.inr (by rw [← hsz]; exact h), Nat.le_refl _, Nat.le_refl _, Or.inr B.named⟩ ⟨hP, hD, va_S.rf⟩ (q_entry Γ.2.2.1 hc hn) (by show 0 + r ≤ r; omega) (by show 0 + 8 * r ≤ 8 * r; omega)
  intro Tt hT X
  obtain ⟨t, a1, b1⟩ := hw Tt hT X
  rcases b1 with b1 | ⟨ec, S2, b1, -⟩
  · exact ⟨t, a1, b1⟩
  · exact absurd b1 (hno ec S2)
theorem q_A_in {Γ : qG} {A : Nat → Prop} {s : State} {S : qS} {H : Heap} {locs : List Loc} (hW : q_W Γ A s S H locs) (hA : ∀ q, s.heap.size ≤ q → A q) : ∀ q, q_A Γ H.size q → A q := by
  intro q h
  rcases h with ⟨o, ho, rfl⟩ | h
  · exact hW.2.1.2 o _ (q_ws_get Γ S (List.getElem?_eq_getElem ho))
  · exact hA q (Nat.le_trans hW.2.2.1 h)
theorem q_at_ns {D : va_G} {cl : List vw_C} {q : Nat × va_E} {H : Heap} {cell : Cell} (h : va_at D cl q H) (hc : H[q.1]? = some cell) : cell.vm.isStatics = false := by
  obtain ⟨a, e⟩ := q
  rcases e with ⟨cA, n, x⟩ | ⟨ci, fs⟩
  · have h1 : H[a]? = some (vp_cell cA (n, x)) := h
    rw [h1] at hc
    cases hc
    rcases x with f | f | f | f | f <;> rfl
  · obtain ⟨r, h1, cell2, q1, q2, q3, q4⟩ := h
    have e2 := Option.some.inj (q1.symm.trans hc)
    rw [← e2, q3]
    rfl
theorem q_Xw_moved {s U : State} (h : q_Xw s) (hWU : s.WarmedH U.vm) (hc : ∀ (a : Nat) (cell : Cell), s.heap[a]? = some cell → cell.vm.isStatics = true → U.heap[a]? = some cell) : q_Xw U := by
  refine ⟨fun w hw => (h.1 w hw).warmC hWU, fun w hw => (h.2.1 w hw).warmD hWU, fun w hw => ?_, fun i j hij a b ha hb => by rw [hWU.alike.findClass] at ha hb; rw [hWU.alike.assignable]; exact h.2.2.2 i j hij a b ha hb⟩
  obtain ⟨c, k, i, f, a, cell, e1, e2, e3, e4, e5, e6, e7, e8, e9⟩ := Cond.laysStatic_spec (Cond.laysStatic_setVm hWU.alike (h.2.2.1 w hw))
  exact Cond.laysStatic_of (c := c) (i := i) (a := a) (k := k) (f := f) (cell := cell) e1 e2 e3 e4 (hc a cell e5 e6) e6 e7 e8 e9
theorem q_K.call {Γ : qG} {A : Nat → Prop} {s U : State} {S : qS} {H : Heap} {locs : List Loc} (hW : q_W Γ A s S H locs) (hA : ∀ q, s.heap.size ≤ q → A q) (h : q_K Γ A s) (hU : U.heap = H) (hWU : s.WarmedH U.vm) : q_K Γ (q_A Γ H.size) U := by
  obtain ⟨h1, h2, h3, h4, ⟨⟨adV, h5⟩, h6, ⟨h7, h8, h9⟩, h10, h11, h12, h13, h14⟩, hX⟩ := h
  have hk := hW.2.2.2.1
  have hn := q_A_in hW hA
  refine ⟨va_K.moved hWU.alike h1, h2, fun w hw => (h3 w hw).warmF hWU, fun w hw => (h4 w hw).warmM hWU, ⟨⟨adV, ?_⟩, fun w hw => (h6 w hw).warm hWU, ⟨?_, ?_, fun z => h9 (hn _ z)⟩, ?_, ?_, ?_, ?_, ?_⟩, q_Xw_moved hX hWU (fun a cell hc hs => by rw [hU]; rw [hk a (Array.getElem?_eq_some_iff.mp hc).1 (fun z => by rw [h13 a cell z hc] at hs; cases hs)]; exact hc)⟩
  all_goals rw [hU]
  · exact ((h5.kept hk).narrow hn).moved hWU.alike
  · exact (h7.kept (hk _ h8 h9)).moved hWU.alike
  · exact Nat.lt_of_lt_of_le h8 hW.2.2.1
  · exact ((h10.kept hk).narrow hn).moved hWU.alike
  · exact ((h11.kept hk).narrow hn).moved hWU.alike
  · exact ((h12.kept hk).narrow hn).moved hWU.alike
  · intro q cell hq hc
    rcases hq with ⟨o, ho, rfl⟩ | hq
    · exact q_at_ns (hW.1 o _ (q_ws_get Γ S (List.getElem?_eq_getElem ho))) hc
    · have := (Array.getElem?_eq_some_iff.mp hc).1
      omega
  · exact ((h14.kept hk).narrow hn).moved hWU.alike
theorem q_K.same {Γ : qG} {A : Nat → Prop} {s U : State} (hv : s.vm = U.vm) (hh : s.heap = U.heap) (h : q_K Γ A s) : q_K Γ A U := by
  obtain ⟨h1, h2, h3, h4, ⟨⟨adV, h5⟩, h6, ⟨h7, h8, h9⟩, h10, h11, h12, h13, h14⟩, hX⟩ := h
  have hal : s.vm.Alike U.vm := by rw [hv]; exact Vm.Alike.refl U.vm
  refine ⟨va_K.moved hal h1, h2, fun w hw => (h3 w hw).same rfl hv, fun w hw => (h4 w hw).same rfl hv, ⟨⟨adV, ?_⟩, fun w hw => (h6 w hw).same hv.symm, ⟨?_, ?_, h9⟩, ?_, ?_, ?_, ?_, ?_⟩, q_Xw_moved hX (by rw [← hv]; exact State.WarmedH.refl s) (fun a cell hc _ => by rw [← hh]; exact hc)⟩
  all_goals rw [← hh]
  · exact h5.moved hal
  · exact h7.moved hal
  · exact h8
  · exact h10.moved hal
  · exact h11.moved hal
  · exact h12.moved hal
  · exact h13
  · exact h14.moved hal
theorem q_ws_len (Γ : qG) (S : qS) : (q_ws Γ S).length = oT.length := by
  unfold q_ws
  rw [List.length_mapIdx]
theorem q_D_self {Γ : qG} {A : Nat → Prop} {S : qS} {sz : Nat} (hD : va_D A (q_ws Γ S)) : va_D (q_A Γ sz) (q_ws Γ S) := by
  refine ⟨hD.1, fun k q hk => Or.inl ⟨k, ?_, ?_⟩⟩
  · rw [← q_ws_len Γ S]; exact (List.getElem?_eq_some_iff.mp hk).1
  · have hlt : k < oT.length := by rw [← q_ws_len Γ S]; exact (List.getElem?_eq_some_iff.mp hk).1
    rw [q_ws_get Γ S (List.getElem?_eq_getElem hlt)] at hk
    cases hk
    rfl
theorem q_paid {T : qT} {args : Array Value} {s : State} (hc : Cond.code T.1 T.2.1 T.2.2.1 T.2.2.2.1 ∈ WG) (hts : ∀ w ∈ WG, w.before args s = true) : ∀ w ∈ (Cond.code T.1 T.2.1 T.2.2.1 T.2.2.2.1 :: WG : List Cond), ∀ (a' : Array Value) (U : State), s.WarmedH U.vm → w.before a' U = true :=
  pay_in hts (fun w hw => by
    rcases List.mem_cons.mp hw with rfl | h
    · exact ⟨hc, Or.inl rfl⟩
    · exact ⟨h, q_wgood w h⟩)
section Calls
variable {l : Launch} {Γ : qG} {T T2 : qT} {d r d2 r2 pc μ n o index : Nat} {ls As rest : List Value} {S : qS} {Q Q2 : qO → qS → Prop}
theorem q_after {A : Nat → Prop} {p : Program} {e : Env} {R : Room} {s : State} {m : MethodId} {args : Array Value} {below : List Frame} {meth : Method} {c : Code} {H : Heap} {locs : List Loc} {cells slots : Nat} {Lr : Array Slot} {st : List Value} {ar : Array Value}
    (hok : q_ok T = true) (hC : q_C Γ A T d p R s m args meth c) (hW : q_W Γ A s S H locs) (hL : q_lh Γ.2.2.1 ls T.2.2.1 Lr) (hc1 : cells + r ≤ R.cells) (hc2 : slots + 8 * r ≤ R.slots) (hr2 : r2 ≤ r)
    (hrun : va_Run p l e R s m args below meth c H locs cells slots r2 (8 * r2) (F0 m pc Lr st) (rest.map (q_v Γ.2.2.1)) (q_Q Γ (q_A Γ H.size) Q2 ar) (q_A Γ H.size))
    (hk : ∀ (v : Option Value) (S' : qS), Q2 (.inl v) S' → V l Γ T d (r - r2) (pc + 3) ls (v.toList ++ rest) S' Q) :
    W p l e R s m args below meth c H locs cells slots (q_E Γ A Q below args s R) (F0 m pc Lr st) := by
  intro Tt hT X
  obtain ⟨v, st0, t, T', L, h0, X', hL2, e1, e2, ⟨⟨v2, S2, hq, hv2, hP2, hD2⟩, hF1, hF2⟩, st1⟩ := hrun Tt hT X
  have hAin := q_A_in hW hC.2.2.2.2.2.2.2.2.1
  have hv3 : v = v2.map (q_v Γ.2.2.1) := by cases hv2; rfl
  subst hv3
  rw [h0] at hF1 hF2
  have hW2 : q_W Γ A s S2 T'.heap (locs ++ L) := by
    refine ⟨by rw [e1]; exact hP2, hD2.weaken (fun _ q _ h => hAin q.1 h), ?_, fun q h1 h2 => ?_, fun q hq => ?_⟩
    · rw [e1]; exact Nat.le_trans hW.2.2.1 hF1
    · rw [e1, hF2 q (Nat.lt_of_lt_of_le h1 hW.2.2.1) (fun z => h2 (hAin q z))]
      exact hW.2.2.2.1 q h1 h2
    · rcases List.mem_append.mp hq with h | h
      · exact hW.2.2.2.2 q h
      · exact hAin _ (hL2 q h)
  obtain ⟨t2, a1, b1⟩ := hk v2 S2 hq A p e R s m args below meth c T'.heap (locs ++ L) (cells + r2) (slots + 8 * r2) Lr hok hC hW2 hL (by omega) (by omega) T' rfl X'
  refine ⟨t2, st1 t2 ?_, b1⟩
  have e3 : (v2.toList ++ rest).map (q_v Γ.2.2.1) = (v2.map (q_v Γ.2.2.1)).toList ++ rest.map (q_v Γ.2.2.1) := by
    cases v2 <;> simp
  rw [← e3]
  exact a1
theorem q_rest (hcat : ∀ v ∈ rest, v.category = 1) (hlen : rest.length ≤ 8) (ad : Nat → Nat) : ((rest.map (q_v ad)).map fun v => v.category).sum ≤ 8 := by
  have h : ∀ (k : Nat) (q : List Value), (∀ v ∈ q, v.category = 1) → q.length ≤ k → ((q.map (q_v ad)).map fun v => v.category).sum ≤ k := by
    intro k q
    induction q generalizing k with
    | nil => intro _ _; simp
    | cons v w ih =>
      intro h1 h2
      have h3 := ih (k - 1) (fun z hz => h1 z (List.mem_cons_of_mem _ hz)) (by simp at h2; omega)
      simp only [List.map_cons, List.sum_cons, q_v_cat, h1 v List.mem_cons_self]
      simp at h2
      simp only [List.map_map] at h3 ⊢
      omega
  exact h 8 rest hcat hlen

theorem V.callV (hf : q_ft T.2.2.2.2 pc = some (.invokevirtual index, 3, μ, 0)) (hm : mN[μ]? = some (T2.1, n)) (hg : q_good T2) {ci : Nat} {ks : List Nat} {q : vw_C} (ho : oT[o]? = some (.inr (ci, ks))) (hcl : vwCl[ci]? = some q) (hcn : q.1 = T2.1.cls) (hn : As.length = n) (hmax : (.ref o :: As).length ≤ T2.2.2.1) (hcat : ∀ v ∈ As, v.category = 1) (hrcat : ∀ v ∈ rest, v.category = 1) (hrl : rest.length ≤ 8) (hd2 : d2 + 1 ≤ d) (hr2 : r2 ≤ r) (hno : ∀ ec S, ¬ Q2 (.inr ec) S)
    (hv : V l Γ T2 d2 r2 0 ((.ref o :: As) ++ List.replicate (T2.2.2.1 - (.ref o :: As).length) .null) [] S Q2) (hk : ∀ (v : Option Value) (S' : qS), Q2 (.inl v) S' → V l Γ T d (r - r2) (pc + 3) ls (v.toList ++ rest) S' Q) : V l Γ T d r pc ls (As.reverse ++ .ref o :: rest) S Q := by
  intro A p e R s m args below meth c H locs cells slots Lr hok hC hW hL hc1 hc2
  obtain ⟨hd, hrow⟩ := q_ok_at hok hf
  dsimp only at hd
  have hC' := hC
  obtain ⟨hx, hb, hml, hr, hlk, hown, hts, hK, hA, hfr, hlo, hnm⟩ := hC
  simp only [q_row, q_rowG, Nat.beq_eq, Bool.and_eq_true] at hrow
  obtain ⟨w2, w4, w5, hwv⟩ := q_iv_spec hrow.2 hm (by decide)
  simp only [q_wv, Bool.and_eq_true, decide_eq_true_eq] at hwv
  obtain ⟨⟨w1, w3a⟩, w3b⟩ := hwv
  have w1 := q_in_spec w1
  have w3 := And.intro (q_in_spec w3a) (q_in_spec w3b)
  obtain ⟨g1, g2, g3, g4⟩ := hg
  have hcat2 : ∀ v ∈ (.ref o :: As : List Value), v.category = 1 := fun v hv => by rcases List.mem_cons.mp hv with rfl | h; rfl; exact hcat v h
  have hM := q_met (sz := H.size) ⟨g1, g2, g3, g4⟩ hcat2 hmax hno hv
  have hPc : ∀ U : State, U.heap = H → s.WarmedH U.vm → q_Pc Γ S (.ref o :: As) H.size ((.ref o :: As).map (q_v Γ.2.2.1)).toArray U := fun U hU hWU => ⟨rfl, by rw [hU], by rw [hU]; exact hW.1, q_D_self hW.2.1, hK.call hW hA hU hWU⟩
  have hbl : FrameBlind (q_Pc Γ S (.ref o :: As) H.size) := fun a U g mk q => ⟨q.1, q.2.1, q.2.2.1, q.2.2.2.1, q_K.same (s := U) (U := U.calling g mk a) rfl rfl q.2.2.2.2⟩
  have hlen2 : (As.map (q_v Γ.2.2.1)).length = n := by rw [List.length_map]; exact hn
  have hfr2 : (q_rm d2 r2).frames + 1 ≤ R.frames := Nat.le_trans hd2 hfr
  have hlo2 : 8 + (T2.2.2.1 + 11) + (q_rm d2 r2).locals ≤ R.locals := by show 8 + (T2.2.2.1 + 11) + 40 * d2 ≤ R.locals; omega
  have hpaid := q_paid g2 hts
  have hsig : ∀ sig, parseMethodDescriptor T2.1.desc = some sig → n = sig.parameters.length := fun sig h => by rw [h] at w5; exact (Option.some.inj w5).symm
  obtain ⟨cellB, z1, z2, z3⟩ := va_recv hK.1 hW.1 hcl (q_ws_get Γ S ho)
  have hrun := va_runV (C := T2.1.cls) (bytes := T2.2.1) (maxL := T2.2.2.1) (ret := T2.2.2.2.1) (b := Γ.2.2.1 o) (As := As.map (q_v Γ.2.2.1)) (rest := rest.map (q_v Γ.2.2.1)) (g := F0 m pc Lr ((As.reverse ++ .ref o :: rest).map (q_v Γ.2.2.1))) (locs := locs) (cells := cells) (slots := slots) (below := below) (meth := meth) (e := e) ⟨hx, hb, hml, hown, hts⟩ hM ⟨⟨rfl, rfl, hfr2, hlo2, hpaid, List.mem_cons_self, hts _ g2, hts _ w2, w4, hsig, hts _ w1⟩, hts _ w3.1, hts _ w3.2⟩ ⟨hbl, ⟨cellB, z1, z2, by rw [← hcn]; exact z3⟩, hPc⟩ rfl hlen2 hL.1 (by rw [List.map_append, List.map_reverse]; rfl) (lv_room (q_rest hrcat hrl Γ.2.2.1)) hd ⟨by omega, by omega⟩
  exact q_after hok hC' hW hL hc1 hc2 hr2 hrun hk
theorem V.callVN (hf : q_ft T.2.2.2.2 pc = some (.invokevirtual index, 3, μ, 1)) (hm : mN[μ]? = some (T2.1, n)) (hg : q_good T2) {ci : Nat} {ks : List Nat} {q : vw_C} (ho : oT[o]? = some (.inr (ci, ks))) (hcl : vwCl[ci]? = some q) (hcn : q.1 = T2.1.cls) (hn : As.length = n) (hmax : (.ref o :: As).length ≤ T2.2.2.1) (hcat : ∀ v ∈ As, v.category = 1) (hrcat : ∀ v ∈ rest, v.category = 1) (hrl : rest.length ≤ 8) (hd2 : d2 + 1 ≤ d) (hr2 : r2 ≤ r) (hno : ∀ ec S, ¬ Q2 (.inr ec) S)
    (hv : V l Γ T2 d2 r2 0 ((.ref o :: As) ++ List.replicate (T2.2.2.1 - (.ref o :: As).length) .null) [] S Q2) (hk : ∀ (v : Option Value) (S' : qS), Q2 (.inl v) S' → V l Γ T d (r - r2) (pc + 3) ls (v.toList ++ rest) S' Q) : V l Γ T d r pc ls (As.reverse ++ .ref o :: rest) S Q := by
  intro A p e R s m args below meth c H locs cells slots Lr hok hC hW hL hc1 hc2
  obtain ⟨hd, hrow⟩ := q_ok_at hok hf
  dsimp only at hd
  have hC' := hC
  obtain ⟨hx, hb, hml, hr, hlk, hown, hts, hK, hA, hfr, hlo, hnm⟩ := hC
  simp only [q_row, q_rowG, Nat.beq_eq, Bool.and_eq_true] at hrow
  obtain ⟨w2, w4, w5, hwv⟩ := q_iv_spec hrow.2 hm (by decide)
  simp only [q_wv, Bool.and_eq_true, decide_eq_true_eq] at hwv
  obtain ⟨⟨w1, w3a⟩, w3b⟩ := hwv
  have w3 := And.intro (q_in_spec w3a) (q_in_spec w3b)
  obtain ⟨g1, g2, g3, g4⟩ := hg
  have hcat2 : ∀ v ∈ (.ref o :: As : List Value), v.category = 1 := fun v hv => by rcases List.mem_cons.mp hv with rfl | h; rfl; exact hcat v h
  have hM := q_met (sz := H.size) ⟨g1, g2, g3, g4⟩ hcat2 hmax hno hv
  have hPc : ∀ U : State, U.heap = H → s.WarmedH U.vm → q_Pc Γ S (.ref o :: As) H.size ((.ref o :: As).map (q_v Γ.2.2.1)).toArray U := fun U hU hWU => ⟨rfl, by rw [hU], by rw [hU]; exact hW.1, q_D_self hW.2.1, hK.call hW hA hU hWU⟩
  have hbl : FrameBlind (q_Pc Γ S (.ref o :: As) H.size) := fun a U g mk q => ⟨q.1, q.2.1, q.2.2.1, q.2.2.2.1, q_K.same (s := U) (U := U.calling g mk a) rfl rfl q.2.2.2.2⟩
  have hlen2 : (As.map (q_v Γ.2.2.1)).length = n := by rw [List.length_map]; exact hn
  have hfr2 : (q_rm d2 r2).frames + 1 ≤ R.frames := Nat.le_trans hd2 hfr
  have hlo2 : 8 + (T2.2.2.1 + 11) + (q_rm d2 r2).locals ≤ R.locals := by show 8 + (T2.2.2.1 + 11) + 40 * d2 ≤ R.locals; omega
  have hpaid := q_paid g2 hts
  have hsig : ∀ sig, parseMethodDescriptor T2.1.desc = some sig → n = sig.parameters.length := fun sig h => by rw [h] at w5; exact (Option.some.inj w5).symm
  obtain ⟨cellB, z1, z2, z3⟩ := va_recv hK.1 hW.1 hcl (q_ws_get Γ S ho)
  have hrun := va_runVN (C := T2.1.cls) (host := q_host) (bytes := T2.2.1) (maxL := T2.2.2.1) (ret := T2.2.2.2.1) (b := Γ.2.2.1 o) (As := As.map (q_v Γ.2.2.1)) (rest := rest.map (q_v Γ.2.2.1)) (g := F0 m pc Lr ((As.reverse ++ .ref o :: rest).map (q_v Γ.2.2.1))) (locs := locs) (cells := cells) (slots := slots) (below := below) (meth := meth) (e := e) ⟨hx, hb, hml, hown, hts⟩ hM ⟨⟨⟨rfl, rfl, hfr2, hlo2, hpaid, List.mem_cons_self⟩, hts _ g2, hts _ w2, w4, hsig, va_Nw.use rfl (hK.2.2.2.1 _ w1)⟩, hts _ w3.1, hts _ w3.2⟩ ⟨hbl, ⟨cellB, z1, z2, by rw [← hcn]; exact z3⟩, hPc⟩ rfl hlen2 hL.1 (by rw [List.map_append, List.map_reverse]; rfl) (lv_room (q_rest hrcat hrl Γ.2.2.1)) hd ⟨by omega, by omega⟩
  exact q_after hok hC' hW hL hc1 hc2 hr2 hrun hk
theorem V.callS (hf : q_ft T.2.2.2.2 pc = some (.invokestatic index, 3, μ, 2)) (hm : mN[μ]? = some (T2.1, n)) (hg : q_good T2) (hn : As.length = n) (hmax : (As).length ≤ T2.2.2.1) (hcat : ∀ v ∈ As, v.category = 1) (hrcat : ∀ v ∈ rest, v.category = 1) (hrl : rest.length ≤ 8) (hd2 : d2 + 1 ≤ d) (hr2 : r2 ≤ r) (hno : ∀ ec S, ¬ Q2 (.inr ec) S)
    (hv : V l Γ T2 d2 r2 0 ((As) ++ List.replicate (T2.2.2.1 - (As).length) .null) [] S Q2) (hk : ∀ (v : Option Value) (S' : qS), Q2 (.inl v) S' → V l Γ T d (r - r2) (pc + 3) ls (v.toList ++ rest) S' Q) : V l Γ T d r pc ls (As.reverse ++ rest) S Q := by
  intro A p e R s m args below meth c H locs cells slots Lr hok hC hW hL hc1 hc2
  obtain ⟨hd, hrow⟩ := q_ok_at hok hf
  dsimp only at hd
  have hC' := hC
  obtain ⟨hx, hb, hml, hr, hlk, hown, hts, hK, hA, hfr, hlo, hnm⟩ := hC
  simp only [q_row, q_rowG, Nat.beq_eq, Bool.and_eq_true] at hrow
  obtain ⟨w2, w4, w5, hwv⟩ := q_iv_spec hrow.2 hm (by decide)
  simp only [q_wv, Bool.and_eq_true, decide_eq_true_eq] at hwv
  obtain ⟨w1, w3⟩ := hwv
  have w1 := q_in_spec w1
  have w3 := q_in_spec w3
  obtain ⟨g1, g2, g3, g4⟩ := hg
  have hM := q_met (sz := H.size) ⟨g1, g2, g3, g4⟩ hcat hmax hno hv
  have hPc : ∀ U : State, U.heap = H → s.WarmedH U.vm → q_Pc Γ S As H.size (As.map (q_v Γ.2.2.1)).toArray U := fun U hU hWU => ⟨rfl, by rw [hU], by rw [hU]; exact hW.1, q_D_self hW.2.1, hK.call hW hA hU hWU⟩
  have hbl : FrameBlind (q_Pc Γ S As H.size) := fun a U g mk q => ⟨q.1, q.2.1, q.2.2.1, q.2.2.2.1, q_K.same (s := U) (U := U.calling g mk a) rfl rfl q.2.2.2.2⟩
  have hlen2 : (As.map (q_v Γ.2.2.1)).length = n := by rw [List.length_map]; exact hn
  have hfr2 : (q_rm d2 r2).frames + 1 ≤ R.frames := Nat.le_trans hd2 hfr
  have hlo2 : 8 + (T2.2.2.1 + 11) + (q_rm d2 r2).locals ≤ R.locals := by show 8 + (T2.2.2.1 + 11) + 40 * d2 ≤ R.locals; omega
  have hpaid := q_paid g2 hts
  have hsig : ∀ sig, parseMethodDescriptor T2.1.desc = some sig → n = sig.parameters.length := fun sig h => by rw [h] at w5; exact (Option.some.inj w5).symm
  have hrun := va_runS (bytes := T2.2.1) (maxL := T2.2.2.1) (ret := T2.2.2.2.1) (As := As.map (q_v Γ.2.2.1)) (rest := rest.map (q_v Γ.2.2.1)) (g := F0 m pc Lr ((As.reverse ++ rest).map (q_v Γ.2.2.1))) (locs := locs) (cells := cells) (slots := slots) (below := below) (meth := meth) (e := e) ⟨hx, hb, hml, hown, hts⟩ hM ⟨⟨rfl, rfl, hfr2, hlo2, hpaid, List.mem_cons_self, hts _ g2, hts _ w2, w4, hsig, hts _ w1⟩, hts _ w3⟩ ⟨hbl, hPc⟩ rfl hlen2 hL.1 (by rw [List.map_append, List.map_reverse]) (lv_room (q_rest hrcat hrl Γ.2.2.1)) hd ⟨by omega, by omega⟩
  exact q_after hok hC' hW hL hc1 hc2 hr2 hrun hk
theorem V.callSN (hf : q_ft T.2.2.2.2 pc = some (.invokestatic index, 3, μ, 3)) (hm : mN[μ]? = some (T2.1, n)) (hg : q_good T2) (hn : As.length = n) (hmax : (As).length ≤ T2.2.2.1) (hcat : ∀ v ∈ As, v.category = 1) (hrcat : ∀ v ∈ rest, v.category = 1) (hrl : rest.length ≤ 8) (hd2 : d2 + 1 ≤ d) (hr2 : r2 ≤ r) (hno : ∀ ec S, ¬ Q2 (.inr ec) S)
    (hv : V l Γ T2 d2 r2 0 ((As) ++ List.replicate (T2.2.2.1 - (As).length) .null) [] S Q2) (hk : ∀ (v : Option Value) (S' : qS), Q2 (.inl v) S' → V l Γ T d (r - r2) (pc + 3) ls (v.toList ++ rest) S' Q) : V l Γ T d r pc ls (As.reverse ++ rest) S Q := by
  intro A p e R s m args below meth c H locs cells slots Lr hok hC hW hL hc1 hc2
  obtain ⟨hd, hrow⟩ := q_ok_at hok hf
  dsimp only at hd
  have hC' := hC
  obtain ⟨hx, hb, hml, hr, hlk, hown, hts, hK, hA, hfr, hlo, hnm⟩ := hC
  simp only [q_row, q_rowG, Nat.beq_eq, Bool.and_eq_true] at hrow
  obtain ⟨w2, w4, w5, hwv⟩ := q_iv_spec hrow.2 hm (by decide)
  simp only [q_wv, Bool.and_eq_true, decide_eq_true_eq] at hwv
  obtain ⟨w1, w3⟩ := hwv
  have w3 := q_in_spec w3
  obtain ⟨g1, g2, g3, g4⟩ := hg
  have hM := q_met (sz := H.size) ⟨g1, g2, g3, g4⟩ hcat hmax hno hv
  have hPc : ∀ U : State, U.heap = H → s.WarmedH U.vm → q_Pc Γ S As H.size (As.map (q_v Γ.2.2.1)).toArray U := fun U hU hWU => ⟨rfl, by rw [hU], by rw [hU]; exact hW.1, q_D_self hW.2.1, hK.call hW hA hU hWU⟩
  have hbl : FrameBlind (q_Pc Γ S As H.size) := fun a U g mk q => ⟨q.1, q.2.1, q.2.2.1, q.2.2.2.1, q_K.same (s := U) (U := U.calling g mk a) rfl rfl q.2.2.2.2⟩
  have hlen2 : (As.map (q_v Γ.2.2.1)).length = n := by rw [List.length_map]; exact hn
  have hfr2 : (q_rm d2 r2).frames + 1 ≤ R.frames := Nat.le_trans hd2 hfr
  have hlo2 : 8 + (T2.2.2.1 + 11) + (q_rm d2 r2).locals ≤ R.locals := by show 8 + (T2.2.2.1 + 11) + 40 * d2 ≤ R.locals; omega
  have hpaid := q_paid g2 hts
  have hsig : ∀ sig, parseMethodDescriptor T2.1.desc = some sig → n = sig.parameters.length := fun sig h => by rw [h] at w5; exact (Option.some.inj w5).symm
  have hrun := va_runSN (host := q_host) (bytes := T2.2.1) (maxL := T2.2.2.1) (ret := T2.2.2.2.1) (As := As.map (q_v Γ.2.2.1)) (rest := rest.map (q_v Γ.2.2.1)) (g := F0 m pc Lr ((As.reverse ++ rest).map (q_v Γ.2.2.1))) (locs := locs) (cells := cells) (slots := slots) (below := below) (meth := meth) (e := e) ⟨hx, hb, hml, hown, hts⟩ hM ⟨⟨⟨rfl, rfl, hfr2, hlo2, hpaid, List.mem_cons_self⟩, hts _ g2, hts _ w2, w4, hsig, va_Nw.use rfl (hK.2.2.2.1 _ w1)⟩, hts _ w3, trivial⟩ ⟨hbl, hPc⟩ rfl hlen2 hL.1 (by rw [List.map_append, List.map_reverse]) (lv_room (q_rest hrcat hrl Γ.2.2.1)) hd ⟨by omega, by omega⟩
  exact q_after hok hC' hW hL hc1 hc2 hr2 hrun hk
def q_i (L : Nat → Int64) (P : Int32 → qM → Prop) : qO → qS → Prop := fun o S => ∃ (x : Int32) (M : qM), o = .inl (some (.int x)) ∧ S = (M, L) ∧ P x M
def q_n (L : Nat → Int64) (P : qM → Prop) : qO → qS → Prop := fun o S => ∃ M : qM, o = .inl none ∧ S = (M, L) ∧ P M
theorem V.callVi {Pk : Int32 → qM → Prop} {M : qM} {L : Nat → Int64} (hf : q_ft T.2.2.2.2 pc = some (.invokevirtual index, 3, μ, 0)) (hm : mN[μ]? = some (T2.1, n)) (hg : q_good T2) {ci : Nat} {ks : List Nat} {q : vw_C} (ho : oT[o]? = some (.inr (ci, ks))) (hcl : vwCl[ci]? = some q) (hcn : q.1 = T2.1.cls) (hn : As.length = n) (hmax : (.ref o :: As).length ≤ T2.2.2.1) (hcat : ∀ v ∈ As, v.category = 1) (hrcat : ∀ v ∈ rest, v.category = 1) (hrl : rest.length ≤ 8) (hd2 : d2 + 1 ≤ d)
    (hv : V l Γ T2 d2 0 0 ((.ref o :: As) ++ List.replicate (T2.2.2.1 - (.ref o :: As).length) .null) [] (M, L) (q_i L Pk)) (hk : ∀ (x : Int32) (M' : qM), Pk x M' → V l Γ T d r (pc + 3) ls (.int x :: rest) (M', L) Q) : V l Γ T d r pc ls (As.reverse ++ .ref o :: rest) (M, L) Q := by
  refine V.callV hf hm hg ho hcl hcn hn hmax hcat hrcat hrl hd2 (Nat.zero_le r) (fun ec S h => by obtain ⟨_, _, h, -⟩ := h; cases h) hv (fun v S' h => ?_)
  obtain ⟨x, M', h1, rfl, h2⟩ := h
  cases h1
  exact hk x M' h2
theorem V.callVv {Pk : qM → Prop} {M : qM} {L : Nat → Int64} (hf : q_ft T.2.2.2.2 pc = some (.invokevirtual index, 3, μ, 0)) (hm : mN[μ]? = some (T2.1, n)) (hg : q_good T2) {ci : Nat} {ks : List Nat} {q : vw_C} (ho : oT[o]? = some (.inr (ci, ks))) (hcl : vwCl[ci]? = some q) (hcn : q.1 = T2.1.cls) (hn : As.length = n) (hmax : (.ref o :: As).length ≤ T2.2.2.1) (hcat : ∀ v ∈ As, v.category = 1) (hrcat : ∀ v ∈ rest, v.category = 1) (hrl : rest.length ≤ 8) (hd2 : d2 + 1 ≤ d)
    (hv : V l Γ T2 d2 0 0 ((.ref o :: As) ++ List.replicate (T2.2.2.1 - (.ref o :: As).length) .null) [] (M, L) (q_n L Pk)) (hk : ∀ (M' : qM), Pk M' → V l Γ T d r (pc + 3) ls rest (M', L) Q) : V l Γ T d r pc ls (As.reverse ++ .ref o :: rest) (M, L) Q := by
  refine V.callV hf hm hg ho hcl hcn hn hmax hcat hrcat hrl hd2 (Nat.zero_le r) (fun ec S h => by obtain ⟨_, h, -⟩ := h; cases h) hv (fun v S' h => ?_)
  obtain ⟨M', h1, rfl, h2⟩ := h
  cases h1
  exact hk M' h2
theorem V.callVNi {Pk : Int32 → qM → Prop} {M : qM} {L : Nat → Int64} (hf : q_ft T.2.2.2.2 pc = some (.invokevirtual index, 3, μ, 1)) (hm : mN[μ]? = some (T2.1, n)) (hg : q_good T2) {ci : Nat} {ks : List Nat} {q : vw_C} (ho : oT[o]? = some (.inr (ci, ks))) (hcl : vwCl[ci]? = some q) (hcn : q.1 = T2.1.cls) (hn : As.length = n) (hmax : (.ref o :: As).length ≤ T2.2.2.1) (hcat : ∀ v ∈ As, v.category = 1) (hrcat : ∀ v ∈ rest, v.category = 1) (hrl : rest.length ≤ 8) (hd2 : d2 + 1 ≤ d)
    (hv : V l Γ T2 d2 0 0 ((.ref o :: As) ++ List.replicate (T2.2.2.1 - (.ref o :: As).length) .null) [] (M, L) (q_i L Pk)) (hk : ∀ (x : Int32) (M' : qM), Pk x M' → V l Γ T d r (pc + 3) ls (.int x :: rest) (M', L) Q) : V l Γ T d r pc ls (As.reverse ++ .ref o :: rest) (M, L) Q := by
  refine V.callVN hf hm hg ho hcl hcn hn hmax hcat hrcat hrl hd2 (Nat.zero_le r) (fun ec S h => by obtain ⟨_, _, h, -⟩ := h; cases h) hv (fun v S' h => ?_)
  obtain ⟨x, M', h1, rfl, h2⟩ := h
  cases h1
  exact hk x M' h2
theorem V.callVNv {Pk : qM → Prop} {M : qM} {L : Nat → Int64} (hf : q_ft T.2.2.2.2 pc = some (.invokevirtual index, 3, μ, 1)) (hm : mN[μ]? = some (T2.1, n)) (hg : q_good T2) {ci : Nat} {ks : List Nat} {q : vw_C} (ho : oT[o]? = some (.inr (ci, ks))) (hcl : vwCl[ci]? = some q) (hcn : q.1 = T2.1.cls) (hn : As.length = n) (hmax : (.ref o :: As).length ≤ T2.2.2.1) (hcat : ∀ v ∈ As, v.category = 1) (hrcat : ∀ v ∈ rest, v.category = 1) (hrl : rest.length ≤ 8) (hd2 : d2 + 1 ≤ d)
    (hv : V l Γ T2 d2 0 0 ((.ref o :: As) ++ List.replicate (T2.2.2.1 - (.ref o :: As).length) .null) [] (M, L) (q_n L Pk)) (hk : ∀ (M' : qM), Pk M' → V l Γ T d r (pc + 3) ls rest (M', L) Q) : V l Γ T d r pc ls (As.reverse ++ .ref o :: rest) (M, L) Q := by
  refine V.callVN hf hm hg ho hcl hcn hn hmax hcat hrcat hrl hd2 (Nat.zero_le r) (fun ec S h => by obtain ⟨_, h, -⟩ := h; cases h) hv (fun v S' h => ?_)
  obtain ⟨M', h1, rfl, h2⟩ := h
  cases h1
  exact hk M' h2
theorem V.callSi {Pk : Int32 → qM → Prop} {M : qM} {L : Nat → Int64} (hf : q_ft T.2.2.2.2 pc = some (.invokestatic index, 3, μ, 2)) (hm : mN[μ]? = some (T2.1, n)) (hg : q_good T2) (hn : As.length = n) (hmax : (As).length ≤ T2.2.2.1) (hcat : ∀ v ∈ As, v.category = 1) (hrcat : ∀ v ∈ rest, v.category = 1) (hrl : rest.length ≤ 8) (hd2 : d2 + 1 ≤ d)
    (hv : V l Γ T2 d2 0 0 ((As) ++ List.replicate (T2.2.2.1 - (As).length) .null) [] (M, L) (q_i L Pk)) (hk : ∀ (x : Int32) (M' : qM), Pk x M' → V l Γ T d r (pc + 3) ls (.int x :: rest) (M', L) Q) : V l Γ T d r pc ls (As.reverse ++ rest) (M, L) Q := by
  refine V.callS hf hm hg hn hmax hcat hrcat hrl hd2 (Nat.zero_le r) (fun ec S h => by obtain ⟨_, _, h, -⟩ := h; cases h) hv (fun v S' h => ?_)
  obtain ⟨x, M', h1, rfl, h2⟩ := h
  cases h1
  exact hk x M' h2
theorem V.callSv {Pk : qM → Prop} {M : qM} {L : Nat → Int64} (hf : q_ft T.2.2.2.2 pc = some (.invokestatic index, 3, μ, 2)) (hm : mN[μ]? = some (T2.1, n)) (hg : q_good T2) (hn : As.length = n) (hmax : (As).length ≤ T2.2.2.1) (hcat : ∀ v ∈ As, v.category = 1) (hrcat : ∀ v ∈ rest, v.category = 1) (hrl : rest.length ≤ 8) (hd2 : d2 + 1 ≤ d)
    (hv : V l Γ T2 d2 0 0 ((As) ++ List.replicate (T2.2.2.1 - (As).length) .null) [] (M, L) (q_n L Pk)) (hk : ∀ (M' : qM), Pk M' → V l Γ T d r (pc + 3) ls rest (M', L) Q) : V l Γ T d r pc ls (As.reverse ++ rest) (M, L) Q := by
  refine V.callS hf hm hg hn hmax hcat hrcat hrl hd2 (Nat.zero_le r) (fun ec S h => by obtain ⟨_, h, -⟩ := h; cases h) hv (fun v S' h => ?_)
  obtain ⟨M', h1, rfl, h2⟩ := h
  cases h1
  exact hk M' h2
theorem V.callSNi {Pk : Int32 → qM → Prop} {M : qM} {L : Nat → Int64} (hf : q_ft T.2.2.2.2 pc = some (.invokestatic index, 3, μ, 3)) (hm : mN[μ]? = some (T2.1, n)) (hg : q_good T2) (hn : As.length = n) (hmax : (As).length ≤ T2.2.2.1) (hcat : ∀ v ∈ As, v.category = 1) (hrcat : ∀ v ∈ rest, v.category = 1) (hrl : rest.length ≤ 8) (hd2 : d2 + 1 ≤ d)
    (hv : V l Γ T2 d2 0 0 ((As) ++ List.replicate (T2.2.2.1 - (As).length) .null) [] (M, L) (q_i L Pk)) (hk : ∀ (x : Int32) (M' : qM), Pk x M' → V l Γ T d r (pc + 3) ls (.int x :: rest) (M', L) Q) : V l Γ T d r pc ls (As.reverse ++ rest) (M, L) Q := by
  refine V.callSN hf hm hg hn hmax hcat hrcat hrl hd2 (Nat.zero_le r) (fun ec S h => by obtain ⟨_, _, h, -⟩ := h; cases h) hv (fun v S' h => ?_)
  obtain ⟨x, M', h1, rfl, h2⟩ := h
  cases h1
  exact hk x M' h2
theorem V.callSNv {Pk : qM → Prop} {M : qM} {L : Nat → Int64} (hf : q_ft T.2.2.2.2 pc = some (.invokestatic index, 3, μ, 3)) (hm : mN[μ]? = some (T2.1, n)) (hg : q_good T2) (hn : As.length = n) (hmax : (As).length ≤ T2.2.2.1) (hcat : ∀ v ∈ As, v.category = 1) (hrcat : ∀ v ∈ rest, v.category = 1) (hrl : rest.length ≤ 8) (hd2 : d2 + 1 ≤ d)
    (hv : V l Γ T2 d2 0 0 ((As) ++ List.replicate (T2.2.2.1 - (As).length) .null) [] (M, L) (q_n L Pk)) (hk : ∀ (M' : qM), Pk M' → V l Γ T d r (pc + 3) ls rest (M', L) Q) : V l Γ T d r pc ls (As.reverse ++ rest) (M, L) Q := by
  refine V.callSN hf hm hg hn hmax hcat hrcat hrl hd2 (Nat.zero_le r) (fun ec S h => by obtain ⟨_, h, -⟩ := h; cases h) hv (fun v S' h => ?_)
  obtain ⟨M', h1, rfl, h2⟩ := h
  cases h1
  exact hk M' h2
end Calls
