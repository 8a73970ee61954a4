theorem q_sl_ne {M : qM} {o o' k : Nat} {v : Int32} (h : o' ≠ o) : q_sl (q_up M o k v) o' = q_sl M o' := by
  funext j kd
  match kd with
  | 0 => simp only [q_sl, q_up_ne h]
  | 1 => simp only [q_sl, q_up_ne h]
  | 2 => simp only [q_sl, q_up_ne h]
  | t + 3 => rfl
theorem q_en_ne {Γ : qG} {M : qM} {L : Nat → Int64} {o o' k : Nat} {v : Int32} (h : o' ≠ o) (y : (Nat × Nat) ⊕ (Nat × List Nat)) : q_en Γ (q_up M o k v, L) o' y = q_en Γ (M, L) o' y := by
  rcases y with ⟨t, n⟩ | ⟨ci, ks⟩
  · match t with
    | 0 => simp only [q_en, q_up_ne h]
    | 1 => simp only [q_en, q_up_ne h]
    | 2 => rfl
    | t + 3 => simp only [q_en, q_up_ne h]
  · simp only [q_en, q_sl_ne h]
theorem q_en_put {Γ : qG} {M : qM} {L : Nat → Int64} {o a kd : Nat} {v : Int32} {w : Value} (ci : Nat) (ks : List Nat) (hk : ks[a]? = some kd) (hw : q_sl (q_up M o a v) o a kd = w) :
    q_en Γ (q_up M o a v, L) o (.inr (ci, ks)) = .inr (ci, (ks.mapIdx (fun k kd => q_v Γ.2.2.1 (q_sl M o k kd))).set a (q_v Γ.2.2.1 w)) := by
  simp only [q_en]
  congr 2
  apply List.ext_getElem?
  intro j
  rw [List.getElem?_mapIdx, List.getElem?_set, List.length_mapIdx, List.getElem?_mapIdx]
  by_cases hj : a = j
  · subst hj
    rw [if_pos rfl, if_pos (List.getElem?_eq_some_iff.mp hk).1, hk, ← hw]
    rfl
  · rw [if_neg hj]
    cases ks[j]? with
    | none => rfl
    | some kd2 =>
      have e : q_sl (q_up M o a v) o j kd2 = q_sl M o j kd2 := by
        have e2 : q_up M o a v o j = M o j := by
          simp only [q_up, va_up, if_pos, if_neg (fun q => hj (Eq.symm q))]
        match kd2 with
        | 0 => simp only [q_sl, e2]
        | 1 => simp only [q_sl, e2]
        | 2 => simp only [q_sl, e2]
        | t + 3 => rfl
      simp only [Option.map_some, e]
-- what a plain step says
section Specs
variable {pc k a b pc' : Nat} {ls st ls' st' : List Value} {S S' : qS}
theorem q_ldi_spec (h : q_ldi pc k ls st S = some (pc', ls', st', S')) : ∃ v, ls[k]? = some (.int v) ∧ pc = pc' ∧ ls = ls' ∧ .int v :: st = st' ∧ S = S' := by
  unfold q_ldi at h
  split at h
  next v hv =>
    simp only [Option.some.injEq, Prod.mk.injEq] at h
    exact ⟨v, hv, h.1, h.2.1, h.2.2.1, h.2.2.2⟩
  next => cases h
theorem q_lda_spec (h : q_lda pc k ls st S = some (pc', ls', st', S')) : ∃ v, ls[k]? = some (.ref v) ∧ pc = pc' ∧ ls = ls' ∧ .ref v :: st = st' ∧ S = S' := by
  unfold q_lda at h
  split at h
  next v hv =>
    simp only [Option.some.injEq, Prod.mk.injEq] at h
    exact ⟨v, hv, h.1, h.2.1, h.2.2.1, h.2.2.2⟩
  next => cases h
theorem q_sti_spec (h : q_sti pc k ls st S = some (pc', ls', st', S')) : ∃ v, st = .int v :: st' ∧ pc = pc' ∧ ls.set k (.int v) = ls' ∧ S = S' := by
  unfold q_sti at h
  split at h
  next v r =>
    simp only [Option.some.injEq, Prod.mk.injEq] at h
    exact ⟨v, by rw [h.2.2.1], h.1, h.2.1, h.2.2.2⟩
  next => cases h
theorem q_sta_spec (h : q_sta pc k ls st S = some (pc', ls', st', S')) : ∃ v, st = .ref v :: st' ∧ pc = pc' ∧ ls.set k (.ref v) = ls' ∧ S = S' := by
  unfold q_sta at h
  split at h
  next v r =>
    simp only [Option.some.injEq, Prod.mk.injEq] at h
    exact ⟨v, by rw [h.2.2.1], h.1, h.2.1, h.2.2.2⟩
  next => cases h
theorem q_bin_spec {f : Int32 → Int32 → Int32} (h : q_bin f pc ls st S = some (pc', ls', st', S')) : ∃ x y r, st = .int y :: .int x :: r ∧ pc = pc' ∧ ls = ls' ∧ .int (f x y) :: r = st' ∧ S = S' := by
  unfold q_bin at h
  split at h
  next y x r =>
    simp only [Option.some.injEq, Prod.mk.injEq] at h
    exact ⟨x, y, r, rfl, h.1, h.2.1, h.2.2.1, h.2.2.2⟩
  next => cases h
theorem q_un_spec {f : Int32 → Int32} (h : q_un f pc ls st S = some (pc', ls', st', S')) : ∃ x r, st = .int x :: r ∧ pc = pc' ∧ ls = ls' ∧ .int (f x) :: r = st' ∧ S = S' := by
  unfold q_un at h
  split at h
  next x r =>
    simp only [Option.some.injEq, Prod.mk.injEq] at h
    exact ⟨x, r, rfl, h.1, h.2.1, h.2.2.1, h.2.2.2⟩
  next => cases h
theorem q_inc_spec {n : Int} (h : q_inc pc k n ls st S = some (pc', ls', st', S')) : ∃ v, ls[k]? = some (.int v) ∧ pc = pc' ∧ ls.set k (.int (v + iI n)) = ls' ∧ st = st' ∧ S = S' := by
  unfold q_inc at h
  split at h
  next v hv =>
    simp only [Option.some.injEq, Prod.mk.injEq] at h
    exact ⟨v, hv, h.1, h.2.1, h.2.2.1, h.2.2.2⟩
  next => cases h
theorem q_gf_spec (h : q_gf pc a b ls st S = some (pc', ls', st', S')) : ∃ o r ks kd, st = .ref o :: r ∧ oT[o]? = some (.inr (b, ks)) ∧ ks[a]? = some kd ∧ pc = pc' ∧ ls = ls' ∧ q_sl S.1 o a kd :: r = st' ∧ S = S' := by
  unfold q_gf at h
  split at h
  next o r =>
    split at h
    next ci ks ho =>
      split at h
      next kd hb hk =>
        simp only [Option.some.injEq, Prod.mk.injEq] at h
        have e := Nat.eq_of_beq_eq_true hb
        subst e
        exact ⟨o, r, ks, kd, rfl, ho, hk, h.1, h.2.1, h.2.2.1, h.2.2.2⟩
      next => cases h
    next => cases h
  next => cases h
theorem q_pf_spec (h : q_pf pc a b ls st S = some (pc', ls', st', S')) : ∃ (o : Nat) (v : Value) (w : Int32) (ks : List Nat) (kd : Nat), st = v :: .ref o :: st' ∧ oT[o]? = some (.inr (b, ks)) ∧ ks[a]? = some kd ∧ pc = pc' ∧ ls = ls' ∧ (q_up S.1 o a w, S.2) = S' ∧ q_sl (q_up S.1 o a w) o a kd = v ∧ ((kd = 0 ∧ v = .int w) ∨ (kd = 1 ∧ ∃ t, v = .ref t)) := by
  have hu : ∀ (o : Nat) (w : Int32), q_up S.1 o a w o a = w := fun o w => by simp [q_up, va_up]
  unfold q_pf at h
  split at h
  next v o r =>
    split at h
    next ci ks ho =>
      split at h
      next hb hk =>
        simp only [Option.some.injEq, Prod.mk.injEq] at h
        have e := Nat.eq_of_beq_eq_true hb
        subst e
        obtain ⟨h1, h2, h3, h4⟩ := h
        subst h3
        exact ⟨o, .int v, v, ks, 0, rfl, ho, hk, h1, h2, h4, by simp only [q_sl, hu], Or.inl ⟨rfl, rfl⟩⟩
      next => cases h
    next => cases h
  next t o r =>
    split at h
    next ci ks ho =>
      split at h
      next hb hk ht =>
        simp only [Option.some.injEq, Prod.mk.injEq] at h
        have e := Nat.eq_of_beq_eq_true hb
        subst e
        obtain ⟨h1, h2, h3, h4⟩ := h
        subst h3
        refine ⟨o, .ref t, Int32.ofNat t, ks, 1, rfl, ho, hk, h1, h2, h4, ?_, Or.inr ⟨rfl, t, rfl⟩⟩
        have ht2 : t < 2 ^ 31 := by
          have := Nat.blt_eq.mp ht
          omega
        simp only [q_sl, hu]
        exact congrArg Value.ref (nI_clamp ht2)
      next => cases h
    next => cases h
  next => cases h
end Specs
theorem q_i8 {n : Int} (h1 : -128 ≤ n) (h2 : n ≤ 127) : (Int8.ofInt n).toInt32 = iI n := by
  unfold iI
  apply Int32.toInt_inj.mp
  rw [Int8.toInt_toInt32, Int8.toInt_ofInt_of_le (by omega) (by omega), Int32.toInt_ofInt_of_le (by omega) (by omega)]
theorem q_i16 {n : Int} (h1 : -32768 ≤ n) (h2 : n ≤ 32767) : (Int16.ofInt n).toInt32 = iI n := by
  unfold iI
  apply Int32.toInt_inj.mp
  rw [Int16.toInt_toInt32, Int16.toInt_ofInt_of_le (by omega) (by omega), Int32.toInt_ofInt_of_le (by omega) (by omega)]
-- the judgement
def q_St (Γ : qG) (A : Nat → Prop) (U : State) (H : Heap) : Prop := (∃ adV : Nat → Nat, vk_S 8 q_len q_byt (fun i => Γ.2.2.1 (60 + i)) adV A U H) ∧ (∀ w ∈ SR, vk_R w.1 w.2.1 w.2.2.1 (Γ.2.2.1 (60 + w.2.2.2)) U) ∧ (va_X (Γ.2.2.1 50) Γ.2.2.2.2 Γ.2.2.2.1 U H ∧ Γ.2.2.1 50 < H.size ∧ ¬ A (Γ.2.2.1 50)) ∧
  va_Z "java/lang/String" "COMPACT_STRINGS" "Z" (.int 1) A U H ∧ va_Zq "java/lang/Throwable" "UNASSIGNED_STACK" "[Ljava/lang/StackTraceElement;" A U H ∧ va_Zq "java/lang/Throwable" "SUPPRESSED_SENTINEL" "Ljava/util/List;" A U H ∧ (∀ (q : Nat) (cell : Cell), A q → H[q]? = some cell → cell.vm.isStatics = false) ∧ va_Zq "jdk/internal/util/Preconditions" "SIOOBE_FORMATTER" "Ljava/util/function/BiFunction;" A U H
/-- words on exceptions that no list of good words holds -/
def q_Xw (U : State) : Prop := (∀ w ∈ XC, va_Nw (Cond.castable w w) U) ∧ (∀ w ∈ XD, va_Nw (Cond.declares w) U) ∧ (∀ w ∈ XL, (Cond.laysStatic w.1 w.2.1 w.2.2).before #[] U = true) ∧ ∀ (i j : Nat), (i, j) ∈ XN → ∀ (a b : ClassId), U.vm.findClass (q_exn i) = some a → U.vm.findClass (q_exn j) = some b → U.vm.assignable a b = false
def q_K (Γ : qG) (A : Nat → Prop) (s : State) : Prop := va_K Γ.1 vwCl Γ.2.1 s ∧ Γ.2.1.map (fun q => q.2) = [.int, .char, .long] ∧ (∀ w ∈ NF, va_Nw (Cond.fieldLinkNest w.1 w.2.1 w.2.2.1 w.2.2.2.1 w.2.2.2.2.1 w.2.2.2.2.2) s) ∧ (∀ w ∈ NM, va_Nw (Cond.methodLinkNest w.1 w.2.1 w.2.2.1 w.2.2.2) s) ∧ q_St Γ A s s.heap ∧ q_Xw s
def q_C (Γ : qG) (A : Nat → Prop) (T : qT) (d : Nat) (p : Program) (R : Room) (s : State) (m : MethodId) (args : Array Value) (meth : Method) (c : Code) : Prop :=
  p.tables.exec = Jvm.exec ∧ c.code = T.2.1 ∧ c.maxLocals = T.2.2.1 ∧ meth.sig.returnType = T.2.2.2.1 ∧ meth.locks = false ∧ s.vm.findClass T.1.cls = some m.cls ∧ (∀ w ∈ WG, w.before args s = true) ∧ q_K Γ A s ∧ (∀ q, s.heap.size ≤ q → A q) ∧ d ≤ R.frames ∧ 40 * d ≤ R.locals ∧ (T.1.cls = "TapedLinesLaw" ∨ s.methodNamed? T.1 = some m)
def q_W (Γ : qG) (A : Nat → Prop) (s : State) (S : qS) (H : Heap) (locs : List Loc) : Prop := va_P Γ.1 vwCl (q_ws Γ S) H ∧ va_D A (q_ws Γ S) ∧ va_S A s.heap H locs
def q_Q (Γ : qG) (A : Nat → Prop) (Q : qO → qS → Prop) : Array Value → State → Outcome → State → Prop := fun _ st oc t =>
  (∃ (v : Option Value) (S : qS), Q (.inl v) S ∧ oc = .returned (v.map (q_v Γ.2.2.1)) ∧ va_P Γ.1 vwCl (q_ws Γ S) t.heap ∧ va_D A (q_ws Γ S)) ∧ va_F A st t
def q_thrown (Γ : qG) (A : Nat → Prop) (ec : Nat) (S : qS) (below : List Frame) (s : State) (R : Room) (t : State) : Prop := ∃ (a : Addr) (cell : Cell), t.status = .running ∧ Ended t below (.threw a) ∧ s.WarmedH t.vm ∧ (∃ L : List Loc, s.sameButNew ({ t with vm := s.vm } : State) L R.cells R.slots ∧ ∀ q ∈ L, A q.base) ∧ t.heap[a]? = some cell ∧ (∀ k, cell.vm ≠ .statics k) ∧ t.vm.findClass (q_exn ec) = some cell.cls ∧ va_P Γ.1 vwCl (q_ws Γ S) t.heap ∧ va_D A (q_ws Γ S) ∧ va_F A s t
def q_E (Γ : qG) (A : Nat → Prop) (Q : qO → qS → Prop) (below : List Frame) (args : Array Value) (s : State) (R : Room) : State → Prop := fun t => MQ below (q_Q Γ A Q) args s R.cells R.slots A t ∨ ∃ (ec : Nat) (S : qS), Q (.inr ec) S ∧ q_thrown Γ A ec S below s R t
def V (l : Launch) (Γ : qG) (T : qT) (d r pc : Nat) (ls st : List Value) (S : qS) (Q : qO → qS → Prop) : Prop :=
  ∀ (A : Nat → Prop) (p : Program) (e : Env) (R : Room) (s : State) (m : MethodId) (args : Array Value) (below : List Frame) (meth : Method) (c : Code) (H : Heap) (locs : List Loc) (cells slots : Nat) (Lr : Array Slot),
    q_ok T = true → q_C Γ A T d p R s m args meth c → q_W Γ A s S H locs → q_lh Γ.2.2.1 ls T.2.2.1 Lr → cells + r ≤ R.cells → slots + 8 * r ≤ R.slots →
    W p l e R s m args below meth c H locs cells slots (q_E Γ A Q below args s R) (F0 m pc Lr (st.map (q_v Γ.2.2.1)))
theorem q_fl_spec {own : String} {index a b : Nat} (h : q_fl own index a b = true) : ∃ (C : String) (Tt : u_T) (N : Nat), vwCl[b]? = some (C, Tt, N) ∧ a < N ∧ (Cond.fieldLink own index (Tt a).1 (Tt a).2.1 (Tt a).2.2.1 ∈ WG ∨ ∃ host, (own, index, (Tt a).1, (Tt a).2.1, (Tt a).2.2.1, host) ∈ NF) := by
  unfold q_fl at h
  split at h
  next C Tt N hc =>
    simp only [Bool.and_eq_true, Bool.or_eq_true, decide_eq_true_eq, Nat.blt_eq] at h
    refine ⟨C, Tt, N, hc, h.1, ?_⟩
    rcases h.2 with h2 | h2
    · exact Or.inl (q_in_spec h2)
    · exact Or.inr ⟨q_host, h2⟩
  next => cases h
section Rows
variable {l : Launch} {Γ : qG} {T : qT} {d r pc pc' : Nat} {ls st ls' st' : List Value} {S S' : qS} {Q : qO → qS → Prop}
set_option maxHeartbeats 4000000 in
set_option maxRecDepth 100000 in
theorem V.stp {x : qIn} (hf : q_ft T.2.2.2.2 pc = some x) (hs : q_stp x pc ls st S = some (pc', ls', st', S')) (k : V l Γ T d r pc' ls' st' S' Q) : V l Γ T d r pc ls st S Q := by
  intro A p e R s m args below meth c H locs cells slots Lr hok hC hW hL hc1 hc2
  obtain ⟨hd, hrow⟩ := q_ok_at hok hf
  obtain ⟨i, len, a, b⟩ := x
  have K : ∀ (H' : Heap) (locs' : List Loc) (Lr' : Array Slot), q_W Γ A s S' H' locs' → q_lh Γ.2.2.1 ls' T.2.2.1 Lr' → W p l e R s m args below meth c H' locs' cells slots (q_E Γ A Q below args s R) (F0 m pc' Lr' (st'.map (q_v Γ.2.2.1))) :=
    fun H' locs' Lr' hW' hL' => k A p e R s m args below meth c H' locs' cells slots Lr' hok hC hW' hL' hc1 hc2
  clear k
  obtain ⟨hx, hb, hml, hr, hlk, hown, hts, hK, hA, hfr, hlo, hnm⟩ := hC
  dsimp only at hd
  cases i
  case iconst n =>
    simp only [q_row, q_rowG, Nat.beq_eq] at hrow
    subst hrow
    simp only [q_stp, Option.some.injEq, Prod.mk.injEq] at hs
    obtain ⟨rfl, rfl, rfl, rfl⟩ := hs
    exact lv_iconst hx hb hd rfl (K H locs Lr hW hL)
  case bipush n =>
    simp only [q_row, q_rowG, Nat.beq_eq, Bool.and_eq_true, decide_eq_true_eq] at hrow
    obtain ⟨⟨rfl, h1⟩, h2⟩ := hrow
    simp only [q_stp, Option.some.injEq, Prod.mk.injEq] at hs
    obtain ⟨rfl, rfl, rfl, rfl⟩ := hs
    exact lv_bipush hx hb hd (q_i8 h1 h2) (K H locs Lr hW hL)
  case sipush n =>
    simp only [q_row, q_rowG, Nat.beq_eq, Bool.and_eq_true, decide_eq_true_eq] at hrow
    obtain ⟨⟨rfl, h1⟩, h2⟩ := hrow
    simp only [q_stp, Option.some.injEq, Prod.mk.injEq] at hs
    obtain ⟨rfl, rfl, rfl, rfl⟩ := hs
    exact lv_sipush hx hb hd (q_i16 h1 h2) (K H locs Lr hW hL)
  case iload_n n =>
    simp only [q_row, q_rowG, Nat.beq_eq] at hrow
    subst hrow
    obtain ⟨v, hv, rfl, rfl, rfl, rfl⟩ := q_ldi_spec hs
    exact lv_iload_n hx hb hd rfl (hL.at hv (fun q => by cases q)) (K H locs Lr hW hL)
  case iload n =>
    simp only [q_row, q_rowG, Nat.beq_eq] at hrow
    subst hrow
    obtain ⟨v, hv, rfl, rfl, rfl, rfl⟩ := q_ldi_spec hs
    exact lv_iload hx hb hd (hL.at hv (fun q => by cases q)) (K H locs Lr hW hL)
  case aload_n n =>
    simp only [q_row, q_rowG, Nat.beq_eq] at hrow
    subst hrow
    obtain ⟨v, hv, rfl, rfl, rfl, rfl⟩ := q_lda_spec hs
    exact lv_aload_n hx hb hd rfl (hL.at hv (fun q => by cases q)) (K H locs Lr hW hL)
  case aload n =>
    simp only [q_row, q_rowG, Nat.beq_eq] at hrow
    subst hrow
    obtain ⟨v, hv, rfl, rfl, rfl, rfl⟩ := q_lda_spec hs
    exact lv_aload hx hb hd (hL.at hv (fun q => by cases q)) (K H locs Lr hW hL)
  case istore_n n =>
    simp only [q_row, q_rowG, Nat.beq_eq, Bool.and_eq_true, Nat.blt_eq] at hrow
    obtain ⟨rfl, hn⟩ := hrow
    obtain ⟨v, rfl, rfl, rfl, rfl⟩ := q_sti_spec hs
    exact lv_istore_n hx hb hd rfl hL.has hn rfl (fun L2 h2 => K H locs L2 hW (hL.set (v := .int v) rfl h2))
  case istore n =>
    simp only [q_row, q_rowG, Nat.beq_eq, Bool.and_eq_true, Nat.blt_eq] at hrow
    obtain ⟨rfl, hn⟩ := hrow
    obtain ⟨v, rfl, rfl, rfl, rfl⟩ := q_sti_spec hs
    exact lv_istore hx hb hd hL.has hn rfl (fun L2 h2 => K H locs L2 hW (hL.set (v := .int v) rfl h2))
  case astore_n n =>
    simp only [q_row, q_rowG, Nat.beq_eq, Bool.and_eq_true, Nat.blt_eq] at hrow
    obtain ⟨rfl, hn⟩ := hrow
    obtain ⟨v, rfl, rfl, rfl, rfl⟩ := q_sta_spec hs
    exact lv_astore_n hx hb hd rfl hL.has hn rfl (fun L2 h2 => K H locs L2 hW (hL.set (v := .ref v) rfl h2))
  case astore n =>
    simp only [q_row, q_rowG, Nat.beq_eq, Bool.and_eq_true, Nat.blt_eq] at hrow
    obtain ⟨rfl, hn⟩ := hrow
    obtain ⟨v, rfl, rfl, rfl, rfl⟩ := q_sta_spec hs
    exact lv_astore hx hb hd hL.has hn rfl (fun L2 h2 => K H locs L2 hW (hL.set (v := .ref v) rfl h2))
  case iinc n z =>
    simp only [q_row, q_rowG, Nat.beq_eq, Bool.and_eq_true, Nat.blt_eq] at hrow
    obtain ⟨rfl, hn⟩ := hrow
    obtain ⟨v, hv, rfl, rfl, rfl, rfl⟩ := q_inc_spec hs
    obtain ⟨j, hj⟩ := List.getElem?_of_mem (q_prs_mem.mpr ⟨hn, .int v, hv, (fun q => by cases q), rfl⟩ : (n, q_v Γ.2.2.1 (.int v)) ∈ q_prs Γ.2.2.1 ls T.2.2.1)
    exact lv_iinc (k := j) hx hb hd hL.has hj rfl hn rfl (fun L2 h2 => K H locs L2 hW (hL.set (v := .int (v + iI z)) rfl h2))
  case iadd =>
    simp only [q_row, q_rowG, Nat.beq_eq] at hrow
    subst hrow
    obtain ⟨x, y, q, rfl, rfl, rfl, rfl, rfl⟩ := q_bin_spec hs
    exact lv_iadd hx hb hd (K H locs Lr hW hL)
  case isub =>
    simp only [q_row, q_rowG, Nat.beq_eq] at hrow
    subst hrow
    obtain ⟨x, y, q, rfl, rfl, rfl, rfl, rfl⟩ := q_bin_spec hs
    exact lv_isub hx hb hd (K H locs Lr hW hL)
  case imul =>
    simp only [q_row, q_rowG, Nat.beq_eq] at hrow
    subst hrow
    obtain ⟨x, y, q, rfl, rfl, rfl, rfl, rfl⟩ := q_bin_spec hs
    exact lv_imul hx hb hd (K H locs Lr hW hL)
  case iand =>
    simp only [q_row, q_rowG, Nat.beq_eq] at hrow
    subst hrow
    obtain ⟨x, y, q, rfl, rfl, rfl, rfl, rfl⟩ := q_bin_spec hs
    exact lv_iand hx hb hd (K H locs Lr hW hL)
  case ior =>
    simp only [q_row, q_rowG, Nat.beq_eq] at hrow
    subst hrow
    obtain ⟨x, y, q, rfl, rfl, rfl, rfl, rfl⟩ := q_bin_spec hs
    exact lv_ior hx hb hd (K H locs Lr hW hL)
  case ishl =>
    simp only [q_row, q_rowG, Nat.beq_eq] at hrow
    subst hrow
    obtain ⟨x, y, q, rfl, rfl, rfl, rfl, rfl⟩ := q_bin_spec hs
    exact lv_ishl hx hb hd (K H locs Lr hW hL)
  case ishr =>
    simp only [q_row, q_rowG, Nat.beq_eq] at hrow
    subst hrow
    obtain ⟨x, y, q, rfl, rfl, rfl, rfl, rfl⟩ := q_bin_spec hs
    exact lv_ishr hx hb hd (K H locs Lr hW hL)
  case iushr =>
    simp only [q_row, q_rowG, Nat.beq_eq] at hrow
    subst hrow
    obtain ⟨x, y, q, rfl, rfl, rfl, rfl, rfl⟩ := q_bin_spec hs
    exact lv_iushr hx hb hd rfl (K H locs Lr hW hL)
  case ineg =>
    simp only [q_row, q_rowG, Nat.beq_eq] at hrow
    subst hrow
    obtain ⟨x, q, rfl, rfl, rfl, rfl, rfl⟩ := q_un_spec hs
    exact lv_ineg hx hb hd (K H locs Lr hW hL)
  case i2s =>
    simp only [q_row, q_rowG, Nat.beq_eq] at hrow
    subst hrow
    obtain ⟨x, q, rfl, rfl, rfl, rfl, rfl⟩ := q_un_spec hs
    exact lv_i2s hx hb hd rfl (K H locs Lr hW hL)
  case i2c =>
    simp only [q_row, q_rowG, Nat.beq_eq] at hrow
    subst hrow
    obtain ⟨x, q, rfl, rfl, rfl, rfl, rfl⟩ := q_un_spec hs
    exact lv_i2c hx hb hd rfl (K H locs Lr hW hL)
  case dup =>
    simp only [q_row, q_rowG, Nat.beq_eq] at hrow
    subst hrow
    dsimp only [q_stp] at hs
    split at hs
    next v q => (simp only [Option.some.injEq, Prod.mk.injEq] at hs; obtain ⟨rfl, rfl, rfl, rfl⟩ := hs; exact lv_dup hx hb hd rfl (K H locs Lr hW hL))
    next v q => (simp only [Option.some.injEq, Prod.mk.injEq] at hs; obtain ⟨rfl, rfl, rfl, rfl⟩ := hs; exact lv_dup hx hb hd rfl (K H locs Lr hW hL))
    next => cases hs
  case pop =>
    simp only [q_row, q_rowG, Nat.beq_eq] at hrow
    subst hrow
    dsimp only [q_stp] at hs
    split at hs
    next v q => (simp only [Option.some.injEq, Prod.mk.injEq] at hs; obtain ⟨rfl, rfl, rfl, rfl⟩ := hs; exact lv_pop hx hb hd rfl (K H locs Lr hW hL))
    next v q => (simp only [Option.some.injEq, Prod.mk.injEq] at hs; obtain ⟨rfl, rfl, rfl, rfl⟩ := hs; exact lv_pop hx hb hd rfl (K H locs Lr hW hL))
    next => cases hs
  case goto off =>
    simp only [q_row, q_rowG, Nat.beq_eq, Bool.and_eq_true, decide_eq_true_eq] at hrow
    obtain ⟨rfl, h1⟩ := hrow
    simp only [q_stp, Option.some.injEq, Prod.mk.injEq] at hs
    obtain ⟨rfl, rfl, rfl, rfl⟩ := hs
    exact lv_goto hx hb hd h1 (K H locs Lr hW hL)
  case getfield index =>
    simp only [q_row, q_rowG, Nat.beq_eq, Bool.and_eq_true, decide_eq_true_eq] at hrow
    obtain ⟨rfl, h1⟩ := hrow
    obtain ⟨C, Tt, N, hc, ha, hlink⟩ := q_fl_spec h1
    obtain ⟨o, q, ks, kd, rfl, ho, hk, rfl, rfl, rfl, rfl⟩ := q_gf_spec hs
    have he := q_ws_get Γ S ho
    have hv : (ks.mapIdx (fun k kd => q_v Γ.2.2.1 (q_sl S.1 o k kd)))[a]? = some (q_v Γ.2.2.1 (q_sl S.1 o a kd)) := by rw [List.getElem?_mapIdx, hk]; rfl
    rcases hlink with hlink | ⟨host, hlink⟩
    · exact va_get (ref := (Tt a).1) hx hb hts (q_lays b _ hc) hown hK.1 hW.1 o he hc a ha (hts _ hlink) (fun _ h9 => h9) hv hd (K H locs Lr hW hL)
    · exact va_getN (ref := (Tt a).1) (host := host) hx hb hts (q_lays b _ hc) hown hK.1 hW.1 o he hc a ha (va_Nw.use rfl (hK.2.2.1 _ hlink)) (fun _ h9 => h9) hv hd (K H locs Lr hW hL)
  case putfield index =>
    simp only [q_row, q_rowG, Nat.beq_eq, Bool.and_eq_true] at hrow
    obtain ⟨⟨rfl, h1⟩, h2⟩ := hrow
    obtain ⟨C, Tt, N, hc, ha, hlink⟩ := q_fl_spec h1
    rw [hc] at h2
    have hfin : (Tt a).2.2.2 = false := by simpa using h2
    obtain ⟨o, v, w, ks, kd, rfl, ho, hk, rfl, rfl, rfl, hsl, hkd⟩ := q_pf_spec hs
    have he := q_ws_get Γ S ho
    obtain ⟨ty, hty, hnar, hfit⟩ := q_types b _ hc o ks ho a kd hk v hkd
    have hset := q_ws_set (Γ := Γ) (S := S) (S' := (q_up S.1 o a w, S.2)) ho (fun o' y hne _ => q_en_ne hne y)
    rw [q_en_put b ks hk hsl] at hset
    have hl : a < (ks.mapIdx (fun k kd => q_v Γ.2.2.1 (q_sl S.1 o k kd))).length := by rw [List.length_mapIdx]; exact (List.getElem?_eq_some_iff.mp hk).1
    rcases hlink with hlink | ⟨host, hlink⟩
    · exact va_put (ref := (Tt a).1) (v := q_v Γ.2.2.1 v) (ty := ty) hx hb hts (q_lays b _ hc) (q_tys b) (q_tysok b _ hc) (q_names b _ hc) hown hK.1 hW.1 hW.2.1 hW.2.2 o he hc a ha (hts _ hlink) (fun _ h9 => h9) hfin hty (hnar _) (hfit _) hl hd (fun H1 locs1 h3 h4 h5 => K H1 locs1 Lr ⟨hset ▸ h3, hset ▸ h4, h5⟩ hL)
    · exact va_putN (ref := (Tt a).1) (host := host) (v := q_v Γ.2.2.1 v) (ty := ty) hx hb hts (q_lays b _ hc) (q_tys b) (q_tysok b _ hc) (q_names b _ hc) hown hK.1 hW.1 hW.2.1 hW.2.2 o he hc a ha (va_Nw.use rfl (hK.2.2.1 _ hlink)) (fun _ h9 => h9) hfin hty (hnar _) (hfit _) hl hd (fun H1 locs1 h3 h4 h5 => K H1 locs1 Lr ⟨hset ▸ h3, hset ▸ h4, h5⟩ hL)
  case ldc index =>
    simp only [q_row, q_rowG, Nat.beq_eq, Bool.and_eq_true] at hrow
    obtain ⟨rfl, h1⟩ := hrow
    dsimp only [q_stp] at hs
    split at hs
    next => (simp only [Option.some.injEq, Prod.mk.injEq] at hs; obtain ⟨rfl, rfl, rfl, rfl⟩ := hs; exact lv_ldc hx hb hown (hts _ (q_in_spec (show q_in _ = true from h1))) hd (K H locs Lr hW hL))
    next hb0 =>
      simp only [Option.some.injEq, Prod.mk.injEq] at hs
      obtain ⟨rfl, rfl, rfl, rfl⟩ := hs
      have h2 : SR.any (fun w => decide (w.1 = T.1.cls) && Nat.beq w.2.1 index && Nat.beq w.2.2.2 a) = true := by
        split at h1
        · exact absurd rfl hb0
        · exact h1
      obtain ⟨w, hw, h3⟩ := List.any_eq_true.mp h2
      simp only [Bool.and_eq_true, decide_eq_true_eq, Nat.beq_eq] at h3
      have h4 := hK.2.2.2.2.1.2.1 w hw
      rw [h3.1.1, h3.1.2, h3.2] at h4
      exact va_ldcS hx hb hown h4 hd (K H locs Lr hW hL)
  case ldc_w index =>
    simp only [q_row, q_rowG, Nat.beq_eq, Bool.and_eq_true] at hrow
    obtain ⟨rfl, h1⟩ := hrow
    simp only [q_stp, Option.some.injEq, Prod.mk.injEq] at hs
    obtain ⟨rfl, rfl, rfl, rfl⟩ := hs
    exact lv_ldcw hx hb hown (hts _ (q_in_spec (show q_in _ = true from h1))) hd (K H locs Lr hW hL)
  all_goals (simp [q_stp] at hs)
theorem V.run (n : Nat) : ∀ {pc : Nat} {ls st : List Value} {S : qS}, q_run n T.2.2.2.2 pc ls st S = some (pc', ls', st', S') → V l Γ T d r pc' ls' st' S' Q → V l Γ T d r pc ls st S Q := by
  induction n with
  | zero =>
    intro pc ls st S h k
    simp only [q_run, Option.some.injEq, Prod.mk.injEq] at h
    obtain ⟨rfl, rfl, rfl, rfl⟩ := h
    exact k
  | succ n ih =>
    intro pc ls st S h k
    unfold q_run at h
    split at h
    next x hx =>
      split at h
      next pc2 ls2 st2 S2 h2 => exact V.stp hx h2 (ih h k)
      next => cases h
    next => cases h
end Rows
