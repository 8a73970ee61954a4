-- worlds that grow: what constructors do
def g_K (D : va_G) (tys : List (ClassId × FieldType)) (s : State) : Prop := va_K D vwCl tys s ∧ tys.map (fun q => q.2) = [.int, .char, .long]
def g_C (D : va_G) (tys : List (ClassId × FieldType)) (A : Nat → Prop) (T : qT) (d : Nat) (p : Program) (R : Room) (s : State) (m : MethodId) (args : Array Value) (meth : Method) (c : Code) : Prop :=
  p.tables.exec = Jvm.exec ∧ c.code = T.2.1 ∧ c.maxLocals = T.2.2.1 ∧ meth.sig.returnType = none ∧ meth.locks = false ∧ s.vm.findClass T.1.cls = some m.cls ∧ (∀ w ∈ WG, w.before args s = true) ∧ g_K D tys s ∧ (∀ q, s.heap.size ≤ q → A q) ∧ d ≤ R.frames ∧ 40 * d ≤ R.locals ∧ meth.name = "<init>"
def g_Q (D : va_G) (A : Nat → Prop) (Q : va_W → Prop) : Array Value → State → Outcome → State → Prop := va_Qv (S := va_W) Q (fun w t => va_P D vwCl w t.heap ∧ va_D A w) A
/-- from frame (pc, ls, st) in the world ws, with at most mc cells of ms slots made, the method returns and leaves a world of Q -/
def G (l : Launch) (D : va_G) (tys : List (ClassId × FieldType)) (T : qT) (d mc ms pc : Nat) (ls st : List Value) (ws : va_W) (Q : va_W → Prop) : Prop :=
  ∀ (A : Nat → Prop) (p : Program) (e : Env) (R : Room) (s : State) (m : MethodId) (args : Array Value) (below : List Frame) (meth : Method) (c : Code) (H : Heap) (locs : List Loc) (cells slots : Nat) (Lr : Array Slot),
    g_C D tys A T d p R s m args meth c → va_P D vwCl ws H → va_D A ws → va_S A s.heap H locs → q_lh (fun x => x) ls T.2.2.1 Lr → cells + mc ≤ R.cells → slots + ms ≤ R.slots →
    W p l e R s m args below meth c H locs cells slots (MQ below (g_Q D A Q) args s R.cells R.slots A) (F0 m pc Lr st)
theorem q_v_id (v : Value) : q_v (fun x => x) v = v := by cases v <;> rfl
theorem q_vs_id (vs : List Value) : vs.map (q_v (fun x => x)) = vs := by
  induction vs with
  | nil => rfl
  | cons v t ih => rw [List.map_cons, ih, q_v_id]
theorem va_RA_inj {s : State} {a b : ClassId} {ty : FieldType} (hty : ty = .int ∨ ty = .char ∨ ty = .long) (h1 : va_RA s a ty) (h2 : va_RA s b ty) : a = b := by
  rcases hty with rfl | rfl | rfl <;> exact Option.some.inj (h1.symm.trans h2)
theorem g_ty {tys : List (ClassId × FieldType)} (h : tys.map (fun q => q.2) = [.int, .char, .long]) {t : Nat} {ty : FieldType} (ht : ([.int, .char, .long] : List FieldType)[t]? = some ty) : tys[t]? = some ((tys.getD t (0, .int)).1, ty) := by
  rw [← h, List.getElem?_map] at ht
  cases hq : tys[t]? with
  | none => rw [hq] at ht; cases ht
  | some q =>
    rw [hq] at ht
    cases ht
    rw [List.getD_eq_getElem?_getD, hq]
    rfl
section Grow
variable {l : Launch} {D : va_G} {tys : List (ClassId × FieldType)} {T T2 : qT} {d d2 mc ms mc2 ms2 pc : Nat} {ls st rest : List Value} {ws wr : va_W} {Q Q2 : va_W → Prop}
theorem G.lda {k : Fin 4} {v : Nat} (hd : decode T.2.1 pc = .ok (.aload_n k, 1)) (hv : ls[k.val]? = some (.ref v)) (hk : G l D tys T d mc ms (pc + 1) ls (.ref v :: st) ws Q) : G l D tys T d mc ms pc ls st ws Q := by
  intro A p e R s m args below meth c H locs cells slots Lr hC hP hD hS hL hc1 hc2
  exact lv_aload_n hC.1 hC.2.1 hd rfl (hL.at hv (fun q => by cases q)) (hk A p e R s m args below meth c H locs cells slots Lr hC hP hD hS hL hc1 hc2)
theorem G.ldi {k : Fin 4} {v : Int32} (hd : decode T.2.1 pc = .ok (.iload_n k, 1)) (hv : ls[k.val]? = some (.int v)) (hk : G l D tys T d mc ms (pc + 1) ls (.int v :: st) ws Q) : G l D tys T d mc ms pc ls st ws Q := by
  intro A p e R s m args below meth c H locs cells slots Lr hC hP hD hS hL hc1 hc2
  exact lv_iload_n hC.1 hC.2.1 hd rfl (hL.at hv (fun q => by cases q)) (hk A p e R s m args below meth c H locs cells slots Lr hC hP hD hS hL hc1 hc2)
theorem G.c1 {n : Int} (hd : decode T.2.1 pc = .ok (.iconst n, 1)) (hk : G l D tys T d mc ms (pc + 1) ls (.int (iI n) :: st) ws Q) : G l D tys T d mc ms pc ls st ws Q := by
  intro A p e R s m args below meth c H locs cells slots Lr hC hP hD hS hL hc1 hc2
  exact lv_iconst hC.1 hC.2.1 hd rfl (hk A p e R s m args below meth c H locs cells slots Lr hC hP hD hS hL hc1 hc2)
theorem G.c2 {n : Int} (hd : decode T.2.1 pc = .ok (.bipush n, 2)) (h1 : -128 ≤ n) (h2 : n ≤ 127) (hk : G l D tys T d mc ms (pc + 2) ls (.int (iI n) :: st) ws Q) : G l D tys T d mc ms pc ls st ws Q := by
  intro A p e R s m args below meth c H locs cells slots Lr hC hP hD hS hL hc1 hc2
  exact lv_bipush hC.1 hC.2.1 hd (q_i8 h1 h2) (hk A p e R s m args below meth c H locs cells slots Lr hC hP hD hS hL hc1 hc2)
theorem G.c3 {n : Int} (hd : decode T.2.1 pc = .ok (.sipush n, 3)) (h1 : -32768 ≤ n) (h2 : n ≤ 32767) (hk : G l D tys T d mc ms (pc + 3) ls (.int (iI n) :: st) ws Q) : G l D tys T d mc ms pc ls st ws Q := by
  intro A p e R s m args below meth c H locs cells slots Lr hC hP hD hS hL hc1 hc2
  exact lv_sipush hC.1 hC.2.1 hd (q_i16 h1 h2) (hk A p e R s m args below meth c H locs cells slots Lr hC hP hD hS hL hc1 hc2)
theorem G.dup {v : Nat} (hd : decode T.2.1 pc = .ok (.dup, 1)) (hk : G l D tys T d mc ms (pc + 1) ls (.ref v :: .ref v :: rest) ws Q) : G l D tys T d mc ms pc ls (.ref v :: rest) ws Q := by
  intro A p e R s m args below meth c H locs cells slots Lr hC hP hD hS hL hc1 hc2
  exact lv_dup hC.1 hC.2.1 hd rfl (hk A p e R s m args below meth c H locs cells slots Lr hC hP hD hS hL hc1 hc2)
theorem G.new {index ci : Nat} {q : vw_C} {fs : List Value} (hd : decode T.2.1 pc = .ok (.new index, 3)) (hc : vwCl[ci]? = some q) (hw : Cond.classLink T.1.cls index q.1 ∈ WG ∧ Cond.instantiable q.1 q.2.2 ∈ WG ∧ Cond.initialized q.1 ∈ WG) (hfs : ∀ j, j < q.2.2 → defaultValue (q_tys ci j) = vp_V fs j)
    (hk : ∀ a : Nat, G l D tys T d mc ms (pc + 3) ls (.ref a :: st) (ws ++ [(a, .inr (ci, fs))]) Q) : G l D tys T d (mc + 1) (ms + q.2.2) pc ls st ws Q := by
  intro A p e R s m args below meth c H locs cells slots Lr hC hP hD hS hL hc1 hc2
  have hC0 := hC
  obtain ⟨hx, hb, hml, hr, hlk, hown, hts, hK, hA, hfr, hlo, hin⟩ := hC
  obtain ⟨C, F, N⟩ := q
  exact va_new (C := C) (T := F) (N := N) hx hb hts (q_lays ci _ hc) (q_tys ci) (q_tysok ci _ hc) hown (hts _ hw.1) (hts _ hw.2.1) (hts _ hw.2.2) hK.1 hP hD hS hA hc hfs (by omega) (by dsimp only at hc2; omega) hd
    (fun a H1 hP1 hD1 hS1 => hk a A p e R s m args below meth c H1 locs (cells + 1) (slots + N) Lr hC0 hP1 hD1 hS1 hL (by omega) (by dsimp only at hc2; omega))
theorem G.newa {atype : ArrayType} {t N : Nat} {ty : FieldType} {n : Int32} (hd : decode T.2.1 pc = .ok (.newarray atype, 2)) (hty : newarray.typeOf atype = ty) (ht : ([.int, .char, .long] : List FieldType)[t]? = some ty) (h01 : ty = .int ∨ ty = .char) (hw : Cond.arrayClass ty ∈ WG) (hn : ¬ n < 0) (hN : n.toNatClampNeg = N) (hb : N * componentBytes ty ≤ 536870912)
    (hk : ∀ a : Nat, G l D tys T d mc ms (pc + 2) ls (.ref a :: rest) (ws ++ [(a, .inl ((tys.getD t (0, .int)).1, N, .inl (fun _ => 0)))]) Q) : G l D tys T d (mc + 1) (ms + N) pc ls (.int n :: rest) ws Q := by
  intro A p e R s m args below meth c H locs cells slots Lr hC hP hD hS hL hc1 hc2
  have hC0 := hC
  obtain ⟨hx, hb0, hml, hr, hlk, hown, hts, hK, hA, hfr, hlo, hin⟩ := hC
  refine va_newa (N' := N) (a0 := (N, .inl (fun _ => 0))) hx hb0 (by rw [hty]; exact hts _ hw) hty hK.1 hP hD hS hA (fun cA => by rcases h01 with rfl | rfl <;> rfl) hn hN hb (by omega) (by omega) hd (fun a cA H1 hK1 hP1 hD1 hS1 => ?_)
  have e1 : cA = (tys.getD t (0, .int)).1 := by
    have q1 := (hK1.2 tys.length (cA, ty) (by rw [List.getElem?_append_right (Nat.le_refl _), Nat.sub_self]; rfl)).2
    have q2 := (hK.1.2 t _ (g_ty hK.2 ht)).2
    exact va_RA_inj (by rcases h01 with h | h; exact Or.inl h; exact Or.inr (Or.inl h)) q1 q2
  subst e1
  exact hk a A p e R s m args below meth c H1 locs (cells + 1) (slots + N) Lr hC0 hP1 hD1 hS1 hL (by omega) (by omega)
theorem G.put {index ci a k q0 : Nat} {q : vw_C} {fs : List Value} {v : Value} {b : Bool} (hd : decode T.2.1 pc = .ok (.putfield index, 3)) (hc : vwCl[ci]? = some q) (he : ws[q0]? = some (a, .inr (ci, fs))) (hkN : k < q.2.2) (hw : Cond.fieldLink T.1.cls index (q.2.1 k).1 (q.2.1 k).2.1 (q.2.1 k).2.2.1 ∈ WG)
    (hfin : (q.2.1 k).2.2.2 = b) (hdecl : (q.2.1 k).1 = T.1.cls) (hn : narrow (q_tys ci k) v = v) (hfit : fits (q_tys ci k) v = true) (hlen : k < fs.length)
    (hk : G l D tys T d mc ms (pc + 3) ls rest (ws.set q0 (a, .inr (ci, fs.set k v))) Q) : G l D tys T d mc ms pc ls (v :: .ref a :: rest) ws Q := by
  intro A p e R s m args below meth c H locs cells slots Lr hC hP hD hS hL hc1 hc2
  have hC0 := hC
  obtain ⟨hx, hb, hml, hr, hlk, hown, hts, hK, hA, hfr, hlo, hin⟩ := hC
  obtain ⟨C, F, N⟩ := q
  cases b with
  | false => exact va_put (C := C) (T := F) (N := N) (ty := q_tys ci k) hx hb hts (q_lays ci _ hc) (q_tys ci) (q_tysok ci _ hc) (q_names ci _ hc) hown hK.1 hP hD hS q0 he hc k hkN (hts _ hw) (fun _ h9 => h9) hfin (q_tysok ci _ hc k hkN) hn hfit hlen hd (fun H1 locs1 hP1 hD1 hS1 => hk A p e R s m args below meth c H1 locs1 cells slots Lr hC0 hP1 hD1 hS1 hL hc1 hc2)
  | true => exact va_putF (C := C) (T := F) (N := N) (ty := q_tys ci k) hx hb hts (q_lays ci _ hc) (q_tys ci) (q_tysok ci _ hc) (q_names ci _ hc) hown hK.1 hP hD hS q0 he hc k hkN (hts _ hw) (fun _ h9 => h9) hfin hin hdecl (q_tysok ci _ hc k hkN) hn hfit hlen hd (fun H1 locs1 hP1 hD1 hS1 => hk A p e R s m args below meth c H1 locs1 cells slots Lr hC0 hP1 hD1 hS1 hL hc1 hc2)
theorem G.get {index ci a k q0 : Nat} {q : vw_C} {fs : List Value} {v : Value} (hd : decode T.2.1 pc = .ok (.getfield index, 3)) (hc : vwCl[ci]? = some q) (he : ws[q0]? = some (a, .inr (ci, fs))) (hkN : k < q.2.2) (hw : Cond.fieldLink T.1.cls index (q.2.1 k).1 (q.2.1 k).2.1 (q.2.1 k).2.2.1 ∈ WG) (hv : fs[k]? = some v)
    (hk : G l D tys T d mc ms (pc + 3) ls (v :: rest) ws Q) : G l D tys T d mc ms pc ls (.ref a :: rest) ws Q := by
  intro A p e R s m args below meth c H locs cells slots Lr hC hP hD hS hL hc1 hc2
  have hC0 := hC
  obtain ⟨hx, hb, hml, hr, hlk, hown, hts, hK, hA, hfr, hlo, hin⟩ := hC
  obtain ⟨C, F, N⟩ := q
  exact va_get (C := C) (T := F) (N := N) hx hb hts (q_lays ci _ hc) hown hK.1 hP q0 he hc k hkN (hts _ hw) (fun _ h9 => h9) hv hd (hk A p e R s m args below meth c H locs cells slots Lr hC0 hP hD hS hL hc1 hc2)
theorem G.oi {index a : Nat} (hd : decode T.2.1 pc = .ok (.invokespecial index, 3)) (hw : Cond.methodLink T.1.cls index Lib.objectInit ∈ WG ∧ Cond.instanceMethod Lib.objectInit ∈ WG ∧ Cond.code Lib.objectInit ⟨#[0xb1]⟩ 1 none ∈ WG) (hd1 : 1 ≤ d) (hcat : (rest.map fun v => v.category).sum ≤ 8)
    (hk : G l D tys T d mc ms (pc + 3) ls rest ws Q) : G l D tys T d mc ms pc ls (.ref a :: rest) ws Q := by
  intro A p e R s m args below meth c H locs cells slots Lr hC hP hD hS hL hc1 hc2
  have hC0 := hC
  obtain ⟨hx, hb, hml, hr, hlk, hown, hts, hK, hA, hfr, hlo, hin⟩ := hC
  refine W.objInit hx hb hown (hts _ hw.1) (hts _ hw.2.1) (hts _ hw.2.2) rfl (by rw [hml]; exact hL.1) rfl hd (by omega) ?_ ?_
  · show 2 * 0 + _ + 12 ≤ _
    omega
  · exact W.eq (g2 := F0 m (pc + 3) Lr rest) rfl (hk A p e R s m args below meth c H locs cells slots Lr hC0 hP hD hS hL hc1 hc2)
theorem G.ret (hd : decode T.2.1 pc = .ok (.return_, 1)) (hq : Q ws) : G l D tys T d mc ms pc ls [] ws Q := by
  intro A p e R s m args below meth c H locs cells slots Lr hC hP hD hS hL hc1 hc2
  obtain ⟨hx, hb, hml, hr, hlk, hown, hts, hK, hA, hfr, hlo, hin⟩ := hC
  refine W.widen (k := R.cells) (n := R.slots) (by omega) (by omega) ?_
  exact W.vret hx hb hr (fun t ht _ => ⟨⟨ws, rfl, hq, by rw [ht]; exact hP, hD⟩, hS.F ht⟩) hS.2.2 hd hlk
def g_Pc (D : va_G) (tys : List (ClassId × FieldType)) (vs : List Value) (w : va_W) (sz : Nat) : Array Value → State → Prop := fun a U => a = vs.toArray ∧ U.heap.size = sz ∧ va_P D vwCl w U.heap ∧ va_D (fun _ => True) w ∧ va_K D vwCl tys U
def g_rm (d mc ms : Nat) : Room := { frames := d, cells := mc, slots := ms, locals := 40 * d }
theorem g_met {sz : Nat} {vs : List Value} {w : va_W} (hpl : plainName T.1.cls = true) (hnm : T.1.name = "<init>") (hty : tys.map (fun q => q.2) = [.int, .char, .long]) (hc : ∀ v ∈ vs, v.category = 1) (hn : vs.length ≤ T.2.2.1) (hv : G l D tys T d mc ms 0 (vs ++ List.replicate (T.2.2.1 - vs.length) .null) [] w Q) :
    Met l T.1 (Cond.code T.1 T.2.1 T.2.2.1 none :: WG) (g_rm d mc ms) (g_Pc D tys vs w sz) (g_Q D (va_A w sz) Q) mc ms (va_A w sz) := by
  refine Met.ofW (cc := T.2.1) (maxL := T.2.2.1) (ret := none) hpl rfl ?_
  intro p e s m args below meth c s₁ B hml hp
  obtain ⟨rfl, hsz, hP, hD, hK⟩ := hp
  have hts := atoms_spec (ws := Cond.code T.1 T.2.1 T.2.2.1 none :: WG) B.pre
  have hen := q_entry (fun x => x) hc hn
  rw [q_vs_id] at hen
  rw [lg_entry_eq]
  exact hv (va_A w sz) p e (g_rm d mc ms) s m vs.toArray below meth c s.heap [] 0 0 _ ⟨B.exec, B.bytes, hml, B.returns, B.notSynchronized, findClass_of_methodNamed B.named, fun w h => hts w (List.mem_cons_of_mem _ h), ⟨hK, hty⟩, fun q h => Or.inr (by rw [← hsz]; exact h), Nat.le_refl _, Nat.le_refl _, (name_of_methodNamed B.named B.method).1.trans hnm⟩ hP hD.self va_S.rf hen (by show 0 + mc ≤ mc; omega) (by show 0 + ms ≤ ms; omega)
theorem G.call {index b n : Nat} {x : va_E} {As : List Value} (hd : decode T.2.1 pc = .ok (.invokespecial index, 3)) (hpl : plainName T2.1.cls = true) (hnm : T2.1.name = "<init>") (hcw : Cond.code T2.1 T2.2.1 T2.2.2.1 none ∈ WG) (hw : Cond.methodLink T.1.cls index T2.1 ∈ WG ∧ Cond.instanceMethod T2.1 ∈ WG ∧ Cond.initialized T2.1.cls ∈ WG)
    (hmh : T2.1.cls ≠ "java/lang/invoke/MethodHandle" ∧ T2.1.cls ≠ "java/lang/invoke/VarHandle") (hsg : (parseMethodDescriptor T2.1.desc).map (fun d => d.parameters.length) = some n) (hn : As.length = n) (hmax : (.ref b :: As).length ≤ T2.2.2.1) (hm21 : T2.2.2.1 ≤ 21) (hcat : ∀ v ∈ As, v.category = 1) (hrc : (rest.map fun v => v.category).sum ≤ 8) (hd2 : d2 + 1 ≤ d)
    (isR : List Nat) (hR : isR.map (fun i => (wr ++ [(b, x)])[i]?) = wr.map some) (hnd : va_nd isR = true) (hdis : ∀ i ∈ isR, i ∉ [wr.length])
    (hv : G l D tys T2 d2 mc2 ms2 0 ((.ref b :: As) ++ List.replicate (T2.2.2.1 - (.ref b :: As).length) .null) [] [(b, x)] Q2)
    (hk : ∀ w1, Q2 w1 → G l D tys T d mc ms (pc + 3) ls rest (wr ++ w1) Q) : G l D tys T d (mc + mc2) (ms + ms2) pc ls (As.reverse ++ .ref b :: rest) (wr ++ [(b, x)]) Q := by
  intro A p e R s m args below meth c H locs cells slots Lr hC hP hD hS hL hc1 hc2
  have hC0 := hC
  obtain ⟨hx, hb, hml, hr, hlk, hown, hts, hK, hA, hfr, hlo, hin⟩ := hC
  have hcat2 : ∀ v ∈ (.ref b :: As : List Value), v.category = 1 := fun v hv => by rcases List.mem_cons.mp hv with rfl | h; rfl; exact hcat v h
  have hM := g_met (sz := H.size) hpl hnm hK.2 hcat2 hmax hv
  have hg : (wr ++ [(b, x)])[wr.length]? = some (b, x) := by rw [List.getElem?_append_right (Nat.le_refl _), Nat.sub_self]; rfl
  have hPc := hP.sub (ws' := [(b, x)]) [wr.length] (by rw [List.filterMap_cons, hg]; rfl)
  have hDc := hD.sub (ws' := [(b, x)]) [wr.length] (by rfl) (by rw [List.map_cons, hg]; rfl)
  have hFc := va_free (wc := [(b, x)]) hD hS hA [wr.length] (by rw [List.map_cons, hg]; rfl)
  have hpaid := q_paid (T := (T2.1, T2.2.1, T2.2.2.1, none, [])) hcw hts
  have hsig : ∀ sig, parseMethodDescriptor T2.1.desc = some sig → n = sig.parameters.length := fun sig h => by rw [h] at hsg; exact (Option.some.inj hsg).symm
  have hfr2 : (g_rm d2 mc2 ms2).frames + 1 ≤ R.frames := Nat.le_trans hd2 hfr
  have hlo2 : 8 + (T2.2.2.1 + 11) + (g_rm d2 mc2 ms2).locals ≤ R.locals := by show 8 + (T2.2.2.1 + 11) + 40 * d2 ≤ R.locals; omega
  have hbl : FrameBlind (g_Pc D tys (.ref b :: As) [(b, x)] H.size) := fun a U g mk q => ⟨q.1, q.2.1, q.2.2.1, q.2.2.2.1, va_K.moved (u := U) (U := U.calling g mk a) (Vm.Alike.refl U.vm) q.2.2.2.2⟩
  refine va_callv (va_runI (As := As) (rest := rest) (bytes := T2.2.1) (maxL := T2.2.2.1) (g := F0 m pc Lr (As.reverse ++ .ref b :: rest)) ⟨hx, hb, hml, hown, hts⟩ hM ⟨⟨rfl, rfl, hfr2, hlo2, hpaid, List.mem_cons_self, hts _ hcw, hts _ hw.2.2, hmh, hsig, hts _ hw.1⟩, hnm, hts _ hw.2.1⟩ ⟨hbl, fun U hU hW => ⟨rfl, by rw [hU], by rw [hU]; exact hPc, hDc.weaken (fun _ _ _ _ => trivial), va_K.moved hW.alike hK.1⟩⟩ rfl hn hL.1 rfl (lv_room hrc) hd ⟨by omega, by omega⟩) hS (fun q _ h => hFc q h) hFc (fun w1 t H1 locs1 ht hvm hw1 hB hz1 hk1 hS1 => ?_)
  obtain ⟨hP1, hD1⟩ := hB
  rw [ht] at hP1
  obtain ⟨hP2, hD2⟩ := va_join (wr := wr) (w1 := w1) hP hD [wr.length] isR (by rw [List.map_cons, hg]; rfl) hR hnd hdis hk1 hFc hP1 hD1
  exact hk w1 hw1 A p e R s m args below meth c H1 locs1 (cells + mc2) (slots + ms2) Lr hC0 hP2 hD2 hS1 hL (by omega) (by omega)
end Grow
