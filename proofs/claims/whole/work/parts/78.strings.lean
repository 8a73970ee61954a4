def j_Pc (vs : List Value) (F : State → Prop) : Array Value → State → Prop := fun a U => a = vs.toArray ∧ F U
def j_Q (x : Option Value) : Array Value → State → Outcome → State → Prop := fun _ st oc t => oc = .returned x ∧ t.heap = st.heap
def j_rm (d : Nat) : Room := { frames := d, cells := 0, slots := 0, locals := 40 * d }
/-- a word's cells: the object a, its bytes v -/
def s_F (a v n : Nat) (bs : List Int32) (U : State) (H : Heap) : Prop := va_Z "java/lang/String" "COMPACT_STRINGS" "Z" (.int 1) (fun _ => False) U H ∧ va_O "java/lang/String" a (fun _ => False) U H ∧ va_OF "java/lang/String" "coder" "B" (.int 0) a (fun _ => False) U H ∧ va_OF "java/lang/String" "value" "[B" (.ref v) a (fun _ => False) U H ∧ va_T .byte v n (fun j => .int (bs.getD j 0)) (fun _ => False) U H ∧ va_Zq "jdk/internal/util/Preconditions" "SIOOBE_FORMATTER" "Ljava/util/function/BiFunction;" (fun _ => False) U H
theorem s_F.moved {a v n : Nat} {bs : List Int32} {u U : State} {H : Heap} (hvm : u.vm.Alike U.vm) (h : s_F a v n bs u H) : s_F a v n bs U H := ⟨h.1.moved hvm, h.2.1.moved hvm, h.2.2.1.moved hvm, h.2.2.2.1.moved hvm, h.2.2.2.2.1.moved hvm, h.2.2.2.2.2.moved hvm⟩
def T_j (y : MethodName) (cc : ByteArray) (n : Nat) (ret : Option FieldType) : qT := (y, cc, n, ret, [])
section JNext
variable {p : Program} {l : Launch} {e : Env} {R : Room} {s : State} {m : MethodId} {args : Array Value} {below : List Frame} {meth : Method} {c : Code} {H : Heap} {locs : List Loc} {cells slots : Nat} {Q : State → Prop} {g : JFrame} {rest : List Value}
theorem j_next {x : Option Value} {a : Array Value} (hr : va_Run p l e R s m args below meth c H locs cells slots 0 0 g rest (j_Q x a) (fun _ => False)) (k : W p l e R s m args below meth c H locs cells slots Q { g with pc := g.pc + 3, stack := x.toList ++ rest }) : W p l e R s m args below meth c H locs cells slots Q g := by
  intro T hT X
  obtain ⟨v, st0, t, T', L, h0, X', hL, e1, e2, ⟨hv, hh⟩, go⟩ := hr T hT X
  have eL : L = [] := by
    cases L with
    | nil => rfl
    | cons q r => exact (hL q List.mem_cons_self).elim
  subst eL
  cases hv
  rw [List.append_nil] at X'
  obtain ⟨t2, a1, b1⟩ := k T' (by rw [e1, hh, h0]) X'
  exact ⟨t2, go t2 a1, b1⟩
end JNext
def y_coder : MethodName := ⟨"java/lang/String", "coder", "()B"⟩
abbrev c_coder : ByteArray := prog_16_method_152_code
theorem w_coder : Cond.code y_coder c_coder 1 (some .byte) ∈ WG := q_w 399 (by decide +kernel)
def y_isLatin1 : MethodName := ⟨"java/lang/String", "isLatin1", "()Z"⟩
abbrev c_isLatin1 : ByteArray := prog_16_method_154_code
theorem w_isLatin1 : Cond.code y_isLatin1 c_isLatin1 1 (some .boolean) ∈ WG := q_w 409 (by decide +kernel)
def y_length : MethodName := ⟨"java/lang/String", "length", "()I"⟩
abbrev c_length : ByteArray := prog_16_method_54_code
theorem w_length : Cond.code y_length c_length 1 (some .int) ∈ WG := q_w 395 (by decide +kernel)
def y_charAt : MethodName := ⟨"java/lang/String", "charAt", "(I)C"⟩
abbrev c_charAt : ByteArray := prog_16_method_56_code
theorem w_charAt : Cond.code y_charAt c_charAt 2 (some .char) ∈ WG := q_w 405 (by decide +kernel)
def y_l1 : MethodName := ⟨"java/lang/StringLatin1", "charAt", "([BI)C"⟩
abbrev c_l1 : ByteArray := prog_17_method_2_code
theorem w_l1 : Cond.code y_l1 c_l1 2 (some .char) ∈ WG := q_w 412 (by decide +kernel)
def y_ci : MethodName := ⟨"java/lang/String", "checkIndex", "(II)V"⟩
abbrev c_ci : ByteArray := prog_16_method_155_code
theorem w_ci : Cond.code y_ci c_ci 2 none ∈ WG := q_w 415 (by decide +kernel)
def y_pci : MethodName := ⟨"jdk/internal/util/Preconditions", "checkIndex", "(IILjava/util/function/BiFunction;)I"⟩
abbrev c_pci : ByteArray := prog_21_method_11_code
theorem w_pci : Cond.code y_pci c_pci 3 (some .int) ∈ WG := q_w 420 (by decide +kernel)
set_option maxHeartbeats 4000000 in
set_option maxRecDepth 100000 in
theorem j_pci_a {l : Launch} (i n : Int32) (t : Nat) (h0 : ¬ i < 0) (h1 : i < n) : Met l y_pci (Cond.code y_pci c_pci 3 (some .int) :: WG) (j_rm 1) (j_Pc [.int i, .int n, .ref t] (fun U => True)) (j_Q (some (.int i))) 0 0 (fun _ => False) := by
  refine Met.ofW (cc := c_pci) (maxL := 3) (ret := (some .int)) (by decide +kernel) rfl ?_
  intro p e s m args below meth c s₁ B hml hp
  obtain ⟨rfl, -⟩ := hp
  have hx := B.exec
  have hb := B.bytes
  have hr := B.returns
  have hlk := B.notSynchronized
  have hts0 := atoms_spec (ws := Cond.code y_pci c_pci 3 (some .int) :: WG) B.pre
  have hts : ∀ w ∈ WG, w.before _ s = true := fun w h => hts0 w (List.mem_cons_of_mem _ h)
  have hown : s.vm.findClass y_pci.cls = some m.cls := findClass_of_methodNamed B.named
  have hS : va_S (fun _ => False) s.heap s.heap [] := va_S.rf
  have hL := q_entry (fun x => x) (vs := [.int i, .int n, .ref t]) (n := 3) (by intro v hv; simp at hv; rcases hv with rfl | rfl | rfl <;> rfl) (Nat.le_of_ble_eq_true rfl)
  rw [q_vs_id] at hL
  rw [lg_entry_eq]
  generalize (lg_sl [.int i, .int n, .ref t] ++ List.replicate (3 - (lg_sl [.int i, .int n, .ref t]).length) Slot.unset).toArray = Lr at hL ⊢
  refine lv_iload_n hx hb (show decode c_pci 0 = .ok (.iload_n 0, 1) by decide +kernel) rfl (hL.at (show _ = some (.int i) from rfl) (fun q => by cases q)) ?_
  refine lv_if_lt hx hb (show decode c_pci 1 = .ok (.ifCond .lt 8, 3) by decide +kernel) (show ((1 : Nat) : Int) + 8 = ((9 : Nat) : Int) by decide) (fun q => absurd q h0) (fun _ => ?_)
  refine lv_iload_n hx hb (show decode c_pci 4 = .ok (.iload_n 0, 1) by decide +kernel) rfl (hL.at (show _ = some (.int i) from rfl) (fun q => by cases q)) ?_
  refine lv_iload_n hx hb (show decode c_pci 5 = .ok (.iload_n 1, 1) by decide +kernel) rfl (hL.at (show _ = some (.int n) from rfl) (fun q => by cases q)) ?_
  refine lv_icmp_lt hx hb (show decode c_pci 6 = .ok (.if_icmp .lt 10, 3) by decide +kernel) (show ((6 : Nat) : Int) + 10 = ((16 : Nat) : Int) by decide) (fun _ => ?_) (fun q => absurd h1 q)
  refine lv_iload_n hx hb (show decode c_pci 16 = .ok (.iload_n 0, 1) by decide +kernel) rfl (hL.at (show _ = some (.int i) from rfl) (fun q => by cases q)) ?_
  exact W.iret hx hb hr (fun t ht _ => ⟨rfl, ht⟩) hS.2.2 (show decode c_pci 17 = .ok (.ireturn, 1) by decide +kernel) hlk
set_option maxHeartbeats 4000000 in
set_option maxRecDepth 100000 in
theorem j_pci_b {l : Launch} (i n : Int32) (h0 : ¬ i < 0) (h1 : i < n) : Met l y_pci (Cond.code y_pci c_pci 3 (some .int) :: WG) (j_rm 1) (j_Pc [.int i, .int n, .null] (fun U => True)) (j_Q (some (.int i))) 0 0 (fun _ => False) := by
  refine Met.ofW (cc := c_pci) (maxL := 3) (ret := (some .int)) (by decide +kernel) rfl ?_
  intro p e s m args below meth c s₁ B hml hp
  obtain ⟨rfl, -⟩ := hp
  have hx := B.exec
  have hb := B.bytes
  have hr := B.returns
  have hlk := B.notSynchronized
  have hts0 := atoms_spec (ws := Cond.code y_pci c_pci 3 (some .int) :: WG) B.pre
  have hts : ∀ w ∈ WG, w.before _ s = true := fun w h => hts0 w (List.mem_cons_of_mem _ h)
  have hown : s.vm.findClass y_pci.cls = some m.cls := findClass_of_methodNamed B.named
  have hS : va_S (fun _ => False) s.heap s.heap [] := va_S.rf
  have hL := q_entry (fun x => x) (vs := [.int i, .int n, .null]) (n := 3) (by intro v hv; simp at hv; rcases hv with rfl | rfl | rfl <;> rfl) (Nat.le_of_ble_eq_true rfl)
  rw [q_vs_id] at hL
  rw [lg_entry_eq]
  generalize (lg_sl [.int i, .int n, .null] ++ List.replicate (3 - (lg_sl [.int i, .int n, .null]).length) Slot.unset).toArray = Lr at hL ⊢
  refine lv_iload_n hx hb (show decode c_pci 0 = .ok (.iload_n 0, 1) by decide +kernel) rfl (hL.at (show _ = some (.int i) from rfl) (fun q => by cases q)) ?_
  refine lv_if_lt hx hb (show decode c_pci 1 = .ok (.ifCond .lt 8, 3) by decide +kernel) (show ((1 : Nat) : Int) + 8 = ((9 : Nat) : Int) by decide) (fun q => absurd q h0) (fun _ => ?_)
  refine lv_iload_n hx hb (show decode c_pci 4 = .ok (.iload_n 0, 1) by decide +kernel) rfl (hL.at (show _ = some (.int i) from rfl) (fun q => by cases q)) ?_
  refine lv_iload_n hx hb (show decode c_pci 5 = .ok (.iload_n 1, 1) by decide +kernel) rfl (hL.at (show _ = some (.int n) from rfl) (fun q => by cases q)) ?_
  refine lv_icmp_lt hx hb (show decode c_pci 6 = .ok (.if_icmp .lt 10, 3) by decide +kernel) (show ((6 : Nat) : Int) + 10 = ((16 : Nat) : Int) by decide) (fun _ => ?_) (fun q => absurd h1 q)
  refine lv_iload_n hx hb (show decode c_pci 16 = .ok (.iload_n 0, 1) by decide +kernel) rfl (hL.at (show _ = some (.int i) from rfl) (fun q => by cases q)) ?_
  exact W.iret hx hb hr (fun t ht _ => ⟨rfl, ht⟩) hS.2.2 (show decode c_pci 17 = .ok (.ireturn, 1) by decide +kernel) hlk
section JCall
variable {p : Program} {l : Launch} {e : Env} {R : Room} {s : State} {m : MethodId} {args : Array Value} {below : List Frame} {meth : Method} {c : Code} {H : Heap} {locs : List Loc} {cells slots : Nat} {Q : State → Prop} {own : String} {y : MethodName} {bytes cc : ByteArray} {maxL nL index n d2 pc b : Nat} {ret : Option FieldType} {vs rest : List Value} {F : State → Prop} {x : Option Value} {Lr : Array Slot}
theorem j_S (hx : p.tables.exec = Jvm.exec) (hb : c.code = cc) (hml : c.maxLocals = nL) (hown : s.vm.findClass own = some m.cls) (hts : ∀ w ∈ WG, w.before args s = true) (hM : Met l y (Cond.code y bytes maxL ret :: WG) (j_rm d2) (j_Pc vs F) (j_Q x) 0 0 (fun _ => False)) (hcw : Cond.code y bytes maxL ret ∈ WG) (hw : Cond.methodLink own index y ∈ WG ∧ Cond.static y ∈ WG ∧ Cond.initialized y.cls ∈ WG)
    (hmh : y.cls ≠ "java/lang/invoke/MethodHandle" ∧ y.cls ≠ "java/lang/invoke/VarHandle") (hsg : (parseMethodDescriptor y.desc).map (fun d => d.parameters.length) = some n) (hn : vs.length = n) (hm21 : maxL ≤ 21) (hfr : d2 + 1 ≤ R.frames) (hlo : 40 * (d2 + 1) ≤ R.locals) (hF : ∀ U : State, U.heap = H → s.WarmedH U.vm → F U) (hbl : ∀ (U : State) (g : JFrame) (mk : MethodId) (a : Array Value), F U → F (U.calling g mk a)) (hLs : Lr.size = nL) (hrc : (rest.map fun v => v.category).sum ≤ 8) (hd : decode cc pc = .ok (.invokestatic index, 3)) (hc : cells ≤ R.cells) (hs : slots ≤ R.slots)
    (k : W p l e R s m args below meth c H locs cells slots Q (F0 m (pc + 3) Lr (x.toList ++ rest))) : W p l e R s m args below meth c H locs cells slots Q (F0 m pc Lr (vs.reverse ++ rest)) := by
  have hsig : ∀ sig, parseMethodDescriptor y.desc = some sig → n = sig.parameters.length := fun sig h => by
    rw [h] at hsg
    exact (Option.some.inj hsg).symm
  exact j_next (va_runS (As := vs) (rest := rest) (bytes := bytes) (maxL := maxL) (ret := ret) (n := n) (g := F0 m pc Lr (vs.reverse ++ rest)) ⟨hx, hb, hml, hown, hts⟩ hM ⟨⟨rfl, rfl, hfr, by show 8 + (maxL + 11) + 40 * d2 ≤ R.locals; omega, q_paid (T := (y, bytes, maxL, ret, [])) hcw hts, List.mem_cons_self, hts _ hcw, hts _ hw.2.2, hmh, hsig, hts _ hw.1⟩, hts _ hw.2.1⟩ ⟨fun a U g mk q => ⟨q.1, hbl U g mk a q.2⟩, fun U hU hW => ⟨rfl, hF U hU hW⟩⟩ rfl hn hLs rfl (lv_room hrc) hd ⟨by omega, by omega⟩) k
theorem j_V (hx : p.tables.exec = Jvm.exec) (hb : c.code = cc) (hml : c.maxLocals = nL) (hown : s.vm.findClass own = some m.cls) (hts : ∀ w ∈ WG, w.before args s = true) (hM : Met l y (Cond.code y bytes maxL ret :: WG) (j_rm d2) (j_Pc (.ref b :: vs) F) (j_Q x) 0 0 (fun _ => False)) (hcw : Cond.code y bytes maxL ret ∈ WG) (hw : Cond.methodLink own index y ∈ WG ∧ Cond.instanceMethod y ∈ WG ∧ Cond.initialized y.cls ∈ WG ∧ Cond.selects y.cls y y ∈ WG)
    (hmh : y.cls ≠ "java/lang/invoke/MethodHandle" ∧ y.cls ≠ "java/lang/invoke/VarHandle") (hsg : (parseMethodDescriptor y.desc).map (fun d => d.parameters.length) = some n) (hn : vs.length = n) (hm21 : maxL ≤ 21) (hfr : d2 + 1 ≤ R.frames) (hlo : 40 * (d2 + 1) ≤ R.locals) (hre : ∃ cellB : Cell, H[b]? = some cellB ∧ cellB.vm.isStatics = false ∧ s.vm.findClass y.cls = some cellB.cls) (hF : ∀ U : State, U.heap = H → s.WarmedH U.vm → F U) (hbl : ∀ (U : State) (g : JFrame) (mk : MethodId) (a : Array Value), F U → F (U.calling g mk a)) (hLs : Lr.size = nL) (hrc : (rest.map fun v => v.category).sum ≤ 8) (hd : decode cc pc = .ok (.invokevirtual index, 3)) (hc : cells ≤ R.cells) (hs : slots ≤ R.slots)
    (k : W p l e R s m args below meth c H locs cells slots Q (F0 m (pc + 3) Lr (x.toList ++ rest))) : W p l e R s m args below meth c H locs cells slots Q (F0 m pc Lr (vs.reverse ++ .ref b :: rest)) := by
  have hsig : ∀ sig, parseMethodDescriptor y.desc = some sig → n = sig.parameters.length := fun sig h => by
    rw [h] at hsg
    exact (Option.some.inj hsg).symm
  exact j_next (va_runV (C := y.cls) (b := b) (As := vs) (rest := rest) (bytes := bytes) (maxL := maxL) (ret := ret) (n := n) (g := F0 m pc Lr (vs.reverse ++ .ref b :: rest)) ⟨hx, hb, hml, hown, hts⟩ hM ⟨⟨rfl, rfl, hfr, by show 8 + (maxL + 11) + 40 * d2 ≤ R.locals; omega, q_paid (T := (y, bytes, maxL, ret, [])) hcw hts, List.mem_cons_self, hts _ hcw, hts _ hw.2.2.1, hmh, hsig, hts _ hw.1⟩, hts _ hw.2.1, hts _ hw.2.2.2⟩ ⟨fun a U g mk q => ⟨q.1, hbl U g mk a q.2⟩, hre, fun U hU hW => ⟨rfl, hF U hU hW⟩⟩ rfl hn hLs rfl (lv_room hrc) hd ⟨by omega, by omega⟩) k
end JCall
set_option maxHeartbeats 4000000 in
set_option maxRecDepth 100000 in
theorem j_ci {l : Launch} (i n : Int32) (h0 : ¬ i < 0) (h1 : i < n) : Met l y_ci (Cond.code y_ci c_ci 2 none :: WG) (j_rm 2) (j_Pc [.int i, .int n] (fun U => va_Zq "jdk/internal/util/Preconditions" "SIOOBE_FORMATTER" "Ljava/util/function/BiFunction;" (fun _ => False) U U.heap)) (j_Q none) 0 0 (fun _ => False) := by
  refine Met.ofW (cc := c_ci) (maxL := 2) (ret := none) (by decide +kernel) rfl ?_
  intro p e s m args below meth c s₁ B hml hp
  obtain ⟨rfl, hZ⟩ := hp
  have hx := B.exec
  have hb := B.bytes
  have hr := B.returns
  have hlk := B.notSynchronized
  have hts0 := atoms_spec (ws := Cond.code y_ci c_ci 2 none :: WG) B.pre
  have hts : ∀ w ∈ WG, w.before _ s = true := fun w h => hts0 w (List.mem_cons_of_mem _ h)
  have hown : s.vm.findClass y_ci.cls = some m.cls := findClass_of_methodNamed B.named
  have hS : va_S (fun _ => False) s.heap s.heap [] := va_S.rf
  have hL := q_entry (fun x => x) (vs := [.int i, .int n]) (n := 2) (by intro v hv; simp at hv; rcases hv with rfl | rfl <;> rfl) (Nat.le_of_ble_eq_true rfl)
  rw [q_vs_id] at hL
  rw [lg_entry_eq]
  generalize (lg_sl [.int i, .int n] ++ List.replicate (2 - (lg_sl [.int i, .int n]).length) Slot.unset).toArray = Lr at hL ⊢
  refine lv_iload_n hx hb (show decode c_ci 0 = .ok (.iload_n 0, 1) by decide +kernel) rfl (hL.at (show _ = some (.int i) from rfl) (fun q => by cases q)) ?_
  refine lv_iload_n hx hb (show decode c_ci 1 = .ok (.iload_n 1, 1) by decide +kernel) rfl (hL.at (show _ = some (.int n) from rfl) (fun q => by cases q)) ?_
  rcases hZ with hZ | ⟨t, hZ⟩
  · refine va_gets hx hb hZ hS hown (hts _ (q_w 416 (by decide +kernel))) (fun _ h9 => h9) (show decode c_ci 2 = .ok (.getstatic 1053, 3) by decide +kernel) ?_
    refine j_S (n := 3) (vs := [.int i, .int n, .null]) (rest := []) (own := y_ci.cls) hx hb hml hown hts (j_pci_b i n h0 h1) w_pci ⟨q_w 418 (by decide +kernel), q_w 419 (by decide +kernel), q_w 104 (by decide +kernel)⟩ (by decide) (by decide +kernel) rfl (by decide) (by decide) (by decide) (fun U _ _ => trivial) (fun U g mk a z => trivial) hL.1 (Nat.le_of_ble_eq_true rfl) (show decode c_ci 5 = .ok (.invokestatic 1059, 3) by decide +kernel) (by decide) (by decide) ?_
    refine lv_pop hx hb (show decode c_ci 8 = .ok (.pop, 1) by decide +kernel) rfl ?_
    exact W.vret hx hb hr (fun t ht _ => ⟨rfl, ht⟩) hS.2.2 (show decode c_ci 9 = .ok (.return_, 1) by decide +kernel) hlk
  · refine va_gets hx hb hZ hS hown (hts _ (q_w 416 (by decide +kernel))) (fun _ h9 => h9) (show decode c_ci 2 = .ok (.getstatic 1053, 3) by decide +kernel) ?_
    refine j_S (n := 3) (vs := [.int i, .int n, .ref t]) (rest := []) (own := y_ci.cls) hx hb hml hown hts (j_pci_a i n t h0 h1) w_pci ⟨q_w 418 (by decide +kernel), q_w 419 (by decide +kernel), q_w 104 (by decide +kernel)⟩ (by decide) (by decide +kernel) rfl (by decide) (by decide) (by decide) (fun U _ _ => trivial) (fun U g mk a z => trivial) hL.1 (Nat.le_of_ble_eq_true rfl) (show decode c_ci 5 = .ok (.invokestatic 1059, 3) by decide +kernel) (by decide) (by decide) ?_
    refine lv_pop hx hb (show decode c_ci 8 = .ok (.pop, 1) by decide +kernel) rfl ?_
    exact W.vret hx hb hr (fun t ht _ => ⟨rfl, ht⟩) hS.2.2 (show decode c_ci 9 = .ok (.return_, 1) by decide +kernel) hlk
set_option maxHeartbeats 4000000 in
set_option maxRecDepth 100000 in
theorem j_l1 {l : Launch} (v n : Nat) (bs : List Int32) (i z : Int32) (h0 : ¬ i < 0) (h1 : i < Int32.ofNat n) (hi : i.toNatClampNeg < n) (hz : (((bs.getD i.toNatClampNeg 0) &&& iI 255).toUInt32 % 65536).toInt32 = z) (hnz : narrow .char (.int z) = .int z) : Met l y_l1 (Cond.code y_l1 c_l1 2 (some .char) :: WG) (j_rm 3) (j_Pc [.ref v, .int i] (fun U => va_T .byte v n (fun j => .int (bs.getD j 0)) (fun _ => False) U U.heap ∧ va_Zq "jdk/internal/util/Preconditions" "SIOOBE_FORMATTER" "Ljava/util/function/BiFunction;" (fun _ => False) U U.heap)) (j_Q (some (.int z))) 0 0 (fun _ => False) := by
  refine Met.ofW (cc := c_l1) (maxL := 2) (ret := (some .char)) (by decide +kernel) rfl ?_
  intro p e s m args below meth c s₁ B hml hp
  obtain ⟨rfl, hT, hZ⟩ := hp
  have hx := B.exec
  have hb := B.bytes
  have hr := B.returns
  have hlk := B.notSynchronized
  have hts0 := atoms_spec (ws := Cond.code y_l1 c_l1 2 (some .char) :: WG) B.pre
  have hts : ∀ w ∈ WG, w.before _ s = true := fun w h => hts0 w (List.mem_cons_of_mem _ h)
  have hown : s.vm.findClass y_l1.cls = some m.cls := findClass_of_methodNamed B.named
  have hS : va_S (fun _ => False) s.heap s.heap [] := va_S.rf
  have hL := q_entry (fun x => x) (vs := [.ref v, .int i]) (n := 2) (by intro v hv; simp at hv; rcases hv with rfl | rfl <;> rfl) (Nat.le_of_ble_eq_true rfl)
  rw [q_vs_id] at hL
  rw [lg_entry_eq]
  generalize (lg_sl [.ref v, .int i] ++ List.replicate (2 - (lg_sl [.ref v, .int i]).length) Slot.unset).toArray = Lr at hL ⊢
  have hT0 := hT
  obtain ⟨cell, t1, t2, t3, t4, t5, t6, -⟩ := hT
  refine lv_iload_n hx hb (show decode c_l1 0 = .ok (.iload_n 1, 1) by decide +kernel) rfl (hL.at (show _ = some (.int i) from rfl) (fun q => by cases q)) ?_
  refine lv_aload_n hx hb (show decode c_l1 1 = .ok (.aload_n 0, 1) by decide +kernel) rfl (hL.at (show _ = some (.ref v) from rfl) (fun q => by cases q)) ?_
  refine W.alen (n := Int32.ofNat n) hx hb t1 t2 t5 rfl rfl (show decode c_l1 2 = .ok (.arraylength, 1) by decide +kernel) ?_
  refine W.eq (g2 := F0 m 3 Lr [.int (Int32.ofNat n), .int i]) rfl ?_
  refine j_S (n := 2) (vs := [.int i, .int (Int32.ofNat n)]) (rest := []) (own := y_l1.cls) hx hb hml hown hts (j_ci i (Int32.ofNat n) h0 h1) w_ci ⟨q_w 413 (by decide +kernel), q_w 414 (by decide +kernel), q_w 102 (by decide +kernel)⟩ (by decide) (by decide +kernel) rfl (by decide) (by decide) (by decide) (fun U hU hW => by rw [hU]; exact hZ.moved hW.alike) (fun U g mk a z => z.moved (Vm.Alike.refl U.vm)) hL.1 (Nat.le_of_ble_eq_true rfl) (show decode c_l1 3 = .ok (.invokestatic 9, 3) by decide +kernel) (by decide) (by decide) ?_
  refine lv_aload_n hx hb (show decode c_l1 6 = .ok (.aload_n 0, 1) by decide +kernel) rfl (hL.at (show _ = some (.ref v) from rfl) (fun q => by cases q)) ?_
  refine lv_iload_n hx hb (show decode c_l1 7 = .ok (.iload_n 1, 1) by decide +kernel) rfl (hL.at (show _ = some (.int i) from rfl) (fun q => by cases q)) ?_
  refine W.bald (v := .int (bs.getD i.toNatClampNeg 0)) hx hb t1 t2 t3 (fun q => by rcases q with q | q; exact h0 q; omega) (t6 _ hi) rfl rfl (show decode c_l1 8 = .ok (.baload, 1) by decide +kernel) ?_
  refine W.eq (g2 := F0 m 9 Lr [.int (bs.getD i.toNatClampNeg 0)]) rfl ?_
  refine lv_sipush (v := iI 255) hx hb (show decode c_l1 9 = .ok (.sipush 255, 3) by decide +kernel) (q_i16 (by decide) (by decide)) ?_
  refine lv_iand hx hb (show decode c_l1 12 = .ok (.iand, 1) by decide +kernel) ?_
  refine lv_i2c hx hb (show decode c_l1 13 = .ok (.i2c, 1) by decide +kernel) hz ?_
  exact W.zret hx hb hr hnz (fun t ht _ => ⟨rfl, ht⟩) hS.2.2 (show decode c_l1 14 = .ok (.ireturn, 1) by decide +kernel) hlk
set_option maxHeartbeats 4000000 in
set_option maxRecDepth 100000 in
theorem j_coder {l : Launch} (a : Nat) : Met l y_coder (Cond.code y_coder c_coder 1 (some .byte) :: WG) (j_rm 1) (j_Pc [.ref a] (fun U => va_Z "java/lang/String" "COMPACT_STRINGS" "Z" (.int 1) (fun _ => False) U U.heap ∧ va_OF "java/lang/String" "coder" "B" (.int 0) a (fun _ => False) U U.heap)) (j_Q (some (.int 0))) 0 0 (fun _ => False) := by
  refine Met.ofW (cc := c_coder) (maxL := 1) (ret := (some .byte)) (by decide +kernel) rfl ?_
  intro p e s m args below meth c s₁ B hml hp
  obtain ⟨rfl, hZ, hC⟩ := hp
  have hx := B.exec
  have hb := B.bytes
  have hr := B.returns
  have hlk := B.notSynchronized
  have hts0 := atoms_spec (ws := Cond.code y_coder c_coder 1 (some .byte) :: WG) B.pre
  have hts : ∀ w ∈ WG, w.before _ s = true := fun w h => hts0 w (List.mem_cons_of_mem _ h)
  have hown : s.vm.findClass y_coder.cls = some m.cls := findClass_of_methodNamed B.named
  have hS : va_S (fun _ => False) s.heap s.heap [] := va_S.rf
  have hL := q_entry (fun x => x) (vs := [.ref a]) (n := 1) (by intro v hv; simp at hv; rcases hv with rfl <;> rfl) (Nat.le_of_ble_eq_true rfl)
  rw [q_vs_id] at hL
  rw [lg_entry_eq]
  generalize (lg_sl [.ref a] ++ List.replicate (1 - (lg_sl [.ref a]).length) Slot.unset).toArray = Lr at hL ⊢
  refine va_gets hx hb hZ hS hown (hts _ (q_w 400 (by decide +kernel))) (fun _ h9 => h9) (show decode c_coder 0 = .ok (.getstatic 38, 3) by decide +kernel) ?_
  refine lv_if_eq hx hb (show decode c_coder 3 = .ok (.ifCond .eq 10, 3) by decide +kernel) (show ((3 : Nat) : Int) + 10 = ((13 : Nat) : Int) by decide) (fun q => absurd q (by decide)) (fun _ => ?_)
  refine lv_aload_n hx hb (show decode c_coder 6 = .ok (.aload_n 0, 1) by decide +kernel) rfl (hL.at (show _ = some (.ref a) from rfl) (fun q => by cases q)) ?_
  refine vk_getf hx hb hC hS hown (hts _ (q_w 1342 (by decide +kernel))) (fun _ h9 => h9) (show decode c_coder 7 = .ok (.getfield 15, 3) by decide +kernel) ?_
  refine lv_goto hx hb (show decode c_coder 10 = .ok (.goto 4, 3) by decide +kernel) (show ((10 : Nat) : Int) + 4 = ((14 : Nat) : Int) by decide) ?_
  exact W.zret hx hb hr (by decide) (fun t ht _ => ⟨rfl, ht⟩) hS.2.2 (show decode c_coder 14 = .ok (.ireturn, 1) by decide +kernel) hlk
set_option maxHeartbeats 4000000 in
set_option maxRecDepth 100000 in
theorem j_isLatin1 {l : Launch} (a : Nat) : Met l y_isLatin1 (Cond.code y_isLatin1 c_isLatin1 1 (some .boolean) :: WG) (j_rm 1) (j_Pc [.ref a] (fun U => va_Z "java/lang/String" "COMPACT_STRINGS" "Z" (.int 1) (fun _ => False) U U.heap ∧ va_OF "java/lang/String" "coder" "B" (.int 0) a (fun _ => False) U U.heap)) (j_Q (some (.int 1))) 0 0 (fun _ => False) := by
  refine Met.ofW (cc := c_isLatin1) (maxL := 1) (ret := (some .boolean)) (by decide +kernel) rfl ?_
  intro p e s m args below meth c s₁ B hml hp
  obtain ⟨rfl, hZ, hC⟩ := hp
  have hx := B.exec
  have hb := B.bytes
  have hr := B.returns
  have hlk := B.notSynchronized
  have hts0 := atoms_spec (ws := Cond.code y_isLatin1 c_isLatin1 1 (some .boolean) :: WG) B.pre
  have hts : ∀ w ∈ WG, w.before _ s = true := fun w h => hts0 w (List.mem_cons_of_mem _ h)
  have hown : s.vm.findClass y_isLatin1.cls = some m.cls := findClass_of_methodNamed B.named
  have hS : va_S (fun _ => False) s.heap s.heap [] := va_S.rf
  have hL := q_entry (fun x => x) (vs := [.ref a]) (n := 1) (by intro v hv; simp at hv; rcases hv with rfl <;> rfl) (Nat.le_of_ble_eq_true rfl)
  rw [q_vs_id] at hL
  rw [lg_entry_eq]
  generalize (lg_sl [.ref a] ++ List.replicate (1 - (lg_sl [.ref a]).length) Slot.unset).toArray = Lr at hL ⊢
  refine va_gets hx hb hZ hS hown (hts _ (q_w 400 (by decide +kernel))) (fun _ h9 => h9) (show decode c_isLatin1 0 = .ok (.getstatic 38, 3) by decide +kernel) ?_
  refine lv_if_eq hx hb (show decode c_isLatin1 3 = .ok (.ifCond .eq 14, 3) by decide +kernel) (show ((3 : Nat) : Int) + 14 = ((17 : Nat) : Int) by decide) (fun q => absurd q (by decide)) (fun _ => ?_)
  refine lv_aload_n hx hb (show decode c_isLatin1 6 = .ok (.aload_n 0, 1) by decide +kernel) rfl (hL.at (show _ = some (.ref a) from rfl) (fun q => by cases q)) ?_
  refine vk_getf hx hb hC hS hown (hts _ (q_w 1342 (by decide +kernel))) (fun _ h9 => h9) (show decode c_isLatin1 7 = .ok (.getfield 15, 3) by decide +kernel) ?_
  refine lv_if_ne hx hb (show decode c_isLatin1 10 = .ok (.ifCond .ne 7, 3) by decide +kernel) (show ((10 : Nat) : Int) + 7 = ((17 : Nat) : Int) by decide) (fun q => absurd rfl q) (fun _ => ?_)
  refine lv_iconst (v := 1) hx hb (show decode c_isLatin1 13 = .ok (.iconst 1, 1) by decide +kernel) rfl ?_
  refine lv_goto hx hb (show decode c_isLatin1 14 = .ok (.goto 4, 3) by decide +kernel) (show ((14 : Nat) : Int) + 4 = ((18 : Nat) : Int) by decide) ?_
  exact W.zret hx hb hr (by decide) (fun t ht _ => ⟨rfl, ht⟩) hS.2.2 (show decode c_isLatin1 18 = .ok (.ireturn, 1) by decide +kernel) hlk
set_option maxHeartbeats 4000000 in
set_option maxRecDepth 100000 in
theorem j_length {l : Launch} (a v n : Nat) (bs : List Int32) : Met l y_length (Cond.code y_length c_length 1 (some .int) :: WG) (j_rm 2) (j_Pc [.ref a] (fun U => s_F a v n bs U U.heap)) (j_Q (some (.int (Int32.ofNat n >>> ((0 : Int32) &&& 31))))) 0 0 (fun _ => False) := by
  refine Met.ofW (cc := c_length) (maxL := 1) (ret := (some .int)) (by decide +kernel) rfl ?_
  intro p e s m args below meth c s₁ B hml hp
  obtain ⟨rfl, hF⟩ := hp
  have hx := B.exec
  have hb := B.bytes
  have hr := B.returns
  have hlk := B.notSynchronized
  have hts0 := atoms_spec (ws := Cond.code y_length c_length 1 (some .int) :: WG) B.pre
  have hts : ∀ w ∈ WG, w.before _ s = true := fun w h => hts0 w (List.mem_cons_of_mem _ h)
  have hown : s.vm.findClass y_length.cls = some m.cls := findClass_of_methodNamed B.named
  have hS : va_S (fun _ => False) s.heap s.heap [] := va_S.rf
  have hL := q_entry (fun x => x) (vs := [.ref a]) (n := 1) (by intro v hv; simp at hv; rcases hv with rfl <;> rfl) (Nat.le_of_ble_eq_true rfl)
  rw [q_vs_id] at hL
  rw [lg_entry_eq]
  generalize (lg_sl [.ref a] ++ List.replicate (1 - (lg_sl [.ref a]).length) Slot.unset).toArray = Lr at hL ⊢
  obtain ⟨hZ, hO, hC, hV, hT, hf⟩ := hF
  obtain ⟨cell, t1, t2, t3, t4, t5, t6, -⟩ := hT
  refine lv_aload_n hx hb (show decode c_length 0 = .ok (.aload_n 0, 1) by decide +kernel) rfl (hL.at (show _ = some (.ref a) from rfl) (fun q => by cases q)) ?_
  refine vk_getf hx hb hV hS hown (hts _ (q_w 1341 (by decide +kernel))) (fun _ h9 => h9) (show decode c_length 1 = .ok (.getfield 9, 3) by decide +kernel) ?_
  refine W.alen (n := Int32.ofNat n) hx hb t1 t2 t5 rfl rfl (show decode c_length 4 = .ok (.arraylength, 1) by decide +kernel) ?_
  refine W.eq (g2 := F0 m 5 Lr [.int (Int32.ofNat n)]) rfl ?_
  refine lv_aload_n hx hb (show decode c_length 5 = .ok (.aload_n 0, 1) by decide +kernel) rfl (hL.at (show _ = some (.ref a) from rfl) (fun q => by cases q)) ?_
  have hre : ∃ cellB : Cell, s.heap[a]? = some cellB ∧ cellB.vm.isStatics = false ∧ s.vm.findClass y_coder.cls = some cellB.cls := by
    obtain ⟨cB, o1, o2, o3, -⟩ := hO
    exact ⟨cB, o1, o2, o3⟩
  refine j_V (b := a) (vs := []) (rest := [.int (Int32.ofNat n)]) (own := y_length.cls) hx hb hml hown hts (j_coder a) w_coder ⟨q_w 396 (by decide +kernel), q_w 397 (by decide +kernel), q_w 102 (by decide +kernel), q_w 398 (by decide +kernel)⟩ (by decide) (by decide +kernel) rfl (by decide) (by decide) (by decide) hre (fun U hU hW => by rw [hU]; exact ⟨hZ.moved hW.alike, hC.moved hW.alike⟩) (fun U g mk a z => ⟨z.1.moved (Vm.Alike.refl U.vm), z.2.moved (Vm.Alike.refl U.vm)⟩) hL.1 (Nat.le_of_ble_eq_true rfl) (show decode c_length 6 = .ok (.invokevirtual 335, 3) by decide +kernel) (by decide) (by decide) ?_
  refine lv_ishr hx hb (show decode c_length 9 = .ok (.ishr, 1) by decide +kernel) ?_
  exact W.iret hx hb hr (fun t ht _ => ⟨rfl, ht⟩) hS.2.2 (show decode c_length 10 = .ok (.ireturn, 1) by decide +kernel) hlk
set_option maxHeartbeats 4000000 in
set_option maxRecDepth 100000 in
theorem j_charAt {l : Launch} (a v n : Nat) (bs : List Int32) (i z : Int32) (h0 : ¬ i < 0) (h1 : i < Int32.ofNat n) (hi : i.toNatClampNeg < n) (hz : (((bs.getD i.toNatClampNeg 0) &&& iI 255).toUInt32 % 65536).toInt32 = z) (hnz : narrow .char (.int z) = .int z) : Met l y_charAt (Cond.code y_charAt c_charAt 2 (some .char) :: WG) (j_rm 4) (j_Pc [.ref a, .int i] (fun U => s_F a v n bs U U.heap)) (j_Q (some (.int z))) 0 0 (fun _ => False) := by
  refine Met.ofW (cc := c_charAt) (maxL := 2) (ret := (some .char)) (by decide +kernel) rfl ?_
  intro p e s m args below meth c s₁ B hml hp
  obtain ⟨rfl, hF⟩ := hp
  have hx := B.exec
  have hb := B.bytes
  have hr := B.returns
  have hlk := B.notSynchronized
  have hts0 := atoms_spec (ws := Cond.code y_charAt c_charAt 2 (some .char) :: WG) B.pre
  have hts : ∀ w ∈ WG, w.before _ s = true := fun w h => hts0 w (List.mem_cons_of_mem _ h)
  have hown : s.vm.findClass y_charAt.cls = some m.cls := findClass_of_methodNamed B.named
  have hS : va_S (fun _ => False) s.heap s.heap [] := va_S.rf
  have hL := q_entry (fun x => x) (vs := [.ref a, .int i]) (n := 2) (by intro v hv; simp at hv; rcases hv with rfl | rfl <;> rfl) (Nat.le_of_ble_eq_true rfl)
  rw [q_vs_id] at hL
  rw [lg_entry_eq]
  generalize (lg_sl [.ref a, .int i] ++ List.replicate (2 - (lg_sl [.ref a, .int i]).length) Slot.unset).toArray = Lr at hL ⊢
  obtain ⟨hZ, hO, hC, hV, hT, hf⟩ := hF
  refine lv_aload_n hx hb (show decode c_charAt 0 = .ok (.aload_n 0, 1) by decide +kernel) rfl (hL.at (show _ = some (.ref a) from rfl) (fun q => by cases q)) ?_
  have hre : ∃ cellB : Cell, s.heap[a]? = some cellB ∧ cellB.vm.isStatics = false ∧ s.vm.findClass y_isLatin1.cls = some cellB.cls := by
    obtain ⟨cB, o1, o2, o3, -⟩ := hO
    exact ⟨cB, o1, o2, o3⟩
  refine j_V (b := a) (vs := []) (rest := []) (own := y_charAt.cls) hx hb hml hown hts (j_isLatin1 a) w_isLatin1 ⟨q_w 406 (by decide +kernel), q_w 407 (by decide +kernel), q_w 102 (by decide +kernel), q_w 408 (by decide +kernel)⟩ (by decide) (by decide +kernel) rfl (by decide) (by decide) (by decide) hre (fun U hU hW => by rw [hU]; exact ⟨hZ.moved hW.alike, hC.moved hW.alike⟩) (fun U g mk a z => ⟨z.1.moved (Vm.Alike.refl U.vm), z.2.moved (Vm.Alike.refl U.vm)⟩) hL.1 (Nat.le_of_ble_eq_true rfl) (show decode c_charAt 1 = .ok (.invokevirtual 492, 3) by decide +kernel) (by decide) (by decide) ?_
  refine lv_if_eq hx hb (show decode c_charAt 4 = .ok (.ifCond .eq 12, 3) by decide +kernel) (show ((4 : Nat) : Int) + 12 = ((16 : Nat) : Int) by decide) (fun q => absurd q (by decide)) (fun _ => ?_)
  refine lv_aload_n hx hb (show decode c_charAt 7 = .ok (.aload_n 0, 1) by decide +kernel) rfl (hL.at (show _ = some (.ref a) from rfl) (fun q => by cases q)) ?_
  refine vk_getf hx hb hV hS hown (hts _ (q_w 1341 (by decide +kernel))) (fun _ h9 => h9) (show decode c_charAt 8 = .ok (.getfield 9, 3) by decide +kernel) ?_
  refine lv_iload_n hx hb (show decode c_charAt 11 = .ok (.iload_n 1, 1) by decide +kernel) rfl (hL.at (show _ = some (.int i) from rfl) (fun q => by cases q)) ?_
  refine j_S (n := 2) (vs := [.ref v, .int i]) (rest := []) (own := y_charAt.cls) hx hb hml hown hts (j_l1 v n bs i z h0 h1 hi hz hnz) w_l1 ⟨q_w 410 (by decide +kernel), q_w 411 (by decide +kernel), q_w 103 (by decide +kernel)⟩ (by decide) (by decide +kernel) rfl (by decide) (by decide) (by decide) (fun U hU hW => by rw [hU]; exact ⟨hT.moved hW.alike, hf.moved hW.alike⟩) (fun U g mk a z => ⟨z.1.moved (Vm.Alike.refl U.vm), z.2.moved (Vm.Alike.refl U.vm)⟩) hL.1 (Nat.le_of_ble_eq_true rfl) (show decode c_charAt 12 = .ok (.invokestatic 495, 3) by decide +kernel) (by decide) (by decide) ?_
  exact W.zret hx hb hr hnz (fun t ht _ => ⟨rfl, ht⟩) hS.2.2 (show decode c_charAt 15 = .ok (.ireturn, 1) by decide +kernel) hlk
section StrRows
variable {l : Launch} {Γ : qG} {T : qT} {d r pc index k x1 x2 : Nat} {ls rest : List Value} {S : qS} {Q : qO → qS → Prop}
theorem q_word {A : Nat → Prop} {s : State} {H : Heap} {locs : List Loc} (hK : q_K Γ A s) (hS : va_S A s.heap H locs) (hk : k < 8) : ∃ v, s_F (Γ.2.2.1 (60 + k)) v (q_len.getD k 0) (q_byt.getD k []) s H := by
  obtain ⟨-, -, -, -, ⟨⟨adV, h5⟩, -, -, h10, -, -, -, h14⟩, -⟩ := hK
  have hq := h5.1 k hk
  exact ⟨adV k, (h10.kept hS.2.1).narrow (fun _ z => z.elim), (hq.1.kept hS.2.1).narrow (fun _ z => z.elim), (hq.2.1.kept hS.2.1).narrow (fun _ z => z.elim), (hq.2.2.1.kept hS.2.1).narrow (fun _ z => z.elim), (hq.2.2.2.kept hS.2.1).narrow (fun _ z => z.elim), (h14.kept hS.2.1).narrow (fun _ z => z.elim)⟩
theorem V.wlen (hf : q_ft T.2.2.2.2 pc = some (.invokevirtual index, 3, x1, x2)) (hk : k < 8) (hw : Cond.methodLink T.1.cls index y_length ∈ WG) (hd3 : 3 ≤ d) (hrc : ∀ v ∈ rest, v.category = 1) (hrl : rest.length ≤ 8) (hk2 : V l Γ T d r (pc + 3) ls (.int (iI (q_len.getD k 0)) :: rest) S Q) : V l Γ T d r pc ls (.ref (60 + k) :: rest) S Q := by
  intro A p e R s m args below meth c H locs cells slots Lr hok hC hW hL hc1 hc2
  obtain ⟨hd, hrow⟩ := q_ok_at hok hf
  dsimp only at hd
  have hC' := hC
  obtain ⟨hx, hb, hml, hr, hlk, hown, hts, hK, hA, hfr, hlo, hnm⟩ := hC
  obtain ⟨v, hF⟩ := q_word hK hW.2.2 hk
  have hre : ∃ cellB : Cell, H[Γ.2.2.1 (60 + k)]? = some cellB ∧ cellB.vm.isStatics = false ∧ s.vm.findClass y_length.cls = some cellB.cls := by
    obtain ⟨cB, o1, o2, o3, -⟩ := hF.2.1
    exact ⟨cB, o1, o2, o3⟩
  have ez : ∀ k, k < 8 → Int32.ofNat (q_len.getD k 0) >>> ((0 : Int32) &&& 31) = iI (q_len.getD k 0) := by decide +kernel
  refine j_V (b := Γ.2.2.1 (60 + k)) (vs := []) (rest := rest.map (q_v Γ.2.2.1)) (own := T.1.cls) hx hb hml hown hts (j_length (Γ.2.2.1 (60 + k)) v (q_len.getD k 0) (q_byt.getD k [])) w_length ⟨hw, q_w 393 (by decide +kernel), q_w 102 (by decide +kernel), q_w 394 (by decide +kernel)⟩ (by decide) (by decide +kernel) rfl (by decide) (by omega) (by omega) hre (fun U hU hWU => by rw [hU]; exact hF.moved hWU.alike) (fun U g mk a z => z.moved (Vm.Alike.refl U.vm)) hL.1 (q_rest hrc hrl Γ.2.2.1) hd (by omega) (by omega) ?_
  rw [ez k hk]
  exact hk2 A p e R s m args below meth c H locs cells slots Lr hok hC' hW hL hc1 hc2
theorem V.wchar {i : Int32} (hf : q_ft T.2.2.2.2 pc = some (.invokevirtual index, 3, x1, x2)) (hk : k < 8) (h0 : 0 ≤ i.toInt) (h1 : i.toInt < (q_len.getD k 0 : Nat)) (hw : Cond.methodLink T.1.cls index y_charAt ∈ WG) (hd3 : 5 ≤ d) (hrc : ∀ v ∈ rest, v.category = 1) (hrl : rest.length ≤ 8) (hk2 : V l Γ T d r (pc + 3) ls (.int ((q_byt.getD k []).getD i.toNatClampNeg 0) :: rest) S Q) : V l Γ T d r pc ls (.int i :: .ref (60 + k) :: rest) S Q := by
  intro A p e R s m args below meth c H locs cells slots Lr hok hC hW hL hc1 hc2
  obtain ⟨hd, hrow⟩ := q_ok_at hok hf
  dsimp only at hd
  have hC' := hC
  obtain ⟨hx, hb, hml, hr, hlk, hown, hts, hK, hA, hfr, hlo, hnm⟩ := hC
  obtain ⟨v, hF⟩ := q_word hK hW.2.2 hk
  have hre : ∃ cellB : Cell, H[Γ.2.2.1 (60 + k)]? = some cellB ∧ cellB.vm.isStatics = false ∧ s.vm.findClass y_charAt.cls = some cellB.cls := by
    obtain ⟨cB, o1, o2, o3, -⟩ := hF.2.1
    exact ⟨cB, o1, o2, o3⟩
  have hl8 : ∀ k, k < 8 → q_len.getD k 0 < 7 := by decide
  have hl := hl8 k hk
  have ej : ∀ k, k < 8 → ∀ j, j < q_len.getD k 0 → ((((q_byt.getD k []).getD j 0) &&& iI 255).toUInt32 % 65536).toInt32 = (q_byt.getD k []).getD j 0 ∧ narrow .char (.int ((q_byt.getD k []).getD j 0)) = .int ((q_byt.getD k []).getD j 0) := by decide +kernel
  have hj : i.toNatClampNeg < q_len.getD k 0 := by rw [clampI]; omega
  have e2 := ej k hk _ hj
  have g0 : ¬ i < 0 := by rw [x0lt]; omega
  have g1 : i < Int32.ofNat (q_len.getD k 0) := by
    show i < nI (q_len.getD k 0)
    rw [iI_nI, xlt (by omega) (by omega)]
    exact h1
  refine j_V (n := 1) (b := Γ.2.2.1 (60 + k)) (vs := [.int i]) (rest := rest.map (q_v Γ.2.2.1)) (own := T.1.cls) hx hb hml hown hts (j_charAt (Γ.2.2.1 (60 + k)) v (q_len.getD k 0) (q_byt.getD k []) i _ g0 g1 hj e2.1 e2.2) w_charAt ⟨hw, q_w 403 (by decide +kernel), q_w 102 (by decide +kernel), q_w 404 (by decide +kernel)⟩ (by decide) (by decide +kernel) rfl (by decide) (by omega) (by omega) hre (fun U hU hWU => by rw [hU]; exact hF.moved hWU.alike) (fun U g mk a z => z.moved (Vm.Alike.refl U.vm)) hL.1 (q_rest hrc hrl Γ.2.2.1) hd (by omega) (by omega) ?_
  exact hk2 A p e R s m args below meth c H locs cells slots Lr hok hC' hW hL hc1 hc2
end StrRows
