-- what stands of a row of a table: the decoded instruction, its length, its resolved numbers
def q_fl (own : String) (index a b : Nat) : Bool := match vwCl[b]? with
  | some (_, Tt, N) => Nat.blt a N && (q_in (Cond.fieldLink own index (Tt a).1 (Tt a).2.1 (Tt a).2.2.1) || decide ((own, index, (Tt a).1, (Tt a).2.1, (Tt a).2.2.1, q_host) ∈ NF))
  | none => false
def q_nm (y : MethodName) (n : Nat) : Bool := decide (y.cls ≠ "java/lang/invoke/MethodHandle") && decide (y.cls ≠ "java/lang/invoke/VarHandle") && decide ((parseMethodDescriptor y.desc).map (fun d => d.parameters.length) = some n) && q_in (Cond.initialized y.cls)
def q_wv (own : String) (index : Nat) (y : MethodName) : Nat → Bool
  | 0 => q_in (Cond.methodLink own index y) && q_in (Cond.instanceMethod y) && q_in (Cond.selects y.cls y y)
  | 1 => decide ((own, index, y, q_host) ∈ NM) && q_in (Cond.instanceMethod y) && q_in (Cond.selects y.cls y y)
  | 2 => q_in (Cond.methodLink own index y) && q_in (Cond.static y)
  | 3 => decide ((own, index, y, q_host) ∈ NM) && q_in (Cond.static y)
  | _ => true
def q_iv (own : String) (index a b : Nat) : Bool := match mN[a]? with
  | some (y, n) => (Nat.blt 3 b || q_nm y n) && q_wv own index y b
  | none => Nat.blt 3 b
def q_row (T : qT) (pc : Nat) : qIn → Bool
  | (i, len, a, b) => match i with
    | .iconst _ => Nat.beq len 1
    | .bipush n => Nat.beq len 2 && decide (-128 ≤ n) && decide (n ≤ 127)
    | .sipush n => Nat.beq len 3 && decide (-32768 ≤ n) && decide (n ≤ 32767)
    | .iload_n _ | .aload_n _ => Nat.beq len 1
    | .iload _ | .aload _ => Nat.beq len 2
    | .istore_n k | .astore_n k => Nat.beq len 1 && Nat.blt k.val T.2.2.1
    | .istore k | .astore k => Nat.beq len 2 && Nat.blt k T.2.2.1
    | .iinc k _ => Nat.beq len 3 && Nat.blt k T.2.2.1
    | .goto off => Nat.beq len 3 && decide ((pc : Int) + off = (a : Int))
    | .ifCond _ off | .if_icmp _ off => Nat.beq len 3 && decide ((pc : Int) + off = (a : Int))
    | .getfield index => Nat.beq len 3 && q_fl T.1.cls index a b
    | .putfield index => Nat.beq len 3 && q_fl T.1.cls index a b && (match vwCl[b]? with
      | some (_, Tt, _) => !(Tt a).2.2.2
      | none => false)
    | .invokevirtual index | .invokestatic index => Nat.beq len 3 && q_iv T.1.cls index a b
    | .ldc index => Nat.beq len 2 && (match b with
      | 0 => q_in (Cond.constant T.1.cls index (iI a))
      | _ => SR.any (fun w => decide (w.1 = T.1.cls) && Nat.beq w.2.1 index && Nat.beq w.2.2.2 a))
    | .ldc_w index => Nat.beq len 3 && q_in (Cond.constant T.1.cls index (iI a))
    | .tableswitch .. | .lookupswitch .. => true
    | .new _ | .invokespecial _ => Nat.beq len 3
    | _ => Nat.beq len 1
def q_dec (code : ByteArray) (pc : Nat) (x : qIn) : Bool := match decode code pc with
  | .ok y => decide (y = (x.1, x.2.1))
  | .error _ => false
def q_ok (T : qT) : Bool := T.2.2.2.2.all (fun q => q_dec T.2.1 q.1 q.2 && q_row T q.1 q.2)
theorem q_ft_mem {tb : qTb} {pc : Nat} {x : qIn} (h : q_ft tb pc = some x) : (pc, x) ∈ tb := by
  induction tb with
  | nil => cases h
  | cons q r ih =>
    obtain ⟨q, y⟩ := q
    unfold q_ft at h
    cases hb : Nat.beq q pc with
    | true =>
      rw [hb] at h
      have e := Nat.eq_of_beq_eq_true hb
      cases h
      subst e
      exact List.mem_cons_self
    | false =>
      rw [hb] at h
      exact List.mem_cons_of_mem _ (ih h)
theorem q_ok_at {T : qT} (hok : q_ok T = true) {pc : Nat} {x : qIn} (h : q_ft T.2.2.2.2 pc = some x) : decode T.2.1 pc = .ok (x.1, x.2.1) ∧ q_row T pc x = true := by
  have h1 := List.all_eq_true.mp hok (pc, x) (q_ft_mem h)
  rw [Bool.and_eq_true] at h1
  refine ⟨?_, h1.2⟩
  have h2 := h1.1
  unfold q_dec at h2
  cases hd : decode T.2.1 pc with
  | ok y => rw [hd] at h2; rw [of_decide_eq_true h2]
  | error _ => rw [hd] at h2; cases h2
-- locals
def q_lh (ad : Nat → Nat) (ls : List Value) (n : Nat) (Lr : Array Slot) : Prop :=
  Lr.size = n ∧ ls.length = n ∧ lv_wf Lr ∧ (∀ (i : Nat) (v : Value), ls[i]? = some v → v.category = 1) ∧ ∀ (i : Nat) (v : Value), ls[i]? = some v → v ≠ .null → Lr[i]? = some (.val (q_v ad v))
theorem q_v_cat (ad : Nat → Nat) (v : Value) : (q_v ad v).category = v.category := by cases v <;> rfl
def q_prs (ad : Nat → Nat) (ls : List Value) (n : Nat) : List (Nat × Value) := (List.range n).filterMap (fun (i : Nat) => match (ls[i]? : Option Value) with
  | some Value.null => none
  | some v => some (i, q_v ad v)
  | none => none)
theorem q_prs_mem {ad : Nat → Nat} {ls : List Value} {n i : Nat} {w : Value} : (i, w) ∈ q_prs ad ls n ↔ i < n ∧ ∃ v, ls[i]? = some v ∧ v ≠ .null ∧ w = q_v ad v := by
  unfold q_prs
  rw [List.mem_filterMap]
  constructor
  · rintro ⟨j, hj, h⟩
    rw [List.mem_range] at hj
    cases hv : ls[j]? with
    | none => rw [hv] at h; cases h
    | some v =>
      rw [hv] at h
      cases v <;> first | (cases h; done) | (cases h; exact ⟨hj, _, hv, (fun q => by cases q), rfl⟩)
  · rintro ⟨hi, v, hv, hn, rfl⟩
    refine ⟨i, List.mem_range.mpr hi, ?_⟩
    rw [hv]
    cases v <;> first | rfl | exact absurd rfl hn
theorem q_lh.has {ad : Nat → Nat} {ls : List Value} {n : Nat} {Lr : Array Slot} (h : q_lh ad ls n Lr) : lv_has Lr n (q_prs ad ls n) := by
  refine ⟨h.1, h.2.2.1, fun q hq => ?_⟩
  obtain ⟨i, w⟩ := q
  obtain ⟨hi, v, hv, hn, rfl⟩ := q_prs_mem.mp hq
  exact h.2.2.2.2 i v hv hn
theorem q_lh.at {ad : Nat → Nat} {ls : List Value} {n : Nat} {Lr : Array Slot} (h : q_lh ad ls n Lr) {i : Nat} {v : Value} (hv : ls[i]? = some v) (hn : v ≠ .null) : Lr[i]? = some (.val (q_v ad v)) := h.2.2.2.2 i v hv hn
theorem q_lh.set {ad : Nat → Nat} {ls : List Value} {n i : Nat} {Lr L2 : Array Slot} {v : Value} (h : q_lh ad ls n Lr) (hc : v.category = 1)
    (h2 : lv_has L2 n ((i, q_v ad v) :: (q_prs ad ls n).filter (fun q => !(q.1 == i) && !(q.1 + 1 == i && q.2.category == 2)))) : q_lh ad (ls.set i v) n L2 := by
  refine ⟨h2.1, by rw [List.length_set]; exact h.2.1, h2.2.1, fun j w hw => ?_, fun j w hw hn => ?_⟩
  · rw [List.getElem?_set] at hw
    split at hw
    · split at hw
      · cases hw; exact hc
      · cases hw
    · exact h.2.2.2.1 j w hw
  · have hjn : j < n := by
      have := (List.getElem?_eq_some_iff.mp hw).1
      rw [List.length_set, h.2.1] at this
      exact this
    rw [List.getElem?_set] at hw
    split at hw
    next hij =>
      split at hw
      · cases hw
        subst hij
        exact h2.2.2 _ List.mem_cons_self
      · cases hw
    next hij =>
      refine h2.2.2 (j, q_v ad w) (List.mem_cons_of_mem _ (List.mem_filter.mpr ⟨q_prs_mem.mpr ⟨hjn, w, hw, hn, rfl⟩, ?_⟩))
      have hcw := h.2.2.2.1 j w hw
      have hne : (j == i) = false := by
        rw [beq_eq_false_iff_ne]
        exact fun q => hij q.symm
      simp [hne, q_v_cat, hcw]
-- the world
theorem q_ws_get (Γ : qG) (S : qS) {o : Nat} {x : (Nat × Nat) ⊕ (Nat × List Nat)} (h : oT[o]? = some x) : (q_ws Γ S)[o]? = some (Γ.2.2.1 o, q_en Γ S o x) := by
  unfold q_ws
  rw [List.getElem?_mapIdx, h]
  rfl
theorem q_ws_set {Γ : qG} {S S' : qS} {o : Nat} {x : (Nat × Nat) ⊕ (Nat × List Nat)} (h : oT[o]? = some x) (he : ∀ (o' : Nat) (y : (Nat × Nat) ⊕ (Nat × List Nat)), o' ≠ o → oT[o']? = some y → q_en Γ S' o' y = q_en Γ S o' y) :
    (q_ws Γ S).set o (Γ.2.2.1 o, q_en Γ S' o x) = q_ws Γ S' := by
  apply List.ext_getElem?
  intro j
  rw [List.getElem?_set]
  have hlen : o < (q_ws Γ S).length := by
    unfold q_ws
    rw [List.length_mapIdx]
    exact (List.getElem?_eq_some_iff.mp h).1
  by_cases hj : o = j
  · subst hj
    rw [if_pos rfl, if_pos hlen, q_ws_get Γ S' h]
  · rw [if_neg hj]
    cases hy : oT[j]? with
    | none =>
      unfold q_ws
      rw [List.getElem?_mapIdx, List.getElem?_mapIdx, hy]
      rfl
    | some y => rw [q_ws_get Γ S hy, q_ws_get Γ S' hy, he j y (fun q => hj q.symm) hy]
theorem q_up_ne {M : qM} {o o' k : Nat} {v : Int32} (h : o' ≠ o) : q_up M o k v o' = M o' := by
  unfold q_up va_up
  rw [if_neg h]
theorem q_iv_spec {own : String} {index a b n : Nat} {y : MethodName} (h : q_iv own index a b = true) (hm : mN[a]? = some (y, n)) (hb : b ≤ 3) : Cond.initialized y.cls ∈ WG ∧ (y.cls ≠ "java/lang/invoke/MethodHandle" ∧ y.cls ≠ "java/lang/invoke/VarHandle") ∧ (parseMethodDescriptor y.desc).map (fun d => d.parameters.length) = some n ∧ q_wv own index y b = true := by
  unfold q_iv at h
  rw [hm] at h
  simp only [Bool.and_eq_true, Bool.or_eq_true, Nat.blt_eq, q_nm, decide_eq_true_eq] at h
  obtain ⟨h1 | ⟨⟨⟨h1, h2⟩, h3⟩, h4⟩, h5⟩ := h
  · omega
  · exact ⟨q_in_spec h4, ⟨h1, h2⟩, h3, h5⟩
theorem q_types (b : Nat) (q : vw_C) (h : vwCl[b]? = some q) (o : Nat) (ks : List Nat) (ho : oT[o]? = some (.inr (b, ks))) (a kd : Nat) (hk : ks[a]? = some kd) {w : Int32} (v : Value) (hv : (kd = 0 ∧ v = .int w) ∨ (kd = 1 ∧ ∃ t, v = .ref t)) :
    ∃ ty, parseFieldDescriptor (q.2.1 a).2.2.1 = some ty ∧ (∀ ad : Nat → Nat, narrow ty (q_v ad v) = q_v ad v) ∧ ∀ ad : Nat → Nat, fits ty (q_v ad v) = true := by
  obtain ⟨h1, h2⟩ := q_kind h ho hk
  refine ⟨_, q_tysok b q h a h1, ?_⟩
  rcases hv with ⟨rfl, rfl⟩ | ⟨rfl, t, rfl⟩
  · have e : q_tys b a = .int := of_decide_eq_true h2
    rw [e]
    exact ⟨fun _ => rfl, fun _ => rfl⟩
  · unfold q_kindOk at h2
    cases hty : q_tys b a <;> rw [hty] at h2 <;> first | (cases h2; done) | exact ⟨fun _ => rfl, fun _ => rfl⟩
theorem q_typesZ (b : Nat) (q : vw_C) (h : vwCl[b]? = some q) (o : Nat) (ks : List Nat) (ho : oT[o]? = some (.inr (b, ks))) (a : Nat) (hk : ks[a]? = some 2) : parseFieldDescriptor (q.2.1 a).2.2.1 = some .boolean := by
  obtain ⟨h1, h2⟩ := q_kind h ho hk
  have e : q_tys b a = .boolean := of_decide_eq_true h2
  rw [q_tysok b q h a h1, e]
