-- what stands of a row of a table: the decoded instruction, its length, its resolved numbers
def q_fl (own : String) (index a b : Nat) : Bool := match vwCl[b]? with
  | some (_, Tt, N) => Nat.blt a N && (q_in (Cond.fieldLink own index (Tt a).1 (Tt a).2.1 (Tt a).2.2.1) || decide ((own, index, (Tt a).1, (Tt a).2.1, (Tt a).2.2.1, q_host) ∈ NF))
  | none => false
def q_nm (y : MethodName) (n : Nat) : Bool := decide (y.cls ≠ "java/lang/invoke/MethodHandle") && decide (y.cls ≠ "java/lang/invoke/VarHandle") && decide ((parseMethodDescriptor y.desc).map (fun d => d.parameters.length) = some n) && q_in (Cond.initialized y.cls)
def q_wv (own : String) (index : Nat) (y : MethodName) : Nat → Bool
  | 0 => q_in (Cond.methodLink own index y) && q_in (Cond.instanceMethod y) && q_in (Cond.selects y.cls y y)
  | 1 => decide ((own, index, y, q_host) ∈ NM) && q_in (Cond.instanceMethod y) && q_in (Cond.selects y.cls y y)
  | 2 => q_in (Cond.methodLink own index y) && q_in (Cond.static y)
  | 3 => decide ((own, index, y, q_host) ∈ NM) && q_in (Cond.static y)
  | _ => true
def q_iv (own : String) (index a b : Nat) : Bool := match mN[a]? with
  | some (y, n) => (Nat.blt 3 b || q_nm y n) && q_wv own index y b
  | none => Nat.blt 3 b
def q_rowG (fl iv : Nat → Nat → Nat → Bool) (ck : Nat → Nat → Bool) (T : qT) (pc : Nat) : qIn → Bool
  | (i, len, a, b) => match i with
    | .iconst _ => Nat.beq len 1
    | .bipush n => Nat.beq len 2 && decide (-128 ≤ n) && decide (n ≤ 127)
    | .sipush n => Nat.beq len 3 && decide (-32768 ≤ n) && decide (n ≤ 32767)
    | .iload_n _ | .aload_n _ => Nat.beq len 1
    | .iload _ | .aload _ => Nat.beq len 2
    | .istore_n k | .astore_n k => Nat.beq len 1 && Nat.blt k.val T.2.2.1
    | .istore k | .astore k => Nat.beq len 2 && Nat.blt k T.2.2.1
    | .iinc k _ => Nat.beq len 3 && Nat.blt k T.2.2.1
    | .goto off => Nat.beq len 3 && decide ((pc : Int) + off = (a : Int))
    | .ifCond _ off | .if_icmp _ off => Nat.beq len 3 && decide ((pc : Int) + off = (a : Int))
    | .getfield index => Nat.beq len 3 && fl index a b
    | .putfield index => Nat.beq len 3 && fl index a b && (match vwCl[b]? with
      | some (_, Tt, _) => !(Tt a).2.2.2
      | none => false)
    | .invokevirtual index | .invokestatic index => Nat.beq len 3 && iv index a b
    | .ldc index => Nat.beq len 2 && (match b with
      | 0 => ck index a
      | _ => SR.any (fun w => decide (w.1 = T.1.cls) && Nat.beq w.2.1 index && Nat.beq w.2.2.2 a))
    | .ldc_w index => Nat.beq len 3 && ck index a
    | .tableswitch .. | .lookupswitch .. => true
    | .new _ | .invokespecial _ => Nat.beq len 3
    | _ => Nat.beq len 1
def q_ck (own : String) (index a : Nat) : Bool := q_in (Cond.constant own index (iI a))
def q_row (T : qT) (pc : Nat) (x : qIn) : Bool := q_rowG (q_fl T.1.cls) (q_iv T.1.cls) (q_ck T.1.cls) T pc x
theorem q_rowG_mono {fl iv fl' iv' : Nat → Nat → Nat → Bool} {ck ck' : Nat → Nat → Bool} (h1 : ∀ i a b, fl i a b = true → fl' i a b = true) (h2 : ∀ i a b, iv i a b = true → iv' i a b = true) (h3 : ∀ i a, ck i a = true → ck' i a = true) {T : qT} {pc : Nat} {x : qIn} (h : q_rowG fl iv ck T pc x = true) : q_rowG fl' iv' ck' T pc x = true := by
  obtain ⟨i, len, a, b⟩ := x
  cases i
  case getfield index =>
    simp only [q_rowG, Bool.and_eq_true] at h ⊢
    exact ⟨h.1, h1 _ _ _ h.2⟩
  case putfield index =>
    simp only [q_rowG, Bool.and_eq_true] at h ⊢
    exact ⟨⟨h.1.1, h1 _ _ _ h.1.2⟩, h.2⟩
  case invokevirtual index =>
    simp only [q_rowG, Bool.and_eq_true] at h ⊢
    exact ⟨h.1, h2 _ _ _ h.2⟩
  case invokestatic index =>
    simp only [q_rowG, Bool.and_eq_true] at h ⊢
    exact ⟨h.1, h2 _ _ _ h.2⟩
  case ldc index =>
    simp only [q_rowG, Bool.and_eq_true] at h ⊢
    refine ⟨h.1, ?_⟩
    have h4 := h.2
    split at h4
    next => exact h3 _ _ h4
    next => exact h4
  case ldc_w index =>
    simp only [q_rowG, Bool.and_eq_true] at h ⊢
    exact ⟨h.1, h3 _ _ h.2⟩
  all_goals exact h
def q_flk (k index a b : Nat) : Bool := (FL.getD k []).any (fun e => Nat.beq e.1 index && Nat.beq e.2.1 a && Nat.beq e.2.2 b)
def q_ivk (k index a b : Nat) : Bool := (Nat.beq a 9999 && Nat.beq b 4) || (ML.getD k []).any (fun e => Nat.beq e.1 index && Nat.beq e.2.1 a && Nat.beq e.2.2.1 b)
def q_inh (w : Cond) (h : Nat) : Bool := goodWord w && decide (lw_tbl[h]? = some w)
theorem q_inh_spec {w : Cond} {h : Nat} (hh : q_inh w h = true) : q_in w = true := by
  simp only [q_inh, q_in, Bool.and_eq_true, decide_eq_true_eq] at hh ⊢
  exact ⟨hh.1, List.mem_of_getElem? hh.2⟩
def q_mh (y : MethodName) (n : Nat) (e : Nat × Nat × Nat × Bool) : Bool := decide (y.cls ≠ "java/lang/invoke/MethodHandle") && decide (y.cls ≠ "java/lang/invoke/VarHandle") && decide ((parseMethodDescriptor y.desc).map (fun d => d.parameters.length) = some n) && q_inh (Cond.initialized y.cls) e.1 && (match e.2.2.2 with
  | true => q_inh (Cond.instanceMethod y) e.2.1 && q_inh (Cond.selects y.cls y y) e.2.2.1
  | false => q_inh (Cond.static y) e.2.1)
def q_lk (own : String) (e : Nat × Nat × Nat × Nat) : Bool := match mN[e.2.1]?, MW[e.2.1]? with
  | some (y, _), some m => match e.2.2.1 with
    | 0 => m.2.2.2 && q_inh (Cond.methodLink own e.1 y) e.2.2.2
    | 1 => m.2.2.2 && decide ((own, e.1, y, q_host) ∈ NM)
    | 2 => !m.2.2.2 && q_inh (Cond.methodLink own e.1 y) e.2.2.2
    | 3 => !m.2.2.2 && decide ((own, e.1, y, q_host) ∈ NM)
    | _ => false
  | _, _ => false
def q_mhs (lo n : Nat) : Bool := (List.range n).all (fun i => match mN[lo + i]?, MW[lo + i]? with
  | some (y, n), some e => q_mh y n e
  | none, none => true
  | _, _ => false)
theorem q_mh_0 : q_mhs 0 60 = true := by decide +kernel
theorem q_mh_1 : q_mhs 60 60 = true := by decide +kernel
theorem q_mh_2 : q_mhs 120 60 = true := by decide +kernel
theorem q_mh_at {μ n : Nat} {y : MethodName} {e : Nat × Nat × Nat × Bool} (h1 : mN[μ]? = some (y, n)) (h2 : MW[μ]? = some e) : q_mh y n e = true := by
  have hlen : mN.length ≤ 180 := by decide +kernel
  have hlt : μ < 180 := Nat.lt_of_lt_of_le (List.getElem?_eq_some_iff.mp h1).1 hlen
  have key : ∀ lo, q_mhs lo 60 = true → lo ≤ μ → μ < lo + 60 → q_mh y n e = true := by
    intro lo h a1 a2
    have h3 := List.all_eq_true.mp h (μ - lo) (List.mem_range.mpr (by omega))
    have e1 : lo + (μ - lo) = μ := by omega
    rw [e1, h1, h2] at h3
    exact h3
  by_cases c1 : μ < 60
  · exact key 0 q_mh_0 (by omega) (by omega)
  · by_cases c2 : μ < 120
    · exact key 60 q_mh_1 (by omega) (by omega)
    · exact key 120 q_mh_2 (by omega) (by omega)
theorem q_lk_0 : (ML.getD 0 []).all (q_lk (CN.getD 0 "")) = true := by decide +kernel
theorem q_lk_1 : (ML.getD 1 []).all (q_lk (CN.getD 1 "")) = true := by decide +kernel
theorem q_lk_2 : (ML.getD 2 []).all (q_lk (CN.getD 2 "")) = true := by decide +kernel
theorem q_lk_3 : (ML.getD 3 []).all (q_lk (CN.getD 3 "")) = true := by decide +kernel
theorem q_lk_4 : (ML.getD 4 []).all (q_lk (CN.getD 4 "")) = true := by decide +kernel
theorem q_lk_5 : (ML.getD 5 []).all (q_lk (CN.getD 5 "")) = true := by decide +kernel
theorem q_lk_6 : (ML.getD 6 []).all (q_lk (CN.getD 6 "")) = true := by decide +kernel
theorem q_lk_7 : (ML.getD 7 []).all (q_lk (CN.getD 7 "")) = true := by decide +kernel
theorem q_lk_8 : (ML.getD 8 []).all (q_lk (CN.getD 8 "")) = true := by decide +kernel
theorem q_lk_at {k : Nat} (hk : k < 9) : (ML.getD k []).all (q_lk (CN.getD k "")) = true := by
  match k, hk with
  | 0, _ => exact q_lk_0
  | 1, _ => exact q_lk_1
  | 2, _ => exact q_lk_2
  | 3, _ => exact q_lk_3
  | 4, _ => exact q_lk_4
  | 5, _ => exact q_lk_5
  | 6, _ => exact q_lk_6
  | 7, _ => exact q_lk_7
  | 8, _ => exact q_lk_8
theorem q_lk_iv {own : String} {e : Nat × Nat × Nat × Nat} (h : q_lk own e = true) : q_iv own e.1 e.2.1 e.2.2.1 = true := by
  obtain ⟨ix, μ, b, hi⟩ := e
  unfold q_lk at h
  dsimp only at h ⊢
  cases hm : mN[μ]? with
  | none => rw [hm] at h; cases h
  | some q =>
    obtain ⟨y, n⟩ := q
    cases hw : MW[μ]? with
    | none => rw [hm, hw] at h; cases h
    | some m =>
      rw [hm, hw] at h
      dsimp only at h
      have hh := q_mh_at hm hw
      obtain ⟨m1, m2, m3, m4⟩ := m
      simp only [q_mh, Bool.and_eq_true, decide_eq_true_eq] at hh
      obtain ⟨⟨⟨⟨c1, c2⟩, c3⟩, c4⟩, c5⟩ := hh
      have hnm : q_nm y n = true := by
        simp only [q_nm, Bool.and_eq_true, decide_eq_true_eq]
        exact ⟨⟨⟨c1, c2⟩, c3⟩, q_inh_spec c4⟩
      unfold q_iv
      rw [hm]
      simp only [Bool.and_eq_true, Bool.or_eq_true]
      refine ⟨Or.inr hnm, ?_⟩
      match b with
      | 0 =>
        simp only [Bool.and_eq_true] at h
        obtain ⟨rfl, h2⟩ := h
        simp only [Bool.and_eq_true] at c5
        simp only [q_wv, Bool.and_eq_true]
        exact ⟨⟨q_inh_spec h2, q_inh_spec c5.1⟩, q_inh_spec c5.2⟩
      | 1 =>
        simp only [Bool.and_eq_true] at h
        obtain ⟨rfl, h2⟩ := h
        simp only [Bool.and_eq_true] at c5
        simp only [q_wv, Bool.and_eq_true]
        exact ⟨⟨h2, q_inh_spec c5.1⟩, q_inh_spec c5.2⟩
      | 2 =>
        simp only [Bool.and_eq_true, Bool.not_eq_true'] at h
        obtain ⟨rfl, h2⟩ := h
        simp only [q_wv, Bool.and_eq_true]
        exact ⟨q_inh_spec h2, q_inh_spec c5⟩
      | 3 =>
        simp only [Bool.and_eq_true, Bool.not_eq_true'] at h
        obtain ⟨rfl, h2⟩ := h
        simp only [q_wv, Bool.and_eq_true]
        exact ⟨h2, q_inh_spec c5⟩
      | b + 4 => cases h
def q_ckk (k index a : Nat) : Bool := (KL.getD k []).any (fun e => Nat.beq e.1 index && Nat.beq e.2 a)
theorem q_fl_ok : (List.range 9).all (fun k => (FL.getD k []).all (fun e => q_fl (CN.getD k "") e.1 e.2.1 e.2.2)) = true := by decide +kernel
theorem q_ck_ok : (List.range 9).all (fun k => (KL.getD k []).all (fun e => q_ck (CN.getD k "") e.1 e.2)) = true := by decide +kernel
theorem q_flk_spec {k index a b : Nat} (hk : k < 9) (h : q_flk k index a b = true) : q_fl (CN.getD k "") index a b = true := by
  obtain ⟨e, he, h1⟩ := List.any_eq_true.mp h
  simp only [Bool.and_eq_true, Nat.beq_eq] at h1
  have h2 := List.all_eq_true.mp (List.all_eq_true.mp q_fl_ok k (List.mem_range.mpr hk)) e he
  rw [h1.1.1, h1.1.2, h1.2] at h2
  exact h2
theorem q_ivk_spec {k index a b : Nat} (hk : k < 9) (h : q_ivk k index a b = true) : q_iv (CN.getD k "") index a b = true := by
  simp only [q_ivk, Bool.or_eq_true, Bool.and_eq_true, Nat.beq_eq] at h
  rcases h with ⟨rfl, rfl⟩ | h
  · have e : mN[9999]? = none := by decide +kernel
    unfold q_iv
    rw [e]
    rfl
  · obtain ⟨e, he, h1⟩ := List.any_eq_true.mp h
    simp only [Bool.and_eq_true, Nat.beq_eq] at h1
    have h2 := q_lk_iv (List.all_eq_true.mp (q_lk_at hk) e he)
    rw [h1.1.1, h1.1.2, h1.2] at h2
    exact h2
theorem q_ckk_spec {k index a : Nat} (hk : k < 9) (h : q_ckk k index a = true) : q_ck (CN.getD k "") index a = true := by
  obtain ⟨e, he, h1⟩ := List.any_eq_true.mp h
  simp only [Bool.and_eq_true, Nat.beq_eq] at h1
  have h2 := List.all_eq_true.mp (List.all_eq_true.mp q_ck_ok k (List.mem_range.mpr hk)) e he
  rw [h1.1, h1.2] at h2
  exact h2
def q_dec (code : ByteArray) (pc : Nat) (x : qIn) : Bool := match decode code pc with
  | .ok y => decide (y = (x.1, x.2.1))
  | .error _ => false
def q_ok (T : qT) : Bool := (List.range 9).any (fun k => decide (CN.getD k "" = T.1.cls) && T.2.2.2.2.all (fun q => q_dec T.2.1 q.1 q.2 && q_rowG (q_flk k) (q_ivk k) (q_ckk k) T q.1 q.2))
theorem q_ft_mem {tb : qTb} {pc : Nat} {x : qIn} (h : q_ft tb pc = some x) : (pc, x) ∈ tb := by
  induction tb with
  | nil => cases h
  | cons q r ih =>
    obtain ⟨q, y⟩ := q
    unfold q_ft at h
    cases hb : Nat.beq q pc with
    | true =>
      rw [hb] at h
      have e := Nat.eq_of_beq_eq_true hb
      cases h
      subst e
      exact List.mem_cons_self
    | false =>
      rw [hb] at h
      exact List.mem_cons_of_mem _ (ih h)
theorem q_ok_at {T : qT} (hok : q_ok T = true) {pc : Nat} {x : qIn} (h : q_ft T.2.2.2.2 pc = some x) : decode T.2.1 pc = .ok (x.1, x.2.1) ∧ q_row T pc x = true := by
  obtain ⟨k, hk, h0⟩ := List.any_eq_true.mp hok
  rw [Bool.and_eq_true, decide_eq_true_eq] at h0
  have hk8 := List.mem_range.mp hk
  have h1 := List.all_eq_true.mp h0.2 (pc, x) (q_ft_mem h)
  rw [Bool.and_eq_true] at h1
  refine ⟨?_, q_rowG_mono (fun i a b z => ?_) (fun i a b z => ?_) (fun i a z => ?_) h1.2⟩
  rotate_left
  · rw [← h0.1]; exact q_flk_spec hk8 z
  · rw [← h0.1]; exact q_ivk_spec hk8 z
  · rw [← h0.1]; exact q_ckk_spec hk8 z
  have h2 := h1.1
  unfold q_dec at h2
  cases hd : decode T.2.1 pc with
  | ok y => rw [hd] at h2; rw [of_decide_eq_true h2]
  | error _ => rw [hd] at h2; cases h2
-- locals
def q_lh (ad : Nat → Nat) (ls : List Value) (n : Nat) (Lr : Array Slot) : Prop :=
  Lr.size = n ∧ ls.length = n ∧ lv_wf Lr ∧ (∀ (i : Nat) (v : Value), ls[i]? = some v → v.category = 1) ∧ ∀ (i : Nat) (v : Value), ls[i]? = some v → v ≠ .null → Lr[i]? = some (.val (q_v ad v))
theorem q_v_cat (ad : Nat → Nat) (v : Value) : (q_v ad v).category = v.category := by cases v <;> rfl
def q_prs (ad : Nat → Nat) (ls : List Value) (n : Nat) : List (Nat × Value) := (List.range n).filterMap (fun (i : Nat) => match (ls[i]? : Option Value) with
  | some Value.null => none
  | some v => some (i, q_v ad v)
  | none => none)
theorem q_prs_mem {ad : Nat → Nat} {ls : List Value} {n i : Nat} {w : Value} : (i, w) ∈ q_prs ad ls n ↔ i < n ∧ ∃ v, ls[i]? = some v ∧ v ≠ .null ∧ w = q_v ad v := by
  unfold q_prs
  rw [List.mem_filterMap]
  constructor
  · rintro ⟨j, hj, h⟩
    rw [List.mem_range] at hj
    cases hv : ls[j]? with
    | none => rw [hv] at h; cases h
    | some v =>
      rw [hv] at h
      cases v <;> first | (cases h; done) | (cases h; exact ⟨hj, _, hv, (fun q => by cases q), rfl⟩)
  · rintro ⟨hi, v, hv, hn, rfl⟩
    refine ⟨i, List.mem_range.mpr hi, ?_⟩
    rw [hv]
    cases v <;> first | rfl | exact absurd rfl hn
theorem q_lh.has {ad : Nat → Nat} {ls : List Value} {n : Nat} {Lr : Array Slot} (h : q_lh ad ls n Lr) : lv_has Lr n (q_prs ad ls n) := by
  refine ⟨h.1, h.2.2.1, fun q hq => ?_⟩
  obtain ⟨i, w⟩ := q
  obtain ⟨hi, v, hv, hn, rfl⟩ := q_prs_mem.mp hq
  exact h.2.2.2.2 i v hv hn
theorem q_lh.at {ad : Nat → Nat} {ls : List Value} {n : Nat} {Lr : Array Slot} (h : q_lh ad ls n Lr) {i : Nat} {v : Value} (hv : ls[i]? = some v) (hn : v ≠ .null) : Lr[i]? = some (.val (q_v ad v)) := h.2.2.2.2 i v hv hn
theorem q_lh.set {ad : Nat → Nat} {ls : List Value} {n i : Nat} {Lr L2 : Array Slot} {v : Value} (h : q_lh ad ls n Lr) (hc : v.category = 1)
    (h2 : lv_has L2 n ((i, q_v ad v) :: (q_prs ad ls n).filter (fun q => !(q.1 == i) && !(q.1 + 1 == i && q.2.category == 2)))) : q_lh ad (ls.set i v) n L2 := by
  refine ⟨h2.1, by rw [List.length_set]; exact h.2.1, h2.2.1, fun j w hw => ?_, fun j w hw hn => ?_⟩
  · rw [List.getElem?_set] at hw
    split at hw
    · split at hw
      · cases hw; exact hc
      · cases hw
    · exact h.2.2.2.1 j w hw
  · have hjn : j < n := by
      have := (List.getElem?_eq_some_iff.mp hw).1
      rw [List.length_set, h.2.1] at this
      exact this
    rw [List.getElem?_set] at hw
    split at hw
    next hij =>
      split at hw
      · cases hw
        subst hij
        exact h2.2.2 _ List.mem_cons_self
      · cases hw
    next hij =>
      refine h2.2.2 (j, q_v ad w) (List.mem_cons_of_mem _ (List.mem_filter.mpr ⟨q_prs_mem.mpr ⟨hjn, w, hw, hn, rfl⟩, ?_⟩))
      have hcw := h.2.2.2.1 j w hw
      have hne : (j == i) = false := by
        rw [beq_eq_false_iff_ne]
        exact fun q => hij q.symm
      simp [hne, q_v_cat, hcw]
-- the world
theorem q_ws_get (Γ : qG) (S : qS) {o : Nat} {x : (Nat × Nat) ⊕ (Nat × List Nat)} (h : oT[o]? = some x) : (q_ws Γ S)[o]? = some (Γ.2.2.1 o, q_en Γ S o x) := by
  unfold q_ws
  rw [List.getElem?_mapIdx, h]
  rfl
theorem q_ws_set {Γ : qG} {S S' : qS} {o : Nat} {x : (Nat × Nat) ⊕ (Nat × List Nat)} (h : oT[o]? = some x) (he : ∀ (o' : Nat) (y : (Nat × Nat) ⊕ (Nat × List Nat)), o' ≠ o → oT[o']? = some y → q_en Γ S' o' y = q_en Γ S o' y) :
    (q_ws Γ S).set o (Γ.2.2.1 o, q_en Γ S' o x) = q_ws Γ S' := by
  apply List.ext_getElem?
  intro j
  rw [List.getElem?_set]
  have hlen : o < (q_ws Γ S).length := by
    unfold q_ws
    rw [List.length_mapIdx]
    exact (List.getElem?_eq_some_iff.mp h).1
  by_cases hj : o = j
  · subst hj
    rw [if_pos rfl, if_pos hlen, q_ws_get Γ S' h]
  · rw [if_neg hj]
    cases hy : oT[j]? with
    | none =>
      unfold q_ws
      rw [List.getElem?_mapIdx, List.getElem?_mapIdx, hy]
      rfl
    | some y => rw [q_ws_get Γ S hy, q_ws_get Γ S' hy, he j y (fun q => hj q.symm) hy]
theorem q_up_ne {M : qM} {o o' k : Nat} {v : Int32} (h : o' ≠ o) : q_up M o k v o' = M o' := by
  unfold q_up va_up
  rw [if_neg h]
theorem q_iv_spec {own : String} {index a b n : Nat} {y : MethodName} (h : q_iv own index a b = true) (hm : mN[a]? = some (y, n)) (hb : b ≤ 3) : Cond.initialized y.cls ∈ WG ∧ (y.cls ≠ "java/lang/invoke/MethodHandle" ∧ y.cls ≠ "java/lang/invoke/VarHandle") ∧ (parseMethodDescriptor y.desc).map (fun d => d.parameters.length) = some n ∧ q_wv own index y b = true := by
  unfold q_iv at h
  rw [hm] at h
  simp only [Bool.and_eq_true, Bool.or_eq_true, Nat.blt_eq, q_nm, decide_eq_true_eq] at h
  obtain ⟨h1 | ⟨⟨⟨h1, h2⟩, h3⟩, h4⟩, h5⟩ := h
  · omega
  · exact ⟨q_in_spec h4, ⟨h1, h2⟩, h3, h5⟩
theorem q_types (b : Nat) (q : vw_C) (h : vwCl[b]? = some q) (o : Nat) (ks : List Nat) (ho : oT[o]? = some (.inr (b, ks))) (a kd : Nat) (hk : ks[a]? = some kd) {w : Int32} (v : Value) (hv : (kd = 0 ∧ v = .int w) ∨ (kd = 1 ∧ ∃ t, v = .ref t)) :
    ∃ ty, parseFieldDescriptor (q.2.1 a).2.2.1 = some ty ∧ (∀ ad : Nat → Nat, narrow ty (q_v ad v) = q_v ad v) ∧ ∀ ad : Nat → Nat, fits ty (q_v ad v) = true := by
  obtain ⟨h1, h2⟩ := q_kind h ho hk
  refine ⟨_, q_tysok b q h a h1, ?_⟩
  rcases hv with ⟨rfl, rfl⟩ | ⟨rfl, t, rfl⟩
  · have e : q_tys b a = .int := of_decide_eq_true h2
    rw [e]
    exact ⟨fun _ => rfl, fun _ => rfl⟩
  · unfold q_kindOk at h2
    cases hty : q_tys b a <;> rw [hty] at h2 <;> first | (cases h2; done) | exact ⟨fun _ => rfl, fun _ => rfl⟩
theorem q_typesZ (b : Nat) (q : vw_C) (h : vwCl[b]? = some q) (o : Nat) (ks : List Nat) (ho : oT[o]? = some (.inr (b, ks))) (a : Nat) (hk : ks[a]? = some 2) : parseFieldDescriptor (q.2.1 a).2.2.1 = some .boolean := by
  obtain ⟨h1, h2⟩ := q_kind h ho hk
  have e : q_tys b a = .boolean := of_decide_eq_true h2
  rw [q_tysok b q h a h1, e]
