def q_cc : ClassFile.Cond → Int32 → Int32 → Prop
  | .eq, x, y => x = y
  | .ne, x, y => ¬ x = y
  | .lt, x, y => x < y
  | .ge, x, y => y ≤ x
  | .gt, x, y => y < x
  | .le, x, y => x ≤ y
section Rows2
variable {l : Launch} {Γ : qG} {T : qT} {d r pc a b : Nat} {ls rest : List Value} {S : qS} {Q : qO → qS → Prop}
theorem q_ty {Γ : qG} {A : Nat → Prop} {s : State} (h : q_K Γ A s) (t : Nat) {ty : FieldType} (ht : ([.int, .char, .long] : List FieldType)[t]? = some ty) : Γ.2.1[t]? = some ((Γ.2.1.getD t (0, .int)).1, ty) := by
  rw [← h.2.1, List.getElem?_map] at ht
  cases hq : Γ.2.1[t]? with
  | none => rw [hq] at ht; cases ht
  | some q =>
    rw [hq] at ht
    have e : q.2 = ty := Option.some.inj ht
    rw [List.getD_eq_getElem?_getD, hq]
    subst e
    rfl

theorem V.icmp {cd : ClassFile.Cond} {off : Int} {x y : Int32} (hf : q_ft T.2.2.2.2 pc = some (.if_icmp cd off, 3, a, b)) (kt : q_cc cd x y → V l Γ T d r a ls rest S Q) (kf : ¬ q_cc cd x y → V l Γ T d r (pc + 3) ls rest S Q) : V l Γ T d r pc ls (.int y :: .int x :: rest) S Q := by
  intro A p e R s m args below meth c H locs cells slots Lr hok hC hW hL hc1 hc2
  obtain ⟨hd, hrow⟩ := q_ok_at hok hf
  dsimp only at hd
  have hC' := hC
  obtain ⟨hx, hb, hml, hr, hlk, hown, hts, hK, hA, hfr, hlo, hnm⟩ := hC
  simp only [q_row, q_rowG, Nat.beq_eq, Bool.and_eq_true, decide_eq_true_eq] at hrow
  have Kt := fun h => kt h A p e R s m args below meth c H locs cells slots Lr hok hC' hW hL hc1 hc2
  have Kf := fun h => kf h A p e R s m args below meth c H locs cells slots Lr hok hC' hW hL hc1 hc2
  cases cd
  · exact lv_icmp_eq hx hb hd hrow.2 Kt Kf
  · exact lv_icmp_ne hx hb hd hrow.2 Kt (fun h => Kf (fun q => q h))
  · exact lv_icmp_lt hx hb hd hrow.2 Kt Kf
  · exact lv_icmp_ge hx hb hd hrow.2 Kt Kf
  · exact lv_icmp_gt hx hb hd hrow.2 Kt Kf
  · exact lv_icmp_le hx hb hd hrow.2 Kt Kf
theorem V.ifc {cd : ClassFile.Cond} {off : Int} {x : Int32} (hf : q_ft T.2.2.2.2 pc = some (.ifCond cd off, 3, a, b)) (kt : q_cc cd x 0 → V l Γ T d r a ls rest S Q) (kf : ¬ q_cc cd x 0 → V l Γ T d r (pc + 3) ls rest S Q) : V l Γ T d r pc ls (.int x :: rest) S Q := by
  intro A p e R s m args below meth c H locs cells slots Lr hok hC hW hL hc1 hc2
  obtain ⟨hd, hrow⟩ := q_ok_at hok hf
  dsimp only at hd
  have hC' := hC
  obtain ⟨hx, hb, hml, hr, hlk, hown, hts, hK, hA, hfr, hlo, hnm⟩ := hC
  simp only [q_row, q_rowG, Nat.beq_eq, Bool.and_eq_true, decide_eq_true_eq] at hrow
  have Kt := fun h => kt h A p e R s m args below meth c H locs cells slots Lr hok hC' hW hL hc1 hc2
  have Kf := fun h => kf h A p e R s m args below meth c H locs cells slots Lr hok hC' hW hL hc1 hc2
  cases cd
  · exact lv_if_eq hx hb hd hrow.2 Kt Kf
  · exact lv_if_ne hx hb hd hrow.2 Kt (fun h => Kf (fun q => q h))
  · exact lv_if_lt hx hb hd hrow.2 Kt Kf
  · exact lv_if_ge hx hb hd hrow.2 Kt Kf
  · exact lv_if_gt hx hb hd hrow.2 Kt Kf
  · exact lv_if_le hx hb hd hrow.2 Kt Kf
theorem V.idiv {x y : Int32} (hf : q_ft T.2.2.2.2 pc = some (.idiv, 1, a, b)) (hy : ¬ y = 0) (k : V l Γ T d r (pc + 1) ls (.int (x / y) :: rest) S Q) : V l Γ T d r pc ls (.int y :: .int x :: rest) S Q := by
  intro A p e R s m args below meth c H locs cells slots Lr hok hC hW hL hc1 hc2
  obtain ⟨hd, hrow⟩ := q_ok_at hok hf
  dsimp only at hd
  have hC' := hC
  obtain ⟨hx, hb, hml, hr, hlk, hown, hts, hK, hA, hfr, hlo, hnm⟩ := hC
  exact lv_idiv hx hb hd hy (k A p e R s m args below meth c H locs cells slots Lr hok hC' hW hL hc1 hc2)
theorem V.irem {x y : Int32} (hf : q_ft T.2.2.2.2 pc = some (.irem, 1, a, b)) (hy : ¬ y = 0) (k : V l Γ T d r (pc + 1) ls (.int (x - x / y * y) :: rest) S Q) : V l Γ T d r pc ls (.int y :: .int x :: rest) S Q := by
  intro A p e R s m args below meth c H locs cells slots Lr hok hC hW hL hc1 hc2
  obtain ⟨hd, hrow⟩ := q_ok_at hok hf
  dsimp only at hd
  have hC' := hC
  obtain ⟨hx, hb, hml, hr, hlk, hown, hts, hK, hA, hfr, hlo, hnm⟩ := hC
  exact lv_irem hx hb hd hy (k A p e R s m args below meth c H locs cells slots Lr hok hC' hW hL hc1 hc2)
theorem V.iald {o n : Nat} {i : Int32} (hf : q_ft T.2.2.2.2 pc = some (.iaload, 1, a, b)) (ho : oT[o]? = some (.inl (0, n))) (hi : vp_in i n) (k : V l Γ T d r (pc + 1) ls (.int (S.1 o i.toNatClampNeg) :: rest) S Q) : V l Γ T d r pc ls (.int i :: .ref o :: rest) S Q := by
  intro A p e R s m args below meth c H locs cells slots Lr hok hC hW hL hc1 hc2
  obtain ⟨hd, hrow⟩ := q_ok_at hok hf
  dsimp only at hd
  have hC' := hC
  obtain ⟨hx, hb, hml, hr, hlk, hown, hts, hK, hA, hfr, hlo, hnm⟩ := hC
  exact va_iald hx hb hK.1 hW.1 o 0 (q_ws_get Γ S ho) (q_ty hK 0 rfl) hi hd (k A p e R s m args below meth c H locs cells slots Lr hok hC' hW hL hc1 hc2)
theorem V.cald {o n : Nat} {i : Int32} (hf : q_ft T.2.2.2.2 pc = some (.caload, 1, a, b)) (ho : oT[o]? = some (.inl (1, n))) (hi : vp_in i n) (k : V l Γ T d r (pc + 1) ls (.int (S.1 o i.toNatClampNeg) :: rest) S Q) : V l Γ T d r pc ls (.int i :: .ref o :: rest) S Q := by
  intro A p e R s m args below meth c H locs cells slots Lr hok hC hW hL hc1 hc2
  obtain ⟨hd, hrow⟩ := q_ok_at hok hf
  dsimp only at hd
  have hC' := hC
  obtain ⟨hx, hb, hml, hr, hlk, hown, hts, hK, hA, hfr, hlo, hnm⟩ := hC
  exact va_cald hx hb hK.1 hW.1 o 1 (q_ws_get Γ S ho) (q_ty hK 1 rfl) hi hd (k A p e R s m args below meth c H locs cells slots Lr hok hC' hW hL hc1 hc2)
theorem V.iast {o n : Nat} {i x : Int32} (hf : q_ft T.2.2.2.2 pc = some (.iastore, 1, a, b)) (ho : oT[o]? = some (.inl (0, n))) (hi : vp_in i n) (k : V l Γ T d r (pc + 1) ls rest (q_up S.1 o i.toNatClampNeg x, S.2) Q) : V l Γ T d r pc ls (.int x :: .int i :: .ref o :: rest) S Q := by
  intro A p e R s m args below meth c H locs cells slots Lr hok hC hW hL hc1 hc2
  obtain ⟨hd, hrow⟩ := q_ok_at hok hf
  dsimp only at hd
  have hC' := hC
  obtain ⟨hx, hb, hml, hr, hlk, hown, hts, hK, hA, hfr, hlo, hnm⟩ := hC
  have hset := q_ws_set (Γ := Γ) (S := S) (S' := (q_up S.1 o i.toNatClampNeg x, S.2)) ho (fun o' y hne _ => q_en_ne hne y)
  have he : q_en Γ (q_up S.1 o i.toNatClampNeg x, S.2) o (.inl (0, n)) = .inl ((Γ.2.1.getD 0 (0, .int)).1, n, .inl (upd (S.1 o) i.toNatClampNeg x)) := by
    have e1 : q_up S.1 o i.toNatClampNeg x o = upd (S.1 o) i.toNatClampNeg x := by funext j; simp [q_up, va_up, upd]
    simp only [q_en, e1]
  rw [he] at hset
  exact va_iast hx hb hK.1 hW.1 hW.2.1 hW.2.2 o 0 (q_ws_get Γ S ho) (q_ty hK 0 rfl) hi hd (fun H1 locs1 h3 h4 h5 => k A p e R s m args below meth c H1 locs1 cells slots Lr hok hC' ⟨hset ▸ h3, hset ▸ h4, h5⟩ hL hc1 hc2)
theorem V.cast {o n : Nat} {i x : Int32} (hf : q_ft T.2.2.2.2 pc = some (.castore, 1, a, b)) (ho : oT[o]? = some (.inl (1, n))) (hi : vp_in i n) (k : V l Γ T d r (pc + 1) ls rest (q_up S.1 o i.toNatClampNeg (vp_nar .char x), S.2) Q) : V l Γ T d r pc ls (.int x :: .int i :: .ref o :: rest) S Q := by
  intro A p e R s m args below meth c H locs cells slots Lr hok hC hW hL hc1 hc2
  obtain ⟨hd, hrow⟩ := q_ok_at hok hf
  dsimp only at hd
  have hC' := hC
  obtain ⟨hx, hb, hml, hr, hlk, hown, hts, hK, hA, hfr, hlo, hnm⟩ := hC
  have hset := q_ws_set (Γ := Γ) (S := S) (S' := (q_up S.1 o i.toNatClampNeg (vp_nar .char x), S.2)) ho (fun o' y hne _ => q_en_ne hne y)
  have he : q_en Γ (q_up S.1 o i.toNatClampNeg (vp_nar .char x), S.2) o (.inl (1, n)) = .inl ((Γ.2.1.getD 1 (0, .int)).1, n, .inl (upd (S.1 o) i.toNatClampNeg (vp_nar .char x))) := by
    have e1 : q_up S.1 o i.toNatClampNeg (vp_nar .char x) o = upd (S.1 o) i.toNatClampNeg (vp_nar .char x) := by funext j; simp [q_up, va_up, upd]
    simp only [q_en, e1]
  rw [he] at hset
  exact va_cast hx hb hK.1 hW.1 hW.2.1 hW.2.2 o 1 (q_ws_get Γ S ho) (q_ty hK 1 rfl) hi hd (fun H1 locs1 h3 h4 h5 => k A p e R s m args below meth c H1 locs1 cells slots Lr hok hC' ⟨hset ▸ h3, hset ▸ h4, h5⟩ hL hc1 hc2)
theorem V.alen {o t n : Nat} (hf : q_ft T.2.2.2.2 pc = some (.arraylength, 1, a, b)) (ho : oT[o]? = some (.inl (t, n))) (ht : t < 2) (k : V l Γ T d r (pc + 1) ls (.int (nI n) :: rest) S Q) : V l Γ T d r pc ls (.ref o :: rest) S Q := by
  intro A p e R s m args below meth c H locs cells slots Lr hok hC hW hL hc1 hc2
  obtain ⟨hd, hrow⟩ := q_ok_at hok hf
  dsimp only at hd
  have hC' := hC
  obtain ⟨hx, hb, hml, hr, hlk, hown, hts, hK, hA, hfr, hlo, hnm⟩ := hC
  have K := k A p e R s m args below meth c H locs cells slots Lr hok hC' hW hL hc1 hc2
  match t, ht with
  | 0, _ => exact va_alen hx hb hK.1 hW.1 o 0 (q_ws_get Γ S ho) (q_ty hK 0 rfl) rfl hd K
  | 1, _ => exact va_alen hx hb hK.1 hW.1 o 1 (q_ws_get Γ S ho) (q_ty hK 1 rfl) rfl hd K
theorem q_end {p : Program} {l : Launch} {e : Env} {R : Room} {s : State} {m : MethodId} {args : Array Value} {below : List Frame} {meth : Method} {c : Code} {H : Heap} {locs : List Loc} {cells slots : Nat} {g : JFrame} {Γ : qG} {A : Nat → Prop} {Q : qO → qS → Prop} (h1 : cells ≤ R.cells) (h2 : slots ≤ R.slots)
    (h : W p l e R s m args below meth c H locs R.cells R.slots (MQ below (q_Q Γ A Q) args s R.cells R.slots A) g) : W p l e R s m args below meth c H locs cells slots (q_E Γ A Q below args s R) g := by
  refine W.widen (k := R.cells) (n := R.slots) h1 h2 ?_
  intro T hT X
  obtain ⟨t, a1, b1⟩ := h T hT X
  exact ⟨t, a1, Or.inl b1⟩
theorem q_back {Γ : qG} {A : Nat → Prop} {Q : qO → qS → Prop} {s t : State} {S : qS} {H : Heap} {locs : List Loc} {args : Array Value} {v : Option Value} (hW : q_W Γ A s S H locs) (ht : t.heap = H) (hq : Q (.inl v) S) : q_Q Γ A Q args s (.returned (v.map (q_v Γ.2.2.1))) t :=
  ⟨⟨v, S, hq, rfl, by rw [ht]; exact hW.1, hW.2.1⟩, hW.2.2.F ht⟩
theorem V.iret {v : Int32} (hf : q_ft T.2.2.2.2 pc = some (.ireturn, 1, a, b)) (hrt : T.2.2.2.1 = some .int) (hq : Q (.inl (some (.int v))) S) : V l Γ T d r pc ls [.int v] S Q := by
  intro A p e R s m args below meth c H locs cells slots Lr hok hC hW hL hc1 hc2
  obtain ⟨hd, hrow⟩ := q_ok_at hok hf
  dsimp only at hd
  have hC' := hC
  obtain ⟨hx, hb, hml, hr, hlk, hown, hts, hK, hA, hfr, hlo, hnm⟩ := hC
  exact q_end (by omega) (by omega) (W.iret hx hb (hr.trans hrt) (fun t ht _ => q_back hW ht hq) hW.2.2.2.2 hd hlk)
theorem V.zret {v : Int32} {ty : FieldType} (hf : q_ft T.2.2.2.2 pc = some (.ireturn, 1, a, b)) (hrt : T.2.2.2.1 = some ty) (hn : narrow ty (.int v) = .int v) (hq : Q (.inl (some (.int v))) S) : V l Γ T d r pc ls [.int v] S Q := by
  intro A p e R s m args below meth c H locs cells slots Lr hok hC hW hL hc1 hc2
  obtain ⟨hd, hrow⟩ := q_ok_at hok hf
  dsimp only at hd
  have hC' := hC
  obtain ⟨hx, hb, hml, hr, hlk, hown, hts, hK, hA, hfr, hlo, hnm⟩ := hC
  exact q_end (by omega) (by omega) (W.zret hx hb (hr.trans hrt) hn (fun t ht _ => q_back hW ht hq) hW.2.2.2.2 hd hlk)
theorem V.vret (hf : q_ft T.2.2.2.2 pc = some (.return_, 1, a, b)) (hrt : T.2.2.2.1 = none) (hq : Q (.inl none) S) : V l Γ T d r pc ls [] S Q := by
  intro A p e R s m args below meth c H locs cells slots Lr hok hC hW hL hc1 hc2
  obtain ⟨hd, hrow⟩ := q_ok_at hok hf
  dsimp only at hd
  have hC' := hC
  obtain ⟨hx, hb, hml, hr, hlk, hown, hts, hK, hA, hfr, hlo, hnm⟩ := hC
  exact q_end (by omega) (by omega) (W.vret hx hb (hr.trans hrt) (fun t ht _ => q_back hW ht hq) hW.2.2.2.2 hd hlk)
theorem V.mono {Q2 : qO → qS → Prop} {ls st : List Value} (h : V l Γ T d r pc ls st S Q2) (hq : ∀ o S, Q2 o S → Q o S) : V l Γ T d r pc ls st S Q := by
  intro A p e R s m args below meth c H locs cells slots Lr hok hC hW hL hc1 hc2 Tt hT X
  obtain ⟨t, h1, h2⟩ := h A p e R s m args below meth c H locs cells slots Lr hok hC hW hL hc1 hc2 Tt hT X
  refine ⟨t, h1, ?_⟩
  rcases h2 with ⟨o, h2, h3, ⟨⟨v, S2, h4, h5⟩, h6⟩, h7⟩ | ⟨ec, S2, h3, h4⟩
  · exact Or.inl ⟨o, h2, h3, ⟨⟨v, S2, hq _ _ h4, h5⟩, h6⟩, h7⟩
  · exact Or.inr ⟨ec, S2, hq _ _ h3, h4⟩
theorem V.deeper {ls st : List Value} {d2 : Nat} (h : V l Γ T d r pc ls st S Q) (hd : d ≤ d2) : V l Γ T d2 r pc ls st S Q := by
  intro A p e R s m args below meth c H locs cells slots Lr hok hC hW hL hc1 hc2
  obtain ⟨h1, h2, h3, h4, h5, h6, h7, h8, h9, h10, h11, h12⟩ := hC
  exact h A p e R s m args below meth c H locs cells slots Lr hok ⟨h1, h2, h3, h4, h5, h6, h7, h8, h9, Nat.le_trans hd h10, by omega, h12⟩ hW hL hc1 hc2
def q_wk : List Value → List Value → Prop
  | [], [] => True
  | w :: ws, v :: vs => (w = .null ∨ w = v) ∧ q_wk ws vs
  | _, _ => False
theorem q_wk_get : ∀ {ws vs : List Value}, q_wk ws vs → ws.length = vs.length ∧ ∀ (i : Nat) (w : Value), ws[i]? = some w → w = .null ∨ vs[i]? = some w
  | [], [], _ => ⟨rfl, fun i w h => by simp at h⟩
  | w :: ws, v :: vs, h => by
    obtain ⟨h1, h2⟩ := h
    obtain ⟨h3, h4⟩ := q_wk_get h2
    refine ⟨by simp [h3], fun i x hx => ?_⟩
    cases i with
    | zero =>
      simp only [List.getElem?_cons_zero, Option.some.injEq] at hx ⊢
      rcases h1 with h1 | h1
      · exact Or.inl (hx ▸ h1)
      · exact Or.inr (by rw [← hx, h1])
    | succ i =>
      simp only [List.getElem?_cons_succ] at hx ⊢
      exact h4 i x hx
  | [], _ :: _, h => h.elim
  | _ :: _, [], h => h.elim
theorem V.forget {ls ls' st : List Value} (hw : q_wk ls' ls) (h : V l Γ T d r pc ls' st S Q) : V l Γ T d r pc ls st S Q := by
  intro A p e R s m args below meth c H locs cells slots Lr hok hC hW hL hc1 hc2
  obtain ⟨h1, h2⟩ := q_wk_get hw
  refine h A p e R s m args below meth c H locs cells slots Lr hok hC hW ⟨hL.1, h1.trans hL.2.1, hL.2.2.1, fun i v hv => ?_, fun i v hv hn => ?_⟩ hc1 hc2
  · rcases h2 i v hv with rfl | h3
    · rfl
    · exact hL.2.2.2.1 i v h3
  · rcases h2 i v hv with rfl | h3
    · exact absurd rfl hn
    · exact hL.2.2.2.2 i v h3 hn
theorem V.gfm {o t index : Nat} {ks : List Nat} (hf : q_ft T.2.2.2.2 pc = some (.getfield index, 3, a, b)) (ho : oT[o]? = some (.inr (b, ks))) (hk : ks[a]? = some 1) (hv : (S.1 o a).toNatClampNeg = t) (k : V l Γ T d r (pc + 3) ls (.ref t :: rest) S Q) : V l Γ T d r pc ls (.ref o :: rest) S Q := by
  refine V.stp hf ?_ k
  have hb : Nat.beq b b = true := Nat.beq_refl b
  simp only [q_stp, q_gf, ho, hk, hb, q_sl, hv]
end Rows2
