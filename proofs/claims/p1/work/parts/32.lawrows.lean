section LawRows
variable {l : Launch} {Γ : qG} {T : qT} {d r pc a b : Nat} {ls rest : List Value} {S : qS} {Q : qO → qS → Prop}
theorem V.i2l {x : Int32} (hf : q_ft T.2.2.2.2 pc = some (.i2l, 1, a, b)) (k : V l Γ T d r (pc + 1) ls (.long x.toInt64 :: rest) S Q) : V l Γ T d r pc ls (.int x :: rest) S Q := by
  intro A p e R s m args below meth c H locs cells slots Lr hok hC hW hL hc1 hc2
  obtain ⟨hd, hrow⟩ := q_ok_at hok hf
  dsimp only at hd
  exact lv_i2l hC.1 hC.2.1 hd rfl (k A p e R s m args below meth c H locs cells slots Lr hok hC hW hL hc1 hc2)
theorem V.lcmp {x y : Int64} (hf : q_ft T.2.2.2.2 pc = some (.lcmp, 1, a, b)) (k : V l Γ T d r (pc + 1) ls (.int (lg_cmp x y) :: rest) S Q) : V l Γ T d r pc ls (.long y :: .long x :: rest) S Q := by
  intro A p e R s m args below meth c H locs cells slots Lr hok hC hW hL hc1 hc2
  obtain ⟨hd, hrow⟩ := q_ok_at hok hf
  dsimp only at hd
  exact W.lcmp hC.1 hC.2.1 hd (k A p e R s m args below meth c H locs cells slots Lr hok hC hW hL hc1 hc2)
theorem V.lald {i : Int32} (hf : q_ft T.2.2.2.2 pc = some (.laload, 1, a, b)) (hi : vp_in i 1) (k : V l Γ T d r (pc + 1) ls (.long (S.2 i.toNatClampNeg) :: rest) S Q) : V l Γ T d r pc ls (.int i :: .ref 42 :: rest) S Q := by
  intro A p e R s m args below meth c H locs cells slots Lr hok hC hW hL hc1 hc2
  obtain ⟨hd, hrow⟩ := q_ok_at hok hf
  dsimp only at hd
  have hK := hC.2.2.2.2.2.2.2.1
  exact va_lald hC.1 hC.2.1 hK.1 hW.1 42 2 (q_ws_get Γ S (o := 42) (x := .inl (2, 1)) rfl) (q_ty hK 2 rfl) hi hd (k A p e R s m args below meth c H locs cells slots Lr hok hC hW hL hc1 hc2)
theorem q_en_long {Γ : qG} {M : qM} {L L2 : Nat → Int64} {o : Nat} {y : (Nat × Nat) ⊕ (Nat × List Nat)} (h : o ≠ 42) (hy : oT[o]? = some y) : q_en Γ (M, L2) o y = q_en Γ (M, L) o y := by
  rcases y with ⟨t, n⟩ | ⟨ci, ks⟩
  · match t with
    | 0 => rfl
    | 1 => rfl
    | 2 =>
      have key : oT.mapIdx (fun o x => match x with
        | .inl (2, _) => decide (o = 42)
        | _ => true) = oT.map (fun _ => true) := by decide +kernel
      have h1 : (oT.mapIdx (fun o x => match x with
        | .inl (2, _) => decide (o = 42)
        | _ => true))[o]? = some (decide (o = 42)) := by rw [List.getElem?_mapIdx, hy]; rfl
      rw [key, List.getElem?_map, hy] at h1
      have h2 := Option.some.inj h1
      exact absurd (of_decide_eq_true h2.symm) h
    | t + 3 => rfl
  · rfl
theorem V.last {i : Int32} {x : Int64} (hf : q_ft T.2.2.2.2 pc = some (.lastore, 1, a, b)) (hi : vp_in i 1) (k : V l Γ T d r (pc + 1) ls rest (S.1, vp_updL S.2 i.toNatClampNeg x) Q) : V l Γ T d r pc ls (.long x :: .int i :: .ref 42 :: rest) S Q := by
  intro A p e R s m args below meth c H locs cells slots Lr hok hC hW hL hc1 hc2
  obtain ⟨hd, hrow⟩ := q_ok_at hok hf
  dsimp only at hd
  have hK := hC.2.2.2.2.2.2.2.1
  have ho : oT[42]? = some (.inl (2, 1)) := rfl
  have hset := q_ws_set (Γ := Γ) (S := S) (S' := (S.1, vp_updL S.2 i.toNatClampNeg x)) ho (fun o' y hne hy => q_en_long hne hy)
  exact va_last hC.1 hC.2.1 hK.1 hW.1 hW.2.1 hW.2.2 42 2 (q_ws_get Γ S ho) (q_ty hK 2 rfl) hi hd (fun H1 locs1 h3 h4 h5 => k A p e R s m args below meth c H1 locs1 cells slots Lr hok hC ⟨hset ▸ h3, hset ▸ h4, h5⟩ hL hc1 hc2)
theorem V.sld {i : Int32} (hf : q_ft T.2.2.2.2 pc = some (.iaload, 1, a, b)) (hi : vp_in i Γ.2.2.2.2) (k : V l Γ T d r (pc + 1) ls (.int (Γ.2.2.2.1 i.toNatClampNeg) :: rest) S Q) : V l Γ T d r pc ls (.int i :: .ref 50 :: rest) S Q := by
  intro A p e R s m args below meth c H locs cells slots Lr hok hC hW hL hc1 hc2
  obtain ⟨hd, hrow⟩ := q_ok_at hok hf
  dsimp only at hd
  have hK := hC.2.2.2.2.2.2.2.1
  obtain ⟨h7, h8, h9⟩ := hK.2.2.2.2.1.2.2.1
  exact va_sld hC.1 hC.2.1 h7 h8 h9 hW.2.2 hi hd (k A p e R s m args below meth c H locs cells slots Lr hok hC hW hL hc1 hc2)
theorem V.slen (hf : q_ft T.2.2.2.2 pc = some (.arraylength, 1, a, b)) (k : V l Γ T d r (pc + 1) ls (.int (nI Γ.2.2.2.2) :: rest) S Q) : V l Γ T d r pc ls (.ref 50 :: rest) S Q := by
  intro A p e R s m args below meth c H locs cells slots Lr hok hC hW hL hc1 hc2
  obtain ⟨hd, hrow⟩ := q_ok_at hok hf
  dsimp only at hd
  have hK := hC.2.2.2.2.2.2.2.1
  obtain ⟨h7, h8, h9⟩ := hK.2.2.2.2.1.2.2.1
  exact va_slen hC.1 hC.2.1 h7 h8 h9 hW.2.2 hd (k A p e R s m args below meth c H locs cells slots Lr hok hC hW hL hc1 hc2)
/-- a reference is returned -/
def q_r (L : Nat → Int64) (P : Nat → qM → Prop) : qO → qS → Prop := fun o S => ∃ (x : Nat) (M : qM), o = .inl (some (.ref x)) ∧ S = (M, L) ∧ P x M
theorem V.aret {v : Nat} {n : String} (hf : q_ft T.2.2.2.2 pc = some (.areturn, 1, a, b)) (hrt : T.2.2.2.1 = some (.object n)) (hq : Q (.inl (some (.ref v))) S) : V l Γ T d r pc ls [.ref v] S Q := by
  intro A p e R s m args below meth c H locs cells slots Lr hok hC hW hL hc1 hc2
  obtain ⟨hd, hrow⟩ := q_ok_at hok hf
  dsimp only at hd
  exact q_end (by omega) (by omega) (W.aret hC.1 hC.2.1 (hC.2.2.2.1.trans hrt) (Or.inl ⟨n, rfl⟩) (Or.inr ⟨_, rfl⟩) (fun t ht _ => q_back (v := some (.ref v)) hW ht hq) hW.2.2.2.2 hd hC.2.2.2.2.1)
end LawRows
