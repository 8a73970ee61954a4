def q_swP (P : Nat → Prop) (z : Int) (dt : Nat) : List (Int × Nat) → Prop
  | [] => P dt
  | (k, t) :: r => (z = k → P t) ∧ (¬ z = k → q_swP P z dt r)
theorem q_swP.c {P : Nat → Prop} {z k : Int} {dt t : Nat} {r : List (Int × Nat)} (h1 : z = k → P t) (h2 : ¬ z = k → q_swP P z dt r) : q_swP P z dt ((k, t) :: r) := ⟨h1, h2⟩
theorem q_swP.e {P : Nat → Prop} {z : Int} {dt : Nat} (h : P dt) : q_swP P z dt [] := h
def q_csm (pc : Nat) : List (Int × Int) → List (Int × Nat) → Bool
  | [], [] => true
  | (a, o) :: ps, (k, t) :: cs => decide (a = k) && decide ((pc : Int) + o = (t : Int)) && q_csm pc ps cs
  | _, _ => false
theorem q_sw_L {P : Nat → Prop} {pc : Nat} {z dflt : Int} {dt : Nat} (hd : (pc : Int) + dflt = (dt : Int)) : ∀ (ps : List (Int × Int)) (cs : List (Int × Nat)), q_csm pc ps cs = true → q_swP P z dt cs → ∃ t : Nat, P t ∧ (pc : Int) + Op.lookupswitch.offset ps dflt z = (t : Int)
  | [], [], _, h => ⟨dt, h, hd⟩
  | (a, o) :: ps, (k, t) :: cs, hm, h => by
    simp only [q_csm, Bool.and_eq_true, decide_eq_true_eq] at hm
    obtain ⟨⟨h1, h2⟩, h3⟩ := hm
    subst h1
    rw [Op.lookupswitch.offset_cons]
    by_cases hz : a = z
    · rw [if_pos hz]
      exact ⟨t, h.1 hz.symm, h2⟩
    · rw [if_neg hz]
      exact q_sw_L hd ps cs h3 (h.2 (fun q => hz q.symm))
  | [], _ :: _, hm, _ => by simp [q_csm] at hm
  | _ :: _, [], hm, _ => by simp [q_csm] at hm
def q_ctm (pc dt : Nat) : Int → List Int → List (Int × Nat) → Bool
  | _, [], [] => true
  | _, [], _ :: _ => false
  | lo, o :: r, cs => match decide ((pc : Int) + o = (dt : Int)) with
    | true => q_ctm pc dt (lo + 1) r cs
    | false => match cs with
      | (k, t) :: cs' => decide (k = lo) && decide ((pc : Int) + o = (t : Int)) && q_ctm pc dt (lo + 1) r cs'
      | [] => false
theorem q_sw_out {P : Nat → Prop} {pc dt : Nat} {z : Int} : ∀ (offs : List Int) (lo : Int) (cs : List (Int × Nat)), q_ctm pc dt lo offs cs = true → (z < lo ∨ lo + offs.length ≤ z) → q_swP P z dt cs → P dt
  | [], _, [], _, _, h => h
  | [], _, _ :: _, hm, _, _ => by simp [q_ctm] at hm
  | o :: r, lo, cs, hm, hz, h => by
    unfold q_ctm at hm
    simp only [List.length_cons] at hz
    cases hb : decide ((pc : Int) + o = (dt : Int)) with
    | true =>
      rw [hb] at hm
      exact q_sw_out r (lo + 1) cs hm (by omega) h
    | false =>
      rw [hb] at hm
      match cs, hm, h with
      | (k, t) :: cs', hm, h =>
        simp only [Bool.and_eq_true, decide_eq_true_eq] at hm
        exact q_sw_out r (lo + 1) cs' hm.2 (by omega) (h.2 (by omega))
theorem q_sw_T {P : Nat → Prop} {pc dt : Nat} {z : Int} : ∀ (offs : List Int) (lo : Int) (cs : List (Int × Nat)), q_ctm pc dt lo offs cs = true → q_swP P z dt cs → lo ≤ z → z < lo + offs.length → ∃ (t : Nat) (o : Int), P t ∧ offs[(z - lo).toNat]? = some o ∧ (pc : Int) + o = (t : Int)
  | [], lo, _, _, _, h1, h2 => by simp at h2; omega
  | o :: r, lo, cs, hm, h, h1, h2 => by
    simp only [List.length_cons] at h2
    have hm0 := hm
    unfold q_ctm at hm
    by_cases hz : z = lo
    · have e : (z - lo).toNat = 0 := by omega
      rw [e, List.getElem?_cons_zero]
      cases hb : decide ((pc : Int) + o = (dt : Int)) with
      | true =>
        rw [hb] at hm
        exact ⟨dt, o, q_sw_out r (lo + 1) cs hm (by omega) h, rfl, of_decide_eq_true hb⟩
      | false =>
        rw [hb] at hm
        match cs, hm, h with
        | (k, t) :: cs', hm, h =>
          simp only [Bool.and_eq_true, decide_eq_true_eq] at hm
          exact ⟨t, o, h.1 (by omega), rfl, hm.1.2⟩
    · have e : (z - lo).toNat = (z - (lo + 1)).toNat + 1 := by omega
      rw [e, List.getElem?_cons_succ]
      cases hb : decide ((pc : Int) + o = (dt : Int)) with
      | true =>
        rw [hb] at hm
        exact q_sw_T r (lo + 1) cs hm h (by omega) (by omega)
      | false =>
        rw [hb] at hm
        match cs, hm, h with
        | (k, t) :: cs', hm, h =>
          simp only [Bool.and_eq_true, decide_eq_true_eq] at hm
          exact q_sw_T r (lo + 1) cs' hm.2 (h.2 (by omega)) (by omega) (by omega)
section Rows3
variable {l : Launch} {Γ : qG} {T : qT} {d r pc a b : Nat} {ls rest : List Value} {S : qS} {Q : qO → qS → Prop}
theorem V.swl {dflt : Int} {ps : Array (Int × Int)} {len : Nat} {x : Int32} (hf : q_ft T.2.2.2.2 pc = some (.lookupswitch dflt ps, len, a, b)) (dt : Nat) (cs : List (Int × Nat)) (hs : (ps.toList.zip (ps.toList.drop 1)).all (fun (a, next) => a.1 < next.1) = true) (hdt : (pc : Int) + dflt = (dt : Int)) (hcs : q_csm pc ps.toList cs = true)
    (h : q_swP (fun t => V l Γ T d r t ls rest S Q) x.toInt dt cs) : V l Γ T d r pc ls (.int x :: rest) S Q := by
  intro A p e R s m args below meth c H locs cells slots Lr hok hC hW hL hc1 hc2
  obtain ⟨hd, hrow⟩ := q_ok_at hok hf
  dsimp only at hd
  have hC' := hC
  obtain ⟨hx, hb, hml, hr, hlk, hown, hts, hK, hA, hfr, hlo, hnm⟩ := hC
  obtain ⟨t, h1, h2⟩ := q_sw_L hdt ps.toList cs hcs h
  exact lv_lookup hx hb hd hs rfl h2 (h1 A p e R s m args below meth c H locs cells slots Lr hok hC' hW hL hc1 hc2)
theorem V.swt {dflt lo hi : Int} {offs : Array Int} {len : Nat} {x : Int32} (hf : q_ft T.2.2.2.2 pc = some (.tableswitch dflt lo hi offs, len, a, b)) (dt : Nat) (cs : List (Int × Nat)) (hdt : (pc : Int) + dflt = (dt : Int)) (hhi : hi + 1 = lo + offs.toList.length) (hcs : q_ctm pc dt lo offs.toList cs = true)
    (h : q_swP (fun t => V l Γ T d r t ls rest S Q) x.toInt dt cs) : V l Γ T d r pc ls (.int x :: rest) S Q := by
  intro A p e R s m args below meth c H locs cells slots Lr hok hC hW hL hc1 hc2
  obtain ⟨hd, hrow⟩ := q_ok_at hok hf
  dsimp only at hd
  have hC' := hC
  obtain ⟨hx, hb, hml, hr, hlk, hown, hts, hK, hA, hfr, hlo, hnm⟩ := hC
  by_cases hz : x.toInt < lo ∨ hi < x.toInt
  · exact lv_tableOut hx hb hd hz hdt (q_sw_out offs.toList lo cs hcs (by omega) h A p e R s m args below meth c H locs cells slots Lr hok hC' hW hL hc1 hc2)
  · obtain ⟨t, o, h1, h2, h3⟩ := q_sw_T offs.toList lo cs hcs h (by omega) (by omega)
    exact lv_tableIn hx hb hd (fun q => hz (Or.inl q)) (fun q => hz (Or.inr q)) (by rw [← Array.getElem?_toList]; exact h2) h3 (h1 A p e R s m args below meth c H locs cells slots Lr hok hC' hW hL hc1 hc2)
theorem V.pfz {o index : Nat} {ks : List Nat} {v : Int32} (hf : q_ft T.2.2.2.2 pc = some (.putfield index, 3, a, b)) (ho : oT[o]? = some (.inr (b, ks))) (hk : ks[a]? = some 2) (hfits : fits .boolean (.int v) = true) (k : V l Γ T d r (pc + 3) ls rest (q_up S.1 o a v, S.2) Q) : V l Γ T d r pc ls (.int v :: .ref o :: rest) S Q := by
  intro A p e R s m args below meth c H locs cells slots Lr hok hC hW hL hc1 hc2
  obtain ⟨hd, hrow⟩ := q_ok_at hok hf
  dsimp only at hd
  have hC' := hC
  obtain ⟨hx, hb, hml, hr, hlk, hown, hts, hK, hA, hfr, hlo, hnm⟩ := hC
  have K : ∀ (H' : Heap) (locs' : List Loc), q_W Γ A s (q_up S.1 o a v, S.2) H' locs' → W p l e R s m args below meth c H' locs' cells slots (q_E Γ A Q below args s R) (F0 m (pc + 3) Lr (rest.map (q_v Γ.2.2.1))) := fun H' locs' hW' => k A p e R s m args below meth c H' locs' cells slots Lr hok hC' hW' hL hc1 hc2
  simp only [q_row, q_rowG, Bool.and_eq_true] at hrow
  obtain ⟨⟨-, h1⟩, h2⟩ := hrow
  obtain ⟨C, Tt, N, hc, ha, hlink⟩ := q_fl_spec h1
  rw [hc] at h2
  have hfin : (Tt a).2.2.2 = false := by simpa using h2
  have he := q_ws_get Γ S ho
  have hty := q_typesZ b _ hc o ks ho a hk
  have hnar : narrow .boolean (.int v) = .int v := by
    have hv : v = 0 ∨ v = 1 := by simpa [fits] using hfits
    rcases hv with rfl | rfl <;> decide
  have hu : q_up S.1 o a v o a = v := by simp [q_up, va_up]
  have hsl : q_sl (q_up S.1 o a v) o a 2 = .int v := by simp only [q_sl, hu]
  have hset := q_ws_set (Γ := Γ) (S := S) (S' := (q_up S.1 o a v, S.2)) ho (fun o' y hne _ => q_en_ne hne y)
  rw [q_en_put b ks hk hsl] at hset
  have hl : a < (ks.mapIdx (fun k kd => q_v Γ.2.2.1 (q_sl S.1 o k kd))).length := by rw [List.length_mapIdx]; exact (List.getElem?_eq_some_iff.mp hk).1
  rcases hlink with hlink | ⟨host, hlink⟩
  · exact va_put (ref := (Tt a).1) (v := .int v) (ty := .boolean) hx hb hts (q_lays b _ hc) (q_tys b) (q_tysok b _ hc) (q_names b _ hc) hown hK.1 hW.1 hW.2.1 hW.2.2 o he hc a ha (hts _ hlink) (fun _ h9 => h9) hfin hty hnar hfits hl hd (fun H1 locs1 h3 h4 h5 => K H1 locs1 ⟨hset ▸ h3, hset ▸ h4, h5⟩)
  · exact va_putN (ref := (Tt a).1) (host := host) (v := .int v) (ty := .boolean) hx hb hts (q_lays b _ hc) (q_tys b) (q_tysok b _ hc) (q_names b _ hc) hown hK.1 hW.1 hW.2.1 hW.2.2 o he hc a ha (va_Nw.use rfl (hK.2.2.1 _ hlink)) (fun _ h9 => h9) hfin hty hnar hfits hl hd (fun H1 locs1 h3 h4 h5 => K H1 locs1 ⟨hset ▸ h3, hset ▸ h4, h5⟩)
theorem V.mabs {x : Int32} {index μ : Nat} (hf : q_ft T.2.2.2.2 pc = some (.invokestatic index, 3, μ, 4)) (hw : ∀ w ∈ ([.methodLink T.1.cls index Lib.Math.abs.name, .static Lib.Math.abs.name, .initialized "java/lang/Math", .code Lib.Math.abs.name Lib.Math.abs.code 1 (some .int)] : List Cond), w ∈ WG) (hd1 : 1 ≤ d) (hrc : ∀ v ∈ rest, v.category = 1) (hrl : rest.length ≤ 8) (k : V l Γ T d r (pc + 3) ls (.int (if 0 ≤ x then x else 0 - x) :: rest) S Q) : V l Γ T d r pc ls (.int x :: rest) S Q := by
  intro A p e R s m args below meth c H locs cells slots Lr hok hC hW hL hc1 hc2
  obtain ⟨hd, hrow⟩ := q_ok_at hok hf
  dsimp only at hd
  have hC' := hC
  obtain ⟨hx, hb, hml, hr, hlk, hown, hts, hK, hA, hfr, hlo, hnm⟩ := hC
  have h8 := q_rest hrc hrl Γ.2.2.1
  exact va_mabs hx hb (by rw [hml, hL.1]) hown (hts _ (hw _ (by simp))) (hts _ (hw _ (by simp))) (hts _ (hw _ (by simp))) (hts _ (hw _ (by simp))) (by omega) (by omega) (by omega) (by omega) hd (k A p e R s m args below meth c H locs cells slots Lr hok hC' hW hL hc1 hc2)
theorem V.mmax {x y : Int32} {index μ : Nat} (hf : q_ft T.2.2.2.2 pc = some (.invokestatic index, 3, μ, 4)) (hw : ∀ w ∈ ([.methodLink T.1.cls index Lib.Math.max.name, .static Lib.Math.max.name, .initialized "java/lang/Math", .code Lib.Math.max.name Lib.Math.max.code 2 (some .int)] : List Cond), w ∈ WG) (hd1 : 1 ≤ d) (hrc : ∀ v ∈ rest, v.category = 1) (hrl : rest.length ≤ 8) (k : V l Γ T d r (pc + 3) ls (.int (if x < y then y else x) :: rest) S Q) : V l Γ T d r pc ls (.int y :: .int x :: rest) S Q := by
  intro A p e R s m args below meth c H locs cells slots Lr hok hC hW hL hc1 hc2
  obtain ⟨hd, hrow⟩ := q_ok_at hok hf
  dsimp only at hd
  have hC' := hC
  obtain ⟨hx, hb, hml, hr, hlk, hown, hts, hK, hA, hfr, hlo, hnm⟩ := hC
  have h8 := q_rest hrc hrl Γ.2.2.1
  exact va_mmax hx hb (by rw [hml, hL.1]) hown (hts _ (hw _ (by simp))) (hts _ (hw _ (by simp))) (hts _ (hw _ (by simp))) (hts _ (hw _ (by simp))) (by omega) (by omega) (by omega) (by omega) hd (k A p e R s m args below meth c H locs cells slots Lr hok hC' hW hL hc1 hc2)
theorem V.mmin {x y : Int32} {index μ : Nat} (hf : q_ft T.2.2.2.2 pc = some (.invokestatic index, 3, μ, 4)) (hw : ∀ w ∈ ([.methodLink T.1.cls index Lib.Math.min.name, .static Lib.Math.min.name, .initialized "java/lang/Math", .code Lib.Math.min.name Lib.Math.min.code 2 (some .int)] : List Cond), w ∈ WG) (hd1 : 1 ≤ d) (hrc : ∀ v ∈ rest, v.category = 1) (hrl : rest.length ≤ 8) (k : V l Γ T d r (pc + 3) ls (.int (if y < x then y else x) :: rest) S Q) : V l Γ T d r pc ls (.int y :: .int x :: rest) S Q := by
  intro A p e R s m args below meth c H locs cells slots Lr hok hC hW hL hc1 hc2
  obtain ⟨hd, hrow⟩ := q_ok_at hok hf
  dsimp only at hd
  have hC' := hC
  obtain ⟨hx, hb, hml, hr, hlk, hown, hts, hK, hA, hfr, hlo, hnm⟩ := hC
  have h8 := q_rest hrc hrl Γ.2.2.1
  exact va_mmin hx hb (by rw [hml, hL.1]) hown (hts _ (hw _ (by simp))) (hts _ (hw _ (by simp))) (hts _ (hw _ (by simp))) (hts _ (hw _ (by simp))) (by omega) (by omega) (by omega) (by omega) hd (k A p e R s m args below meth c H locs cells slots Lr hok hC' hW hL hc1 hc2)
end Rows3
