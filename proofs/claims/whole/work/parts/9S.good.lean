-- what a statement leaves is good again
theorem loI_ne {v : Int} : ∀ (lo : List (Int × Int32 × Nat)) (j : Nat), j < loI v lo → (lo.getD j dL).1 ≠ v := by
  intro lo
  induction lo with
  | nil => intro j h; unfold loI at h; omega
  | cons q t ih =>
    intro j h
    unfold loI at h
    by_cases hq : q.1 = v
    · rw [if_pos hq] at h; omega
    · rw [if_neg hq] at h
      cases j with
      | zero => exact hq
      | succ j => exact ih j (by omega)
theorem up_sh {f : Nat → Int32} {n k : Nat} {v : Int32} (h : ∀ j, j < n → isSh (f j)) (hv : isSh v) : ∀ j, j < n → isSh (va_up f k v j) := by
  intro j hj
  by_cases e : j = k
  · subst e
    rw [show va_up f j v j = v by simp [va_up]]
    exact hv
  · rw [show va_up f k v j = f j by simp [va_up, e]]
    exact h j hj
theorem take_get {lo : List (Int × Int32 × Nat)} {k n : Nat} (h : k < n) : (lo.take n).getD k dL = lo.getD k dL := by
  simp only [List.getD_eq_getElem?_getD]
  rw [List.getElem?_take_of_lt h]
theorem gds_take {pr : List (Int × List Int)} {va ce va' : Nat → Int32} {lo : List (Int × Int32 × Nat)} {re : List Nat} {ou : List Int} (h : gds pr (va, ce, lo, re, ou)) (hva : ∀ k, k < 8 → isSh (va' k)) (n : Nat) : gds pr (va', ce, lo.take n, re, ou) := by
  obtain ⟨h1, h2, ⟨h3, h4, h5⟩, h6⟩ := h
  refine ⟨hva, h2, ⟨by rw [List.length_take]; omega, fun k hk => ?_, fun j k hj hk => ?_⟩, h6⟩
  · rw [List.length_take] at hk
    rw [take_get (by omega)]
    exact h4 k (by omega)
  · rw [List.length_take] at hj hk
    rw [take_get (by omega), take_get (by omega)]
    exact h5 j k (by omega) (by omega)
section Good
variable {pr : List (Int × List Int)} {s : rS}
def gQ (pr : List (Int × List Int)) (res : pR) : Prop := match res with
  | .error e => 1 ≤ e ∧ e ≤ 7
  | .ok (j, s') => j ≤ pr.length ∧ gds pr s'
theorem g_J (hg : gds pr s) (n : Int) : gQ pr (doJ pr n s) := by
  unfold doJ
  split
  · exact ⟨ix_le n pr, hg⟩
  · exact ⟨by decide, by decide⟩
theorem g_G (hg : gds pr s) (n : Int) {i : Nat} (hi : i < pr.length) : gQ pr (doG pr i n s) := by
  have := g_J hg n
  unfold doG
  rcases ej : doJ pr n s with e | ⟨j, va, ce, lo, re, ou⟩
  · rw [ej] at this
    exact this
  · rw [ej] at this
    obtain ⟨hj, h1, h2, h3, ⟨h4, h5⟩, h6⟩ := this
    simp only
    by_cases hr : re.length < 6
    · rw [if_pos hr]
      refine ⟨hj, h1, h2, h3, ⟨by rw [List.length_append, List.length_singleton]; omega, fun k hk => ?_⟩, h6⟩
      rw [List.length_append, List.length_singleton] at hk
      simp only [List.getD_eq_getElem?_getD]
      by_cases hk2 : k = re.length
      · subst hk2
        simp
        omega
      · rw [List.getElem?_append_left (by omega)]
        have := h5 k (by omega)
        rw [List.getD_eq_getElem?_getD] at this
        exact this
    · rw [if_neg hr]
      exact ⟨by decide, by decide⟩
theorem g_R (hg : gds pr s) : gQ pr (doR s) := by
  obtain ⟨va, ce, lo, re, ou⟩ := s
  obtain ⟨h1, h2, h3, ⟨h4, h5⟩, h6⟩ := hg
  unfold doR
  simp only
  by_cases hr : re.length = 0
  · rw [if_pos hr]
    exact ⟨by decide, by decide⟩
  · rw [if_neg hr]
    refine ⟨h5 _ (by omega), h1, h2, h3, ⟨by rw [List.length_take]; omega, fun k hk => ?_⟩, h6⟩
    rw [List.length_take] at hk
    have := h5 k (by omega)
    simp only [List.getD_eq_getElem?_getD] at this ⊢
    rw [List.getElem?_take_of_lt (by omega)]
    exact this
theorem g_F (hg : gds pr s) {i : Nat} (hi : i < pr.length) {v : Int} (hv : 0 ≤ v ∧ v < 8) {x y : Int32} (hx : isSh x) (hy : isSh y) : gQ pr (doF i v x y s) := by
  obtain ⟨va, ce, lo, re, ou⟩ := s
  unfold doF
  simp only
  by_cases hk : loI v lo < 6
  · rw [if_pos hk]
    have ht := gds_take hg (up_sh (k := v.toNat) hg.1 hx) (loI v lo)
    obtain ⟨h1, h2, ⟨h3, h4, h5⟩, h6⟩ := ht
    have hle := loI_le v lo
    have hl : (lo.take (loI v lo)).length = loI v lo := by rw [List.length_take]; omega
    have ge : ∀ k, k < loI v lo → (lo.take (loI v lo) ++ [(v, y, i + 1)]).getD k dL = (lo.take (loI v lo)).getD k dL := by
      intro k hk
      simp only [List.getD_eq_getElem?_getD]
      rw [List.getElem?_append_left (by omega)]
    have gl : (lo.take (loI v lo) ++ [(v, y, i + 1)]).getD (loI v lo) dL = (v, y, i + 1) := by
      simp only [List.getD_eq_getElem?_getD]
      rw [List.getElem?_append_right (by omega), hl, Nat.sub_self]
      rfl
    have gn : ∀ k, k < loI v lo → ((lo.take (loI v lo)).getD k dL).1 ≠ v := by
      intro k hk
      rw [take_get hk]
      exact loI_ne lo k hk
    refine ⟨by omega, h1, h2, ⟨by rw [List.length_append, hl, List.length_singleton]; omega, fun k hk => ?_, fun j k hj hk => ?_⟩, h6⟩
    · rw [List.length_append, hl, List.length_singleton] at hk
      by_cases e : k = loI v lo
      · subst e
        rw [gl]
        exact ⟨hv.1, hv.2, hy, hi⟩
      · rw [ge k (by omega)]
        exact h4 k (by omega)
    · rw [List.length_append, hl, List.length_singleton] at hj hk
      by_cases e : k = loI v lo
      · subst e
        by_cases e2 : j = loI v lo
        · intro _; exact e2
        · rw [ge j (by omega), gl]
          intro hh
          exact absurd hh (gn j (by omega))
      · by_cases e2 : j = loI v lo
        · subst e2
          rw [ge k (by omega), gl]
          intro hh
          exact absurd hh.symm (gn k (by omega))
        · rw [ge j (by omega), ge k (by omega)]
          exact h5 j k (by omega) (by omega)
  · rw [if_neg hk]
    exact ⟨by decide, by decide⟩
theorem g_N (hg : gds pr s) {i : Nat} (hi : i < pr.length) (v : Int) : gQ pr (doN i v s) := by
  obtain ⟨va, ce, lo, re, ou⟩ := s
  unfold doN
  simp only
  by_cases hk : loI v lo < lo.length
  · rw [if_pos hk]
    have hs : ∀ j, j < 8 → isSh (va_up va v.toNat (sh (va v.toNat + iI 1)) j) := up_sh hg.1 (sh_is _)
    split
    · exact ⟨(hg.2.2.1.2.1 _ hk).2.2.2, gds_take hg hs _⟩
    · exact ⟨hi, gds_take hg hs _⟩
  · rw [if_neg hk]
    exact ⟨by decide, by decide⟩
theorem g_W (hg : gds pr s) {i : Nat} (hi : i < pr.length) {t : List Int} (ht : ∀ c ∈ t, 0 ≤ c ∧ c < 65536) : gQ pr (doW i t s) := by
  obtain ⟨va, ce, lo, re, ou⟩ := s
  obtain ⟨h1, h2, h3, h4, h5, h6⟩ := hg
  unfold doW
  simp only
  by_cases hk : ou.length + t.length ≤ 100
  · rw [if_pos hk]
    refine ⟨hi, h1, h2, h3, h4, by rw [List.length_append]; exact hk, fun c hc => ?_⟩
    rcases List.mem_append.mp hc with hc | hc
    · exact h6 c hc
    · exact ht c hc
  · rw [if_neg hk]
    exact ⟨by decide, by decide⟩
theorem g_Ce (hg : gds pr s) {i : Nat} (hi : i < pr.length) {x v : Int32} (hv : isSh v) : gQ pr (doC i x v s) := by
  obtain ⟨va, ce, lo, re, ou⟩ := s
  obtain ⟨h1, h2, h3⟩ := hg
  unfold doC
  simp only
  split
  · exact ⟨by decide, by decide⟩
  · exact ⟨hi, h1, up_sh h2 hv, h3⟩
theorem g_V (hg : gds pr s) {i : Nat} (hi : i < pr.length) {v : Int} {x : Int32} (hx : isSh x) : gQ pr (doV i v x s) := by
  obtain ⟨va, ce, lo, re, ou⟩ := s
  obtain ⟨h1, h2⟩ := hg
  exact ⟨hi, up_sh h1 hx, h2⟩
theorem doP_g (hg : gds pr s) {i : Nat} (hi : i < pr.length) {o : List Int} (ho : okSt o) (hl : o.length ≤ 198) : gQ pr (doP pr i o s) := by
  have er : ∀ e : Int, (e = 5 ∨ e = 6) → 1 ≤ e ∧ e ≤ 7 := by intro e he; omega
  rcases okSt_kinds ho with ⟨u, rfl, h⟩ | ⟨u, rfl, h⟩ | rfl | rfl | ⟨u, rfl, h⟩ | ⟨c, u, rfl, hc, h⟩ | ⟨c, rfl, hc⟩ | ⟨u, rfl, h1, h2⟩ | ⟨u, rfl, h1, h⟩ | ⟨u, rfl, h⟩ | ⟨c, u, rfl, hc, h⟩
  · exact g_J hg _
  · exact g_G hg _ hi
  · exact g_R hg
  · exact ⟨Nat.le_refl _, hg⟩
  · simp only [List.length_cons] at hl
    rw [show doP pr i (131 :: u) s = exE (sE s u) (fun v r => if v = 0 then .ok (i + 1, s) else doJ pr (numV 0 r.tail).1 s) from rfl]
    rcases E_end (e := 0) (by omega) hg h with ⟨e, ee, he⟩ | ⟨v, r, ee, hv, h14, htr, hll⟩
    · rw [ee]; exact er e he
    · rw [ee, exE]
      by_cases h0 : v = 0
      · rw [if_pos h0]; exact ⟨hi, hg⟩
      · rw [if_neg h0]; exact g_J hg _
  · simp only [List.length_cons] at hl
    have hcv : 97 ≤ c ∧ c ≤ 104 := by simpa [isV] using hc
    rw [show doP pr i (132 :: c :: 61 :: u) s = exE (sE s u) (fun x r => exE (sE s r.tail) (fun y _ => doF i (c - 97) x y s)) from rfl]
    rcases E_end (e := 0) (by omega) hg h with ⟨e, ee, he⟩ | ⟨v, r, ee, hv, h14, htr, hll⟩
    · rw [ee]; exact er e he
    · obtain ⟨r', rfl, h11⟩ := end_2 h14 htr
      simp only [List.length_cons] at hll
      rw [ee, exE, List.tail_cons]
      rcases E_end (e := 0) (by omega) hg h11 with ⟨e, ee2, he⟩ | ⟨v2, r2, ee2, hv2, h142, htr2, hll2⟩
      · rw [ee2]; exact er e he
      · rw [ee2, exE]; exact g_F hg hi (by omega) hv hv2
  · exact g_N hg hi _
  · rw [show doP pr i (63 :: 34 :: u) s = doW i (u.take (u.length - 1)) s from rfl]
    exact g_W hg hi (fun c hc => by have := h2 c (List.mem_of_mem_take hc); omega)
  · simp only [List.length_cons] at hl
    rw [show doP pr i (63 :: u) s = if u.headD 0 = 34 then doW i (u.tail.take (u.tail.length - 1)) s else exE (sE s u) (fun v _ => doW i (sgn v.toInt ++ [32]) s) from rfl, if_neg h1]
    rcases E_end (e := 0) (by omega) hg h with ⟨e, ee, he⟩ | ⟨v, r, ee, hv, h14, htr, hll⟩
    · rw [ee]; exact er e he
    · rw [ee, exE]
      refine g_W hg hi (fun c hc => ?_)
      rcases List.mem_append.mp hc with hc | hc
      · exact sgn_b _ c hc
      · simp only [List.mem_singleton] at hc
        omega
  · simp only [List.length_cons] at hl
    rw [show doP pr i (64 :: 40 :: u) s = exE (sE s u) (fun x r => exE (sE s r.tail.tail) (fun v _ => doC i x v s)) from rfl]
    rcases E_end (e := 0) (by omega) hg h with ⟨e, ee, he⟩ | ⟨v, r, ee, hv, h14, htr, hll⟩
    · rw [ee]; exact er e he
    · obtain ⟨r', rfl, h11⟩ := end_3 h14 htr
      simp only [List.length_cons] at hll
      rw [ee, exE, List.tail_cons, List.tail_cons]
      rcases E_end (e := 0) (by omega) hg h11 with ⟨e, ee2, he⟩ | ⟨v2, r2, ee2, hv2, h142, htr2, hll2⟩
      · rw [ee2]; exact er e he
      · rw [ee2, exE]; exact g_Ce hg hi hv2
  · simp only [List.length_cons] at hl
    have hcv : 97 ≤ c ∧ c ≤ 104 := by simpa [isV] using hc
    have e : doP pr i (c :: 61 :: u) s = exE (sE s u) (fun v _ => doV i (c - 97) v s) := by
      unfold doP
      rw [List.headD_cons, if_neg (by omega), if_neg (by omega), if_neg (by omega), if_neg (by omega), if_neg (by omega), if_neg (by omega), if_neg (by omega), if_neg (by omega), if_neg (by omega)]
      rfl
    rw [e]
    rcases E_end (e := 0) (by omega) hg h with ⟨e, ee, he⟩ | ⟨v, r, ee, hv, h14, htr, hll⟩
    · rw [ee]; exact er e he
    · rw [ee, exE]; exact g_V hg hi hv
end Good
