-- what a statement does: variables, cells, loops, returns, what was written
abbrev rS := (Nat → Int32) × (Nat → Int32) × List (Int × Int32 × Nat) × List Nat × List Int
def dL : Int × Int32 × Nat := (0, 0, 0)
def loI (v : Int) : List (Int × Int32 × Nat) → Nat
  | [] => 0
  | q :: t => if q.1 = v then 0 else loI v t + 1
abbrev pR := Except Int (Nat × rS)
def doJ (pr : List (Int × List Int)) (n : Int) (s : rS) : pR := if hasL n pr = true then .ok (ix n pr, s) else .error 1
def doG (pr : List (Int × List Int)) (i : Nat) (n : Int) (s : rS) : pR := match doJ pr n s with
  | .error e => .error e
  | .ok (j, va, ce, lo, re, ou) => if re.length < 6 then .ok (j, va, ce, lo, re ++ [i + 1], ou) else .error 4
def doR (s : rS) : pR := match s with
  | (va, ce, lo, re, ou) => if re.length = 0 then .error 2 else .ok (re.getD (re.length - 1) 0, va, ce, lo, re.take (re.length - 1), ou)
def doF (i : Nat) (v : Int) (x y : Int32) (s : rS) : pR := match s with
  | (va, ce, lo, re, ou) => if loI v lo < 6 then .ok (i + 1, va_up va v.toNat x, ce, lo.take (loI v lo) ++ [(v, y, i + 1)], re, ou) else .error 4
def doN (i : Nat) (v : Int) (s : rS) : pR := match s with
  | (va, ce, lo, re, ou) => if loI v lo < lo.length then (if sh (va v.toNat + iI 1) ≤ (lo.getD (loI v lo) dL).2.1 then .ok ((lo.getD (loI v lo) dL).2.2, va_up va v.toNat (sh (va v.toNat + iI 1)), ce, lo.take (loI v lo + 1), re, ou) else .ok (i + 1, va_up va v.toNat (sh (va v.toNat + iI 1)), ce, lo.take (loI v lo), re, ou)) else .error 3
def doW (i : Nat) (t : List Int) (s : rS) : pR := match s with
  | (va, ce, lo, re, ou) => if ou.length + t.length ≤ 100 then .ok (i + 1, va, ce, lo, re, ou ++ t) else .error 7
def doC (i : Nat) (x v : Int32) (s : rS) : pR := match s with
  | (va, ce, lo, re, ou) => if x < 0 ∨ ¬ x < iI 16 then .error 6 else .ok (i + 1, va, va_up ce x.toNatClampNeg v, lo, re, ou)
def doV (i : Nat) (v : Int) (x : Int32) (s : rS) : pR := match s with
  | (va, ce, lo, re, ou) => .ok (i + 1, va_up va v.toNat x, ce, lo, re, ou)
def exE (res : Except Int (Int32 × List Int)) (f : Int32 → List Int → pR) : pR := match res with
  | .error e => .error e
  | .ok (v, r) => f v r
def sE (s : rS) (u : List Int) : Except Int (Int32 × List Int) := EX s.1 s.2.1 u
def doP (pr : List (Int × List Int)) (i : Nat) (o : List Int) (s : rS) : pR :=
  if o.headD 0 = 128 then doJ pr (numV 0 o.tail).1 s
  else if o.headD 0 = 129 then doG pr i (numV 0 o.tail).1 s
  else if o.headD 0 = 130 then doR s
  else if o.headD 0 = 135 then .ok (pr.length, s)
  else if o.headD 0 = 131 then exE (sE s o.tail) (fun v r => if v = 0 then .ok (i + 1, s) else doJ pr (numV 0 r.tail).1 s)
  else if o.headD 0 = 132 then exE (sE s o.tail.tail.tail) (fun x r => exE (sE s r.tail) (fun y _ => doF i (o.tail.headD 0 - 97) x y s))
  else if o.headD 0 = 134 then doN i (o.tail.headD 0 - 97) s
  else if o.headD 0 = 63 then (if o.tail.headD 0 = 34 then doW i (o.tail.tail.take (o.tail.tail.length - 1)) s else exE (sE s o.tail) (fun v _ => doW i (sgn v.toInt ++ [32]) s))
  else if o.headD 0 = 64 then exE (sE s o.tail.tail) (fun x r => exE (sE s r.tail.tail) (fun v _ => doC i x v s))
  else exE (sE s o.tail.tail) (fun v _ => doV i (o.headD 0 - 97) v s)
/-- what holds of it -/
def gds (pr : List (Int × List Int)) : rS → Prop
  | (va, ce, lo, re, ou) => (∀ k, k < 8 → isSh (va k)) ∧ (∀ k, k < 16 → isSh (ce k)) ∧ (lo.length ≤ 6 ∧ (∀ k, k < lo.length → 0 ≤ (lo.getD k dL).1 ∧ (lo.getD k dL).1 < 8 ∧ isSh (lo.getD k dL).2.1 ∧ (lo.getD k dL).2.2 ≤ pr.length) ∧ ∀ j k, j < lo.length → k < lo.length → (lo.getD j dL).1 = (lo.getD k dL).1 → j = k) ∧ (re.length ≤ 6 ∧ ∀ k, k < re.length → re.getD k 0 ≤ pr.length) ∧ ou.length ≤ 100 ∧ ∀ c ∈ ou, 0 ≤ c ∧ c < 65536
/-- the class holds it -/
def cR (M : qM) (pr : List (Int × List Int)) : rS → Prop
  | (va, ce, lo, re, ou) => N8 (M 13) = va ∧ N16 (M 14) = ce ∧ (M 9 12 = iI lo.length ∧ ∀ k, k < lo.length → M 20 k = iI (lo.getD k dL).1 ∧ M 21 k = (lo.getD k dL).2.1 ∧ M 22 k = iI (off pr (lo.getD k dL).2.2)) ∧ (M 9 13 = iI re.length ∧ ∀ k, k < re.length → M 23 k = iI (off pr (re.getD k 0))) ∧ shIs M 16 ou
def cF : List Nat := [9, 12, 13, 14, 16, 17, 18, 19, 20, 21, 22, 23]
def pfQ (M : qM) (pr : List (Int × List Int)) (s : rS) (res : pR) (x : Int32) (M' : qM) : Prop := fr cF M M' ∧ M' 9 5 = M 9 5 ∧ match res with
  | .error e => x = iI e ∧ (1 ≤ e ∧ e ≤ 7) ∧ cR M' pr s
  | .ok (j, s') => x = iI 0 ∧ M' 9 14 = iI (off pr j) ∧ cR M' pr s'
theorem cR.keep {M M' : qM} {pr : List (Int × List Int)} {s : rS} (h : cR M pr s) (f : ∀ o ∈ [13, 14, 16, 17, 20, 21, 22, 23], M' o = M o) (h1 : M' 9 12 = M 9 12) (h2 : M' 9 13 = M 9 13) : cR M' pr s := by
  obtain ⟨va, ce, lo, re, ou⟩ := s
  obtain ⟨a1, a2, a3, a4, a5⟩ := h
  have e13 := f 13 (by decide)
  have e14 := f 14 (by decide)
  have e20 := f 20 (by decide)
  have e21 := f 21 (by decide)
  have e22 := f 22 (by decide)
  have e23 := f 23 (by decide)
  unfold cR
  rw [e13, e14, e20, e21, e22, e23, h1, h2]
  exact ⟨a1, a2, a3, a4, a5.keep (f 16 (by decide)) (f 17 (by decide))⟩
theorem cR.f12 {M M' : qM} {pr : List (Int × List Int)} {s : rS} (h : cR M pr s) (f : fr [12] M M') : cR M' pr s :=
  h.keep (fun o ho => f o (by simp at ho ⊢; omega)) (by rw [f 9 (by decide)]) (by rw [f 9 (by decide)])
theorem pfQ.of {M M1 M2 : qM} {pr : List (Int × List Int)} {s : rS} {res : pR} {x : Int32} (h : pfQ M1 pr s res x M2) (f : fr [12] M M1) : pfQ M pr s res x M2 := by
  obtain ⟨a, b, c⟩ := h
  refine ⟨(f.wk (by decide)).tr a, by rw [b, f 9 (by decide)], ?_⟩
  rcases res with e | ⟨j, s'⟩
  · exact c
  · exact c
theorem N8_up {f : Nat → Int32} {k : Nat} {v : Int32} (h : k < 8) : N8 (va_up f k v) = va_up (N8 f) k v := by
  funext j
  unfold N8
  by_cases hj : j = k
  · subst hj
    simp [va_up, h]
  · simp [va_up, hj]
theorem N16_up {f : Nat → Int32} {k : Nat} {v : Int32} (h : k < 16) : N16 (va_up f k v) = va_up (N16 f) k v := by
  funext j
  unfold N16
  by_cases hj : j = k
  · subst hj
    simp [va_up, h]
  · simp [va_up, hj]
section Doing
variable {l : Launch} {Γ : qG} {d r : Nat} {L : Nat → Int64} {pr : List (Int × List Int)} {s : rS}
theorem k_E {M : qM} {e : Nat} {u : List Int} {pu li : Int} (h : cS M e u) (hR : cR M pr s) (hg : gds pr s) (ht : tbs (11, pu, 1, 0, 0, 0, li) u = true) : V l Γ T_Calculator_expression (d + 22) r 0 [.ref 12] [] (M, L) (q_i L (cQ e 4 M (sE s u))) := by
  obtain ⟨va, ce, lo, re, ou⟩ := s
  obtain ⟨a1, a2, -⟩ := hR
  refine k_expression h ?_
  rw [← exD_N, a1, a2]
  exact (ex_fin hg.1 hg.2.1 ht h.len.2).1
theorem E_end {e : Nat} {u : List Int} {pu li : Int} (hl : u.length ≤ 198) (hg : gds pr s) (ht : tbs (11, pu, 1, 0, 0, 0, li) u = true) : (∃ e, sE s u = .error e ∧ (e = 5 ∨ e = 6)) ∨ ∃ v r, sE s u = .ok (v, r) ∧ isSh v ∧ tbs (14, pu, 1, 0, 0, 0, li) r = true ∧ tier (r.headD (-1)) < 0 ∧ r.length < u.length := by
  obtain ⟨va, ce, lo, re, ou⟩ := s
  exact (ex_fin hg.1 hg.2.1 ht hl).2.2
theorem k_jump {M : qM} {e : Nat} {b : Int} {u : List Int} (h : cS M e (b :: u)) (htg : tg u) (hP : cPr M pr) (hb : ∀ q ∈ pr, 0 ≤ q.1 ∧ q.1 < 256) (hR : cR M pr s) : V l Γ T_Machine_jump (d + 1 + 1) r 0 [.ref 9, .null] [] (M, L) (q_i L (pfQ M pr s (doJ pr (numV 0 u).1 s))) := by
  obtain ⟨t1, t2, t3, t4⟩ := htg
  refine s_Machine_jump_0 ⟨_, k_take h, ?_⟩
  rintro x1 M1 ⟨rfl, h1, f1⟩
  refine ⟨_, k_takeNumber h1, ?_⟩
  rintro x2 M2 ⟨rfl, h2, f2⟩
  have f12 := f1.tr f2
  have hP2 : cPr M2 pr := ⟨by rw [f12 10 (by decide)]; exact hP.1, hP.2.1, by rw [f12 11 (by decide)]; exact hP.2.2⟩
  refine ⟨_, c_lineNumbered hP2 hb (by omega), ?_⟩
  rintro x3 M3 ⟨rfl, rfl⟩
  have hR3 := hR.f12 f12
  have hle := off_le pr (ix (numV 0 u).1 pr)
  have hpl := hP.2.1
  unfold whereL doJ
  by_cases hh : hasL (numV 0 u).1 pr = true
  · rw [if_pos hh, if_pos hh, iI_eq (by omega) (by omega) (by omega) (by omega)]
    refine ⟨fun _ => ⟨(f12.wk (by decide)).up (by decide), by rw [q_up_k (by decide), f12 9 (by decide)], rfl, q_up_s, hR3.keep (fun o ho => q_up_o (by simp at ho; omega)) (q_up_k (by decide)) (q_up_k (by decide))⟩, fun q => by omega⟩
  · rw [if_neg hh, if_neg hh]
    exact ⟨fun q => absurd rfl q, fun _ => ⟨f12.wk (by decide), by rw [f12 9 (by decide)], rfl, by decide, hR3⟩⟩
theorem k_gosub {M : qM} {e i : Nat} {b : Int} {u : List Int} (h : cS M e (b :: u)) (htg : tg u) (hP : cPr M pr) (hb : ∀ q ∈ pr, 0 ≤ q.1 ∧ q.1 < 256) (hR : cR M pr s) (hg : gds pr s) (hi : M 9 14 = iI (off pr (i + 1))) : V l Γ T_Machine_jumpAndKeep (d + 1 + 1 + 1) r 0 [.ref 9, .null, .null] [] (M, L) (q_i L (pfQ M pr s (doG pr i (numV 0 u).1 s))) := by
  refine s_Machine_jumpAndKeep_0 ⟨_, k_jump h htg hP hb hR, ?_⟩
  rintro x1 M1 ⟨f1, g1, hq⟩
  unfold doG
  rcases ej : doJ pr (numV 0 u).1 s with er | ⟨j, va, ce, lo, re, ou⟩
  · rw [ej] at hq
    obtain ⟨rfl, hb1, hR1⟩ := hq
    rw [iI_0, iI_eq (by omega) (by omega) (by omega) (by omega)]
    exact ⟨fun q => by omega, fun _ => ⟨f1, g1, rfl, hb1, hR1⟩⟩
  · rw [ej] at hq
    have es : s = (va, ce, lo, re, ou) := by
      unfold doJ at ej
      split at ej
      · cases ej; rfl
      · cases ej
    subst es
    obtain ⟨rfl, g14, a1, a2, a3, ⟨a4, a5⟩, a6⟩ := hq
    obtain ⟨-, -, -, ⟨hr6, -⟩, -⟩ := hg
    simp only
    rw [a4, iI_lt (by omega) (by omega) (by omega) (by omega), iI_nat (by omega) (by omega), Int.toNat_natCast, iI_add, hi]
    refine ⟨fun _ => ⟨fun q => ?_, fun q => ?_⟩, fun q => absurd rfl q⟩
    · rw [if_pos (by omega)]
      refine ⟨iI_in (by omega) (by omega) (by omega), (f1.up (by decide)).up (by decide), ?_, rfl, ?_, ?_, ?_, ⟨?_, ?_⟩, ⟨?_, ?_⟩, ?_⟩
      · rw [q_up_k (by decide), q_up_o (by decide)]; exact g1
      · rw [q_up_k (by decide), q_up_o (by decide)]; exact g14
      · rw [q_up_o (by decide), q_up_o (by decide)]; exact a1
      · rw [q_up_o (by decide), q_up_o (by decide)]; exact a2
      · rw [q_up_k (by decide), q_up_o (by decide)]; exact a3.1
      · rw [q_up_o (by decide), q_up_o (by decide), q_up_o (by decide), q_up_o (by decide), q_up_o (by decide), q_up_o (by decide)]; exact a3.2
      · rw [q_up_s]; exact congrArg iI (by simp)
      · intro k hk
        rw [q_up_o (by decide)]
        rw [List.length_append, List.length_singleton] at hk
        by_cases hk2 : k = re.length
        · subst hk2
          rw [q_up_s]
          simp [List.getD_eq_getElem?_getD]
        · rw [q_up_k hk2, a5 k (by omega)]
          simp only [List.getD_eq_getElem?_getD]
          rw [List.getElem?_append_left (by omega)]
      · exact a6.keep (by rw [q_up_o (by decide), q_up_o (by decide)]) (by rw [q_up_o (by decide), q_up_o (by decide)])
    · rw [if_neg (by omega)]
      exact ⟨f1, g1, rfl, by decide, a1, a2, a3, ⟨a4, a5⟩, a6⟩
theorem k_return {M : qM} (hR : cR M pr s) (hg : gds pr s) : V l Γ T_Machine_jumpBack d r 0 [.ref 9] [] (M, L) (q_i L (pfQ M pr s (doR s))) := by
  obtain ⟨va, ce, lo, re, ou⟩ := s
  obtain ⟨a1, a2, a3, ⟨a4, a5⟩, a6⟩ := hR
  obtain ⟨-, -, -, ⟨hr6, -⟩, -⟩ := hg
  refine s_Machine_jumpBack_0 ?_
  unfold doR
  simp only
  rw [a4, iI_0, iI_eq (by omega) (by omega) (by omega) (by omega), iI_sub]
  by_cases h0 : re.length = 0
  · rw [if_pos h0]
    exact ⟨fun q => by omega, fun _ => ⟨fr.rf, rfl, rfl, by decide, a1, a2, a3, ⟨a4, a5⟩, a6⟩⟩
  · rw [if_neg h0, iI_nat (by omega) (by omega), show ((re.length : Int) - 1).toNat = re.length - 1 by omega]
    refine ⟨fun _ => ⟨iI_in (by omega) (by omega) (by omega), (fr.rf.up (by decide)).up (by decide), ?_, rfl, ?_, ?_, ?_, ⟨?_, ?_⟩, ⟨?_, ?_⟩, ?_⟩, fun q => by omega⟩
    · rw [q_up_k (by decide), q_up_k (by decide)]
    · rw [q_up_s]; exact a5 _ (by omega)
    · rw [q_up_o (by decide), q_up_o (by decide)]; exact a1
    · rw [q_up_o (by decide), q_up_o (by decide)]; exact a2
    · rw [q_up_k (by decide), q_up_k (by decide)]; exact a3.1
    · rw [q_up_o (by decide), q_up_o (by decide), q_up_o (by decide), q_up_o (by decide), q_up_o (by decide), q_up_o (by decide)]; exact a3.2
    · rw [q_up_k (by decide), q_up_s, List.length_take]; exact congrArg iI (by omega)
    · intro k hk
      rw [List.length_take] at hk
      rw [q_up_o (by decide), q_up_o (by decide), a5 k (by omega)]
      simp only [List.getD_eq_getElem?_getD]
      rw [List.getElem?_take_of_lt (by omega)]
    · exact a6.keep (by rw [q_up_o (by decide), q_up_o (by decide)]) (by rw [q_up_o (by decide), q_up_o (by decide)])
end Doing
