-- reading: the reference's machine over codes, kept without what it no longer needs
/-- stage, purpose, deep, number, words, letters, line -/
abbrev rA := Int × Int × Int × Int × Nat × Nat × Int
/-- the letters of a word, A is 1 -/
def wl (w : Nat) : List Int := match w with
  | 0 => [7, 15, 20, 15]
  | 1 => [7, 15, 19, 21, 2]
  | 2 => [18, 5, 20, 21, 18, 14]
  | 3 => [9, 6]
  | 4 => [6, 15, 18]
  | 5 => [20, 15]
  | 6 => [14, 5, 24, 20]
  | _ => [5, 14, 4]
def lt (w i : Nat) : Int := (wl w).getD i 0
def bt (w k : Nat) : Bool := decide (w / 2 ^ k % 2 = 1)
def spL (w le : Nat) (c : Int) : Nat → Nat
  | 0 => 0
  | k + 1 => spL w le c k + if bt w k = true ∧ lt k le = c - 64 then 2 ^ k else 0
def spW (w le : Nat) (c : Int) : Nat → Int
  | 0 => -1
  | k + 1 => if (bt w k = true ∧ lt k le = c - 64) ∧ lt k (le + 1) = 0 then (k : Int) else spW w le c k
def poss (st pu de : Int) : Nat := if st = 2 then 223 else if (st = 14 ∨ st = 13) ∧ de = 1 then (if pu = 1 then 1 else if pu = 2 then 32 else 0) else 0
/-- behind a word -/
def pas (w : Int) (li : Int) : rA := if w = 0 ∨ w = 1 then (7, 0, 0, 0, 0, 0, li) else if w = 2 ∨ w = 7 then (15, 0, 0, 0, 0, 0, li) else if w = 3 then (11, 1, 1, 0, 0, 0, li) else if w = 4 then (9, 0, 0, 0, 0, 0, li) else if w = 5 then (11, 0, 1, 0, 0, 0, li) else (10, 0, 0, 0, 0, 0, li)
def tSpell (w le : Nat) (li c : Int) : Option (rA × List Int) :=
  if 0 ≤ spW w le c 8 then some (pas (spW w le c 8) li, [128 + spW w le c 8]) else if 0 < spL w le c 8 then some ((16, 0, 0, 0, spL w le c 8, le + 1, li), []) else none
def tOne (pu de li c : Int) : Option (rA × List Int) :=
  if isD c = true then some ((13, pu, de, c - 48, 0, 0, li), [c])
  else if isV c = true then some ((14, pu, de, 0, 0, 0, li), [c])
  else if c = 40 then (if de < 4 then some ((11, pu, de + 1, 0, 0, 0, li), [c]) else none)
  else if c = 64 then (if de < 4 then some ((12, pu, de, 0, 0, 0, li), [c]) else none)
  else if c = 45 then some ((11, pu, de, 0, 0, 0, li), [c]) else none
def tBehind (pu de li c : Int) : Option (rA × List Int) :=
  if c = 41 then (if de = 1 ∧ pu = 3 then some ((3, 0, 0, 0, 0, 0, li), [c]) else if 1 < de then some ((14, pu, de - 1, 0, 0, 0, li), [c]) else none)
  else if tier c = -1 then none else some ((11, pu, de, 0, 0, 0, li), [c])
def tBegin (li c : Int) : Option (rA × List Int) :=
  if isV c = true then some ((3, 0, 0, 0, 0, 0, li), [c]) else if c = 64 then some ((4, 0, 0, 0, 0, 0, li), [c]) else if c = 63 then some ((5, 0, 0, 0, 0, 0, li), [c]) else none
def tDigit (st pu de nu li c : Int) : Option (rA × List Int) :=
  if nu = 0 ∨ (if st = 13 then 32767 else 99) < 10 * nu + c - 48 then none
  else if st = 1 then some ((1, 0, 0, 10 * nu + c - 48, 0, 0, 10 * nu + c - 48), [])
  else some ((st, pu, de, 10 * nu + c - 48, 0, 0, li), [c])
def tOther (st pu de li c : Int) : Option (rA × List Int) :=
  if st = 0 then (if 49 ≤ c ∧ c ≤ 57 then some ((1, 0, 0, c - 48, 0, 0, c - 48), []) else none)
  else if st = 2 then tBegin li c
  else if st = 3 then (if c = 61 then some ((11, pu, 1, 0, 0, 0, li), [c]) else none)
  else if st = 4 then (if c = 40 then some ((11, 3, 1, 0, 0, 0, li), [c]) else none)
  else if st = 5 then (if c = 34 then some ((6, 0, 0, 0, 0, 0, li), [c]) else tOne 0 1 li c)
  else if st = 7 then (if 49 ≤ c ∧ c ≤ 57 then some ((8, 0, 0, c - 48, 0, 0, li), [c]) else none)
  else if st = 9 then (if isV c = true then some ((3, 2, 0, 0, 0, 0, li), [c]) else none)
  else if st = 10 then (if isV c = true then some ((15, 0, 0, 0, 0, 0, li), [c]) else none)
  else if st = 11 then tOne pu de li c
  else if st = 12 then (if de < 4 ∧ c = 40 then some ((11, pu, de + 1, 0, 0, 0, li), [c]) else none)
  else if st = 13 ∨ st = 14 then tBehind pu de li c
  else none
def tQuoted (li c : Int) : Option (rA × List Int) :=
  if 32 ≤ c ∧ c ≤ 126 then (if c = 34 then some ((15, 0, 0, 0, 0, 0, li), [c]) else some ((6, 0, 0, 0, 0, 0, li), [c])) else none
def spc (st pu de li : Int) : rA := if st = 1 then (2, 0, 0, 0, 0, 0, li) else if st = 13 then (14, pu, de, 0, 0, 0, li) else if st = 8 then (15, 0, 0, 0, 0, 0, li) else (st, pu, de, 0, 0, 0, li)
def bg (st : Int) : Int := if st = 1 then 2 else st
def tk (s : rA) (c : Int) : Option (rA × List Int) := match s with
  | (st, pu, de, nu, w, le, li) =>
    if st = 6 then tQuoted li c
    else if st = 16 then tSpell w le li c
    else if c = 32 then some (spc st pu de li, [])
    else if isD c = true ∧ (st = 1 ∨ st = 13 ∨ st = 8) then tDigit st pu de nu li c
    else if 65 ≤ c ∧ c ≤ 90 then tSpell (poss (bg st) pu de) 0 li c
    else tOther (bg st) pu de li c
def whl (s : rA) : Bool := match s with
  | (st, pu, de, _, _, _, _) => decide (st = 1 ∨ st = 2 ∨ st = 15 ∨ st = 8 ∨ ((st = 14 ∨ st = 13) ∧ de = 1 ∧ pu = 0))
def lnOf (s : rA) : Int := s.2.2.2.2.2.2
/-- what the machine says of the rest of a text: how much is left where it fails, or line and bytes -/
def pre (o : List Int) (e : Except Nat (Int × List Int)) : Except Nat (Int × List Int) := match e with
  | .ok (z, p) => .ok (z, o ++ p)
  | .error n => .error n
def ft (s : rA) : List Int → Except Nat (Int × List Int)
  | [] => if whl s = true then .ok (lnOf s, []) else .error 0
  | c :: u => match tk s c with
    | none => .error (u.length + 1)
    | some (s', o) => pre o (ft s' u)
-- the class's reader over what is left of a text: done, what is left then, the bytes put
abbrev rR := Bool × List Int × List Int
def sk : List Int → List Int
  | [] => []
  | c :: u => if c = 32 then sk u else c :: u
def hdz (u : List Int) : Int := u.headD (-1)
def rOne (p : Int → Bool) (u : List Int) : rR := match sk u with
  | [] => (false, [], [])
  | c :: v => if p c = true then (true, v, [c]) else (false, c :: v, [])
def rNumL (least most : Int) (value : Int) : List Int → Int × List Int × List Int
  | [] => (value, [], [])
  | c :: u => if isD c = true then
      (if value = 0 ∨ (if value = -1 then c - 48 else value * 10 + c - 48) < least ∨ most < (if value = -1 then c - 48 else value * 10 + c - 48) then (-1, c :: u, [])
       else match rNumL least most (if value = -1 then c - 48 else value * 10 + c - 48) u with
         | (v, u', o) => (v, u', c :: o))
    else (value, c :: u, [])
def rNum (least most : Int) (u : List Int) : Int × List Int × List Int := rNumL least most (-1) (sk u)
def rNumB (least most : Int) (u : List Int) : rR := match rNum least most u with
  | (v, u', o) => (decide (v ≠ -1), u', o)
def rLet : List Int → List Int → Bool × List Int
  | [], u => (true, u)
  | _ :: _, [] => (false, [])
  | a :: l, c :: u => if c = a + 64 then rLet l u else (false, c :: u)
def rWord (w : Nat) (u : List Int) : rR := match rLet (wl w) (sk u) with
  | (true, v) => (true, v, [128 + (w : Int)])
  | (false, v) => (false, v, [])
def rThen (f g : List Int → rR) (u : List Int) : rR := match f u with
  | (true, v, o) => (match g v with
    | (b, v', o') => (b, v', o ++ o'))
  | (false, v, o) => (false, v, o)
def rQuote : List Int → rR
  | [] => (false, [], [])
  | c :: u => if isC c = true then (if c = 34 then (true, u, [c]) else match rQuote u with
      | (b, v, o) => (b, v, c :: o)) else (false, c :: u, [])
/-- fuel, brackets that stand open, whether a one is wanted -/
def rExp : Nat → Nat → Bool → List Int → rR
  | 0, _, _, u => (false, u, [])
  | n + 1, op, true, u =>
    if hdz (sk u) = 45 then rThen (rOne (fun c => c == 45)) (rExp n op true) u
    else if hdz (sk u) = 40 ∨ hdz (sk u) = 64 then
      (if 4 ≤ op + 1 then (false, sk u, [])
       else if hdz (sk u) = 64 then rThen (rOne (fun c => c == 64)) (rThen (rOne (fun c => c == 40)) (rExp n (op + 1) true)) u
       else rThen (rOne (fun c => c == 40)) (rExp n (op + 1) true) u)
    else if (rOne isV u).1 = true then rThen (rOne isV) (rExp n op false) u
    else rThen (rNumB 0 32767) (rExp n op false) u
  | n + 1, op, false, u =>
    if tier (hdz (sk u)) ≠ -1 then rThen (rOne (fun c => decide (tier c ≠ -1))) (rExp n op true) u
    else if hdz (sk u) = 41 ∧ 0 < op then rThen (rOne (fun c => c == 41)) (rExp n (op - 1) false) u
    else (decide (op = 0), sk u, [])
def rE : List Int → rR := rExp 257 0 true
def rMark (m : Int) : List Int → rR := rOne (fun c => c == m)
def rPrinted (u : List Int) : rR := if hdz (sk u) = 34 then rThen (rMark 34) rQuote u else rE u
def rGo : List Int → rR := rNumB 1 99
def rDef : List Int → rR := rThen (rOne isV) (rThen (rMark 61) rE)
def rStmt (u : List Int) : rR :=
  if hdz u = 71 then rThen (rWord (if u.getD 2 (-1) = 83 then 1 else 0)) rGo u
  else if hdz u = 82 then rWord 2 u
  else if hdz u = 73 then rThen (rWord 3) (rThen rE (rThen (rWord 0) rGo)) u
  else if hdz u = 70 then rThen (rWord 4) (rThen (rOne isV) (rThen (rMark 61) (rThen rE (rThen (rWord 5) rE)))) u
  else if hdz u = 78 then rThen (rWord 6) (rOne isV) u
  else if hdz u = 69 then rWord 7 u
  else if hdz u = 63 then rThen (rMark 63) rPrinted u
  else if hdz u = 64 then rThen (rMark 64) (rThen (rMark 40) (rThen rE (rThen (rMark 41) (rThen (rMark 61) rE)))) u
  else rDef u
/-- a line: how much is left at the fault, or the number and the bytes -/
def rLine (t : List Int) : Except Nat (Int × List Int) :=
  if (rNum 1 99 t).1 = -1 then .error (rNum 1 99 t).2.1.length
  else if sk (rNum 1 99 t).2.1 = [] then .ok ((rNum 1 99 t).1, [])
  else if (rStmt (sk (rNum 1 99 t).2.1)).1 = true then
    (if sk (rStmt (sk (rNum 1 99 t).2.1)).2.1 = [] then .ok ((rNum 1 99 t).1, (rStmt (sk (rNum 1 99 t).2.1)).2.2) else .error (sk (rStmt (sk (rNum 1 99 t).2.1)).2.1).length)
  else .error (rStmt (sk (rNum 1 99 t).2.1)).2.1.length
-- both read alike
theorem pre_pre (o o' : List Int) (e : Except Nat (Int × List Int)) : pre o (pre o' e) = pre (o ++ o') e := by
  cases e with
  | error n => rfl
  | ok q => simp [pre]
theorem pre_nil (e : Except Nat (Int × List Int)) : pre [] e = e := by
  cases e <;> rfl
def kon (r : rR) (s : rA) : Except Nat (Int × List Int) := if r.1 = true then pre r.2.2 (ft s r.2.1) else .error r.2.1.length
theorem kon_t (v o : List Int) (s : rA) : kon (true, v, o) s = pre o (ft s v) := rfl
theorem kon_f (v o : List Int) (s : rA) : kon (false, v, o) s = .error v.length := rfl
theorem rThen_t {f g : List Int → rR} {u v o : List Int} (h : f u = (true, v, o)) : rThen f g u = ((g v).1, (g v).2.1, o ++ (g v).2.2) := by
  unfold rThen
  rw [h]
theorem rThen_f {f g : List Int → rR} {u v o : List Int} (h : f u = (false, v, o)) : rThen f g u = (false, v, o) := by
  unfold rThen
  rw [h]
theorem kon_then {f g : List Int → rR} {u : List Int} {s s1 s2 : rA} (h : ft s u = kon (f u) s1) (h2 : (f u).1 = true → ft s1 (f u).2.1 = kon (g (f u).2.1) s2) : ft s u = kon (rThen f g u) s2 := by
  rcases e : f u with ⟨b, v, o⟩
  rw [e] at h h2
  cases b with
  | false => rw [rThen_f e, h]; rfl
  | true =>
    rw [rThen_t e, h, kon_t, h2 rfl]
    rcases e2 : g v with ⟨b', v', o'⟩
    cases b' with
    | false => simp [kon, pre]
    | true => simp only [kon, if_true, pre_pre]
theorem sk_hd (u : List Int) : hdz (sk u) ≠ 32 := by
  induction u with
  | nil => decide
  | cons c u ih =>
    unfold sk
    split
    · exact ih
    · next h => exact h
theorem sk_len (u : List Int) : (sk u).length ≤ u.length := by
  induction u with
  | nil => exact Nat.le_refl _
  | cons c u ih =>
    unfold sk
    split
    · exact Nat.le_succ_of_le ih
    · exact Nat.le_refl _
theorem sk_id {u : List Int} (h : hdz u ≠ 32) : sk u = u := by
  cases u with
  | nil => rfl
  | cons c u => exact if_neg h
theorem sk_sk (u : List Int) : sk (sk u) = sk u := sk_id (sk_hd u)
/-- spaces change nothing -/
theorem ft_sk {s : rA} (h : tk s 32 = some (s, [])) (u : List Int) : ft s (sk u) = ft s u := by
  induction u with
  | nil => rfl
  | cons c u ih =>
    unfold sk
    split
    · next e =>
      subst e
      rw [ih]
      conv => rhs; unfold ft
      rw [h]
      exact (pre_nil _).symm
    · rfl
/-- one code -/
theorem ft_one {s s' : rA} {p : Int → Bool} (h : tk s 32 = some (s, [])) (hw : whl s = false) (hp : ∀ c, c ≠ 32 → tk s c = if p c = true then some (s', [c]) else none) (u : List Int) : ft s u = kon (rOne p u) s' := by
  rw [← ft_sk h]
  unfold rOne
  rcases e : sk u with _ | ⟨c, v⟩
  · simp [ft, hw, kon]
  · have hc : c ≠ 32 := by have := sk_hd u; rw [e] at this; exact this
    simp only
    conv => lhs; unfold ft
    rw [hp c hc]
    by_cases e2 : p c = true
    · rw [if_pos e2, if_pos e2]; rfl
    · rw [if_neg e2, if_neg e2]; rfl
theorem rOne_t {p : Int → Bool} {u : List Int} (h : (rOne p u).1 = true) : ∃ c v, sk u = c :: v ∧ p c = true ∧ rOne p u = (true, v, [c]) := by
  unfold rOne at h ⊢
  rcases e : sk u with _ | ⟨c, v⟩
  · rw [e] at h; simp at h
  · rw [e] at h
    simp only at h ⊢
    by_cases e2 : p c = true
    · exact ⟨c, v, rfl, e2, by rw [if_pos e2]⟩
    · rw [if_neg e2] at h; simp at h
theorem rOne_f {p : Int → Bool} {u : List Int} (h : (rOne p u).1 = false) : rOne p u = (false, sk u, []) := by
  unfold rOne at h ⊢
  rcases e : sk u with _ | ⟨c, v⟩
  · rfl
  · rw [e] at h
    simp only at h ⊢
    by_cases e2 : p c = true
    · rw [if_pos e2] at h; simp at h
    · rw [if_neg e2]
theorem rOne_len {p : Int → Bool} {u : List Int} (h : (rOne p u).1 = true) : (rOne p u).2.1.length < u.length := by
  obtain ⟨c, v, e, _, e2⟩ := rOne_t h
  rw [e2]
  have := sk_len u
  rw [e] at this
  exact this
theorem tSpell_0 (le : Nat) (li c : Int) : tSpell 0 le li c = none := by
  simp [tSpell, spL, spW, bt]
theorem tk_plain {st : Int} (pu de nu : Int) (w le : Nat) (li c : Int) (h6 : st ≠ 6) (h16 : st ≠ 16) (hc : c ≠ 32) (hd : ¬ (isD c = true ∧ (st = 1 ∨ st = 13 ∨ st = 8))) (hA : ¬ (65 ≤ c ∧ c ≤ 90)) : tk (st, pu, de, nu, w, le, li) c = tOther (bg st) pu de li c := by
  unfold tk
  simp only [if_neg h6, if_neg h16, if_neg hc, if_neg hd, if_neg hA]
theorem tk_cap {st : Int} (pu de nu : Int) (w le : Nat) (li c : Int) (h6 : st ≠ 6) (h16 : st ≠ 16) (hA : 65 ≤ c ∧ c ≤ 90) : tk (st, pu, de, nu, w, le, li) c = tSpell (poss (bg st) pu de) 0 li c := by
  unfold tk
  have hd : ¬ (isD c = true ∧ (st = 1 ∨ st = 13 ∨ st = 8)) := by
    rintro ⟨h, -⟩
    simp only [isD, decide_eq_true_eq] at h
    omega
  simp only [if_neg h6, if_neg h16, if_neg (show c ≠ 32 by omega), if_neg hd, if_pos hA]
theorem tk_sp {st : Int} (pu de nu : Int) (w le : Nat) (li : Int) (h6 : st ≠ 6) (h16 : st ≠ 16) : tk (st, pu, de, nu, w, le, li) 32 = some (spc st pu de li, []) := by
  unfold tk
  simp only [if_neg h6, if_neg h16, if_true]
/-- stages at which spaces change nothing and no number is under way -/
def stab (st : Int) : Prop := st ≠ 6 ∧ st ≠ 16 ∧ st ≠ 1 ∧ st ≠ 13 ∧ st ≠ 8
theorem tk_st {st : Int} (pu de li : Int) (h : stab st) : tk (st, pu, de, 0, 0, 0, li) 32 = some ((st, pu, de, 0, 0, 0, li), []) := by
  obtain ⟨h6, h16, h1, h13, h8⟩ := h
  rw [tk_sp pu de 0 0 0 li h6 h16]
  simp only [spc, if_neg h1, if_neg h13, if_neg h8]
/-- a code at such a stage -/
theorem tk_at {st : Int} (pu de li : Int) (h : stab st) (hp : poss st pu de = 0) {c : Int} (hc : c ≠ 32) : tk (st, pu, de, 0, 0, 0, li) c = if 65 ≤ c ∧ c ≤ 90 then none else tOther st pu de li c := by
  obtain ⟨h6, h16, h1, h13, h8⟩ := h
  have hb : bg st = st := if_neg h1
  by_cases hA : 65 ≤ c ∧ c ≤ 90
  · rw [if_pos hA, tk_cap pu de 0 0 0 li c h6 h16 hA, hb, hp, tSpell_0]
  · rw [if_neg hA, tk_plain pu de 0 0 0 li c h6 h16 hc (by rintro ⟨_, h | h | h⟩ <;> contradiction) hA, hb]
-- where a number ends
theorem ft_num {st st' : Int} (pu de nu li : Int) (u : List Int) (hs : (st = 13 ∧ st' = 14) ∨ (st = 8 ∧ st' = 15 ∧ pu = 0 ∧ de = 0) ∨ (st = 1 ∧ st' = 2 ∧ pu = 0 ∧ de = 0)) (hu : isD (hdz u) = false) : ft (st, pu, de, nu, 0, 0, li) u = ft (st', pu, de, 0, 0, 0, li) u := by
  cases u with
  | nil =>
    rcases hs with ⟨rfl, rfl⟩ | ⟨rfl, rfl, rfl, rfl⟩ | ⟨rfl, rfl, rfl, rfl⟩ <;> simp [ft, whl, lnOf]
  | cons c u =>
    have hu : isD c = false := hu
    conv => lhs; unfold ft
    conv => rhs; unfold ft
    have e : tk (st, pu, de, nu, 0, 0, li) c = tk (st', pu, de, 0, 0, 0, li) c := by
      by_cases hc : c = 32
      · subst hc
        rcases hs with ⟨rfl, rfl⟩ | ⟨rfl, rfl, rfl, rfl⟩ | ⟨rfl, rfl, rfl, rfl⟩ <;> rfl
      by_cases hA : 65 ≤ c ∧ c ≤ 90
      · rcases hs with ⟨rfl, rfl⟩ | ⟨rfl, rfl, rfl, rfl⟩ | ⟨rfl, rfl, rfl, rfl⟩ <;> rw [tk_cap _ _ _ _ _ _ _ (by decide) (by decide) hA, tk_cap _ _ _ _ _ _ _ (by decide) (by decide) hA] <;> simp [poss, bg]
      · rcases hs with ⟨rfl, rfl⟩ | ⟨rfl, rfl, rfl, rfl⟩ | ⟨rfl, rfl, rfl, rfl⟩ <;> rw [tk_plain _ _ _ _ _ _ _ (by decide) (by decide) hc (by simp [hu]) hA, tk_plain _ _ _ _ _ _ _ (by decide) (by decide) hc (by simp [hu]) hA] <;> simp [tOther, bg]
    rw [e]
theorem rNumL_end {least most : Int} {v : Int} {u : List Int} (h : (rNumL least most v u).1 ≠ -1) : isD (hdz (rNumL least most v u).2.1) = false := by
  induction u generalizing v with
  | nil => rfl
  | cons c u ih =>
    unfold rNumL at h ⊢
    by_cases hd : isD c = true
    · rw [if_pos hd] at h ⊢
      by_cases hb : v = 0 ∨ (if v = -1 then c - 48 else v * 10 + c - 48) < least ∨ most < (if v = -1 then c - 48 else v * 10 + c - 48)
      · rw [if_pos hb] at h; simp at h
      · rw [if_neg hb] at h ⊢
        exact ih h
    · rw [if_neg hd] at h ⊢
      simpa [hdz] using hd
theorem rNumL_len (least most : Int) (v : Int) (u : List Int) : (rNumL least most v u).2.1.length ≤ u.length := by
  induction u generalizing v with
  | nil => exact Nat.le_refl _
  | cons c u ih =>
    unfold rNumL
    generalize (if v = -1 then c - 48 else v * 10 + c - 48) = g
    split
    · split
      · exact Nat.le_refl _
      · exact Nat.le_succ_of_le (ih _)
    · exact Nat.le_refl _
theorem rNumL_len2 {least most : Int} {u : List Int} (h : (rNumL least most (-1) u).1 ≠ -1) : (rNumL least most (-1) u).2.1.length < u.length := by
  cases u with
  | nil => exact absurd rfl h
  | cons c u =>
    unfold rNumL at h ⊢
    by_cases hd : isD c = true
    · rw [if_pos hd] at h ⊢
      by_cases hb : (-1 : Int) = 0 ∨ (if (-1 : Int) = -1 then c - 48 else -1 * 10 + c - 48) < least ∨ most < (if (-1 : Int) = -1 then c - 48 else -1 * 10 + c - 48)
      · rw [if_pos hb] at h; simp at h
      · rw [if_neg hb]
        exact Nat.lt_succ_of_le (rNumL_len _ _ _ _)
    · rw [if_neg hd] at h; simp at h
/-- the digits behind the first -/
theorem ft_digits {st : Int} (pu de nu li : Int) (least : Int) (u : List Int) (hs : st = 13 ∨ st = 8) (hz : st = 8 → pu = 0 ∧ de = 0) (h0 : 0 ≤ nu) (hn : least ≤ nu) : ft (st, pu, de, nu, 0, 0, li) u = kon (decide ((rNumL least (if st = 13 then 32767 else 99) nu u).1 ≠ -1), (rNumL least (if st = 13 then 32767 else 99) nu u).2) (if st = 13 then (14, pu, de, 0, 0, 0, li) else (15, pu, de, 0, 0, 0, li)) := by
  induction u generalizing nu with
  | nil =>
    have e : nu ≠ -1 := by omega
    rcases hs with rfl | rfl
    · simp [rNumL, kon, e, pre_nil, ft, whl, lnOf]
    · obtain ⟨rfl, rfl⟩ := hz rfl
      simp [rNumL, kon, e, pre_nil, ft, whl, lnOf]
  | cons c u ih =>
    by_cases hd : isD c = true
    · have hd2 : 48 ≤ c ∧ c ≤ 57 := by simpa [isD] using hd
      have e1 : tk (st, pu, de, nu, 0, 0, li) c = tDigit st pu de nu li c := by
        rcases hs with rfl | rfl <;> · unfold tk; simp [hd, show c ≠ 32 by omega]
      have en : ¬ nu = -1 := by omega
      have e2 : (if nu = -1 then c - 48 else nu * 10 + c - 48) = 10 * nu + c - 48 := by rw [if_neg en]; omega
      conv => lhs; unfold ft
      rw [e1]
      unfold rNumL
      simp only [if_pos hd, e2]
      unfold tDigit
      by_cases hb : nu = 0 ∨ (if st = 13 then 32767 else 99) < 10 * nu + c - 48
      · rw [if_pos hb, if_pos (by rcases hb with h | h; exact Or.inl h; exact Or.inr (Or.inr h))]
        rfl
      · have hb2 : ¬ (nu = 0 ∨ 10 * nu + c - 48 < least ∨ (if st = 13 then 32767 else 99) < 10 * nu + c - 48) := by
          rintro (h | h | h)
          · exact hb (Or.inl h)
          · have : nu ≠ 0 := fun e => hb (Or.inl e)
            omega
          · exact hb (Or.inr h)
        rw [if_neg hb, if_neg hb2, if_neg (by rcases hs with rfl | rfl <;> decide)]
        have hn2 : least ≤ 10 * nu + c - 48 := by
          have : nu ≠ 0 := fun e => hb (Or.inl e)
          omega
        simp only
        rw [ih (10 * nu + c - 48) (by omega) hn2]
        generalize (if st = 13 then (32767 : Int) else 99) = mo
        generalize (if st = 13 then ((14 : Int), pu, de, (0 : Int), (0 : Nat), (0 : Nat), li) else (15, pu, de, 0, 0, 0, li)) = s2
        rcases rNumL least mo (10 * nu + c - 48) u with ⟨v, u', o⟩
        by_cases hv : v = -1
        · simp [kon, hv, pre]
        · simp [kon, hv, pre_pre]
    · have hd : isD c = false := by simpa using hd
      have e : (rNumL least (if st = 13 then 32767 else 99) nu (c :: u)) = (nu, c :: u, []) := by
        unfold rNumL
        simp [hd]
      rw [e]
      have e3 : nu ≠ -1 := by omega
      simp only [kon, e3, ne_eq, not_false_eq_true, decide_true, if_true, pre_nil]
      rcases hs with rfl | rfl
      · exact ft_num pu de nu li (c :: u) (Or.inl ⟨rfl, rfl⟩) hd
      · obtain ⟨rfl, rfl⟩ := hz rfl
        exact ft_num 0 0 nu li (c :: u) (Or.inr (Or.inl ⟨rfl, rfl, rfl, rfl⟩)) hd
/-- a number from its first digit -/
theorem rNum_c {least most : Int} {c : Int} {u : List Int} : rNumL least most (-1) (c :: u) = if isD c = true then (if c - 48 < least ∨ most < c - 48 then (-1, c :: u, []) else ((rNumL least most (c - 48) u).1, (rNumL least most (c - 48) u).2.1, c :: (rNumL least most (c - 48) u).2.2)) else (-1, c :: u, []) := by
  conv => lhs; unfold rNumL
  simp
theorem ft_go (li : Int) (u : List Int) : ft (7, 0, 0, 0, 0, 0, li) u = kon (rGo u) (15, 0, 0, 0, 0, 0, li) := by
  have hst : stab 7 := by unfold stab; decide
  rw [← ft_sk (tk_st 0 0 li hst)]
  show _ = kon (rNumB 1 99 u) _
  unfold rNumB rNum
  rcases e : sk u with _ | ⟨c, v⟩
  · rfl
  · have hc : c ≠ 32 := by have := sk_hd u; rw [e] at this; exact this
    conv => lhs; unfold ft
    rw [tk_at 0 0 li hst rfl hc, rNum_c]
    simp only [tOther]
    by_cases h1 : 49 ≤ c ∧ c ≤ 57
    · have hd : isD c = true := by simp [isD]; omega
      rw [if_neg (by omega), if_pos hd, if_neg (show ¬ (c - 48 < 1 ∨ 99 < c - 48) by omega)]
      simp [h1]
      rw [ft_digits 0 0 (c - 48) li 1 v (Or.inr rfl) (fun _ => ⟨rfl, rfl⟩) (by omega) (by omega)]
      simp only [show ¬ ((8 : Int) = 13) by decide, if_false]
      rcases rNumL 1 99 (c - 48) v with ⟨z, u', o⟩
      by_cases hv : z = -1
      · simp [kon, hv, pre]
      · simp [kon, hv, pre_pre]
    · have e2 : (if isD c = true then (if c - 48 < 1 ∨ 99 < c - 48 then ((-1 : Int), c :: v, ([] : List Int)) else ((rNumL 1 99 (c - 48) v).1, (rNumL 1 99 (c - 48) v).2.1, c :: (rNumL 1 99 (c - 48) v).2.2)) else (-1, c :: v, [])) = (-1, c :: v, []) := by
        by_cases hd : isD c = true
        · have hd2 : 48 ≤ c ∧ c ≤ 57 := by simpa [isD] using hd
          rw [if_pos hd, if_pos (by omega)]
        · rw [if_neg hd]
      rw [e2]
      simp [h1, kon]
/-- a one that is a constant or a variable -/
theorem ft_const (pu de li : Int) (u : List Int) (hv : (rOne isV u).1 = false) (h1 : hdz (sk u) ≠ 40) (h2 : hdz (sk u) ≠ 64) (h3 : hdz (sk u) ≠ 45) : ft (11, pu, de, 0, 0, 0, li) u = kon (rNumB 0 32767 u) (14, pu, de, 0, 0, 0, li) := by
  have hst : stab 11 := by unfold stab; decide
  rw [← ft_sk (tk_st pu de li hst)]
  unfold rNumB rNum
  unfold rOne at hv
  rcases e : sk u with _ | ⟨c, v⟩
  · rfl
  · rw [e] at hv h1 h2 h3
    have hc : c ≠ 32 := by have := sk_hd u; rw [e] at this; exact this
    have hv : isV c = false := by
      by_cases q : isV c = true
      · simp [q] at hv
      · simpa using q
    have h1 : c ≠ 40 := h1
    have h2 : c ≠ 64 := h2
    have h3 : c ≠ 45 := h3
    conv => lhs; unfold ft
    rw [tk_at pu de li hst rfl hc, rNum_c]
    simp only [tOther, tOne]
    by_cases hd : isD c = true
    · have hd2 : 48 ≤ c ∧ c ≤ 57 := by simpa [isD] using hd
      rw [if_neg (by omega), if_pos hd, if_neg (show ¬ (c - 48 < 0 ∨ 32767 < c - 48) by omega)]
      simp [hd]
      rw [ft_digits pu de (c - 48) li 0 v (Or.inl rfl) (fun q => absurd q (by decide)) (by omega) (by omega)]
      simp only [if_true]
      rcases rNumL 0 32767 (c - 48) v with ⟨z, u', o⟩
      by_cases hz : z = -1
      · simp [kon, hz, pre]
      · simp [kon, hz, pre_pre]
    · simp [hd, hv, h1, h2, h3, kon]
theorem ft_var11 (pu de li : Int) (u : List Int) (hv : (rOne isV u).1 = true) : ft (11, pu, de, 0, 0, 0, li) u = kon (rOne isV u) (14, pu, de, 0, 0, 0, li) := by
  have hst : stab 11 := by unfold stab; decide
  obtain ⟨c, v, e, hp, e2⟩ := rOne_t hv
  rw [← ft_sk (tk_st pu de li hst), e, e2]
  have hc : c ≠ 32 := by have := sk_hd u; rw [e] at this; exact this
  have hr : 97 ≤ c ∧ c ≤ 104 := by simpa [isV] using hp
  conv => lhs; unfold ft
  rw [tk_at pu de li hst rfl hc, if_neg (by omega)]
  have hd : isD c = false := by simp [isD]; omega
  simp [tOther, tOne, hd, hp, kon]
/-- a head that is taken as it is -/
theorem ft_head {s s' : rA} {p : Int → Bool} {u : List Int} (h : tk s 32 = some (s, [])) (hp : p (hdz (sk u)) = true) (hm : p (-1) = false) (ht : tk s (hdz (sk u)) = some (s', [hdz (sk u)])) : ft s u = kon (rOne p u) s' ∧ (rOne p u).1 = true := by
  rw [← ft_sk h]
  unfold rOne
  rcases e : sk u with _ | ⟨c, v⟩
  · rw [e] at hp; rw [show hdz [] = -1 from rfl, hm] at hp; cases hp
  · rw [e] at hp ht
    have hp : p c = true := hp
    have ht : tk s c = some (s', [c]) := ht
    simp only [if_pos hp]
    refine ⟨?_, trivial⟩
    conv => lhs; unfold ft
    rw [ht]
    rfl
theorem rNumB_len {least most : Int} {u : List Int} (h : (rNumB least most u).1 = true) : (rNumB least most u).2.1.length < u.length := by
  unfold rNumB rNum at h ⊢
  have h : (rNumL least most (-1) (sk u)).1 ≠ -1 := by simpa using h
  exact Nat.lt_of_lt_of_le (rNumL_len2 h) (sk_len u)
theorem op_ne {c : Int} (h : tier c ≠ -1) : c = 61 ∨ c = 60 ∨ c = 62 ∨ c = 43 ∨ c = 45 ∨ c = 42 ∨ c = 47 ∨ c = 37 := by
  unfold tier at h
  split at h
  · omega
  · split at h
    · omega
    · split at h
      · omega
      · exact absurd rfl h
theorem poss_11 (pu de : Int) : poss 11 pu de = 0 := rfl
theorem poss_12 (pu de : Int) : poss 12 pu de = 0 := rfl
/-- an expression: what is left begins with no operator -/
theorem ft_exp (pu li : Int) : ∀ (n : Nat) (op : Nat) (w : Bool) (u : List Int), u.length < n → op + 1 ≤ 4 →
    ft (if w = true then 11 else 14, pu, (op : Int) + 1, 0, 0, 0, li) u = kon (rExp n op w u) (14, pu, 1, 0, 0, 0, li) ∧ ((rExp n op w u).1 = true → tier (hdz (rExp n op w u).2.1) = -1 ∧ hdz (rExp n op w u).2.1 ≠ 32 ∧ (rExp n op w u).2.1.length ≤ u.length) := by
  intro n
  induction n with
  | zero => intro op w u h; exact absurd h (Nat.not_lt_zero _)
  | succ n ih =>
    intro op w u hu hop
    have go : ∀ (f : List Int → rR) (op' : Nat) (w' : Bool) (s1 : rA), s1 = (if w' = true then 11 else 14, pu, (op' : Int) + 1, 0, 0, 0, li) → op' + 1 ≤ 4 → ∀ (s : rA), ft s u = kon (f u) s1 → ((f u).1 = true → (f u).2.1.length < u.length) →
        ft s u = kon (rThen f (rExp n op' w') u) (14, pu, 1, 0, 0, 0, li) ∧ ((rThen f (rExp n op' w') u).1 = true → tier (hdz (rThen f (rExp n op' w') u).2.1) = -1 ∧ hdz (rThen f (rExp n op' w') u).2.1 ≠ 32 ∧ (rThen f (rExp n op' w') u).2.1.length ≤ u.length) := by
      intro f op' w' s1 es ho s h hl
      refine ⟨kon_then h (fun ht => ?_), ?_⟩
      · rw [es]
        exact (ih op' w' _ (by have := hl ht; omega) ho).1
      · rcases e : f u with ⟨b, v, o⟩
        cases b with
        | false => rw [rThen_f e]; intro q; simp at q
        | true =>
          rw [rThen_t e]
          rw [e] at hl
          have hl := hl rfl
          intro q
          have := (ih op' w' v (by simp at hl; omega) ho).2 q
          exact ⟨this.1, this.2.1, Nat.le_trans this.2.2 (by simp at hl; omega)⟩
    have hskl := sk_len u
    cases w with
    | true =>
      have hst : stab 11 := by unfold stab; decide
      have hsp := tk_st pu ((op : Int) + 1) li hst
      simp only [if_true]
      unfold rExp
      by_cases h45 : hdz (sk u) = 45
      · rw [if_pos h45]
        obtain ⟨a, b⟩ := ft_head (p := fun c => c == 45) (u := u) (s' := (11, pu, (op : Int) + 1, 0, 0, 0, li)) hsp (by simp [h45]) rfl (by rw [h45]; rfl)
        exact go _ op true _ rfl hop _ a (fun _ => rOne_len b)
      rw [if_neg h45]
      by_cases hb : hdz (sk u) = 40 ∨ hdz (sk u) = 64
      · rw [if_pos hb]
        by_cases h4 : 4 ≤ op + 1
        · rw [if_pos h4]
          refine ⟨?_, fun q => by simp at q⟩
          rw [← ft_sk hsp]
          rcases e : sk u with _ | ⟨c, v⟩
          · rw [e] at hb; simp [hdz] at hb
          · rw [e] at hb
            have hb : c = 40 ∨ c = 64 := hb
            conv => lhs; unfold ft
            rw [tk_at pu _ li hst rfl (by omega), if_neg (by omega)]
            have hnd : ¬ ((op : Int) + 1 < 4) := by omega
            rcases hb with rfl | rfl <;> simp [tOther, tOne, isD, isV, hnd, kon]
        · rw [if_neg h4]
          have hlt : (op : Int) + 1 < 4 := by omega
          have ecast : (((op + 1 : Nat) : Int) + 1) = (op : Int) + 1 + 1 := by omega
          by_cases h64 : hdz (sk u) = 64
          · rw [if_pos h64]
            obtain ⟨a, b⟩ := ft_head (p := fun c => c == 64) (u := u) (s' := (12, pu, (op : Int) + 1, 0, 0, 0, li)) hsp (by simp [h64]) rfl (by
              rw [h64, tk_at pu _ li hst rfl (by decide), if_neg (by decide)]
              simp [tOther, tOne, isD, isV, hlt])
            have hl := rOne_len b
            have hst2 : stab 12 := by unfold stab; decide
            have h12 : ∀ v, ft (12, pu, (op : Int) + 1, 0, 0, 0, li) v = kon (rOne (fun c => c == 40) v) (11, pu, (op : Int) + 1 + 1, 0, 0, 0, li) := by
              intro v
              refine ft_one (tk_st pu _ li hst2) rfl (fun c hc => ?_) v
              rw [tk_at pu _ li hst2 rfl hc]
              by_cases h40 : c = 40
              · subst h40; simp [tOther, hlt]
              · by_cases hA : 65 ≤ c ∧ c ≤ 90
                · simp [hA, h40]
                · simp [hA, tOther, h40]
            rcases e : rOne (fun c => c == 64) u with ⟨b0, v, o⟩
            rw [e] at a b hl
            simp only at b hl
            subst b
            rw [rThen_t e]
            have hv := h12 v
            have hgo : ft (12, pu, (op : Int) + 1, 0, 0, 0, li) v = kon (rThen (rOne (fun c => c == 40)) (rExp n (op + 1) true) v) (14, pu, 1, 0, 0, 0, li) ∧ ((rThen (rOne (fun c => c == 40)) (rExp n (op + 1) true) v).1 = true → tier (hdz (rThen (rOne (fun c => c == 40)) (rExp n (op + 1) true) v).2.1) = -1 ∧ hdz (rThen (rOne (fun c => c == 40)) (rExp n (op + 1) true) v).2.1 ≠ 32 ∧ (rThen (rOne (fun c => c == 40)) (rExp n (op + 1) true) v).2.1.length ≤ v.length) := by
              refine ⟨kon_then hv (fun ht => ?_), ?_⟩
              · have := (ih (op + 1) true (rOne (fun c => c == 40) v).2.1 (by have := rOne_len ht; omega) (by omega)).1
                rw [ecast] at this
                exact this
              · rcases e3 : rOne (fun c => c == 40) v with ⟨b1, v1, o1⟩
                cases b1 with
                | false => rw [rThen_f e3]; intro q; simp at q
                | true =>
                  rw [rThen_t e3]
                  intro q
                  have hl2 := rOne_len (p := fun c => c == 40) (u := v) (by rw [e3])
                  rw [e3] at hl2
                  have := (ih (op + 1) true v1 (by simp at hl2; omega) (by omega)).2 q
                  exact ⟨this.1, this.2.1, Nat.le_trans this.2.2 (by simp at hl2; omega)⟩
            refine ⟨?_, fun q => ?_⟩
            · rw [a, kon_t, hgo.1]
              rcases rThen (rOne (fun c => c == 40)) (rExp n (op + 1) true) v with ⟨b1, v1, o1⟩
              cases b1 with
              | false => rfl
              | true => simp [kon, pre_pre]
            · have := hgo.2 q
              exact ⟨this.1, this.2.1, Nat.le_trans this.2.2 (Nat.le_of_lt hl)⟩
          · rw [if_neg h64]
            have h40 : hdz (sk u) = 40 := hb.resolve_right h64
            obtain ⟨a, b⟩ := ft_head (p := fun c => c == 40) (u := u) (s' := (11, pu, (op : Int) + 1 + 1, 0, 0, 0, li)) hsp (by simp [h40]) rfl (by
              rw [h40, tk_at pu _ li hst rfl (by decide), if_neg (by decide)]
              simp [tOther, tOne, isD, isV, hlt])
            exact go _ (op + 1) true _ (by rw [ecast]; rfl) (by omega) _ a (fun _ => rOne_len b)
      · rw [if_neg hb]
        by_cases hv : (rOne isV u).1 = true
        · rw [if_pos hv]
          exact go _ op false (14, pu, (op : Int) + 1, 0, 0, 0, li) rfl hop _ (ft_var11 pu _ li u hv) (fun _ => rOne_len hv)
        · rw [if_neg hv]
          have hv : (rOne isV u).1 = false := by simpa using hv
          exact go _ op false (14, pu, (op : Int) + 1, 0, 0, 0, li) rfl hop _ (ft_const pu _ li u hv (fun q => hb (Or.inl q)) (fun q => hb (Or.inr q)) h45) (fun h => rNumB_len h)
    | false =>
      have hst : stab 14 := by unfold stab; decide
      have hsp := tk_st pu ((op : Int) + 1) li hst
      simp only [Bool.false_eq_true, if_false]
      unfold rExp
      by_cases ht : tier (hdz (sk u)) ≠ -1
      · rw [if_pos ht]
        have hops := op_ne ht
        obtain ⟨a, b⟩ := ft_head (p := fun c => decide (tier c ≠ -1)) (u := u) (s' := (11, pu, (op : Int) + 1, 0, 0, 0, li)) hsp (by simp only [decide_eq_true_eq]; exact ht) (by decide) (by
          rw [tk_plain pu _ 0 0 0 li _ (by decide) (by decide) (by omega) (by rintro ⟨_, h | h | h⟩ <;> contradiction) (by omega)]
          have hn41 : hdz (sk u) ≠ 41 := by omega
          simp [tOther, bg, tBehind, hn41, ht])
        exact go _ op true (11, pu, (op : Int) + 1, 0, 0, 0, li) rfl hop _ a (fun _ => rOne_len b)
      rw [if_neg ht]
      have ht : tier (hdz (sk u)) = -1 := by simpa using ht
      by_cases hc : hdz (sk u) = 41 ∧ 0 < op
      · rw [if_pos hc]
        obtain ⟨h41, h0⟩ := hc
        have ecast : (((op - 1 : Nat) : Int) + 1) = (op : Int) + 1 - 1 := by omega
        obtain ⟨a, b⟩ := ft_head (p := fun c => c == 41) (u := u) (s' := (14, pu, (op : Int) + 1 - 1, 0, 0, 0, li)) hsp (by simp [h41]) rfl (by
          rw [h41, tk_plain pu _ 0 0 0 li _ (by decide) (by decide) (by omega) (by rintro ⟨_, h | h | h⟩ <;> contradiction) (by omega)]
          have hn1 : ¬ ((op : Int) + 1 = 1) := by omega
          have hn2 : (1 : Int) < (op : Int) + 1 := by omega
          have hn0 : ¬ (op = 0) := by omega
          simp [tOther, bg, tBehind, hn1, hn2])
        exact go _ (op - 1) false _ (by rw [ecast]; rfl) (by omega) _ a (fun _ => rOne_len b)
      · rw [if_neg hc]
        by_cases h0 : op = 0
        · subst h0
          simp only [decide_true]
          refine ⟨?_, fun _ => ⟨ht, sk_hd u, sk_len u⟩⟩
          rw [kon_t, pre_nil, ft_sk (tk_st pu 1 li hst)]
          rfl
        · simp only [h0, decide_false]
          refine ⟨?_, fun q => by simp at q⟩
          rw [← ft_sk hsp, kon_f]
          rcases e : sk u with _ | ⟨c, v⟩
          · have : ¬ ((op : Int) + 1 = 1) := by omega
            simp [ft, whl, this]
          · rw [e] at ht hc
            have ht : tier c = -1 := ht
            have hc1 : c ≠ 41 := fun q => hc ⟨q, by omega⟩
            have hc2 : c ≠ 32 := by have := sk_hd u; rw [e] at this; exact this
            conv => lhs; unfold ft
            have hp : poss 14 pu ((op : Int) + 1) = 0 := by
              have h0' : ¬ (op : Int) + 1 = 1 := by omega
              simp [poss, h0']
            rw [tk_at pu _ li hst hp hc2]
            by_cases hA : 65 ≤ c ∧ c ≤ 90
            · rw [if_pos hA]; rfl
            · rw [if_neg hA]
              simp [tOther, tBehind, hc1, ht]
-- words
theorem sp_one (w : Nat) (hw : w < 8) (le : Nat) (c : Int) : spL (2 ^ w) le c 8 = (if lt w le = c - 64 then 2 ^ w else 0) ∧ spW (2 ^ w) le c 8 = (if lt w le = c - 64 ∧ lt w (le + 1) = 0 then (w : Int) else -1) := by
  have hb : ∀ w, w < 8 → ∀ k, k < 8 → bt (2 ^ w) k = decide (k = w) := by decide
  have b := hb w hw
  have : w = 0 ∨ w = 1 ∨ w = 2 ∨ w = 3 ∨ w = 4 ∨ w = 5 ∨ w = 6 ∨ w = 7 := by omega
  unfold spL spW spL spW spL spW spL spW spL spW spL spW spL spW spL spW
  rcases this with rfl | rfl | rfl | rfl | rfl | rfl | rfl | rfl <;> simp [b, spL, spW]
def wE (w : Nat) (li : Int) : rA := pas (w : Int) li
theorem ft_let (w : Nat) (hw : w < 8) (li : Int) : ∀ (u : List Int) (k : Nat), k < (wl w).length → ft (16, 0, 0, 0, 2 ^ w, k, li) u = kon ((rLet ((wl w).drop k) u).1, (rLet ((wl w).drop k) u).2, [128 + (w : Int)]) (wE w li) := by
  intro u
  induction u with
  | nil =>
    intro k hk
    rw [List.drop_eq_getElem_cons hk]
    rfl
  | cons c u ih =>
    intro k hk
    rw [List.drop_eq_getElem_cons hk]
    have hlt : lt w k = (wl w)[k] := by simp [lt, List.getD_eq_getElem?_getD, hk]
    conv => lhs; unfold ft
    have e : tk (16, 0, 0, 0, 2 ^ w, k, li) c = tSpell (2 ^ w) k li c := rfl
    rw [e]
    unfold tSpell
    rw [(sp_one w hw k c).1, (sp_one w hw k c).2, hlt]
    unfold rLet
    by_cases hc : c = (wl w)[k] + 64
    · have hc2 : (wl w)[k] = c - 64 := by omega
      rw [if_pos hc]
      by_cases hend : k + 1 < (wl w).length
      · have hnz : ∀ w, w < 8 → ∀ i, i < (wl w).length → lt w i ≠ 0 := by decide
        have hnz := hnz w hw (k + 1) hend
        have eW : (if (wl w)[k] = c - 64 ∧ lt w (k + 1) = 0 then (w : Int) else -1) = -1 := if_neg (fun q => hnz q.2)
        have h2 : 0 < 2 ^ w := Nat.pos_of_neZero _
        rw [eW, if_pos hc2, if_neg (by decide), if_pos h2]
        simp only [pre_nil]
        exact ih (k + 1) hend
      · have hz : lt w (k + 1) = 0 := by simp [lt, List.getD_eq_getElem?_getD, List.getElem?_eq_none (show (wl w).length ≤ k + 1 by omega)]
        have eW : (if (wl w)[k] = c - 64 ∧ lt w (k + 1) = 0 then (w : Int) else -1) = w := if_pos ⟨hc2, hz⟩
        rw [eW, if_pos (by omega)]
        have : (wl w).drop (k + 1) = [] := List.drop_eq_nil_of_le (by omega)
        rw [this]
        rfl
    · have hc2 : ¬ (wl w)[k] = c - 64 := by omega
      have eW : (if (wl w)[k] = c - 64 ∧ lt w (k + 1) = 0 then (w : Int) else -1) = -1 := if_neg (fun q => hc2 q.1)
      rw [if_neg hc, eW, if_neg hc2, if_neg (by decide), if_neg (by decide)]
      simp [kon]
theorem rWord_eq (w : Nat) (u : List Int) : rWord w u = ((rLet (wl w) (sk u)).1, (rLet (wl w) (sk u)).2, if (rLet (wl w) (sk u)).1 = true then [128 + (w : Int)] else []) := by
  unfold rWord
  rcases rLet (wl w) (sk u) with ⟨b, v⟩
  cases b <;> rfl
theorem kon_o (b : Bool) (v o : List Int) (s : rA) : kon (b, v, if b = true then o else []) s = kon (b, v, o) s := by
  cases b <;> rfl
/-- a word whose first letter leaves it alone -/
theorem ft_word {w : Nat} (hw : w < 8) {st pu de li : Int} {u : List Int} (hst : stab st) (hwh : (sk u = [] → whl (st, pu, de, 0, 0, 0, li) = false)) (h1 : ∀ c v, sk u = c :: v → tk (st, pu, de, 0, 0, 0, li) c = if c = lt w 0 + 64 then some ((16, 0, 0, 0, 2 ^ w, 1, li), []) else none) : ft (st, pu, de, 0, 0, 0, li) u = kon (rWord w u) (wE w li) := by
  rw [← ft_sk (tk_st pu de li hst), rWord_eq, kon_o]
  have hl2 : ∀ w, w < 8 → 1 < (wl w).length := by decide
  have hl2 := hl2 w hw
  rcases e : sk u with _ | ⟨c, v⟩
  · have hc : ∃ a l, wl w = a :: l := by
      rcases e2 : wl w with _ | ⟨a, l⟩
      · rw [e2] at hl2; exact absurd hl2 (by decide)
      · exact ⟨a, l, rfl⟩
    obtain ⟨a, l, e2⟩ := hc
    rw [e2]
    simp [ft, hwh e, rLet, kon]
  · conv => lhs; unfold ft
    rw [h1 c v e]
    have e2 : wl w = (wl w)[0] :: (wl w).drop 1 := by
      have := List.drop_eq_getElem_cons (l := wl w) (i := 0) (by omega)
      simpa using this
    have e3 : lt w 0 = (wl w)[0] := by simp [lt, List.getD_eq_getElem?_getD, show 0 < (wl w).length by omega]
    rw [e3]
    conv => rhs; rw [e2]; unfold rLet
    by_cases hc : c = (wl w)[0] + 64
    · rw [if_pos hc, if_pos hc]
      simp only [pre_nil]
      exact ft_let w hw li v 1 hl2
    · rw [if_neg hc, if_neg hc]
      rfl
theorem rLet_len (l : List Int) : ∀ u : List Int, (rLet l u).2.length ≤ u.length := by
  induction l with
  | nil => intro u; exact Nat.le_refl _
  | cons a l ih =>
    intro u
    cases u with
    | nil => exact Nat.le_refl _
    | cons c u =>
      unfold rLet
      split
      · exact Nat.le_succ_of_le (ih u)
      · exact Nat.le_refl _
theorem rWord_len (w : Nat) (u : List Int) : (rWord w u).2.1.length ≤ u.length := by
  rw [rWord_eq]
  exact Nat.le_trans (rLet_len _ _) (sk_len u)
/-- the words that begin a statement, GOTO and GOSUB aside -/
theorem tk_2cap (li c : Int) (hA : 65 ≤ c ∧ c ≤ 90) : tk (2, 0, 0, 0, 0, 0, li) c = tSpell 223 0 li c := tk_cap 0 0 0 0 0 li c (by decide) (by decide) hA
theorem ft_word2 {w : Nat} (hw : w = 2 ∨ w = 3 ∨ w = 4 ∨ w = 6 ∨ w = 7) {li : Int} {u : List Int} (hu : hdz u = lt w 0 + 64) : ft (2, 0, 0, 0, 0, 0, li) u = kon (rWord w u) (wE w li) := by
  have hst : stab 2 := by unfold stab; decide
  have hn : hdz u ≠ 32 := by rw [hu]; rcases hw with rfl | rfl | rfl | rfl | rfl <;> decide
  have he := sk_id hn
  refine ft_word (by omega) hst (fun q => ?_) (fun c v q => ?_)
  · rw [← he, q] at hu
    rcases hw with rfl | rfl | rfl | rfl | rfl <;> exact absurd hu (by decide)
  · rw [← he, q] at hu
    have hu : c = lt w 0 + 64 := hu
    rw [if_pos hu]
    rcases hw with rfl | rfl | rfl | rfl | rfl <;> (subst hu; rfl)
/-- GOTO behind a condition, TO behind a first value -/
theorem ft_word14 {w : Nat} {pu li : Int} {u : List Int} (hw : (w = 0 ∧ pu = 1) ∨ (w = 5 ∧ pu = 2)) (ht : tier (hdz u) = -1) (hs : hdz u ≠ 32) : ft (14, pu, 1, 0, 0, 0, li) u = kon (rWord w u) (wE w li) := by
  have hst : stab 14 := by unfold stab; decide
  refine ft_word (by omega) hst (fun q => ?_) (fun c v q => ?_)
  · rcases hw with ⟨rfl, rfl⟩ | ⟨rfl, rfl⟩ <;> rfl
  · rw [sk_id hs] at q
    rw [q] at ht hs
    have ht : tier c = -1 := ht
    have hs : c ≠ 32 := hs
    by_cases hA : 65 ≤ c ∧ c ≤ 90
    · rw [tk_cap pu 1 0 0 0 li c (by decide) (by decide) hA]
      rcases hw with ⟨rfl, rfl⟩ | ⟨rfl, rfl⟩
      · show tSpell (2 ^ 0) 0 li c = _
        unfold tSpell
        rw [(sp_one 0 (by decide) 0 c).1, (sp_one 0 (by decide) 0 c).2]
        by_cases hc : c = lt 0 0 + 64
        · subst hc; rfl
        · have : ¬ lt 0 0 = c - 64 := by omega
          simp [this, hc]
      · show tSpell (2 ^ 5) 0 li c = _
        unfold tSpell
        rw [(sp_one 5 (by decide) 0 c).1, (sp_one 5 (by decide) 0 c).2]
        by_cases hc : c = lt 5 0 + 64
        · subst hc; rfl
        · have : ¬ lt 5 0 = c - 64 := by omega
          simp [this, hc]
    · have hc : ¬ c = lt w 0 + 64 := by
        rcases hw with ⟨rfl, rfl⟩ | ⟨rfl, rfl⟩
        · intro q; exact hA (by rw [q]; decide)
        · intro q; exact hA (by rw [q]; decide)
      rw [if_neg hc, tk_plain pu 1 0 0 0 li c (by decide) (by decide) hs (by rintro ⟨_, h | h | h⟩ <;> contradiction) hA]
      have hp : ¬ pu = 3 := by omega
      simp [tOther, bg, tBehind, ht, hp]
/-- GOTO and GOSUB -/
theorem ft_wordG {li : Int} {u : List Int} (hu : hdz u = 71) : ft (2, 0, 0, 0, 0, 0, li) u = kon (rWord (if u.getD 2 (-1) = 83 then 1 else 0) u) (7, 0, 0, 0, 0, 0, li) := by
  rw [rWord_eq, kon_o, sk_id (by rw [hu]; decide)]
  rcases u with _ | ⟨c, u⟩
  · exact absurd hu (by decide)
  have hu : c = 71 := hu
  subst hu
  conv => lhs; unfold ft
  rw [show tk (2, 0, 0, 0, 0, 0, li) 71 = some ((16, 0, 0, 0, 3, 1, li), []) from rfl]
  simp only [pre_nil]
  rcases u with _ | ⟨c2, u⟩
  · rfl
  conv => lhs; unfold ft
  by_cases h2 : c2 = 79
  · subst h2
    rw [show tk (16, 0, 0, 0, 3, 1, li) 79 = some ((16, 0, 0, 0, 3, 2, li), []) from rfl]
    simp only [pre_nil]
    rcases u with _ | ⟨c3, u⟩
    · rfl
    by_cases h3 : c3 = 83
    · subst h3
      simp only [List.getD_cons_succ, List.getD_cons_zero, if_true]
      conv => lhs; unfold ft
      rw [show tk (16, 0, 0, 0, 3, 2, li) 83 = some ((16, 0, 0, 0, 2 ^ 1, 3, li), []) from rfl]
      simp only [pre_nil]
      exact ft_let 1 (by decide) li u 3 (by decide)
    · simp only [List.getD_cons_succ, List.getD_cons_zero, if_neg h3]
      conv => lhs; unfold ft
      by_cases h4 : c3 = 84
      · subst h4
        rw [show tk (16, 0, 0, 0, 3, 2, li) 84 = some ((16, 0, 0, 0, 2 ^ 0, 3, li), []) from rfl]
        simp only [pre_nil]
        exact ft_let 0 (by decide) li u 3 (by decide)
      · have e : tk (16, 0, 0, 0, 3, 2, li) c3 = none := by
          show tSpell 3 2 li c3 = none
          have q1 : ¬ (20 : Int) = c3 - 64 := by omega
          have q2 : ¬ (19 : Int) = c3 - 64 := by omega
          simp [tSpell, spL, spW, bt, lt, wl, q1, q2]
        rw [e]
        have q1 : ¬ c3 = 20 + 64 := by omega
        simp [wl, rLet, kon, h4]
  · have e : tk (16, 0, 0, 0, 3, 1, li) c2 = none := by
      show tSpell 3 1 li c2 = none
      have q1 : ¬ (15 : Int) = c2 - 64 := by omega
      simp [tSpell, spL, spW, bt, lt, wl, q1]
    rw [e]
    by_cases h3 : (71 :: c2 :: u).getD 2 (-1) = 83
    · rw [if_pos h3]; simp [wl, rLet, kon, h2]
    · rw [if_neg h3]; simp [wl, rLet, kon, h2]
/-- quotes -/
theorem ft_quote (li : Int) (u : List Int) : ft (6, 0, 0, 0, 0, 0, li) u = kon (rQuote u) (15, 0, 0, 0, 0, 0, li) := by
  induction u with
  | nil => rfl
  | cons c u ih =>
    conv => lhs; unfold ft
    show (match tQuoted li c with | none => _ | some (s', o) => pre o (ft s' u)) = _
    unfold tQuoted rQuote
    by_cases hc : 32 ≤ c ∧ c ≤ 126
    · have hc2 : isC c = true := by simp [isC]; exact hc
      rw [if_pos hc, if_pos hc2]
      by_cases h34 : c = 34
      · rw [if_pos h34, if_pos h34]; rfl
      · rw [if_neg h34, if_neg h34]
        simp only
        rw [ih]
        rcases rQuote u with ⟨b, v, o⟩
        cases b with
        | false => rfl
        | true => simp [kon, pre_pre]
    · have hc2 : ¬ isC c = true := by simp [isC]; omega
      rw [if_neg hc, if_neg hc2]
      rfl
-- statements
theorem tk_of {st : Int} (pu de li : Int) (s' : rA) (p : Int → Bool) (hst : stab st) (hp : poss st pu de = 0) (hA : ∀ c, p c = true → ¬ (65 ≤ c ∧ c ≤ 90)) (ho : ∀ c, ¬ (65 ≤ c ∧ c ≤ 90) → c ≠ 32 → tOther st pu de li c = if p c = true then some (s', [c]) else none) : ∀ c, c ≠ 32 → tk (st, pu, de, 0, 0, 0, li) c = if p c = true then some (s', [c]) else none := by
  intro c hc
  rw [tk_at pu de li hst hp hc]
  by_cases h : 65 ≤ c ∧ c ≤ 90
  · rw [if_pos h, if_neg (fun q => hA c q h)]
  · rw [if_neg h, ho c h hc]
theorem ft_eq3 (pu li : Int) (u : List Int) : ft (3, pu, 0, 0, 0, 0, li) u = kon (rMark 61 u) (11, pu, 1, 0, 0, 0, li) := by
  have hst : stab 3 := by unfold stab; decide
  refine ft_one (tk_st pu 0 li hst) rfl (tk_of pu 0 li _ _ hst rfl (fun c h => by simp at h; omega) (fun c _ _ => ?_)) u
  by_cases h : c = 61 <;> simp [tOther, h]
theorem ft_var9 (li : Int) (u : List Int) : ft (9, 0, 0, 0, 0, 0, li) u = kon (rOne isV u) (3, 2, 0, 0, 0, 0, li) := by
  have hst : stab 9 := by unfold stab; decide
  refine ft_one (tk_st 0 0 li hst) rfl (tk_of 0 0 li _ _ hst rfl (fun c h => by simp [isV] at h; omega) (fun c _ _ => ?_)) u
  simp [tOther]
theorem ft_var10 (li : Int) (u : List Int) : ft (10, 0, 0, 0, 0, 0, li) u = kon (rOne isV u) (15, 0, 0, 0, 0, 0, li) := by
  have hst : stab 10 := by unfold stab; decide
  refine ft_one (tk_st 0 0 li hst) rfl (tk_of 0 0 li _ _ hst rfl (fun c h => by simp [isV] at h; omega) (fun c _ _ => ?_)) u
  simp [tOther]
theorem ft_mark4 (li : Int) (u : List Int) : ft (4, 0, 0, 0, 0, 0, li) u = kon (rMark 40 u) (11, 3, 1, 0, 0, 0, li) := by
  have hst : stab 4 := by unfold stab; decide
  refine ft_one (tk_st 0 0 li hst) rfl (tk_of 0 0 li _ _ hst rfl (fun c h => by simp at h; omega) (fun c _ _ => ?_)) u
  by_cases h : c = 40 <;> simp [tOther, h]
theorem ft_mark14 (li : Int) (u : List Int) (ht : tier (hdz u) = -1) (hs : hdz u ≠ 32) : ft (14, 3, 1, 0, 0, 0, li) u = kon (rMark 41 u) (3, 0, 0, 0, 0, 0, li) := by
  have hst : stab 14 := by unfold stab; decide
  show _ = kon (rOne (fun c => c == 41) u) _
  unfold rOne
  rw [sk_id hs]
  rcases u with _ | ⟨c, v⟩
  · rfl
  have ht : tier c = -1 := ht
  have hs : c ≠ 32 := hs
  conv => lhs; unfold ft
  rw [tk_at 3 1 li hst rfl hs]
  by_cases hA : 65 ≤ c ∧ c ≤ 90
  · have : c ≠ 41 := by omega
    simp [hA, this, kon]
  · by_cases h : c = 41
    · subst h; simp [tOther, tBehind, kon]
    · simp [hA, tOther, tBehind, h, ht, kon]
theorem ft_E (pu li : Int) (u : List Int) (hu : u.length ≤ 256) : ft (11, pu, 1, 0, 0, 0, li) u = kon (rE u) (14, pu, 1, 0, 0, 0, li) ∧ ((rE u).1 = true → tier (hdz (rE u).2.1) = -1 ∧ hdz (rE u).2.1 ≠ 32 ∧ (rE u).2.1.length ≤ u.length) := ft_exp pu li 257 0 true u (by omega) (by decide)
theorem ft_print (li : Int) (u : List Int) (hu : u.length ≤ 256) : ft (5, 0, 0, 0, 0, 0, li) u = kon (rPrinted u) (if hdz (sk u) = 34 then (15, 0, 0, 0, 0, 0, li) else (14, 0, 1, 0, 0, 0, li)) := by
  have hst : stab 5 := by unfold stab; decide
  unfold rPrinted
  by_cases h : hdz (sk u) = 34
  · rw [if_pos h, if_pos h]
    have := (ft_head (p := fun c => c == 34) (u := u) (s' := (6, 0, 0, 0, 0, 0, li)) (tk_st 0 0 li hst) (by simp [h]) rfl (by rw [h]; rfl)).1
    exact kon_then this (fun _ => ft_quote li _)
  · rw [if_neg h, if_neg h, ← (ft_E 0 li u hu).1, ← ft_sk (tk_st 0 0 li hst), ← ft_sk (s := (11, 0, 1, 0, 0, 0, li)) rfl]
    rcases e : sk u with _ | ⟨c, v⟩
    · rfl
    · rw [e] at h
      have h : c ≠ 34 := h
      have hc : c ≠ 32 := by have := sk_hd u; rw [e] at this; exact this
      conv => lhs; unfold ft
      conv => rhs; unfold ft
      have e2 : tk (5, 0, 0, 0, 0, 0, li) c = tk (11, 0, 1, 0, 0, 0, li) c := by
        rw [tk_at 0 0 li hst rfl hc, tk_at 0 1 li (by unfold stab; decide) rfl hc]
        simp [tOther, h]
      rw [e2]
/-- what may stand at the end -/
def fin (s : rA) (u : List Int) : Prop := ∃ li, s = (15, 0, 0, 0, 0, 0, li) ∨ (s = (14, 0, 1, 0, 0, 0, li) ∧ tier (hdz u) = -1 ∧ hdz u ≠ 32)
theorem ft_fin {s : rA} {u : List Int} (h : fin s u) : ft s u = if sk u = [] then .ok (lnOf s, []) else .error (sk u).length := by
  obtain ⟨li, rfl | ⟨rfl, ht, hs⟩⟩ := h
  · have hst : stab 15 := by unfold stab; decide
    rw [← ft_sk (tk_st 0 0 li hst)]
    rcases e : sk u with _ | ⟨c, v⟩
    · rfl
    · have hc : c ≠ 32 := by have := sk_hd u; rw [e] at this; exact this
      conv => lhs; unfold ft
      rw [tk_at 0 0 li hst rfl hc]
      by_cases hA : 65 ≤ c ∧ c ≤ 90 <;> simp [hA, tOther]
  · have hst : stab 14 := by unfold stab; decide
    rw [sk_id hs]
    rcases u with _ | ⟨c, v⟩
    · rfl
    · have ht : tier c = -1 := ht
      have hs : c ≠ 32 := hs
      conv => lhs; unfold ft
      rw [tk_at 0 1 li hst rfl hs]
      by_cases hA : 65 ≤ c ∧ c ≤ 90
      · simp [hA]
      · by_cases h : c = 41
        · subst h; simp [tOther, tBehind]
        · simp [hA, tOther, tBehind, h, ht]
def gd (s : rA) (f : List Int → rR) (u : List Int) (s' : rA) (Z : List Int → Prop) : Prop := ft s u = kon (f u) s' ∧ ((f u).1 = true → (f u).2.1.length ≤ u.length ∧ Z (f u).2.1)
theorem gd.next {s s1 s2 : rA} {f g : List Int → rR} {u : List Int} {Z1 Z2 : List Int → Prop} (h : gd s f u s1 Z1) (h2 : ∀ v, v.length ≤ u.length → Z1 v → gd s1 g v s2 Z2) : gd s (rThen f g) u s2 Z2 := by
  refine ⟨kon_then h.1 (fun ht => (h2 _ (h.2 ht).1 (h.2 ht).2).1), ?_⟩
  rcases e : f u with ⟨b, v, o⟩
  cases b with
  | false => rw [rThen_f e]; intro q; simp at q
  | true =>
    rw [rThen_t e]
    have h3 := h.2
    rw [e] at h3
    have h3 := h3 rfl
    intro q
    have := (h2 v h3.1 h3.2).2 q
    exact ⟨Nat.le_trans this.1 h3.1, this.2⟩
theorem gd.one {s s' : rA} {p : Int → Bool} {u : List Int} (h : ft s u = kon (rOne p u) s') : gd s (rOne p) u s' (fun _ => True) := ⟨h, fun q => ⟨Nat.le_of_lt (rOne_len q), trivial⟩⟩
theorem gd.word {s s' : rA} {w : Nat} {u : List Int} (h : ft s u = kon (rWord w u) s') : gd s (rWord w) u s' (fun _ => True) := ⟨h, fun _ => ⟨rWord_len w u, trivial⟩⟩
theorem gd.go (li : Int) (u : List Int) : gd (7, 0, 0, 0, 0, 0, li) rGo u (15, 0, 0, 0, 0, 0, li) (fun v => fin (15, 0, 0, 0, 0, 0, li) v) := ⟨ft_go li u, fun q => ⟨Nat.le_of_lt (rNumB_len q), li, Or.inl rfl⟩⟩
theorem gd.exp (pu li : Int) (u : List Int) (hu : u.length ≤ 256) : gd (11, pu, 1, 0, 0, 0, li) rE u (14, pu, 1, 0, 0, 0, li) (fun v => tier (hdz v) = -1 ∧ hdz v ≠ 32) := ⟨(ft_E pu li u hu).1, fun q => by have := (ft_E pu li u hu).2 q; exact ⟨this.2.2, this.1, this.2.1⟩⟩
theorem gd.wk {s s' : rA} {f : List Int → rR} {u : List Int} {Z Z2 : List Int → Prop} (h : gd s f u s' Z) (hz : ∀ v, Z v → Z2 v) : gd s f u s' Z2 := ⟨h.1, fun q => ⟨(h.2 q).1, hz _ (h.2 q).2⟩⟩
theorem gd.expL (li : Int) (u : List Int) (hu : u.length ≤ 256) : gd (11, 0, 1, 0, 0, 0, li) rE u (14, 0, 1, 0, 0, 0, li) (fun v => fin (14, 0, 1, 0, 0, 0, li) v) := (gd.exp 0 li u hu).wk (fun _ h => ⟨li, Or.inr ⟨rfl, h⟩⟩)
theorem gd.end15 {s : rA} {f : List Int → rR} {u : List Int} {li : Int} {Z : List Int → Prop} (h : gd s f u (15, 0, 0, 0, 0, 0, li) Z) : gd s f u (15, 0, 0, 0, 0, 0, li) (fun v => fin (15, 0, 0, 0, 0, 0, li) v) := h.wk (fun _ _ => ⟨li, Or.inl rfl⟩)
theorem rQuote_len (u : List Int) : (rQuote u).2.1.length ≤ u.length := by
  induction u with
  | nil => exact Nat.le_refl _
  | cons c u ih =>
    unfold rQuote
    split
    · split
      · exact Nat.le_succ _
      · exact Nat.le_succ_of_le ih
    · exact Nat.le_refl _
theorem gd.print (li : Int) (u : List Int) (hu : u.length ≤ 256) : ∃ s', lnOf s' = li ∧ gd (5, 0, 0, 0, 0, 0, li) rPrinted u s' (fun v => fin s' v) := by
  have h := ft_print li u hu
  by_cases e : hdz (sk u) = 34
  · rw [if_pos e] at h
    refine ⟨(15, 0, 0, 0, 0, 0, li), rfl, h, fun q => ⟨?_, li, Or.inl rfl⟩⟩
    unfold rPrinted at q ⊢
    rw [if_pos e] at q ⊢
    rcases e2 : rMark 34 u with ⟨b, v, o⟩
    cases b with
    | false => rw [rThen_f e2] at q; simp at q
    | true =>
      rw [rThen_t e2]
      have := rOne_len (p := fun c => c == 34) (u := u) (by show (rMark 34 u).1 = true; rw [e2])
      rw [show rOne (fun c => c == 34) u = rMark 34 u from rfl, e2] at this
      exact Nat.le_trans (rQuote_len v) (Nat.le_of_lt this)
  · rw [if_neg e] at h
    refine ⟨(14, 0, 1, 0, 0, 0, li), rfl, h, fun q => ?_⟩
    unfold rPrinted at q ⊢
    rw [if_neg e] at q ⊢
    have := (gd.expL li u hu).2 q
    exact this
theorem gd.marks {s s' : rA} {p : Int → Bool} {u : List Int} (h : ft s u = kon (rOne p u) s') : gd s (rOne p) u s' (fun _ => True) := gd.one h
/-- a statement that begins with a variable -/
theorem gd.defs (li : Int) (u : List Int) (hu : u.length ≤ 256) (hs : hdz (sk u) ≠ 63) (hs2 : hdz (sk u) ≠ 64) (hs3 : ¬ (65 ≤ hdz (sk u) ∧ hdz (sk u) ≤ 90)) (hne : sk u ≠ []) : gd (2, 0, 0, 0, 0, 0, li) rDef u (14, 0, 1, 0, 0, 0, li) (fun v => fin (14, 0, 1, 0, 0, 0, li) v) := by
  have hst : stab 2 := by unfold stab; decide
  refine gd.next (s1 := (3, 0, 0, 0, 0, 0, li)) (gd.one ?_) (fun v hv _ => gd.next (s1 := (11, 0, 1, 0, 0, 0, li)) (gd.one (ft_eq3 0 li v)) (fun v2 hv2 _ => gd.expL li v2 (by omega)))
  rw [← ft_sk (tk_st 0 0 li hst)]
  unfold rOne
  rcases e : sk u with _ | ⟨c, v⟩
  · exact absurd e hne
  · rw [e] at hs hs2 hs3
    have hs : c ≠ 63 := hs
    have hs2 : c ≠ 64 := hs2
    have hs3 : ¬ (65 ≤ c ∧ c ≤ 90) := hs3
    have hc : c ≠ 32 := by have := sk_hd u; rw [e] at this; exact this
    conv => lhs; unfold ft
    rw [tk_plain 0 0 0 0 0 li c (by decide) (by decide) hc (by rintro ⟨_, h | h | h⟩ <;> contradiction) hs3]
    by_cases hv : isV c = true <;> simp [tOther, bg, tBegin, hs, hs2, hv, kon]
theorem ft_stmt (li : Int) (u : List Int) (hu : u.length ≤ 256) (hs : hdz u ≠ 32) (hne : u ≠ []) : ∃ s', lnOf s' = li ∧ gd (2, 0, 0, 0, 0, 0, li) rStmt u s' (fun v => fin s' v) := by
  have hst : stab 2 := by unfold stab; decide
  have hsk := sk_id hs
  have un : ∀ (f : List Int → rR) (s' : rA), rStmt u = f u → gd (2, 0, 0, 0, 0, 0, li) f u s' (fun v => fin s' v) → gd (2, 0, 0, 0, 0, 0, li) rStmt u s' (fun v => fin s' v) := by
    intro f s' e h
    unfold gd at h ⊢
    rw [e]
    exact h
  by_cases hG : hdz u = 71
  · refine ⟨(15, 0, 0, 0, 0, 0, li), rfl, un _ _ (by unfold rStmt; rw [if_pos hG]) ?_⟩
    exact gd.next (gd.word (ft_wordG hG)) (fun v _ _ => gd.go li v)
  by_cases hR : hdz u = 82
  · refine ⟨(15, 0, 0, 0, 0, 0, li), rfl, un (rWord 2) _ (by unfold rStmt; rw [if_neg hG, if_pos hR]) ?_⟩
    exact gd.end15 (gd.word (ft_word2 (w := 2) (by omega) hR))
  by_cases hI : hdz u = 73
  · refine ⟨(15, 0, 0, 0, 0, 0, li), rfl, un _ _ (by unfold rStmt; rw [if_neg hG, if_neg hR, if_pos hI]) ?_⟩
    exact gd.next (gd.word (ft_word2 (w := 3) (by omega) hI)) (fun v hv _ => gd.next (gd.exp 1 li v (by omega)) (fun v2 hv2 hz => gd.next (gd.word (ft_word14 (w := 0) (Or.inl ⟨rfl, rfl⟩) hz.1 hz.2)) (fun v3 _ _ => gd.go li v3)))
  by_cases hF : hdz u = 70
  · refine ⟨(14, 0, 1, 0, 0, 0, li), rfl, un _ _ (by unfold rStmt; rw [if_neg hG, if_neg hR, if_neg hI, if_pos hF]) ?_⟩
    exact gd.next (gd.word (ft_word2 (w := 4) (by omega) hF)) (fun v hv _ => gd.next (gd.one (ft_var9 li v)) (fun v2 hv2 _ => gd.next (gd.one (ft_eq3 2 li v2)) (fun v3 hv3 _ => gd.next (gd.exp 2 li v3 (by omega)) (fun v4 hv4 hz => gd.next (gd.word (ft_word14 (w := 5) (Or.inr ⟨rfl, rfl⟩) hz.1 hz.2)) (fun v5 hv5 _ => gd.expL li v5 (by omega))))))
  by_cases hN : hdz u = 78
  · refine ⟨(15, 0, 0, 0, 0, 0, li), rfl, un _ _ (by unfold rStmt; rw [if_neg hG, if_neg hR, if_neg hI, if_neg hF, if_pos hN]) ?_⟩
    exact gd.next (gd.word (ft_word2 (w := 6) (by omega) hN)) (fun v hv _ => gd.end15 (gd.one (ft_var10 li v)))
  by_cases hE : hdz u = 69
  · refine ⟨(15, 0, 0, 0, 0, 0, li), rfl, un (rWord 7) _ (by unfold rStmt; rw [if_neg hG, if_neg hR, if_neg hI, if_neg hF, if_neg hN, if_pos hE]) ?_⟩
    exact gd.end15 (gd.word (ft_word2 (w := 7) (by omega) hE))
  by_cases hQ : hdz u = 63
  · have h1 : gd (2, 0, 0, 0, 0, 0, li) (rMark 63) u (5, 0, 0, 0, 0, 0, li) (fun _ => True) := gd.one (ft_head (p := fun c => c == 63) (tk_st 0 0 li hst) (by rw [hsk, hQ]; rfl) rfl (by rw [hsk, hQ]; rfl)).1
    have h2 := h1.2 (by
      show (rOne (fun c => c == 63) u).1 = true
      exact (ft_head (s := (2, 0, 0, 0, 0, 0, li)) (s' := (5, 0, 0, 0, 0, 0, li)) (p := fun c => c == 63) (tk_st 0 0 li hst) (by rw [hsk, hQ]; rfl) rfl (by rw [hsk, hQ]; rfl)).2)
    obtain ⟨s', hs', hp⟩ := gd.print li (rMark 63 u).2.1 (by omega)
    refine ⟨s', hs', un _ _ (by unfold rStmt; rw [if_neg hG, if_neg hR, if_neg hI, if_neg hF, if_neg hN, if_neg hE, if_pos hQ]) ?_⟩
    refine gd.next (s1 := (5, 0, 0, 0, 0, 0, li)) (Z1 := fun v => v = (rMark 63 u).2.1) ⟨h1.1, fun q => ⟨(h1.2 q).1, rfl⟩⟩ (fun v _ e => by subst e; exact hp)
  by_cases hC : hdz u = 64
  · refine ⟨(14, 0, 1, 0, 0, 0, li), rfl, un _ _ (by unfold rStmt; rw [if_neg hG, if_neg hR, if_neg hI, if_neg hF, if_neg hN, if_neg hE, if_neg hQ, if_pos hC]) ?_⟩
    have h1 : gd (2, 0, 0, 0, 0, 0, li) (rMark 64) u (4, 0, 0, 0, 0, 0, li) (fun _ => True) := gd.one (ft_head (p := fun c => c == 64) (tk_st 0 0 li hst) (by rw [hsk, hC]; rfl) rfl (by rw [hsk, hC]; rfl)).1
    exact gd.next h1 (fun v hv _ => gd.next (gd.one (ft_mark4 li v)) (fun v2 hv2 _ => gd.next (gd.exp 3 li v2 (by omega)) (fun v3 hv3 hz => gd.next (gd.one (ft_mark14 li v3 hz.1 hz.2)) (fun v4 hv4 _ => gd.next (gd.one (ft_eq3 0 li v4)) (fun v5 hv5 _ => gd.expL li v5 (by omega))))))
  have hrd : rStmt u = rDef u := by unfold rStmt; rw [if_neg hG, if_neg hR, if_neg hI, if_neg hF, if_neg hN, if_neg hE, if_neg hQ, if_neg hC]
  by_cases hA : 65 ≤ hdz u ∧ hdz u ≤ 90
  · refine ⟨(14, 0, 1, 0, 0, 0, li), rfl, un _ _ hrd ?_⟩
    have e1 : rOne isV u = (false, u, []) := by
      have : (rOne isV u).1 = false := by
        rcases e : u with _ | ⟨c, v⟩
        · rfl
        · rw [e] at hA hs
          have hA : 65 ≤ c ∧ c ≤ 90 := hA
          have hs : c ≠ 32 := hs
          have : isV c = false := by simp [isV]; omega
          simp [rOne, sk, hs, this]
      rw [rOne_f this, hsk]
    have e2 : rDef u = (false, u, []) := rThen_f e1
    refine ⟨?_, fun q => by rw [e2] at q; simp at q⟩
    rw [e2, kon_f]
    rcases u with _ | ⟨c, v⟩
    · exact absurd hA (by decide)
    · have hA : 65 ≤ c ∧ c ≤ 90 := hA
      have hG : c ≠ 71 := hG
      have hR : c ≠ 82 := hR
      have hI : c ≠ 73 := hI
      have hF : c ≠ 70 := hF
      have hN : c ≠ 78 := hN
      have hE : c ≠ 69 := hE
      conv => lhs; unfold ft
      rw [tk_2cap li c hA]
      have q0 : ¬ (7 : Int) = c - 64 := by omega
      have q2 : ¬ (18 : Int) = c - 64 := by omega
      have q3 : ¬ (9 : Int) = c - 64 := by omega
      have q4 : ¬ (6 : Int) = c - 64 := by omega
      have q6 : ¬ (14 : Int) = c - 64 := by omega
      have q7 : ¬ (5 : Int) = c - 64 := by omega
      simp [tSpell, spL, spW, bt, lt, wl, q0, q2, q3, q4, q6, q7]
  · exact ⟨(14, 0, 1, 0, 0, 0, li), rfl, un _ _ hrd (gd.defs li u hu (by rw [hsk]; exact hQ) (by rw [hsk]; exact hC) (by rw [hsk]; exact hA) (by rw [hsk]; exact hne))⟩
-- lines
theorem ft_first (nu : Int) (u : List Int) (h0 : 1 ≤ nu) : ft (1, 0, 0, nu, 0, 0, nu) u = if (rNumL 1 99 nu u).1 = -1 then .error (rNumL 1 99 nu u).2.1.length else ft (2, 0, 0, 0, 0, 0, (rNumL 1 99 nu u).1) (rNumL 1 99 nu u).2.1 := by
  induction u generalizing nu with
  | nil =>
    have e : nu ≠ -1 := by omega
    simp [rNumL, e, ft, whl, lnOf]
  | cons c u ih =>
    by_cases hd : isD c = true
    · have hd2 : 48 ≤ c ∧ c ≤ 57 := by simpa [isD] using hd
      have e1 : tk (1, 0, 0, nu, 0, 0, nu) c = tDigit 1 0 0 nu nu c := by
        unfold tk; simp [hd, show c ≠ 32 by omega]
      have en : ¬ nu = -1 := by omega
      have e2 : (if nu = -1 then c - 48 else nu * 10 + c - 48) = 10 * nu + c - 48 := by rw [if_neg en]; omega
      conv => lhs; unfold ft
      rw [e1]
      unfold rNumL
      simp only [if_pos hd, e2]
      unfold tDigit
      by_cases hb : nu = 0 ∨ (if (1 : Int) = 13 then 32767 else 99) < 10 * nu + c - 48
      · have hb2 : nu = 0 ∨ 10 * nu + c - 48 < 1 ∨ 99 < 10 * nu + c - 48 := by
          rcases hb with h | h
          · exact Or.inl h
          · rw [if_neg (by decide)] at h; exact Or.inr (Or.inr h)
        rw [if_pos hb, if_pos hb2]
        rfl
      · have hb2 : ¬ (nu = 0 ∨ 10 * nu + c - 48 < 1 ∨ 99 < 10 * nu + c - 48) := by
          rw [if_neg (by decide)] at hb
          omega
        rw [if_neg hb, if_neg hb2]
        simp only [if_true, pre_nil]
        exact ih (10 * nu + c - 48) (by omega)
    · have hd : isD c = false := by simpa using hd
      have e : (rNumL 1 99 nu (c :: u)) = (nu, c :: u, []) := by
        unfold rNumL
        simp [hd]
      have e3 : nu ≠ -1 := by omega
      rw [e]
      simp only [if_neg e3]
      exact ft_num 0 0 nu nu (c :: u) (Or.inr (Or.inr ⟨rfl, rfl, rfl, rfl⟩)) hd
theorem ft_line (t : List Int) (ht : t.length ≤ 256) : ft (0, 0, 0, 0, 0, 0, 0) t = rLine t := by
  have hst : stab 0 := by unfold stab; decide
  rw [← ft_sk (tk_st 0 0 0 hst)]
  unfold rLine rNum
  rcases e : sk t with _ | ⟨c, v⟩
  · rfl
  · have hc : c ≠ 32 := by have := sk_hd t; rw [e] at this; exact this
    have hl : (c :: v).length ≤ 256 := by rw [← e]; exact Nat.le_trans (sk_len t) ht
    conv => lhs; unfold ft
    rw [tk_at 0 0 0 hst rfl hc, rNum_c]
    by_cases h1 : 49 ≤ c ∧ c ≤ 57
    · have hd : isD c = true := by simp [isD]; omega
      rw [if_neg (by omega), if_pos hd, if_neg (show ¬ (c - 48 < 1 ∨ 99 < c - 48) by omega)]
      simp only [tOther, if_true, if_pos h1, pre_nil]
      rw [ft_first (c - 48) v (by omega)]
      have hlen := rNumL_len 1 99 (c - 48) v
      rcases e5 : rNumL 1 99 (c - 48) v with ⟨z, u', o⟩
      rw [e5] at hlen
      simp only at hlen ⊢
      by_cases hz : z = -1
      · rw [if_pos hz, if_pos hz]
      rw [if_neg hz, if_neg hz]
      have hst2 : stab 2 := by unfold stab; decide
      rw [← ft_sk (tk_st 0 0 z hst2)]
      by_cases hn : sk u' = []
      · rw [if_pos hn, hn]; rfl
      · rw [if_neg hn]
        have hl2 : (sk u').length ≤ 256 := by
          have := sk_len u'
          simp at hl
          omega
        obtain ⟨s', h1, h2⟩ := ft_stmt z (sk u') hl2 (sk_hd u') hn
        rw [h2.1]
        have h3 := h2.2
        rcases e6 : rStmt (sk u') with ⟨b, w, o2⟩
        rw [e6] at h3
        cases b with
        | false => rfl
        | true =>
          rw [kon_t, ft_fin (h3 rfl).2, h1]
          simp only [if_true]
          by_cases hw : sk w = []
          · rw [if_pos hw, if_pos hw]; simp [pre]
          · rw [if_neg hw, if_neg hw]; rfl
    · have e2 : (if isD c = true then (if c - 48 < 1 ∨ 99 < c - 48 then ((-1 : Int), c :: v, ([] : List Int)) else ((rNumL 1 99 (c - 48) v).1, (rNumL 1 99 (c - 48) v).2.1, c :: (rNumL 1 99 (c - 48) v).2.2)) else (-1, c :: v, [])) = (-1, c :: v, []) := by
        by_cases hd : isD c = true
        · have hd2 : 48 ≤ c ∧ c ≤ 57 := by simpa [isD] using hd
          rw [if_pos hd, if_pos (by omega)]
        · rw [if_neg hd]
      rw [e2]
      simp [tOther, h1]
