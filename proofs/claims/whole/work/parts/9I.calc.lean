-- what an expression comes to: the class's descent and the reference's stacks over the same bytes
abbrev eR := Option (Except Int (Int32 × List Int))
def sh (x : Int32) : Int32 := x.toInt16.toInt32
theorem sh_int (x : Int32) : (sh x).toInt = x.toInt.bmod 65536 := by
  unfold sh
  rw [Int16.toInt_toInt32, Int32.toInt_toInt16]
theorem bm16 (x : Int) : x.bmod 65536 = if x % 65536 < 32768 then x % 65536 else x % 65536 - 65536 := rfl
theorem bm32 (x : Int) : x.bmod (2 ^ 32) = if x % 4294967296 < 2147483648 then x % 4294967296 else x % 4294967296 - 4294967296 := rfl
theorem sh_is (x : Int32) : isSh (sh x) := by
  unfold isSh
  rw [sh_int, bm16]
  split <;> omega
theorem sh_id {x : Int32} (h : isSh x) : sh x = x := by
  apply Int32.toInt_inj.mp
  rw [sh_int, bm16]
  unfold isSh at h
  split <;> omega
theorem sh_neg {x : Int32} (h : isSh x) : (sh (-x)).toInt = if x.toInt = -32768 then -32768 else -x.toInt := by
  rw [sh_int, Int32.toInt_neg]
  unfold isSh at h
  have e : (-x.toInt).bmod (2 ^ 32) = -x.toInt := by
    rw [bm32]
    split <;> omega
  rw [e, bm16]
  split <;> split <;> omega
theorem sh_neg2 {x : Int32} (h : isSh x) : sh (-(sh (-x))) = x := by
  apply Int32.toInt_inj.mp
  rw [sh_neg (sh_is _), sh_neg h]
  unfold isSh at h
  split <;> split <;> omega
def cmb (c : Int) (a b : Int32) : Except Int Int32 :=
  if c = 42 then .ok (sh (a * b)) else if c = 43 then .ok (sh (a + b)) else if c = 45 then .ok (sh (a - b))
  else if c = 60 then .ok (if b ≤ a then iI 0 else iI 1) else if c = 61 then .ok (if a = b then iI 1 else iI 0) else if c = 62 then .ok (if a ≤ b then iI 0 else iI 1)
  else if b = 0 then .error 5 else if c = 47 then .ok (sh (a / b)) else .ok (sh (a - a / b * b))
def rnk (c : Int) : Int := if c = 109 then 4 else tier c + 1
def ap1 (s : Int) (vs : List Int32) : Option (Except Int (List Int32)) :=
  if s = 109 then (match vs with
    | b :: t => some (.ok (sh (-b) :: t))
    | [] => none)
  else (match vs with
    | b :: a :: t => some (match cmb s a b with
      | .error e => .error e
      | .ok v => .ok (v :: t))
    | _ => none)
def apD (least : Int) : List Int → List Int32 → Option (Except Int (List Int32 × List Int))
  | [], vs => some (.ok (vs, []))
  | s :: ss, vs => if least ≤ rnk s then (match ap1 s vs with
      | none => none
      | some (.error e) => some (.error e)
      | some (.ok vs') => apD least ss vs') else some (.ok (vs, s :: ss))
def numV (v : Int) : List Int → Int × List Int
  | [] => (v, [])
  | c :: t => if isD c = true then numV (10 * v + c - 48) t else (v, c :: t)
def fin1 (r : List Int) (vs : List Int32) (ss : List Int) : eR := match apD 1 ss vs with
  | none => none
  | some (.error e) => some (.error e)
  | some (.ok ([v], _)) => some (.ok (v, r))
  | some (.ok _) => none
section Both
variable (va ce : Nat → Int32)
def wk : List Int → Nat → List Int32 → List Int → Int → Bool → eR
  | [], _, vs, ss, _, _ => fin1 [] vs ss
  | _ :: t, k + 1, vs, ss, o, w => wk t k vs ss o w
  | c :: t, 0, vs, ss, o, true => if isD c = true then wk t (t.length - (numV 0 (c :: t)).2.length) (sh (iI (numV 0 (c :: t)).1) :: vs) ss o false
    else if isV c = true then wk t 0 (sh (va (c - 97).toNat) :: vs) ss o false
    else if c = 64 then (if t = [] then none else wk t 1 vs (64 :: ss) (o + 1) true)
    else if c = 40 then wk t 0 vs (40 :: ss) (o + 1) true
    else if c = 45 then wk t 0 vs (109 :: ss) o true
    else none
  | c :: t, 0, vs, ss, o, false => if 128 ≤ c ∨ (c = 41 ∧ o = 0) then fin1 (c :: t) vs ss
    else if c = 41 then (match apD 1 ss vs with
      | none => none
      | some (.error e) => some (.error e)
      | some (.ok (_, [])) => none
      | some (.ok (vs', s :: ss')) => if s = 64 then (match vs' with
          | [] => none
          | i :: vt => if i < 0 ∨ ¬ i ≤ iI 15 then some (.error 6) else wk t 0 (sh (ce i.toNatClampNeg) :: vt) ss' (o - 1) false) else wk t 0 vs' ss' (o - 1) false)
    else if tier c = -1 then none
    else (match apD (rnk c) ss vs with
      | none => none
      | some (.error e) => some (.error e)
      | some (.ok (vs', ss')) => wk t 0 vs' (c :: ss') o true)
def primF (D : Nat) (g : List Int → eR) (l : List Int) : eR := match l with
  | [] => none
  | c :: t => if isD c = true then some (.ok (iI (numV 0 (c :: t)).1, (numV 0 (c :: t)).2))
    else if isV c = true then some (.ok (va (c - 97).toNat, t))
    else if D = 0 then none
    else if c = 40 then (match g t with
      | some (.ok (v, 41 :: r)) => some (.ok (v, r))
      | some (.error e) => some (.error e)
      | _ => none)
    else if c = 64 then (match t with
      | 40 :: t' => (match g t' with
        | some (.ok (i, 41 :: r)) => if i < 0 ∨ ¬ i < iI 16 then some (.error 6) else some (.ok (ce i.toNatClampNeg, r))
        | some (.error e) => some (.error e)
        | _ => none)
      | _ => none)
    else none
def oneF (D : Nat) (g : List Int → eR) : Bool → List Int → eR
  | _, [] => none
  | b, c :: t => if c = 45 then oneF D g (!b) t else (match primF va ce D g (c :: t) with
    | some (.ok (v, r)) => some (.ok (if b = true then sh (-v) else v, r))
    | e => e)
def lpF (g : List Int → eR) (t : Int) : Nat → Int32 → List Int → eR
  | 0, _, _ => none
  | n + 1, v, l => if tier (l.headD (-1)) = t then (match g l.tail with
      | some (.ok (v2, r)) => (match cmb (l.headD (-1)) v v2 with
        | .error e => some (.error e)
        | .ok v3 => lpF g t n v3 r)
      | e => e) else some (.ok (v, l))
def trF (g : List Int → eR) (t : Int) (l : List Int) : eR := match g l with
  | some (.ok (v, r)) => lpF g t 200 v r
  | e => e
def exD : Nat → List Int → eR
  | 0, _ => none
  | D + 1, l => trF (trF (trF (oneF va ce D (exD D) false) 2) 1) 0 l
end Both
theorem numV_len (l : List Int) : ∀ v, (numV v l).2.length ≤ l.length := by
  induction l with
  | nil => intro v; exact Nat.le_refl _
  | cons c t ih =>
    intro v
    unfold numV
    split
    · have := ih (10 * v + c - 48)
      simp only [List.length_cons]
      omega
    · exact Nat.le_refl _
theorem numV_drop (l : List Int) : ∀ v, l.drop (l.length - (numV v l).2.length) = (numV v l).2 := by
  induction l with
  | nil => intro v; rfl
  | cons c t ih =>
    intro v
    have hl := numV_len (c :: t) v
    unfold numV at hl ⊢
    split
    · rename_i h
      rw [if_pos h] at hl
      have := ih (10 * v + c - 48)
      have h2 := numV_len t (10 * v + c - 48)
      rw [List.length_cons, show t.length + 1 - (numV (10 * v + c - 48) t).2.length = (t.length - (numV (10 * v + c - 48) t).2.length) + 1 by omega]
      exact this
    · rw [Nat.sub_self]
      rfl
theorem isSh_0 : isSh (iI 0) := by unfold isSh; decide
theorem isSh_1 : isSh (iI 1) := by unfold isSh; decide
theorem cmb_is {c : Int} {a b v : Int32} (h : cmb c a b = .ok v) : isSh v := by
  have key : ∀ x, (Except.ok x : Except Int Int32) = .ok v → isSh x → isSh v := fun x e hx => Except.ok.inj e ▸ hx
  unfold cmb at h
  by_cases k1 : c = 42
  · rw [if_pos k1] at h; exact key _ h (sh_is _)
  rw [if_neg k1] at h
  by_cases k2 : c = 43
  · rw [if_pos k2] at h; exact key _ h (sh_is _)
  rw [if_neg k2] at h
  by_cases k3 : c = 45
  · rw [if_pos k3] at h; exact key _ h (sh_is _)
  rw [if_neg k3] at h
  by_cases k4 : c = 60
  · rw [if_pos k4] at h; exact key _ h (by by_cases q : b ≤ a; (rw [if_pos q]; exact isSh_0); (rw [if_neg q]; exact isSh_1))
  rw [if_neg k4] at h
  by_cases k5 : c = 61
  · rw [if_pos k5] at h; exact key _ h (by by_cases q : a = b; (rw [if_pos q]; exact isSh_1); (rw [if_neg q]; exact isSh_0))
  rw [if_neg k5] at h
  by_cases k6 : c = 62
  · rw [if_pos k6] at h; exact key _ h (by by_cases q : a ≤ b; (rw [if_pos q]; exact isSh_0); (rw [if_neg q]; exact isSh_1))
  rw [if_neg k6] at h
  by_cases k7 : b = 0
  · rw [if_pos k7] at h; cases h
  rw [if_neg k7] at h
  by_cases k8 : c = 47
  · rw [if_pos k8] at h; exact key _ h (sh_is _)
  · rw [if_neg k8] at h; exact key _ h (sh_is _)
theorem cmb_err {c : Int} {a b : Int32} {e : Int} (h : cmb c a b = .error e) : e = 5 := by
  unfold cmb at h
  by_cases k1 : c = 42
  · rw [if_pos k1] at h; cases h
  rw [if_neg k1] at h
  by_cases k2 : c = 43
  · rw [if_pos k2] at h; cases h
  rw [if_neg k2] at h
  by_cases k3 : c = 45
  · rw [if_pos k3] at h; cases h
  rw [if_neg k3] at h
  by_cases k4 : c = 60
  · rw [if_pos k4] at h; cases h
  rw [if_neg k4] at h
  by_cases k5 : c = 61
  · rw [if_pos k5] at h; cases h
  rw [if_neg k5] at h
  by_cases k6 : c = 62
  · rw [if_pos k6] at h; cases h
  rw [if_neg k6] at h
  by_cases k7 : b = 0
  · rw [if_pos k7] at h; exact (Except.error.inj h).symm
  rw [if_neg k7] at h
  by_cases k8 : c = 47
  · rw [if_pos k8] at h; cases h
  · rw [if_neg k8] at h; cases h
section Eq
variable {va ce : Nat → Int32}
theorem wk_drop : ∀ (t : List Int) (k : Nat) (vs : List Int32) (ss : List Int) (o : Int) (w : Bool), k ≤ t.length → wk va ce t k vs ss o w = wk va ce (t.drop k) 0 vs ss o w := by
  intro t
  induction t with
  | nil =>
    intro k vs ss o w hk
    have : k = 0 := by simp at hk; exact hk
    subst this
    rfl
  | cons c t ih =>
    intro k vs ss o w hk
    cases k with
    | zero => rfl
    | succ k =>
      rw [wk]
      exact ih k vs ss o w (by simp at hk; omega)
theorem wk_dig {c : Int} {t : List Int} (h : isD c = true) (vs : List Int32) (ss : List Int) (o : Int) : wk va ce (c :: t) 0 vs ss o true = wk va ce (numV 0 (c :: t)).2 0 (sh (iI (numV 0 (c :: t)).1) :: vs) ss o false := by
  rw [wk, if_pos h, wk_drop _ _ _ _ _ _ (by omega)]
  have e : (numV 0 (c :: t)).2 = (numV (10 * 0 + c - 48) t).2 := by
    rw [numV, if_pos h]
  rw [e, numV_drop]
theorem apD_low {least : Int} {ss : List Int} {vs : List Int32} (h : rnk (ss.headD 0) < least) : apD least ss vs = some (.ok (vs, ss)) := by
  cases ss with
  | nil => rfl
  | cons s ss =>
    have h : rnk s < least := h
    rw [apD, if_neg (by omega)]
theorem apD_hi {least s : Int} {ss : List Int} {vs : List Int32} (h : least ≤ rnk s) : apD least (s :: ss) vs = match ap1 s vs with
      | none => none
      | some (.error e) => some (.error e)
      | some (.ok vs') => apD least ss vs' := by
  rw [apD, if_pos h]
theorem rnk_op {c : Int} (h : tier c ≠ -1) : rnk c = tier c + 1 ∧ c ≠ 41 ∧ c < 128 ∧ c ≠ 109 ∧ 0 ≤ tier c ∧ tier c ≤ 2 := by
  rcases op_ne h with rfl | rfl | rfl | rfl | rfl | rfl | rfl | rfl <;> decide
/-- a sign at the top may be done at once -/
theorem wk_eager {s : Int} {r : List Int} {vs vs' : List Int32} {ss : List Int} {o : Int} (hs : 1 ≤ rnk s) (ht : tier (r.headD (-1)) + 1 ≤ rnk s) (ha : ap1 s vs = some (.ok vs')) : wk va ce r 0 vs (s :: ss) o false = wk va ce r 0 vs' ss o false := by
  have e1 : ∀ least, least ≤ rnk s → apD least (s :: ss) vs = apD least ss vs' := by
    intro least hl
    rw [apD_hi hl, ha]
  cases r with
  | nil =>
    rw [wk, wk]
    unfold fin1
    rw [e1 1 hs]
  | cons c t =>
    have ht : tier c + 1 ≤ rnk s := ht
    rw [wk, wk]
    by_cases h1 : 128 ≤ c ∨ (c = 41 ∧ o = 0)
    · rw [if_pos h1, if_pos h1]
      unfold fin1
      rw [e1 1 hs]
    · rw [if_neg h1, if_neg h1]
      by_cases h2 : c = 41
      · rw [if_pos h2, if_pos h2, e1 1 hs]
      · rw [if_neg h2, if_neg h2]
        by_cases h3 : tier c = -1
        · rw [if_pos h3, if_pos h3]
        · rw [if_neg h3, if_neg h3, e1 (rnk c) (by rw [(rnk_op h3).1]; exact ht)]
theorem wk_eagerE {s : Int} {r : List Int} {vs : List Int32} {ss : List Int} {o e : Int} (hs : 1 ≤ rnk s) (ht : tier (r.headD (-1)) + 1 ≤ rnk s) (ha : ap1 s vs = some (.error e)) (hr : ∀ c t, r = c :: t → 128 ≤ c ∨ c = 41 ∨ tier c ≠ -1) : wk va ce r 0 vs (s :: ss) o false = some (.error e) := by
  have e1 : ∀ least, least ≤ rnk s → apD least (s :: ss) vs = some (.error e) := by
    intro least hl
    rw [apD_hi hl, ha]
  cases r with
  | nil =>
    rw [wk]
    unfold fin1
    rw [e1 1 hs]
  | cons c t =>
    have ht : tier c + 1 ≤ rnk s := ht
    have hr := hr c t rfl
    rw [wk]
    by_cases h1 : 128 ≤ c ∨ (c = 41 ∧ o = 0)
    · rw [if_pos h1]
      unfold fin1
      rw [e1 1 hs]
    · rw [if_neg h1]
      by_cases h2 : c = 41
      · rw [if_pos h2, e1 1 hs]
      · rw [if_neg h2]
        by_cases h3 : tier c = -1
        · omega
        · rw [if_neg h3, e1 (rnk c) (by rw [(rnk_op h3).1]; exact ht)]
end Eq
-- the machine over bytes at an expression
theorem tb_lo {st pu de nu li b : Int} (h6 : st ≠ 6) (h1 : b < 128) (hd : ¬ (isD b = true ∧ (st = 13 ∨ st = 8))) : tb (st, pu, de, nu, 0, 0, li) b = tOther st pu de li b := by
  unfold tb
  simp only
  rw [if_neg h6, if_neg (by omega), if_neg hd]
theorem tb_hi {st pu de nu li b : Int} (h6 : st ≠ 6) (h1 : 128 ≤ b) : tb (st, pu, de, nu, 0, 0, li) b = if b < 136 ∧ bt (poss st pu de) (b - 128).toNat = true then some (pas (b - 128) li, [b]) else none := by
  unfold tb
  simp only
  rw [if_neg h6, if_pos h1]
theorem bt_0 (k : Nat) : bt 0 k = false := by
  unfold bt
  rw [Nat.zero_div]
  rfl
theorem tbs_c (s : rA) (b : Int) (u : List Int) : tbs s (b :: u) = match tb s b with
    | none => false
    | some (s', _) => tbs s' u := rfl
theorem tbs_11 {pu de li : Int} {l : List Int} (h : tbs (11, pu, de, 0, 0, 0, li) l = true) : ∃ c t, l = c :: t ∧ ((isD c = true ∧ tbs (13, pu, de, c - 48, 0, 0, li) t = true) ∨ (isD c = false ∧ isV c = true ∧ tbs (14, pu, de, 0, 0, 0, li) t = true) ∨ (c = 40 ∧ de < 4 ∧ tbs (11, pu, de + 1, 0, 0, 0, li) t = true) ∨ (c = 64 ∧ de < 4 ∧ ∃ t', t = 40 :: t' ∧ tbs (11, pu, de + 1, 0, 0, 0, li) t' = true) ∨ (c = 45 ∧ tbs (11, pu, de, 0, 0, 0, li) t = true)) := by
  cases l with
  | nil =>
    have : whl (11, pu, de, 0, 0, 0, li) = false := by
      unfold whl
      simp
    rw [tbs, this] at h
    cases h
  | cons c t =>
    refine ⟨c, t, rfl, ?_⟩
    rw [tbs_c] at h
    by_cases h1 : 128 ≤ c
    · rw [tb_hi (by decide) h1, if_neg (by rintro ⟨-, z⟩; rw [show poss 11 pu de = 0 from rfl, bt_0] at z; cases z)] at h
      cases h
    · rw [tb_lo (by decide) (by omega) (by rintro ⟨-, z⟩; omega)] at h
      rw [show tOther 11 pu de li c = tOne pu de li c from rfl] at h
      unfold tOne at h
      by_cases k1 : isD c = true
      · rw [if_pos k1] at h
        exact Or.inl ⟨k1, h⟩
      rw [if_neg k1] at h
      have k1' : isD c = false := by simpa using k1
      by_cases k2 : isV c = true
      · rw [if_pos k2] at h
        exact Or.inr (Or.inl ⟨k1', k2, h⟩)
      rw [if_neg k2] at h
      by_cases k3 : c = 40
      · rw [if_pos k3] at h
        by_cases k : de < 4
        · rw [if_pos k] at h
          exact Or.inr (Or.inr (Or.inl ⟨k3, k, h⟩))
        · rw [if_neg k] at h; cases h
      rw [if_neg k3] at h
      by_cases k4 : c = 64
      · rw [if_pos k4] at h
        by_cases k : de < 4
        · rw [if_pos k] at h
          refine Or.inr (Or.inr (Or.inr (Or.inl ⟨k4, k, ?_⟩)))
          simp only at h
          cases t with
          | nil =>
            have : whl (12, pu, de, 0, 0, 0, li) = false := by
              unfold whl
              simp
            rw [tbs, this] at h
            cases h
          | cons c2 t2 =>
            rw [tbs_c] at h
            by_cases j1 : 128 ≤ c2
            · rw [tb_hi (by decide) j1, if_neg (by rintro ⟨-, z⟩; rw [show poss 12 pu de = 0 from rfl, bt_0] at z; cases z)] at h
              cases h
            · rw [tb_lo (by decide) (by omega) (by rintro ⟨-, z⟩; omega), show tOther 12 pu de li c2 = if de < 4 ∧ c2 = 40 then some ((11, pu, de + 1, 0, 0, 0, li), [c2]) else none from rfl] at h
              by_cases j2 : de < 4 ∧ c2 = 40
              · rw [if_pos j2] at h
                obtain ⟨-, rfl⟩ := j2
                exact ⟨t2, rfl, h⟩
              · rw [if_neg j2] at h; cases h
        · rw [if_neg k] at h; cases h
      rw [if_neg k4] at h
      by_cases k5 : c = 45
      · rw [if_pos k5] at h
        exact Or.inr (Or.inr (Or.inr (Or.inr ⟨k5, h⟩)))
      · rw [if_neg k5] at h; cases h
theorem tbs_14 {pu de li c : Int} {t : List Int} (h : tbs (14, pu, de, 0, 0, 0, li) (c :: t) = true) : (128 ≤ c ∧ c < 136 ∧ bt (poss 14 pu de) (c - 128).toNat = true ∧ tbs (pas (c - 128) li) t = true) ∨ (c = 41 ∧ ((de = 1 ∧ pu = 3 ∧ tbs (3, 0, 0, 0, 0, 0, li) t = true) ∨ (1 < de ∧ tbs (14, pu, de - 1, 0, 0, 0, li) t = true))) ∨ (tier c ≠ -1 ∧ tbs (11, pu, de, 0, 0, 0, li) t = true) := by
  rw [tbs_c] at h
  by_cases h1 : 128 ≤ c
  · rw [tb_hi (by decide) h1] at h
    by_cases k : c < 136 ∧ bt (poss 14 pu de) (c - 128).toNat = true
    · rw [if_pos k] at h
      exact Or.inl ⟨h1, k.1, k.2, h⟩
    · rw [if_neg k] at h; cases h
  · rw [tb_lo (by decide) (by omega) (by rintro ⟨-, z⟩; omega), show tOther 14 pu de li c = tBehind pu de li c from rfl] at h
    unfold tBehind at h
    by_cases k1 : c = 41
    · rw [if_pos k1] at h
      refine Or.inr (Or.inl ⟨k1, ?_⟩)
      by_cases k2 : de = 1 ∧ pu = 3
      · rw [if_pos k2] at h
        exact Or.inl ⟨k2.1, k2.2, h⟩
      · rw [if_neg k2] at h
        by_cases k3 : 1 < de
        · rw [if_pos k3] at h
          exact Or.inr ⟨k3, h⟩
        · rw [if_neg k3] at h; cases h
    · rw [if_neg k1] at h
      by_cases k2 : tier c = -1
      · rw [if_pos k2] at h; cases h
      · rw [if_neg k2] at h
        exact Or.inr (Or.inr ⟨k2, h⟩)
theorem tbs_13 {pu de nu li : Int} {r : List Int} (hr : isD (r.headD (-1)) = false) (h : tbs (13, pu, de, nu, 0, 0, li) r = true) : tbs (14, pu, de, 0, 0, 0, li) r = true := by
  cases r with
  | nil =>
    rw [tbs] at h ⊢
    unfold whl at h ⊢
    simp at h ⊢
    exact h
  | cons c t =>
    have hr : isD c = false := hr
    rw [tbs_c] at h ⊢
    by_cases h1 : 128 ≤ c
    · rw [tb_hi (by decide) h1] at h ⊢
      rw [show poss 14 pu de = poss 13 pu de by unfold poss; simp]
      exact h
    · rw [tb_lo (by decide) (by omega) (by rw [hr]; rintro ⟨z, -⟩; cases z)] at h ⊢
      exact h
theorem tbs_num {pu de li : Int} (r : List Int) : ∀ nu : Int, 0 ≤ nu → nu ≤ 32767 → tbs (13, pu, de, nu, 0, 0, li) r = true → 0 ≤ (numV nu r).1 ∧ (numV nu r).1 ≤ 32767 ∧ tbs (14, pu, de, 0, 0, 0, li) (numV nu r).2 = true := by
  induction r with
  | nil =>
    intro nu h0 h1 h
    exact ⟨h0, h1, tbs_13 (show isD (-1) = false by decide) h⟩
  | cons c t ih =>
    intro nu h0 h1 h
    unfold numV
    by_cases hc : isD c = true
    · rw [if_pos hc]
      have hcd : 48 ≤ c ∧ c ≤ 57 := by simpa [isD] using hc
      rw [tbs_c] at h
      have e : tb (13, pu, de, nu, 0, 0, li) c = tDigit 13 pu de nu li c := by
        unfold tb
        simp only
        rw [if_neg (by decide), if_neg (by omega), if_pos (by simp [hc])]
      rw [e] at h
      unfold tDigit at h
      by_cases k : nu = 0 ∨ (if (13 : Int) = 13 then 32767 else 99) < 10 * nu + c - 48
      · rw [if_pos k] at h; cases h
      · rw [if_neg k, if_neg (by decide)] at h
        rw [if_pos rfl] at k
        exact ih _ (by omega) (by omega) h
    · rw [if_neg hc]
      exact ⟨h0, h1, tbs_13 (by simpa using hc) h⟩
-- the two agree
def low (ss : List Int) (t : Int) : Prop := t = 3 ∨ rnk (ss.headD 0) ≤ t
section Agree
variable (va ce : Nat → Int32) (pu li : Int)
def GX (g : List Int → eR) (t de : Int) (l : List Int) : Prop := (∃ e, g l = some (.error e) ∧ (e = 5 ∨ e = 6) ∧ ∀ vs ss, low ss t → wk va ce l 0 vs ss (de - 1) true = some (.error e)) ∨ ∃ v r, g l = some (.ok (v, r)) ∧ isSh v ∧ tbs (14, pu, de, 0, 0, 0, li) r = true ∧ tier (r.headD (-1)) < t ∧ r.length < l.length ∧ ∀ vs ss, low ss t → wk va ce l 0 vs ss (de - 1) true = wk va ce r 0 (v :: vs) ss (de - 1) false
end Agree
section Agree2
variable {va ce : Nat → Int32} {pu li : Int}
theorem ap1_op {c : Int} (h : c ≠ 109) (a b : Int32) (vs : List Int32) : ap1 c (b :: a :: vs) = some (match cmb c a b with
      | .error e => .error e
      | .ok v => .ok (v :: vs)) := by
  unfold ap1
  rw [if_neg h]
theorem hd_14 {pu de li : Int} {r : List Int} (h : tbs (14, pu, de, 0, 0, 0, li) r = true) : ∀ c t, r = c :: t → 128 ≤ c ∨ c = 41 ∨ tier c ≠ -1 := by
  rintro c t rfl
  rcases tbs_14 h with h | h | h
  · exact Or.inl h.1
  · exact Or.inr (Or.inl h.1)
  · exact Or.inr (Or.inr h.1)
theorem X_lp {g : List Int → eR} {t de : Int} (ht : 0 ≤ t ∧ t ≤ 2) (G : ∀ l, tbs (11, pu, de, 0, 0, 0, li) l = true → l.length ≤ 198 → GX va ce pu li g (t + 1) de l) : ∀ (n : Nat) (v : Int32) (r : List Int), r.length < n → r.length ≤ 198 → tbs (14, pu, de, 0, 0, 0, li) r = true → tier (r.headD (-1)) < t + 1 → isSh v →
    (∃ e, lpF g t n v r = some (.error e) ∧ (e = 5 ∨ e = 6) ∧ ∀ vs ss, low ss t → wk va ce r 0 (v :: vs) ss (de - 1) false = some (.error e)) ∨ ∃ v' r', lpF g t n v r = some (.ok (v', r')) ∧ isSh v' ∧ tbs (14, pu, de, 0, 0, 0, li) r' = true ∧ tier (r'.headD (-1)) < t ∧ r'.length ≤ r.length ∧ ∀ vs ss, low ss t → wk va ce r 0 (v :: vs) ss (de - 1) false = wk va ce r' 0 (v' :: vs) ss (de - 1) false := by
  intro n
  induction n with
  | zero => intro v r h; omega
  | succ n ih =>
    intro v r hn h198 h14 htr hv
    unfold lpF
    by_cases htc : tier (r.headD (-1)) = t
    · rw [if_pos htc]
      cases r with
      | nil =>
        have htc : (-1 : Int) = t := htc
        omega
      | cons c r1 =>
        have htc : tier c = t := htc
        have hop : tier c ≠ -1 := by omega
        obtain ⟨k1, k2, k3, k4, -, -⟩ := rnk_op hop
        have h11 : tbs (11, pu, de, 0, 0, 0, li) r1 = true := by
          rcases tbs_14 h14 with h | h | h
          · omega
          · exact absurd h.1 k2
          · exact h.2
        have hlen : r1.length + 1 = (c :: r1).length := rfl
        have go : ∀ vs ss, low ss t → wk va ce (c :: r1) 0 (v :: vs) ss (de - 1) false = wk va ce r1 0 (v :: vs) (c :: ss) (de - 1) true := by
          intro vs ss hl
          have hl : rnk (ss.headD 0) < rnk c := by
            rcases hl with hl | hl <;> omega
          rw [wk, if_neg (by omega), if_neg k2, if_neg hop, apD_low hl]
        have hlow : ∀ ss : List Int, low (c :: ss) (t + 1) := fun ss => Or.inr (by show rnk c ≤ _; omega)
        simp only [List.tail_cons, List.headD_cons]
        rcases G r1 h11 (by omega) with ⟨e, e1, e2, e3⟩ | ⟨v2, r2, e1, e2, e3, e4, e5, e6⟩
        · rw [e1]
          exact Or.inl ⟨e, rfl, e2, fun vs ss hl => by rw [go vs ss hl]; exact e3 _ _ (hlow ss)⟩
        · rw [e1]
          simp only
          rcases ec : cmb c v v2 with e | v3
          · refine Or.inl ⟨e, rfl, Or.inl (cmb_err ec), fun vs ss hl => ?_⟩
            rw [go vs ss hl, e6 _ _ (hlow ss)]
            exact wk_eagerE (by omega) (by omega) (by rw [ap1_op k4, ec]) (hd_14 e3)
          · simp only
            rcases ih v3 r2 (by omega) (by omega) e3 (by omega) (cmb_is ec) with ⟨e, f1, f2, f3⟩ | ⟨v', r', f1, f2, f3, f4, f5, f6⟩
            · refine Or.inl ⟨e, f1, f2, fun vs ss hl => ?_⟩
              rw [go vs ss hl, e6 _ _ (hlow ss), wk_eager (vs' := v3 :: vs) (by omega) (by omega) (by rw [ap1_op k4, ec])]
              exact f3 vs ss hl
            · refine Or.inr ⟨v', r', f1, f2, f3, f4, by omega, fun vs ss hl => ?_⟩
              rw [go vs ss hl, e6 _ _ (hlow ss), wk_eager (vs' := v3 :: vs) (by omega) (by omega) (by rw [ap1_op k4, ec])]
              exact f6 vs ss hl
    · rw [if_neg htc]
      exact Or.inr ⟨v, r, rfl, hv, h14, by omega, Nat.le_refl _, fun vs ss _ => rfl⟩
theorem X_tr {g : List Int → eR} {t de : Int} (ht : 0 ≤ t ∧ t ≤ 2) (G : ∀ l, tbs (11, pu, de, 0, 0, 0, li) l = true → l.length ≤ 198 → GX va ce pu li g (t + 1) de l) : ∀ l, tbs (11, pu, de, 0, 0, 0, li) l = true → l.length ≤ 198 → GX va ce pu li (trF g t) t de l := by
  intro l h hl
  have lw : ∀ ss : List Int, low ss t → low ss (t + 1) := by
    rintro ss (h | h)
    · omega
    · exact Or.inr (by omega)
  unfold GX trF
  rcases G l h hl with ⟨e, e1, e2, e3⟩ | ⟨v, r, e1, e2, e3, e4, e5, e6⟩
  · rw [e1]
    exact Or.inl ⟨e, rfl, e2, fun vs ss h => e3 vs ss (lw ss h)⟩
  · rw [e1]
    simp only
    rcases X_lp ht G 200 v r (by omega) (by omega) e3 e4 e2 with ⟨e, f1, f2, f3⟩ | ⟨v', r', f1, f2, f3, f4, f5, f6⟩
    · exact Or.inl ⟨e, f1, f2, fun vs ss h => by rw [e6 vs ss (lw ss h)]; exact f3 vs ss h⟩
    · exact Or.inr ⟨v', r', f1, f2, f3, f4, by omega, fun vs ss h => by rw [e6 vs ss (lw ss h)]; exact f6 vs ss h⟩
theorem tier_le (c : Int) : tier c ≤ 2 ∧ -1 ≤ tier c := by
  by_cases h : tier c = -1
  · omega
  · have := rnk_op h
    omega
theorem oneF_c {D : Nat} {g : List Int → eR} {c : Int} {t : List Int} (h : c ≠ 45) (b : Bool) : oneF va ce D g b (c :: t) = match primF va ce D g (c :: t) with
    | some (.ok (v, r)) => some (.ok (if b = true then sh (-v) else v, r))
    | e => e := by
  rw [oneF, if_neg h]
theorem X_one {g : List Int → eR} {D : Nat} {de : Int} (hde : de = 4 - (D : Int)) (hD : D ≤ 3) (hva : ∀ k, k < 8 → isSh (va k)) (hce : ∀ k, k < 16 → isSh (ce k)) (G : 0 < D → ∀ l, tbs (11, pu, de + 1, 0, 0, 0, li) l = true → l.length ≤ 198 → GX va ce pu li g 0 (de + 1) l) : ∀ l, tbs (11, pu, de, 0, 0, 0, li) l = true → l.length ≤ 198 →
    (∃ e, (∀ b, oneF va ce D g b l = some (.error e)) ∧ (e = 5 ∨ e = 6) ∧ ∀ vs ss, wk va ce l 0 vs ss (de - 1) true = some (.error e)) ∨ ∃ v r, isSh v ∧ (∀ b, oneF va ce D g b l = some (.ok (if b = true then sh (-v) else v, r))) ∧ tbs (14, pu, de, 0, 0, 0, li) r = true ∧ r.length < l.length ∧ ∀ vs ss, wk va ce l 0 vs ss (de - 1) true = wk va ce r 0 (v :: vs) ss (de - 1) false := by
  intro l
  induction l with
  | nil =>
    intro h
    obtain ⟨c, t, e, -⟩ := tbs_11 h
    cases e
  | cons c t ih =>
    intro h0 hl
    have hlen : t.length + 1 = (c :: t).length := rfl
    obtain ⟨c', t', e, h⟩ := tbs_11 h0
    cases e
    rcases h with ⟨k1, h⟩ | ⟨k1, k2, h⟩ | ⟨rfl, hd, h⟩ | ⟨rfl, hd, t2, rfl, h⟩ | ⟨rfl, h⟩
    · have hcd : 48 ≤ c ∧ c ≤ 57 := by simpa [isD] using k1
      obtain ⟨n1, n2, n3⟩ := tbs_num t (c - 48) (by omega) (by omega) h
      have e : numV 0 (c :: t) = numV (c - 48) t := by
        rw [numV, if_pos k1]
        congr 1
        omega
      have hs : isSh (iI (numV 0 (c :: t)).1) := by
        unfold isSh
        rw [e, iI_toInt (by omega) (by omega)]
        omega
      have hl2 := numV_len t (c - 48)
      refine Or.inr ⟨iI (numV 0 (c :: t)).1, (numV 0 (c :: t)).2, hs, fun b => ?_, by rw [e]; exact n3, by rw [e]; omega, fun vs ss => ?_⟩
      · rw [oneF_c (by omega)]
        unfold primF
        simp only
        rw [if_pos k1]
      · rw [wk_dig k1, sh_id hs]
    · have hcv : 97 ≤ c ∧ c ≤ 104 := by simpa [isV] using k2
      have hs := hva (c - 97).toNat (by omega)
      refine Or.inr ⟨va (c - 97).toNat, t, hs, fun b => ?_, h, by omega, fun vs ss => ?_⟩
      · rw [oneF_c (by omega)]
        unfold primF
        simp only
        rw [if_neg (by rw [k1]; decide), if_pos k2]
      · rw [wk, if_neg (by rw [k1]; decide), if_pos k2, sh_id hs]
    · have hD0 : D ≠ 0 := by omega
      have pe : ∀ b, oneF va ce D g b (40 :: t) = match primF va ce D g (40 :: t) with
          | some (.ok (v, r)) => some (.ok (if b = true then sh (-v) else v, r))
          | e => e := oneF_c (by decide)
      have pf : primF va ce D g (40 :: t) = match g t with
          | some (.ok (v, 41 :: r)) => some (.ok (v, r))
          | some (.error e) => some (.error e)
          | _ => none := by
        unfold primF
        simp only
        rw [if_neg (by decide), if_neg (by decide), if_neg hD0, if_pos trivial]
      have pw : ∀ vs ss, wk va ce (40 :: t) 0 vs ss (de - 1) true = wk va ce t 0 vs (40 :: ss) (de + 1 - 1) true := by
        intro vs ss
        rw [wk, if_neg (by decide), if_neg (by decide), if_neg (by decide), if_pos rfl, show de - 1 + 1 = de + 1 - 1 by omega]
      have lo : ∀ ss : List Int, low (40 :: ss) 0 := fun ss => Or.inr (by show rnk 40 ≤ 0; decide)
      rcases G (by omega) t h (by omega) with ⟨e, e1, e2, e3⟩ | ⟨v, r, e1, e2, e3, e4, e5, e6⟩
      · refine Or.inl ⟨e, fun b => ?_, e2, fun vs ss => ?_⟩
        · rw [pe, pf, e1]
        · rw [pw]
          exact e3 _ _ (lo ss)
      · have hr : ∃ r', r = 41 :: r' ∧ tbs (14, pu, de, 0, 0, 0, li) r' = true := by
          cases r with
          | nil =>
            rw [tbs] at e3
            unfold whl at e3
            simp at e3
            omega
          | cons c r' =>
            rcases tbs_14 e3 with q | q | q
            · have := q.2.2.1
              unfold poss at this
              rw [if_neg (by decide), if_neg (by omega), bt_0] at this
              cases this
            · rcases q.2 with q2 | q2
              · omega
              · have := q2.2
                rw [show de + 1 - 1 = de by omega] at this
                exact ⟨r', by rw [q.1], this⟩
            · have e4 : tier c < 0 := e4
              have := tier_le c
              omega
        obtain ⟨r', rfl, h14⟩ := hr
        refine Or.inr ⟨v, r', e2, fun b => ?_, h14, by simp at e5 ⊢; omega, fun vs ss => ?_⟩
        · rw [pe, pf, e1]
          simp only
        · rw [pw, e6 _ _ (lo ss), wk, if_neg (by omega), if_pos rfl, apD_low (by show rnk 40 < 1; decide)]
          simp only
          rw [if_neg (by decide), show de + 1 - 1 - 1 = de - 1 by omega]
    · have hD0 : D ≠ 0 := by omega
      have pe : ∀ b, oneF va ce D g b (64 :: 40 :: t2) = match primF va ce D g (64 :: 40 :: t2) with
          | some (.ok (v, r)) => some (.ok (if b = true then sh (-v) else v, r))
          | e => e := oneF_c (by decide)
      have pf : primF va ce D g (64 :: 40 :: t2) = match g t2 with
          | some (.ok (i, 41 :: r)) => if i < 0 ∨ ¬ i < iI 16 then some (.error 6) else some (.ok (ce i.toNatClampNeg, r))
          | some (.error e) => some (.error e)
          | _ => none := by
        unfold primF
        simp only
        rw [if_neg (by decide), if_neg (by decide), if_neg hD0, if_neg (by decide), if_pos trivial]
      have pw : ∀ vs ss, wk va ce (64 :: 40 :: t2) 0 vs ss (de - 1) true = wk va ce t2 0 vs (64 :: ss) (de + 1 - 1) true := by
        intro vs ss
        rw [wk, if_neg (by decide), if_neg (by decide), if_pos rfl, if_neg (by simp), wk_drop _ _ _ _ _ _ (by simp), show de - 1 + 1 = de + 1 - 1 by omega]
        rfl
      have lo : ∀ ss : List Int, low (64 :: ss) 0 := fun ss => Or.inr (by show rnk 64 ≤ 0; decide)
      have hlen2 : (40 :: t2).length = t2.length + 1 := rfl
      rcases G (by omega) t2 h (by omega) with ⟨e, e1, e2, e3⟩ | ⟨v, r, e1, e2, e3, e4, e5, e6⟩
      · refine Or.inl ⟨e, fun b => ?_, e2, fun vs ss => ?_⟩
        · rw [pe, pf, e1]
        · rw [pw]
          exact e3 _ _ (lo ss)
      · have hr : ∃ r', r = 41 :: r' ∧ tbs (14, pu, de, 0, 0, 0, li) r' = true := by
          cases r with
          | nil =>
            rw [tbs] at e3
            unfold whl at e3
            simp at e3
            omega
          | cons c r' =>
            rcases tbs_14 e3 with q | q | q
            · have := q.2.2.1
              unfold poss at this
              rw [if_neg (by decide), if_neg (by omega), bt_0] at this
              cases this
            · rcases q.2 with q2 | q2
              · omega
              · have := q2.2
                rw [show de + 1 - 1 = de by omega] at this
                exact ⟨r', by rw [q.1], this⟩
            · have e4 : tier c < 0 := e4
              have := tier_le c
              omega
        obtain ⟨r', rfl, h14⟩ := hr
        have i0 : ∀ i : Int32, i < 0 ↔ i.toInt < 0 := fun i => Int32.lt_iff_toInt_lt
        have i15 : v ≤ iI 15 ↔ v.toInt ≤ 15 := by rw [Int32.le_iff_toInt_le, iI_toInt (by decide) (by decide)]
        have i16 : v < iI 16 ↔ v.toInt < 16 := by rw [Int32.lt_iff_toInt_lt, iI_toInt (by decide) (by decide)]
        have pw2 : ∀ vs ss, wk va ce (64 :: 40 :: t2) 0 vs ss (de - 1) true = if v < 0 ∨ ¬ v ≤ iI 15 then some (.error 6) else wk va ce r' 0 (sh (ce v.toNatClampNeg) :: vs) ss (de - 1) false := by
          intro vs ss
          rw [pw, e6 _ _ (lo ss), wk, if_neg (by omega), if_pos rfl, apD_low (by show rnk 64 < 1; decide)]
          simp only
          rw [if_pos trivial, show de + 1 - 1 - 1 = de - 1 by omega]
        by_cases hv : v < 0 ∨ ¬ v < iI 16
        · refine Or.inl ⟨6, fun b => ?_, Or.inr rfl, fun vs ss => ?_⟩
          · rw [pe, pf, e1]
            simp only
            rw [if_pos hv]
          · rw [pw2, if_pos (by rw [i0, i15]; rw [i0, i16] at hv; omega)]
        · have hv' : ¬ (v < 0 ∨ ¬ v ≤ iI 15) := by rw [i0, i15]; rw [i0, i16] at hv; omega
          have hk : v.toNatClampNeg < 16 := by
            rw [i0, i16] at hv
            show v.toInt.toNat < 16
            omega
          refine Or.inr ⟨ce v.toNatClampNeg, r', hce _ hk, fun b => ?_, h14, by simp at e5 ⊢; omega, fun vs ss => ?_⟩
          · rw [pe, pf, e1]
            simp only
            rw [if_neg hv]
          · rw [pw2, if_neg hv', sh_id (hce _ hk)]
    · have pw : ∀ vs ss, wk va ce (45 :: t) 0 vs ss (de - 1) true = wk va ce t 0 vs (109 :: ss) (de - 1) true := by
        intro vs ss
        rw [wk, if_neg (by decide), if_neg (by decide), if_neg (by decide), if_neg (by decide), if_pos rfl]
      have po : ∀ b, oneF va ce D g b (45 :: t) = oneF va ce D g (!b) t := by
        intro b
        rw [oneF, if_pos rfl]
      rcases ih h (by omega) with ⟨e, e1, e2, e3⟩ | ⟨v, r, e1, e2, e3, e4, e5⟩
      · exact Or.inl ⟨e, fun b => by rw [po]; exact e1 _, e2, fun vs ss => by rw [pw]; exact e3 _ _⟩
      · refine Or.inr ⟨sh (-v), r, sh_is _, fun b => ?_, e3, by omega, fun vs ss => ?_⟩
        · rw [po, e2]
          cases b with
          | false => rfl
          | true => simp [sh_neg2 e1]
        · rw [pw, e5]
          exact wk_eager (by decide) (by have := tier_le (r.headD (-1)); show _ ≤ (4 : Int); omega) rfl
/-- an expression, D levels left -/
theorem X_ex (hva : ∀ k, k < 8 → isSh (va k)) (hce : ∀ k, k < 16 → isSh (ce k)) : ∀ (D : Nat), D ≤ 3 → ∀ l, tbs (11, pu, 4 - (D : Int), 0, 0, 0, li) l = true → l.length ≤ 198 → GX va ce pu li (exD va ce (D + 1)) 0 (4 - (D : Int)) l := by
  intro D
  induction D with
  | zero =>
    intro hD
    refine X_tr (by decide) (X_tr (by decide) (X_tr (by decide) ?_))
    intro l h hl
    rcases X_one (g := exD va ce 0) (D := 0) (by decide) hD hva hce (fun q => by omega) l h hl with ⟨e, e1, e2, e3⟩ | ⟨v, r, e1, e2, e3, e4, e5⟩
    · exact Or.inl ⟨e, e1 false, e2, fun vs ss _ => e3 vs ss⟩
    · exact Or.inr ⟨v, r, e2 false, e1, e3, by have := tier_le (r.headD (-1)); omega, e4, fun vs ss _ => e5 vs ss⟩
  | succ D ih =>
    intro hD
    refine X_tr (by decide) (X_tr (by decide) (X_tr (by decide) ?_))
    intro l h hl
    rcases X_one (g := exD va ce (D + 1)) (D := D + 1) rfl hD hva hce (fun _ => by
      have := ih (by omega)
      rw [show (4 : Int) - ((D + 1 : Nat) : Int) + 1 = 4 - (D : Int) by omega]
      exact this) l h hl with ⟨e, e1, e2, e3⟩ | ⟨v, r, e1, e2, e3, e4, e5⟩
    · exact Or.inl ⟨e, e1 false, e2, fun vs ss _ => e3 vs ss⟩
    · exact Or.inr ⟨v, r, e2 false, e1, e3, by have := tier_le (r.headD (-1)); omega, e4, fun vs ss _ => e5 vs ss⟩
end Agree2
