-- the pure machine: objects by number, their int slots and elements as M : object → slot → Int32; one row of longs beside
def iI (z : Int) : Int32 := Int32.ofInt z
abbrev qIn : Type := Instr × Nat × Nat × Nat
abbrev qTb : Type := List (Nat × qIn)
abbrev qT : Type := MethodName × ByteArray × Nat × Option FieldType × qTb
abbrev qM : Type := Nat → Nat → Int32
abbrev qS : Type := qM × (Nat → Int64)
abbrev qO : Type := Option Value ⊕ Nat
abbrev qG : Type := va_G × List (ClassId × FieldType) × (Nat → Nat) × (Nat → Int32) × Nat
def q_ft : qTb → Nat → Option qIn
  | [], _ => none
  | (q, x) :: r, pc => match Nat.beq q pc with
    | true => some x
    | false => q_ft r pc
def q_up (M : qM) (o k : Nat) (v : Int32) : qM := va_up M o (va_up (M o) k v)
/-- a slot of an object: kind 0 int, 1 a reference that changes, 2 boolean, t + 3 the reference to t -/
def q_sl (M : qM) (o k : Nat) : Nat → Value
  | 0 => .int (M o k)
  | 1 => .ref (M o k).toNatClampNeg
  | 2 => .int (M o k)
  | t + 3 => .ref t
def q_v (ad : Nat → Nat) : Value → Value
  | .ref o => .ref (ad o)
  | v => v
def q_en (Γ : qG) (S : qS) (o : Nat) : (Nat × Nat) ⊕ (Nat × List Nat) → va_E
  | .inl (2, n) => .inl ((Γ.2.1.getD 2 (0, .int)).1, n, .inr (.inl S.2))
  | .inl (t, n) => .inl ((Γ.2.1.getD t (0, .int)).1, n, .inl (S.1 o))
  | .inr (ci, ks) => .inr (ci, ks.mapIdx (fun k kd => q_v Γ.2.2.1 (q_sl S.1 o k kd)))
def q_ws (Γ : qG) (S : qS) : va_W := oT.mapIdx (fun o x => (Γ.2.2.1 o, q_en Γ S o x))
-- plain instructions
abbrev qR : Type := Option (Nat × List Value × List Value × qS)
def q_ldi (pc k : Nat) (ls st : List Value) (S : qS) : qR := match ls[k]? with
  | some (.int v) => some (pc, ls, .int v :: st, S)
  | _ => none
def q_lda (pc k : Nat) (ls st : List Value) (S : qS) : qR := match ls[k]? with
  | some (.ref v) => some (pc, ls, .ref v :: st, S)
  | _ => none
def q_sti (pc k : Nat) (ls st : List Value) (S : qS) : qR := match st with
  | .int v :: r => some (pc, ls.set k (.int v), r, S)
  | _ => none
def q_sta (pc k : Nat) (ls st : List Value) (S : qS) : qR := match st with
  | .ref v :: r => some (pc, ls.set k (.ref v), r, S)
  | _ => none
def q_bin (f : Int32 → Int32 → Int32) (pc : Nat) (ls st : List Value) (S : qS) : qR := match st with
  | .int y :: .int x :: r => some (pc, ls, .int (f x y) :: r, S)
  | _ => none
def q_un (f : Int32 → Int32) (pc : Nat) (ls st : List Value) (S : qS) : qR := match st with
  | .int x :: r => some (pc, ls, .int (f x) :: r, S)
  | _ => none
def q_inc (pc k : Nat) (n : Int) (ls st : List Value) (S : qS) : qR := match ls[k]? with
  | some (.int v) => some (pc, ls.set k (.int (v + iI n)), st, S)
  | _ => none
def q_gf (pc a b : Nat) (ls st : List Value) (S : qS) : qR := match st with
  | .ref o :: r => match oT[o]? with
    | some (.inr (ci, ks)) => match Nat.beq ci b, ks[a]? with
      | true, some kd => some (pc, ls, q_sl S.1 o a kd :: r, S)
      | _, _ => none
    | _ => none
  | _ => none
def q_pf (pc a b : Nat) (ls st : List Value) (S : qS) : qR := match st with
  | .int v :: .ref o :: r => match oT[o]? with
    | some (.inr (ci, ks)) => match Nat.beq ci b, ks[a]? with
      | true, some 0 => some (pc, ls, r, (q_up S.1 o a v, S.2))
      | _, _ => none
    | _ => none
  | .ref t :: .ref o :: r => match oT[o]? with
    | some (.inr (ci, ks)) => match Nat.beq ci b, ks[a]?, Nat.blt t 2147483648 with
      | true, some 1, true => some (pc, ls, r, (q_up S.1 o a (Int32.ofNat t), S.2))
      | _, _, _ => none
    | _ => none
  | _ => none
def q_stp (x : qIn) (pc : Nat) (ls st : List Value) (S : qS) : qR := match x with
  | (i, len, a, b) => match i with
    | .iconst n => some (pc + len, ls, .int (iI n) :: st, S)
    | .bipush n => some (pc + len, ls, .int (iI n) :: st, S)
    | .sipush n => some (pc + len, ls, .int (iI n) :: st, S)
    | .iload_n k => q_ldi (pc + len) k.val ls st S
    | .iload k => q_ldi (pc + len) k ls st S
    | .aload_n k => q_lda (pc + len) k.val ls st S
    | .aload k => q_lda (pc + len) k ls st S
    | .istore_n k => q_sti (pc + len) k.val ls st S
    | .istore k => q_sti (pc + len) k ls st S
    | .astore_n k => q_sta (pc + len) k.val ls st S
    | .astore k => q_sta (pc + len) k ls st S
    | .iinc k n => q_inc (pc + len) k n ls st S
    | .iadd => q_bin (fun x y => x + y) (pc + len) ls st S
    | .isub => q_bin (fun x y => x - y) (pc + len) ls st S
    | .imul => q_bin (fun x y => x * y) (pc + len) ls st S
    | .iand => q_bin (fun x y => x &&& y) (pc + len) ls st S
    | .ior => q_bin (fun x y => x ||| y) (pc + len) ls st S
    | .ishl => q_bin (fun x y => x <<< (y &&& 31)) (pc + len) ls st S
    | .ishr => q_bin (fun x y => x >>> (y &&& 31)) (pc + len) ls st S
    | .iushr => q_bin (fun x y => (x.toUInt32 >>> (y.toUInt32 &&& Int32.toUInt32 31)).toInt32) (pc + len) ls st S
    | .ineg => q_un (fun x => -x) (pc + len) ls st S
    | .i2s => q_un (fun x => x.toInt16.toInt32) (pc + len) ls st S
    | .i2c => q_un (fun x => (x.toUInt32 % 65536).toInt32) (pc + len) ls st S
    | .dup => match st with
      | .int v :: r => some (pc + len, ls, .int v :: .int v :: r, S)
      | .ref v :: r => some (pc + len, ls, .ref v :: .ref v :: r, S)
      | _ => none
    | .pop => match st with
      | .int _ :: r => some (pc + len, ls, r, S)
      | .ref _ :: r => some (pc + len, ls, r, S)
      | _ => none
    | .ldc _ => match b with
      | 0 => some (pc + len, ls, .int (iI a) :: st, S)
      | _ => some (pc + len, ls, .ref (60 + a) :: st, S)
    | .ldc_w _ => some (pc + len, ls, .int (iI a) :: st, S)
    | .goto _ => some (a, ls, st, S)
    | .getfield _ => q_gf (pc + len) a b ls st S
    | .putfield _ => q_pf (pc + len) a b ls st S
    | _ => none
def q_run : Nat → qTb → Nat → List Value → List Value → qS → qR
  | 0, _, pc, ls, st, S => some (pc, ls, st, S)
  | n + 1, tb, pc, ls, st, S => match q_ft tb pc with
    | some x => match q_stp x pc ls st S with
      | some (pc', ls', st', S') => q_run n tb pc' ls' st' S'
      | none => none
    | none => none
/-- n elements of row o from sp on come to row o' from dp on -/
def q_cp (M : qM) (o o' : Nat) (sp dp n : Int32) : qM := va_up M o' (va_cpy (M o) (M o') sp.toNatClampNeg dp.toNatClampNeg n.toNatClampNeg)
