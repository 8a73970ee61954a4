section Mono
variable {l : Launch} {Γ : qG} {T : qT} {d r pc : Nat} {ls st : List Value} {S : qS} {L : Nat → Int64}
theorem V.wn {P P2 : qM → Prop} (h : V l Γ T d r pc ls st S (q_n L P2)) (k : ∀ M, P2 M → P M) : V l Γ T d r pc ls st S (q_n L P) := h.mono (fun _ _ ⟨M, a, b, c⟩ => ⟨M, a, b, k M c⟩)
theorem V.wi {P P2 : Int32 → qM → Prop} (h : V l Γ T d r pc ls st S (q_i L P2)) (k : ∀ x M, P2 x M → P x M) : V l Γ T d r pc ls st S (q_i L P) := h.mono (fun _ _ ⟨x, M, a, b, c⟩ => ⟨x, M, a, b, k x M c⟩)
end Mono
-- a counter (field k of object o) and its row (object q) hold the list t
def rowIs (M : qM) (o k q : Nat) (t : List Int) : Prop := M o k = iI t.length ∧ rw (M q) t
theorem rowIs.push {M : qM} {o k q : Nat} {t : List Int} {c : Int} (h : rowIs M o k q t) (hoq : q ≠ o) : rowIs (q_up (q_up M q t.length (iI c)) o k (iI (t.length + 1))) o k q (t ++ [c]) := by
  refine ⟨?_, ?_⟩
  · rw [q_up_s, List.length_append, List.length_singleton]
    rfl
  · rw [q_up_o hoq]
    have e : q_up M q t.length (iI c) q = va_up (M q) t.length (iI c) := by simp [q_up, va_up]
    rw [e]
    exact rw_snoc h.2
theorem rowIs.keep {M M' : qM} {o k q : Nat} {t : List Int} (h : rowIs M o k q t) (h1 : M' o k = M o k) (h2 : M' q = M q) : rowIs M' o k q t := by
  unfold rowIs
  rw [h1, h2]
  exact h
theorem rowIs.wipe {M : qM} {o k q : Nat} : rowIs (q_up M o k (iI 0)) o k q [] := ⟨q_up_s, rw_nil _⟩
theorem rowIs.el {M : qM} {o k q i : Nat} {t : List Int} (h : rowIs M o k q t) (hi : i < t.length) : M q i = iI (t.getD i 0) := h.2 i hi
/-- of the reference only these objects and these fields changed -/
def fm (os ks : List Nat) (M M' : qM) : Prop := (∀ o, o ∉ os → o ≠ 27 → M' o = M o) ∧ ∀ k, k ∉ ks → M' 27 k = M 27 k
theorem fm.rf {os ks : List Nat} {M : qM} : fm os ks M M := ⟨fun _ _ _ => rfl, fun _ _ => rfl⟩
theorem fm.tr {os ks : List Nat} {M M1 M2 : qM} (h : fm os ks M M1) (h2 : fm os ks M1 M2) : fm os ks M M2 := ⟨fun o a b => (h2.1 o a b).trans (h.1 o a b), fun k a => (h2.2 k a).trans (h.2 k a)⟩
theorem fm.upo {os ks : List Nat} {M M1 : qM} {o k : Nat} {v : Int32} (h : fm os ks M M1) (ho : o ∈ os) (h27 : o ≠ 27) : fm os ks M (q_up M1 o k v) :=
  ⟨fun o' a b => (q_up_o (M := M1) (o := o) (o' := o') (fun e => a (by rw [e]; exact ho))).trans (h.1 o' a b), fun k' a => (congrFun (q_up_o (M := M1) (o := o) (o' := 27) (Ne.symm h27)) k').trans (h.2 k' a)⟩
theorem fm.upk {os ks : List Nat} {M M1 : qM} {k : Nat} {v : Int32} (h : fm os ks M M1) (hk : k ∈ ks) : fm os ks M (q_up M1 27 k v) :=
  ⟨fun o' a b => (q_up_o (M := M1) (o := 27) (o' := o') b).trans (h.1 o' a b), fun k' a => (q_up_k (M := M1) (o := 27) (k := k) (j := k') (fun e => a (by rw [e]; exact hk))).trans (h.2 k' a)⟩
theorem fm.wk {os ks os2 ks2 : List Nat} {M M1 : qM} (h : fm os ks M M1) (hs : ∀ o ∈ os, o ∈ os2) (hk : ∀ k ∈ ks, k ∈ ks2) : fm os2 ks2 M M1 := ⟨fun o a b => h.1 o (fun z => a (hs o z)) b, fun k a => h.2 k (fun z => a (hk k z))⟩
-- bits
theorem bit01 (y : Int32) : y &&& iI 1 = iI 0 ∨ y &&& iI 1 = iI 1 := by
  have e : (y &&& iI 1).toBitVec = BitVec.setWidth 32 (BitVec.ofBool (y.toBitVec.getLsbD 0)) := by
    rw [Int32.toBitVec_and]
    exact BitVec.and_one_eq_setWidth_ofBool_getLsbD
  cases hb : y.toBitVec.getLsbD 0 with
  | false =>
    left
    apply Int32.toBitVec_inj.mp
    rw [e, hb]
    rfl
  | true =>
    right
    apply Int32.toBitVec_inj.mp
    rw [e, hb]
    rfl
theorem iI_mask (z : Int) : iI z &&& iI 65535 = iI (z % 65536) := by
  apply Int32.toBitVec_inj.mp
  rw [Int32.toBitVec_and]
  show BitVec.ofInt 32 z &&& BitVec.ofInt 32 65535 = BitVec.ofInt 32 (z % 65536)
  apply BitVec.eq_of_toNat_eq
  rw [BitVec.toNat_and, BitVec.toNat_ofInt, BitVec.toNat_ofInt, BitVec.toNat_ofInt]
  have e : ((65535 : Int) % ((2 ^ 32 : Nat) : Int)).toNat = 2 ^ 16 - 1 := by decide
  have e2 : ((2 ^ 32 : Nat) : Int) = 4294967296 := by decide
  rw [e, Nat.and_two_pow_sub_one_eq_mod, e2]
  show _ % 65536 = _
  omega
