-- rows of numbers, frames
def rw (f : Nat → Int32) (t : List Int) : Prop := ∀ i, i < t.length → f i = iI (t.getD i 0)
theorem rw_nil (f : Nat → Int32) : rw f [] := fun i h => by simp at h
theorem rw_snoc {f : Nat → Int32} {t : List Int} {c : Int} (h : rw f t) : rw (va_up f t.length (iI c)) (t ++ [c]) := by
  intro i hi
  rw [List.length_append, List.length_singleton] at hi
  by_cases e : i = t.length
  · subst e
    simp [va_up, List.getD_eq_getElem?_getD]
  · have hlt : i < t.length := by omega
    have h1 := h i hlt
    simp only [va_up, if_neg e, h1]
    congr 1
    simp [List.getD_eq_getElem?_getD, List.getElem?_append_left hlt]
theorem rw_keep {f g : Nat → Int32} {t : List Int} (h : rw f t) (hg : ∀ i, i < t.length → g i = f i) : rw g t := fun i hi => (hg i hi).trans (h i hi)
def fr (os : List Nat) (M M' : qM) : Prop := ∀ o, o ∉ os → M' o = M o
theorem fr.rf {os : List Nat} {M : qM} : fr os M M := fun _ _ => rfl
theorem fr.tr {os : List Nat} {M M1 M2 : qM} (h : fr os M M1) (h2 : fr os M1 M2) : fr os M M2 := fun o ho => (h2 o ho).trans (h o ho)
theorem fr.up {os : List Nat} {M M1 : qM} {o k : Nat} {v : Int32} (h : fr os M M1) (ho : o ∈ os) : fr os M (q_up M1 o k v) := fun o' h' => (q_up_o (M := M1) (o := o) (o' := o') (fun e => h' (by rw [e]; exact ho))).trans (h o' h')
theorem fr.wk {os os2 : List Nat} {M M1 : qM} (h : fr os M M1) (hs : ∀ o ∈ os, o ∈ os2) : fr os2 M M1 := fun o ho => h o (fun z => ho (hs o z))
/-- a sheet holds the codes t -/
def shIs (M : qM) (o : Nat) (t : List Int) : Prop := M o 1 = iI t.length ∧ t.length ≤ cp (o + 1) ∧ rw (M (o + 1)) t
theorem shIs.keep {M M' : qM} {o : Nat} {t : List Int} (h : shIs M o t) (h1 : M' o = M o) (h2 : M' (o + 1) = M (o + 1)) : shIs M' o t := by
  unfold shIs
  rw [h1, h2]
  exact h
theorem shIs.app {M : qM} {o : Nat} {t : List Int} {c : Int} (h : shIs M o t) (hc : t.length < cp (o + 1)) : shIs (q_up (q_up M (o + 1) t.length (iI c)) o 1 (iI (t.length + 1))) o (t ++ [c]) := by
  refine ⟨?_, by rw [List.length_append, List.length_singleton]; omega, ?_⟩
  · rw [q_up_s, List.length_append, List.length_singleton]
    rfl
  · rw [q_up_o (by omega)]
    have e : q_up M (o + 1) t.length (iI c) (o + 1) = va_up (M (o + 1)) t.length (iI c) := by simp [q_up, va_up]
    rw [e]
    exact rw_snoc h.2.2
theorem shIs.wipe {M : qM} {o : Nat} : shIs (q_up M o 1 (iI 0)) o [] := ⟨q_up_s, Nat.zero_le _, rw_nil _⟩
theorem iI_char {c : Int} (h1 : 0 ≤ c) (h2 : c < 65536) : vp_nar .char (iI c) = iI c := by
  have e : iI c = nI c.toNat := by rw [iI_nI]; congr 1; omega
  rw [e]
  unfold vp_nar
  rw [(pk_charN (q := c.toNat) (by omega)).1]
theorem cp_lt (o : Nat) (ho : o = 1 ∨ o = 3 ∨ o = 7 ∨ o = 16 ∨ o = 18) : cp (o + 1) < 1000 := by
  rcases ho with rfl | rfl | rfl | rfl | rfl <;> decide
section Sheets
variable {l : Launch} {Γ : qG} {d r : Nat} {M : qM} {L : Nat → Int64}
/-- what append leaves -/
def shApp (M : qM) (o : Nat) (t : List Int) (c : Int) : qM := if t.length < cp (o + 1) then q_up (q_up M (o + 1) t.length (iI c)) o 1 (iI (t.length + 1)) else M
theorem c_append (o : Nat) (ho : o = 1 ∨ o = 3 ∨ o = 7 ∨ o = 16 ∨ o = 18) {t : List Int} {c : Int} (h : shIs M o t) (h1 : 0 ≤ c) (h2 : c < 65536) :
    V l Γ T_Sheet_append d r 0 [.ref o, .int (iI c)] [] (M, L) (q_i L (fun x M' => x = b2 (decide (t.length < cp (o + 1))) ∧ M' = shApp M o t c)) := by
  refine s_Sheet_append_0 o ho (iI c) ?_
  have hcp := cp_lt o ho
  have hlen := h.2.1
  rw [h.1, iI_nI, iI_lt (by omega) (by omega) (by omega) (by omega), iI_char h1 h2, iI_add, iI_nat (by omega) (by omega)]
  refine ⟨fun hlt => ⟨iI_in (by omega) (by omega) (by omega), b2_t (by simp; omega), ?_⟩, fun hlt => ⟨b2_f (by simp; omega), ?_⟩⟩
  · unfold shApp
    rw [if_pos (by omega)]
    rfl
  · unfold shApp
    rw [if_neg (by omega)]
theorem shApp_is {o : Nat} {t : List Int} {c : Int} (h : shIs M o t) : shIs (shApp M o t c) o (if t.length < cp (o + 1) then t ++ [c] else t) := by
  unfold shApp
  split
  · next hlt => exact h.app hlt
  · exact h
theorem shApp_fr {o : Nat} {t : List Int} {c : Int} : fr [o, o + 1] M (shApp M o t c) := by
  unfold shApp
  split
  · exact (fr.rf.up (by simp)).up (by simp)
  · exact fr.rf
/-- type -/
theorem c_type {t : List Int} {c : Int} (h : shIs M 1 t) (h1 : 0 ≤ c) (h2 : c < 65536) :
    V l Γ T_TapedLines_type (d + 1) r 0 [.ref 0, .int (iI c)] [] (M, L) (q_i L (fun x M' => x = b2 (isC c && decide (t.length < 60)) ∧ M' = if isC c then shApp M 1 t c else M)) := by
  refine s_TapedLines_type_0 (iI c) ⟨_, c_isCharacter (iI c), ?_⟩
  rintro x M' ⟨rfl, rfl⟩
  rw [iI_toInt (by omega) (by omega), b2_0]
  refine ⟨fun hc => ⟨b2_f (by rw [hc]; rfl), by rw [hc]; rfl⟩, fun hc => ?_⟩
  have hc : isC c = true := by simpa using hc
  refine ⟨_, c_append 1 (Or.inl rfl) h h1 h2, ?_⟩
  rintro x M2 ⟨rfl, rfl⟩
  rw [b2_0, hc]
  have e : cp (1 + 1) = 60 := by decide
  rw [e]
  refine ⟨fun h3 => ⟨b2_f (by simpa using h3), rfl⟩, fun h3 => ⟨b2_t (by simpa using h3), rfl⟩⟩
/-- the reference's text -/
def mText (M : qM) (t : List Int) : Prop := M 27 1 = iI t.length ∧ t.length ≤ 60 ∧ rw (M 28) t
def mApp (M : qM) (t : List Int) (c : Int) : qM := q_up (q_up (q_up M 27 0 (iI 0)) 28 t.length (iI c)) 27 1 (iI (t.length + 1))
theorem cm_type {t : List Int} {c : Int} (h : mText M t) (h1 : 0 ≤ c) (h2 : c < 65536) :
    V l Γ T_TapedLinesModel_type d r 0 [.ref 27, .int (iI c)] [] (M, L) (q_i L (fun x M' => x = b2 (isC c && decide (t.length < 60)) ∧ M' = if isC c = true ∧ t.length < 60 then mApp M t c else q_up M 27 0 (iI 0))) := by
  refine s_TapedLinesModel_type_0 (iI c) ?_
  have hlen := h.2.1
  rw [h.1, iI_lt (by omega) (by omega) (by decide) (by decide), iI_lt (by decide) (by decide) (by omega) (by omega), iI_eq (by omega) (by omega) (by decide) (by decide), iI_add, iI_nat (by omega) (by omega)]
  refine ⟨fun q1 => ?_, fun q1 => ⟨fun q2 => ?_, fun q2 => ⟨fun q3 => ⟨iI_in (by omega) (by omega) (by omega), ?_⟩, fun q3 => ?_⟩⟩⟩
  · have e : isC c = false := by simp only [isC, decide_eq_false_iff_not]; omega
    rw [e]
    exact ⟨rfl, rfl⟩
  · have e : isC c = false := by simp only [isC, decide_eq_false_iff_not]; omega
    rw [e]
    exact ⟨rfl, rfl⟩
  · have e : isC c = true := by simp only [isC, decide_eq_true_eq]; omega
    have e2 : t.length < 60 := by omega
    rw [e, if_pos ⟨rfl, e2⟩]
    refine ⟨b2_t (by simpa using e2), ?_⟩
    unfold mApp
    congr 2
  · have e : isC c = true := by simp only [isC, decide_eq_true_eq]; omega
    have e2 : ¬ t.length < 60 := by omega
    rw [e, if_neg (fun q => e2 q.2)]
    exact ⟨b2_f (by simpa using e2), rfl⟩
end Sheets
