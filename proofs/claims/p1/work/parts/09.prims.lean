theorem q_mwi {ws : List Cond} (h : ws.all q_in = true) : ∀ w ∈ ws, w ∈ WG := fun w hw => q_in_spec (List.all_eq_true.mp h w hw)
theorem q_en_cp {Γ : qG} {M : qM} {L : Nat → Int64} {o o' o2 : Nat} {sp dp n : Int32} (h : o2 ≠ o') (y : (Nat × Nat) ⊕ (Nat × List Nat)) : q_en Γ (q_cp M o o' sp dp n, L) o2 y = q_en Γ (M, L) o2 y := by
  have e : q_cp M o o' sp dp n o2 = M o2 := by simp [q_cp, va_up, h]
  have e2 : q_sl (q_cp M o o' sp dp n) o2 = q_sl M o2 := by
    funext j kd
    match kd with
    | 0 => simp only [q_sl, e]
    | 1 => simp only [q_sl, e]
    | 2 => simp only [q_sl, e]
    | t + 3 => rfl
  rcases y with ⟨t, k⟩ | ⟨ci, ks⟩
  · match t with
    | 0 => simp only [q_en, e]
    | 1 => simp only [q_en, e]
    | 2 => rfl
    | t + 3 => simp only [q_en, e]
  · simp only [q_en, e2]
theorem q_nfw : nativeFrameWords "java/lang/System" "arraycopy" 5 + 19 ≤ 40 := by decide +kernel
section Prims
variable {l : Launch} {Γ : qG} {T : qT} {d r pc : Nat} {ls rest : List Value} {S : qS} {Q : qO → qS → Prop}
theorem V.copy {o o' n0 n1 index μ : Nat} {sp dp n : Int32} (hf : q_ft T.2.2.2.2 pc = some (.invokestatic index, 3, μ, 4)) (ho : oT[o]? = some (.inl (0, n0))) (ho' : oT[o']? = some (.inl (0, n1)))
    (hw : ∀ w ∈ ([.methodLink T.1.cls index arraycopyName, .native arraycopyName, .static arraycopyName, .initialized "java/lang/System"] : List Cond), w ∈ WG) (hd1 : 1 ≤ d) (hrc : ∀ v ∈ rest, v.category = 1) (hrl : rest.length ≤ 8)
    (h : ¬ sp < 0 ∧ ¬ dp < 0 ∧ ¬ n < 0 ∧ sp.toNatClampNeg + n.toNatClampNeg ≤ n0 ∧ dp.toNatClampNeg + n.toNatClampNeg ≤ n1) (k : V l Γ T d r (pc + 3) ls rest (q_cp S.1 o o' sp dp n, S.2) Q) : V l Γ T d r pc ls (.int n :: .int dp :: .ref o' :: .int sp :: .ref o :: rest) S Q := by
  intro A p e R s m args below meth c H locs cells slots Lr hok hC hW hL hc1 hc2
  obtain ⟨hd, hrow⟩ := q_ok_at hok hf
  dsimp only at hd
  have hC' := hC
  obtain ⟨hx, hb, hml, hr, hlk, hown, hts, hK, hA, hfr, hlo, hnm⟩ := hC
  have h8 := q_rest hrc hrl Γ.2.2.1
  have hset := q_ws_set (Γ := Γ) (S := S) (S' := (q_cp S.1 o o' sp dp n, S.2)) ho' (fun o2 y hne _ => q_en_cp hne y)
  have he : q_en Γ (q_cp S.1 o o' sp dp n, S.2) o' (.inl (0, n1)) = .inl ((Γ.2.1.getD 0 (0, .int)).1, n1, .inl (va_cpy (S.1 o) (S.1 o') sp.toNatClampNeg dp.toNatClampNeg n.toNatClampNeg)) := by
    have e1 : q_cp S.1 o o' sp dp n o' = va_cpy (S.1 o) (S.1 o') sp.toNatClampNeg dp.toNatClampNeg n.toNatClampNeg := by simp [q_cp, va_up]
    simp only [q_en, e1]
  rw [he] at hset
  have hnf := q_nfw
  exact va_copyi hx hb (by rw [hml, hL.1]) hown (hts _ (hw _ (by simp))) (hts _ (hw _ (by simp))) (hts _ (hw _ (by simp))) (hts _ (hw _ (by simp))) hK.1 hW.1 hW.2.1 hW.2.2 o o' 0 0 (q_ws_get Γ S ho) (q_ws_get Γ S ho') (q_ty hK 0 rfl) (q_ty hK 0 rfl) rfl h.1 h.2.1 h.2.2.1 h.2.2.2.1 h.2.2.2.2 (fun _ _ => rfl) (by omega) (by omega) hd (fun H1 locs1 h3 h4 h5 => k A p e R s m args below meth c H1 locs1 cells slots Lr hok hC' ⟨hset ▸ h3, hset ▸ h4, h5⟩ hL hc1 hc2)
end Prims
