section Throws
variable {p : Program} {l : Launch} {e : Env} {R : Room} {s : State} {m : MethodId} {args : Array Value} {below : List Frame} {meth : Method} {c : Code} {T : State} {locs : List Loc} {cells slots : Nat}
/-- the walk begun anew where it stands -/
theorem q_rebase (X : Stand p l e R s m args below meth c T locs cells slots) {R' : Room} (h1 : R'.frames ≤ R.frames) (h2 : R'.locals ≤ R.locals) (h3 : cells + R'.cells ≤ R.cells) (h4 : slots + R'.slots ≤ R.slots) :
    Stand p l e R' (T.setFrames (.invoking m args :: below)) m args below meth c T [] 0 0 := by
  have hcur : T.cur < T.threads.size := State.cur_lt_of_top X.here.top
  have hF : (T.setFrames (.invoking m args :: below)).frames = .invoking m args :: below := State.frames_setFrames _ hcur
  have hl : (T.setFrames (.invoking m args :: below)).localsInUse = s.localsInUse := by
    rw [State.localsInUse_invoking hF (meth := meth) (c := c) X.method' X.code, State.localsInUse_invoking X.frames X.method X.code]
  refine ⟨X.admits, X.cas, X.clock, hF, ?_, ?_, X.method', X.code, X.here, X.tail, ?_, ?_, ?_, ?_⟩
  · have h := X.room
    have hh := X.heapSize
    have hu := X.used
    have hb := X.book
    simp only [State.hasRoom, Bool.and_eq_true, decide_eq_true_eq, hF, hl, X.frames, List.length_cons, State.stackLimits_setFrames, State.stackBytes_setFrames, X.limits, X.bytes] at h ⊢
    obtain ⟨⟨⟨⟨a1, a2, a3, a4, a5, a6⟩, a7⟩, a8⟩, a9⟩ := h
    refine ⟨⟨⟨⟨by omega, by omega, by omega, by omega, by omega, a6⟩, ?_⟩, ?_⟩, hb⟩
    · show T.heap.size + R'.cells ≤ e.platform.maxCells
      omega
    · show T.slotsUsed + R'.slots ≤ e.platform.maxSlots
      omega
  · have hh : ∀ (U : State), (∀ k, U.vm.method? k = s.vm.method? k) → U.hears m below = s.hears m below := by
      intro U hU
      cases below with
      | nil => simp only [State.hears, hU]
      | cons f r => cases f <;> simp only [State.hears, State.code?_eq, hU]
    exact (hh (T.setFrames (.invoking m args :: below)) (fun k => X.warmed.alike.method? k)).trans X.hears
  · exact State.WarmedH.refl _
  · rw [State.stackLimits_setFrames]
  · rw [State.stackBytes_setFrames]
  · have hd : (T.heap.toList.drop T.heap.size) = [] := List.drop_eq_nil_of_le (by simp)
    refine ⟨?_, Nat.le_refl _, Nat.le_refl _, ?_, ?_, ?_⟩
    · obtain ⟨g₀, hr⟩ := X.frames_eq
      obtain ⟨t, ht, -⟩ := State.frames_cons hr
      show T.setVm T.vm = { (T.setFrames (.invoking m args :: below)).setFrames (T.setVm T.vm).frames with heap := T.heap, slotsUsed := T.slotsUsed }
      rw [State.setVm_self, State.setFrames_setFrames, State.setFrames_self ht]
    · show T.slotsUsed = T.slotsUsed + ((T.heap.toList.drop T.heap.size).map (·.slots.size)).sum
      rw [hd]
      rfl
    · show ((T.heap.toList.drop T.heap.size).map (·.slots.size)).sum ≤ 0
      rw [hd]
      exact Nat.le_refl _
    · intro a cc hc
      exact ⟨cc, hc, rfl, rfl, fun _ _ => rfl⟩
end Throws
