/-- every call of the law, from the memory M on, answers alike on both sides, and leaves R -/
def p_type (l : Launch) (Γ : qG) (d : Nat) (M : qM) (R : qM → Prop) : Prop := ∀ (L : Nat → Int64) (a : Int32), pairI l Γ d L T_TapedLines_type T_TapedLinesModel_type [.ref 0, .int ((a).toUInt32 % 65536).toInt32] [.ref 27, .int ((a).toUInt32 % 65536).toInt32] M R
def p_wipe (l : Launch) (Γ : qG) (d : Nat) (M : qM) (R : qM → Prop) : Prop := ∀ (L : Nat → Int64), pairI l Γ d L T_TapedLines_wipe T_TapedLinesModel_wipe [.ref 0, .null] [.ref 27, .null] M R
def p_enter (l : Launch) (Γ : qG) (d : Nat) (M : qM) (R : qM → Prop) : Prop := ∀ (L : Nat → Int64), pairI l Γ d L T_TapedLines_enter T_TapedLinesModel_enter [.ref 0, .null] [.ref 27, .null, .null, .null, .null] M R
def p_lines (l : Launch) (Γ : qG) (d : Nat) (M : qM) (R : qM → Prop) : Prop := ∀ (L : Nat → Int64), pairI l Γ d L T_TapedLines_lines T_TapedLinesModel_lines [.ref 0] [.ref 27] M R
def p_list (l : Launch) (Γ : qG) (d : Nat) (M : qM) (R : qM → Prop) : Prop := ∀ (L : Nat → Int64) (a : Int32), pairH l Γ d L T_law_list hh_list T_TapedLinesModel_list [.ref 0, .int a, .ref 42, .null] [.ref 27, .int a, .null, .null, .null, .null] M R
def p_programByte (l : Launch) (Γ : qG) (d : Nat) (M : qM) (R : qM → Prop) : Prop := ∀ (L : Nat → Int64) (a : Int32), pairH l Γ d L T_law_programByte hh_programByte T_TapedLinesModel_programByte [.ref 0, .int a, .ref 42, .null] [.ref 27, .int a] M R
def p_start (l : Launch) (Γ : qG) (d : Nat) (M : qM) (R : qM → Prop) : Prop := ∀ (L : Nat → Int64), pairN l Γ d L T_TapedLines_start T_TapedLinesModel_start [.ref 0] [.ref 27, .null] M R
def p_run (l : Launch) (Γ : qG) (d : Nat) (M : qM) (R : qM → Prop) : Prop := ∀ (L : Nat → Int64) (a : Int32), pairH l Γ d L T_law_run hh_run T_TapedLinesModel_run [.ref 0, .int a, .ref 42, .null] [.ref 27, .int a, .null] M R
def p_state (l : Launch) (Γ : qG) (d : Nat) (M : qM) (R : qM → Prop) : Prop := ∀ (L : Nat → Int64), pairI l Γ d L T_TapedLines_state T_TapedLinesModel_state [.ref 0] [.ref 27] M R
def p_place (l : Launch) (Γ : qG) (d : Nat) (M : qM) (R : qM → Prop) : Prop := ∀ (L : Nat → Int64), pairI l Γ d L T_TapedLines_place T_TapedLinesModel_place [.ref 0, .null] [.ref 27] M R
def p_variable (l : Launch) (Γ : qG) (d : Nat) (M : qM) (R : qM → Prop) : Prop := ∀ (L : Nat → Int64) (a : Int32), pairH l Γ d L T_law_variable hh_variable T_TapedLinesModel_variable [.ref 0, .int a, .ref 42, .null] [.ref 27, .int a] M R
def p_cell (l : Launch) (Γ : qG) (d : Nat) (M : qM) (R : qM → Prop) : Prop := ∀ (L : Nat → Int64) (a : Int32), pairH l Γ d L T_law_cell hh_cell T_TapedLinesModel_cell [.ref 0, .int a, .ref 42, .null] [.ref 27, .int a] M R
def p_output (l : Launch) (Γ : qG) (d : Nat) (M : qM) (R : qM → Prop) : Prop := ∀ (L : Nat → Int64), pairI l Γ d L T_TapedLines_output T_TapedLinesModel_output [.ref 0] [.ref 27, .null] M R
def p_save (l : Launch) (Γ : qG) (d : Nat) (M : qM) (R : qM → Prop) : Prop := ∀ (L : Nat → Int64), pairI l Γ d L T_TapedLines_save T_TapedLinesModel_save [.ref 0] [.ref 27, .null, .null] M R
def p_load (l : Launch) (Γ : qG) (d : Nat) (M : qM) (R : qM → Prop) : Prop := ∀ (L : Nat → Int64), pairI l Γ d L T_TapedLines_load T_TapedLinesModel_load [.ref 0, .null] [.ref 27, .null, .null, .null, .null] M R
def p_wobble (l : Launch) (Γ : qG) (d : Nat) (M : qM) (R : qM → Prop) : Prop := ∀ (L : Nat → Int64) (a b : Int32), pairW l Γ d L T_law_wobble hh_wobble T_TapedLinesModel_wobble [.ref 0, .int a, .int b, .null] [.ref 27, .int a, .int b, .null, .null, .null] M R
def p_waves (l : Launch) (Γ : qG) (d : Nat) (M : qM) (R : qM → Prop) : Prop := ∀ (L : Nat → Int64), pairI l Γ d L T_TapedLines_waves T_TapedLinesModel_waves [.ref 0] [.ref 27] M R
def p_wave (l : Launch) (Γ : qG) (d : Nat) (M : qM) (R : qM → Prop) : Prop := ∀ (L : Nat → Int64) (a : Int32), pairH l Γ d L T_law_wave hh_wave T_TapedLinesModel_wave [.ref 0, .int a, .ref 42, .null] [.ref 27, .int a] M R
def p_setWave (l : Launch) (Γ : qG) (d : Nat) (M : qM) (R : qM → Prop) : Prop := ∀ (L : Nat → Int64) (a b : Int32), pairH l Γ d L T_law_setWave hh_setWave T_TapedLinesModel_setWave [.ref 0, .int a, .int b, .ref 42, .null] [.ref 27, .int a, .int b, .null] M R
def p_length (l : Launch) (Γ : qG) (d : Nat) (M : qM) (R : qM → Prop) : Prop := ∀ (L : Nat → Int64), pairI l Γ d L T_TapedLines_length T_TapedLinesModel_length [.ref 0] [.ref 27] M R
def p_charAt (l : Launch) (Γ : qG) (d : Nat) (M : qM) (R : qM → Prop) : Prop := ∀ (L : Nat → Int64) (a : Int32), pairI l Γ d L T_TapedLines_charAt T_TapedLinesModel_charAt [.ref 0, .int a] [.ref 27, .int a] M R
def allP (l : Launch) (Γ : qG) (d : Nat) (M : qM) (R : qM → Prop) : Prop := p_type l Γ d M R ∧ p_wipe l Γ d M R ∧ p_enter l Γ d M R ∧ p_lines l Γ d M R ∧ p_list l Γ d M R ∧ p_programByte l Γ d M R ∧ p_start l Γ d M R ∧ p_run l Γ d M R ∧ p_state l Γ d M R ∧ p_place l Γ d M R ∧ p_variable l Γ d M R ∧ p_cell l Γ d M R ∧ p_output l Γ d M R ∧ p_save l Γ d M R ∧ p_load l Γ d M R ∧ p_wobble l Γ d M R ∧ p_waves l Γ d M R ∧ p_wave l Γ d M R ∧ p_setWave l Γ d M R ∧ p_length l Γ d M R ∧ p_charAt l Γ d M R
section Loop
variable {l : Launch} {Γ : qG} {d r : Nat} {M : qM} {L : Nat → Int64} {Q : qO → qS → Prop} {R : qM → Prop}
theorem lw_next {i : Nat} (h : V l Γ T_law (d + 1) r 23 [.ref 50, .ref 0, .ref 27, .ref 42, .int (iI ((i + 3 : Nat) : Int)), .null, .null] [] (M, L) Q) : V l Γ T_law (d + 1) r 781 [.ref 50, .ref 0, .ref 27, .ref 42, .int (iI (i : Int)), .null, .null] [] (M, L) Q := by
  refine s_law_781 _ ?_
  rw [iI_add]
  exact h
theorem lw_c_type {i : Nat} (hi : i + 2 < Γ.2.2.2.2) (hN : Γ.2.2.2.2 ≤ 1536) (hp : p_type l Γ d M R) (hk : ∀ M' L', R M' → V l Γ T_law (d + 1) r 23 [.ref 50, .ref 0, .ref 27, .ref 42, .int (iI ((i + 3 : Nat) : Int)), .null, .null] [] (M', L') Q) : V l Γ T_law (d + 1) r 136 [.ref 50, .ref 0, .ref 27, .ref 42, .int (iI (i : Int)), .null, .null] [] (M, L) Q := by
  obtain ⟨P1, hv1, h1⟩ := hp L _
  refine s_law_136 _ ⟨(by rw [iI_add]; exact iI_in (by omega) (by omega) (by omega)), P1, hv1, fun x1 M1 q1 => ?_⟩
  obtain ⟨P2, hv2, h2⟩ := h1 x1 M1 q1
  refine ⟨(by rw [iI_add]; exact iI_in (by omega) (by omega) (by omega)), P2, hv2, fun x2 M2 q2 => ?_⟩
  obtain ⟨e, hR⟩ := h2 x2 M2 q2
  exact ⟨fun _ => lw_next (hk M2 L hR), fun z => absurd e z⟩
theorem lw_c_wipe {i : Nat} (hi : i + 2 < Γ.2.2.2.2) (hN : Γ.2.2.2.2 ≤ 1536) (hp : p_wipe l Γ d M R) (hk : ∀ M' L', R M' → V l Γ T_law (d + 1) r 23 [.ref 50, .ref 0, .ref 27, .ref 42, .int (iI ((i + 3 : Nat) : Int)), .null, .null] [] (M', L') Q) : V l Γ T_law (d + 1) r 163 [.ref 50, .ref 0, .ref 27, .ref 42, .int (iI (i : Int)), .null, .null] [] (M, L) Q := by
  obtain ⟨P1, hv1, h1⟩ := hp L
  refine s_law_163 _ ⟨P1, hv1, fun x1 M1 q1 => ?_⟩
  obtain ⟨P2, hv2, h2⟩ := h1 x1 M1 q1
  refine ⟨P2, hv2, fun x2 M2 q2 => ?_⟩
  obtain ⟨e, hR⟩ := h2 x2 M2 q2
  exact ⟨fun _ => lw_next (hk M2 L hR), fun z => absurd e z⟩
theorem lw_c_enter {i : Nat} (hi : i + 2 < Γ.2.2.2.2) (hN : Γ.2.2.2.2 ≤ 1536) (hp : p_enter l Γ d M R) (hk : ∀ M' L', R M' → V l Γ T_law (d + 1) r 23 [.ref 50, .ref 0, .ref 27, .ref 42, .int (iI ((i + 3 : Nat) : Int)), .null, .null] [] (M', L') Q) : V l Γ T_law (d + 1) r 176 [.ref 50, .ref 0, .ref 27, .ref 42, .int (iI (i : Int)), .null, .null] [] (M, L) Q := by
  obtain ⟨P1, hv1, h1⟩ := hp L
  refine s_law_176 _ ⟨P1, hv1, fun x1 M1 q1 => ?_⟩
  obtain ⟨P2, hv2, h2⟩ := h1 x1 M1 q1
  refine ⟨P2, hv2, fun x2 M2 q2 => ?_⟩
  obtain ⟨e, hR⟩ := h2 x2 M2 q2
  exact ⟨fun _ => lw_next (hk M2 L hR), fun z => absurd e z⟩
theorem lw_c_lines {i : Nat} (hi : i + 2 < Γ.2.2.2.2) (hN : Γ.2.2.2.2 ≤ 1536) (hp : p_lines l Γ d M R) (hk : ∀ M' L', R M' → V l Γ T_law (d + 1) r 23 [.ref 50, .ref 0, .ref 27, .ref 42, .int (iI ((i + 3 : Nat) : Int)), .null, .null] [] (M', L') Q) : V l Γ T_law (d + 1) r 189 [.ref 50, .ref 0, .ref 27, .ref 42, .int (iI (i : Int)), .null, .null] [] (M, L) Q := by
  obtain ⟨P1, hv1, h1⟩ := hp L
  refine s_law_189 _ ⟨P1, hv1, fun x1 M1 q1 => ?_⟩
  obtain ⟨P2, hv2, h2⟩ := h1 x1 M1 q1
  refine ⟨P2, hv2, fun x2 M2 q2 => ?_⟩
  obtain ⟨e, hR⟩ := h2 x2 M2 q2
  exact ⟨fun _ => lw_next (hk M2 L hR), fun z => absurd e z⟩
theorem lw_c_list {i : Nat} (hi : i + 2 < Γ.2.2.2.2) (hN : Γ.2.2.2.2 ≤ 1536) (hp : p_list l Γ d M R) (hk : ∀ M' L', R M' → V l Γ T_law (d + 1) r 23 [.ref 50, .ref 0, .ref 27, .ref 42, .int (iI ((i + 3 : Nat) : Int)), .null, .null] [] (M', L') Q) : V l Γ T_law (d + 1) (r + 1) 202 [.ref 50, .ref 0, .ref 27, .ref 42, .int (iI (i : Int)), .null, .null] [] (M, L) Q := by
  obtain ⟨P1, hv1, h1⟩ := hp L _
  refine s_law_202 _ ⟨(by rw [iI_add]; exact iI_in (by omega) (by omega) (by omega)), P1, hv1, fun x1 M1 L1 q1 => ?_⟩
  obtain ⟨P2, hv2, h2⟩ := h1 x1 M1 L1 q1
  refine ⟨(by rw [iI_add]; exact iI_in (by omega) (by omega) (by omega)), P2, hv2, fun x2 M2 q2 => ?_⟩
  obtain ⟨e0, e1, hR⟩ := h2 x2 M2 q2
  refine ⟨fun x M' => x = x1 ∧ M' = M2, s_TapedLinesModel_thrown_0 ⟨e0, rfl⟩, ?_⟩
  rintro x3 M3 ⟨rfl, rfl⟩
  refine ⟨fun _ => ⟨fun _ => lw_next (hk M3 L1 hR), fun z => ⟨fun _ => lw_next (hk M3 L1 hR), fun w => absurd ?_ w⟩⟩, fun z => absurd rfl z⟩
  have z0 := Classical.not_not.mp z
  have e2 : L1 (iI 0).toNatClampNeg = x2.toInt64 := e1 z0
  rw [e2]
  exact lg_cmp_self _
theorem lw_c_programByte {i : Nat} (hi : i + 2 < Γ.2.2.2.2) (hN : Γ.2.2.2.2 ≤ 1536) (hp : p_programByte l Γ d M R) (hk : ∀ M' L', R M' → V l Γ T_law (d + 1) r 23 [.ref 50, .ref 0, .ref 27, .ref 42, .int (iI ((i + 3 : Nat) : Int)), .null, .null] [] (M', L') Q) : V l Γ T_law (d + 1) (r + 1) 258 [.ref 50, .ref 0, .ref 27, .ref 42, .int (iI (i : Int)), .null, .null] [] (M, L) Q := by
  obtain ⟨P1, hv1, h1⟩ := hp L _
  refine s_law_258 _ ⟨(by rw [iI_add]; exact iI_in (by omega) (by omega) (by omega)), P1, hv1, fun x1 M1 L1 q1 => ?_⟩
  obtain ⟨P2, hv2, h2⟩ := h1 x1 M1 L1 q1
  refine ⟨(by rw [iI_add]; exact iI_in (by omega) (by omega) (by omega)), P2, hv2, fun x2 M2 q2 => ?_⟩
  obtain ⟨e0, e1, hR⟩ := h2 x2 M2 q2
  refine ⟨fun x M' => x = x1 ∧ M' = M2, s_TapedLinesModel_thrown_0 ⟨e0, rfl⟩, ?_⟩
  rintro x3 M3 ⟨rfl, rfl⟩
  refine ⟨fun _ => ⟨fun _ => lw_next (hk M3 L1 hR), fun z => ⟨fun _ => lw_next (hk M3 L1 hR), fun w => absurd ?_ w⟩⟩, fun z => absurd rfl z⟩
  have z0 := Classical.not_not.mp z
  have e2 : L1 (iI 0).toNatClampNeg = x2.toInt64 := e1 z0
  rw [e2]
  exact lg_cmp_self _
theorem lw_c_start {i : Nat} (hi : i + 2 < Γ.2.2.2.2) (hN : Γ.2.2.2.2 ≤ 1536) (hp : p_start l Γ d M R) (hk : ∀ M' L', R M' → V l Γ T_law (d + 1) r 23 [.ref 50, .ref 0, .ref 27, .ref 42, .int (iI ((i + 3 : Nat) : Int)), .null, .null] [] (M', L') Q) : V l Γ T_law (d + 1) r 314 [.ref 50, .ref 0, .ref 27, .ref 42, .int (iI (i : Int)), .null, .null] [] (M, L) Q := by
  obtain ⟨P1, hv1, h1⟩ := hp L
  refine s_law_314 _ ⟨P1, hv1, fun M1 q1 => ?_⟩
  obtain ⟨P2, hv2, h2⟩ := h1 M1 q1
  exact ⟨P2, hv2, fun M2 q2 => lw_next (hk M2 L (h2 M2 q2))⟩
theorem lw_c_run {i : Nat} (hi : i + 2 < Γ.2.2.2.2) (hN : Γ.2.2.2.2 ≤ 1536) (hp : p_run l Γ d M R) (hk : ∀ M' L', R M' → V l Γ T_law (d + 1) r 23 [.ref 50, .ref 0, .ref 27, .ref 42, .int (iI ((i + 3 : Nat) : Int)), .null, .null] [] (M', L') Q) : V l Γ T_law (d + 1) (r + 1) 325 [.ref 50, .ref 0, .ref 27, .ref 42, .int (iI (i : Int)), .null, .null] [] (M, L) Q := by
  obtain ⟨P1, hv1, h1⟩ := hp L _
  refine s_law_325 _ ⟨(by rw [iI_add]; exact iI_in (by omega) (by omega) (by omega)), P1, hv1, fun x1 M1 L1 q1 => ?_⟩
  obtain ⟨P2, hv2, h2⟩ := h1 x1 M1 L1 q1
  refine ⟨(by rw [iI_add]; exact iI_in (by omega) (by omega) (by omega)), P2, hv2, fun x2 M2 q2 => ?_⟩
  obtain ⟨e0, e1, hR⟩ := h2 x2 M2 q2
  refine ⟨fun x M' => x = x1 ∧ M' = M2, s_TapedLinesModel_thrown_0 ⟨e0, rfl⟩, ?_⟩
  rintro x3 M3 ⟨rfl, rfl⟩
  refine ⟨fun _ => ⟨fun _ => lw_next (hk M3 L1 hR), fun z => ⟨fun _ => lw_next (hk M3 L1 hR), fun w => absurd ?_ w⟩⟩, fun z => absurd rfl z⟩
  have z0 := Classical.not_not.mp z
  have e2 : L1 (iI 0).toNatClampNeg = x2.toInt64 := e1 z0
  rw [e2]
  exact lg_cmp_self _
theorem lw_c_state {i : Nat} (hi : i + 2 < Γ.2.2.2.2) (hN : Γ.2.2.2.2 ≤ 1536) (hp : p_state l Γ d M R) (hk : ∀ M' L', R M' → V l Γ T_law (d + 1) r 23 [.ref 50, .ref 0, .ref 27, .ref 42, .int (iI ((i + 3 : Nat) : Int)), .null, .null] [] (M', L') Q) : V l Γ T_law (d + 1) r 381 [.ref 50, .ref 0, .ref 27, .ref 42, .int (iI (i : Int)), .null, .null] [] (M, L) Q := by
  obtain ⟨P1, hv1, h1⟩ := hp L
  refine s_law_381 _ ⟨P1, hv1, fun x1 M1 q1 => ?_⟩
  obtain ⟨P2, hv2, h2⟩ := h1 x1 M1 q1
  refine ⟨P2, hv2, fun x2 M2 q2 => ?_⟩
  obtain ⟨e, hR⟩ := h2 x2 M2 q2
  exact ⟨fun _ => lw_next (hk M2 L hR), fun z => absurd e z⟩
theorem lw_c_place {i : Nat} (hi : i + 2 < Γ.2.2.2.2) (hN : Γ.2.2.2.2 ≤ 1536) (hp : p_place l Γ d M R) (hk : ∀ M' L', R M' → V l Γ T_law (d + 1) r 23 [.ref 50, .ref 0, .ref 27, .ref 42, .int (iI ((i + 3 : Nat) : Int)), .null, .null] [] (M', L') Q) : V l Γ T_law (d + 1) r 394 [.ref 50, .ref 0, .ref 27, .ref 42, .int (iI (i : Int)), .null, .null] [] (M, L) Q := by
  obtain ⟨P1, hv1, h1⟩ := hp L
  refine s_law_394 _ ⟨P1, hv1, fun x1 M1 q1 => ?_⟩
  obtain ⟨P2, hv2, h2⟩ := h1 x1 M1 q1
  refine ⟨P2, hv2, fun x2 M2 q2 => ?_⟩
  obtain ⟨e, hR⟩ := h2 x2 M2 q2
  exact ⟨fun _ => lw_next (hk M2 L hR), fun z => absurd e z⟩
theorem lw_c_variable {i : Nat} (hi : i + 2 < Γ.2.2.2.2) (hN : Γ.2.2.2.2 ≤ 1536) (hp : p_variable l Γ d M R) (hk : ∀ M' L', R M' → V l Γ T_law (d + 1) r 23 [.ref 50, .ref 0, .ref 27, .ref 42, .int (iI ((i + 3 : Nat) : Int)), .null, .null] [] (M', L') Q) : V l Γ T_law (d + 1) (r + 1) 407 [.ref 50, .ref 0, .ref 27, .ref 42, .int (iI (i : Int)), .null, .null] [] (M, L) Q := by
  obtain ⟨P1, hv1, h1⟩ := hp L _
  refine s_law_407 _ ⟨(by rw [iI_add]; exact iI_in (by omega) (by omega) (by omega)), P1, hv1, fun x1 M1 L1 q1 => ?_⟩
  obtain ⟨P2, hv2, h2⟩ := h1 x1 M1 L1 q1
  refine ⟨(by rw [iI_add]; exact iI_in (by omega) (by omega) (by omega)), P2, hv2, fun x2 M2 q2 => ?_⟩
  obtain ⟨e0, e1, hR⟩ := h2 x2 M2 q2
  refine ⟨fun x M' => x = x1 ∧ M' = M2, s_TapedLinesModel_thrown_0 ⟨e0, rfl⟩, ?_⟩
  rintro x3 M3 ⟨rfl, rfl⟩
  refine ⟨fun _ => ⟨fun _ => lw_next (hk M3 L1 hR), fun z => ⟨fun _ => lw_next (hk M3 L1 hR), fun w => absurd ?_ w⟩⟩, fun z => absurd rfl z⟩
  have z0 := Classical.not_not.mp z
  have e2 : L1 (iI 0).toNatClampNeg = x2.toInt64 := e1 z0
  rw [e2]
  exact lg_cmp_self _
theorem lw_c_cell {i : Nat} (hi : i + 2 < Γ.2.2.2.2) (hN : Γ.2.2.2.2 ≤ 1536) (hp : p_cell l Γ d M R) (hk : ∀ M' L', R M' → V l Γ T_law (d + 1) r 23 [.ref 50, .ref 0, .ref 27, .ref 42, .int (iI ((i + 3 : Nat) : Int)), .null, .null] [] (M', L') Q) : V l Γ T_law (d + 1) (r + 1) 463 [.ref 50, .ref 0, .ref 27, .ref 42, .int (iI (i : Int)), .null, .null] [] (M, L) Q := by
  obtain ⟨P1, hv1, h1⟩ := hp L _
  refine s_law_463 _ ⟨(by rw [iI_add]; exact iI_in (by omega) (by omega) (by omega)), P1, hv1, fun x1 M1 L1 q1 => ?_⟩
  obtain ⟨P2, hv2, h2⟩ := h1 x1 M1 L1 q1
  refine ⟨(by rw [iI_add]; exact iI_in (by omega) (by omega) (by omega)), P2, hv2, fun x2 M2 q2 => ?_⟩
  obtain ⟨e0, e1, hR⟩ := h2 x2 M2 q2
  refine ⟨fun x M' => x = x1 ∧ M' = M2, s_TapedLinesModel_thrown_0 ⟨e0, rfl⟩, ?_⟩
  rintro x3 M3 ⟨rfl, rfl⟩
  refine ⟨fun _ => ⟨fun _ => lw_next (hk M3 L1 hR), fun z => ⟨fun _ => lw_next (hk M3 L1 hR), fun w => absurd ?_ w⟩⟩, fun z => absurd rfl z⟩
  have z0 := Classical.not_not.mp z
  have e2 : L1 (iI 0).toNatClampNeg = x2.toInt64 := e1 z0
  rw [e2]
  exact lg_cmp_self _
theorem lw_c_output {i : Nat} (hi : i + 2 < Γ.2.2.2.2) (hN : Γ.2.2.2.2 ≤ 1536) (hp : p_output l Γ d M R) (hk : ∀ M' L', R M' → V l Γ T_law (d + 1) r 23 [.ref 50, .ref 0, .ref 27, .ref 42, .int (iI ((i + 3 : Nat) : Int)), .null, .null] [] (M', L') Q) : V l Γ T_law (d + 1) r 519 [.ref 50, .ref 0, .ref 27, .ref 42, .int (iI (i : Int)), .null, .null] [] (M, L) Q := by
  obtain ⟨P1, hv1, h1⟩ := hp L
  refine s_law_519 _ ⟨P1, hv1, fun x1 M1 q1 => ?_⟩
  obtain ⟨P2, hv2, h2⟩ := h1 x1 M1 q1
  refine ⟨P2, hv2, fun x2 M2 q2 => ?_⟩
  obtain ⟨e, hR⟩ := h2 x2 M2 q2
  exact ⟨fun _ => lw_next (hk M2 L hR), fun z => absurd e z⟩
theorem lw_c_save {i : Nat} (hi : i + 2 < Γ.2.2.2.2) (hN : Γ.2.2.2.2 ≤ 1536) (hp : p_save l Γ d M R) (hk : ∀ M' L', R M' → V l Γ T_law (d + 1) r 23 [.ref 50, .ref 0, .ref 27, .ref 42, .int (iI ((i + 3 : Nat) : Int)), .null, .null] [] (M', L') Q) : V l Γ T_law (d + 1) r 532 [.ref 50, .ref 0, .ref 27, .ref 42, .int (iI (i : Int)), .null, .null] [] (M, L) Q := by
  obtain ⟨P1, hv1, h1⟩ := hp L
  refine s_law_532 _ ⟨P1, hv1, fun x1 M1 q1 => ?_⟩
  obtain ⟨P2, hv2, h2⟩ := h1 x1 M1 q1
  refine ⟨P2, hv2, fun x2 M2 q2 => ?_⟩
  obtain ⟨e, hR⟩ := h2 x2 M2 q2
  exact ⟨fun _ => lw_next (hk M2 L hR), fun z => absurd e z⟩
theorem lw_c_load {i : Nat} (hi : i + 2 < Γ.2.2.2.2) (hN : Γ.2.2.2.2 ≤ 1536) (hp : p_load l Γ d M R) (hk : ∀ M' L', R M' → V l Γ T_law (d + 1) r 23 [.ref 50, .ref 0, .ref 27, .ref 42, .int (iI ((i + 3 : Nat) : Int)), .null, .null] [] (M', L') Q) : V l Γ T_law (d + 1) r 545 [.ref 50, .ref 0, .ref 27, .ref 42, .int (iI (i : Int)), .null, .null] [] (M, L) Q := by
  obtain ⟨P1, hv1, h1⟩ := hp L
  refine s_law_545 _ ⟨P1, hv1, fun x1 M1 q1 => ?_⟩
  obtain ⟨P2, hv2, h2⟩ := h1 x1 M1 q1
  refine ⟨P2, hv2, fun x2 M2 q2 => ?_⟩
  obtain ⟨e, hR⟩ := h2 x2 M2 q2
  exact ⟨fun _ => lw_next (hk M2 L hR), fun z => absurd e z⟩
theorem lw_c_wobble {i : Nat} (hi : i + 2 < Γ.2.2.2.2) (hN : Γ.2.2.2.2 ≤ 1536) (hp : p_wobble l Γ d M R) (hk : ∀ M' L', R M' → V l Γ T_law (d + 1) r 23 [.ref 50, .ref 0, .ref 27, .ref 42, .int (iI ((i + 3 : Nat) : Int)), .null, .null] [] (M', L') Q) : V l Γ T_law (d + 1) (r + 1) 558 [.ref 50, .ref 0, .ref 27, .ref 42, .int (iI (i : Int)), .null, .null] [] (M, L) Q := by
  obtain ⟨P1, hv1, h1⟩ := hp L _ _
  refine s_law_558 _ ⟨(by rw [iI_add]; exact iI_in (by omega) (by omega) (by omega)), (by rw [iI_add]; exact iI_in (by omega) (by omega) (by omega)), P1, hv1, fun x1 M1 L1 q1 => ?_⟩
  obtain ⟨P2, hv2, h2⟩ := h1 x1 M1 L1 q1
  refine ⟨(by rw [iI_add]; exact iI_in (by omega) (by omega) (by omega)), (by rw [iI_add]; exact iI_in (by omega) (by omega) (by omega)), P2, hv2, fun M2 q2 => ?_⟩
  obtain ⟨e0, hR⟩ := h2 M2 q2
  refine ⟨fun x M' => x = x1 ∧ M' = M2, s_TapedLinesModel_thrown_0 ⟨e0, rfl⟩, ?_⟩
  rintro x3 M3 ⟨rfl, rfl⟩
  exact ⟨fun _ => lw_next (hk M3 L1 hR), fun z => absurd rfl z⟩
theorem lw_c_waves {i : Nat} (hi : i + 2 < Γ.2.2.2.2) (hN : Γ.2.2.2.2 ≤ 1536) (hp : p_waves l Γ d M R) (hk : ∀ M' L', R M' → V l Γ T_law (d + 1) r 23 [.ref 50, .ref 0, .ref 27, .ref 42, .int (iI ((i + 3 : Nat) : Int)), .null, .null] [] (M', L') Q) : V l Γ T_law (d + 1) r 606 [.ref 50, .ref 0, .ref 27, .ref 42, .int (iI (i : Int)), .null, .null] [] (M, L) Q := by
  obtain ⟨P1, hv1, h1⟩ := hp L
  refine s_law_606 _ ⟨P1, hv1, fun x1 M1 q1 => ?_⟩
  obtain ⟨P2, hv2, h2⟩ := h1 x1 M1 q1
  refine ⟨P2, hv2, fun x2 M2 q2 => ?_⟩
  obtain ⟨e, hR⟩ := h2 x2 M2 q2
  exact ⟨fun _ => lw_next (hk M2 L hR), fun z => absurd e z⟩
theorem lw_c_wave {i : Nat} (hi : i + 2 < Γ.2.2.2.2) (hN : Γ.2.2.2.2 ≤ 1536) (hp : p_wave l Γ d M R) (hk : ∀ M' L', R M' → V l Γ T_law (d + 1) r 23 [.ref 50, .ref 0, .ref 27, .ref 42, .int (iI ((i + 3 : Nat) : Int)), .null, .null] [] (M', L') Q) : V l Γ T_law (d + 1) (r + 1) 619 [.ref 50, .ref 0, .ref 27, .ref 42, .int (iI (i : Int)), .null, .null] [] (M, L) Q := by
  obtain ⟨P1, hv1, h1⟩ := hp L _
  refine s_law_619 _ ⟨(by rw [iI_add]; exact iI_in (by omega) (by omega) (by omega)), P1, hv1, fun x1 M1 L1 q1 => ?_⟩
  obtain ⟨P2, hv2, h2⟩ := h1 x1 M1 L1 q1
  refine ⟨(by rw [iI_add]; exact iI_in (by omega) (by omega) (by omega)), P2, hv2, fun x2 M2 q2 => ?_⟩
  obtain ⟨e0, e1, hR⟩ := h2 x2 M2 q2
  refine ⟨fun x M' => x = x1 ∧ M' = M2, s_TapedLinesModel_thrown_0 ⟨e0, rfl⟩, ?_⟩
  rintro x3 M3 ⟨rfl, rfl⟩
  refine ⟨fun _ => ⟨fun _ => lw_next (hk M3 L1 hR), fun z => ⟨fun _ => lw_next (hk M3 L1 hR), fun w => absurd ?_ w⟩⟩, fun z => absurd rfl z⟩
  have z0 := Classical.not_not.mp z
  have e2 : L1 (iI 0).toNatClampNeg = x2.toInt64 := e1 z0
  rw [e2]
  exact lg_cmp_self _
theorem lw_c_setWave {i : Nat} (hi : i + 2 < Γ.2.2.2.2) (hN : Γ.2.2.2.2 ≤ 1536) (hp : p_setWave l Γ d M R) (hk : ∀ M' L', R M' → V l Γ T_law (d + 1) r 23 [.ref 50, .ref 0, .ref 27, .ref 42, .int (iI ((i + 3 : Nat) : Int)), .null, .null] [] (M', L') Q) : V l Γ T_law (d + 1) (r + 1) 675 [.ref 50, .ref 0, .ref 27, .ref 42, .int (iI (i : Int)), .null, .null] [] (M, L) Q := by
  obtain ⟨P1, hv1, h1⟩ := hp L _ _
  refine s_law_675 _ ⟨(by rw [iI_add]; exact iI_in (by omega) (by omega) (by omega)), (by rw [iI_add]; exact iI_in (by omega) (by omega) (by omega)), P1, hv1, fun x1 M1 L1 q1 => ?_⟩
  obtain ⟨P2, hv2, h2⟩ := h1 x1 M1 L1 q1
  refine ⟨(by rw [iI_add]; exact iI_in (by omega) (by omega) (by omega)), (by rw [iI_add]; exact iI_in (by omega) (by omega) (by omega)), P2, hv2, fun x2 M2 q2 => ?_⟩
  obtain ⟨e0, e1, hR⟩ := h2 x2 M2 q2
  refine ⟨fun x M' => x = x1 ∧ M' = M2, s_TapedLinesModel_thrown_0 ⟨e0, rfl⟩, ?_⟩
  rintro x3 M3 ⟨rfl, rfl⟩
  refine ⟨fun _ => ⟨fun _ => lw_next (hk M3 L1 hR), fun z => ⟨fun _ => lw_next (hk M3 L1 hR), fun w => absurd ?_ w⟩⟩, fun z => absurd rfl z⟩
  have z0 := Classical.not_not.mp z
  have e2 : L1 (iI 0).toNatClampNeg = x2.toInt64 := e1 z0
  rw [e2]
  exact lg_cmp_self _
theorem lw_c_length {i : Nat} (hi : i + 2 < Γ.2.2.2.2) (hN : Γ.2.2.2.2 ≤ 1536) (hp : p_length l Γ d M R) (hk : ∀ M' L', R M' → V l Γ T_law (d + 1) r 23 [.ref 50, .ref 0, .ref 27, .ref 42, .int (iI ((i + 3 : Nat) : Int)), .null, .null] [] (M', L') Q) : V l Γ T_law (d + 1) r 743 [.ref 50, .ref 0, .ref 27, .ref 42, .int (iI (i : Int)), .null, .null] [] (M, L) Q := by
  obtain ⟨P1, hv1, h1⟩ := hp L
  refine s_law_743 _ ⟨P1, hv1, fun x1 M1 q1 => ?_⟩
  obtain ⟨P2, hv2, h2⟩ := h1 x1 M1 q1
  refine ⟨P2, hv2, fun x2 M2 q2 => ?_⟩
  obtain ⟨e, hR⟩ := h2 x2 M2 q2
  exact ⟨fun _ => lw_next (hk M2 L hR), fun z => absurd e z⟩
theorem lw_c_charAt {i : Nat} (hi : i + 2 < Γ.2.2.2.2) (hN : Γ.2.2.2.2 ≤ 1536) (hp : p_charAt l Γ d M R) (hk : ∀ M' L', R M' → V l Γ T_law (d + 1) r 23 [.ref 50, .ref 0, .ref 27, .ref 42, .int (iI ((i + 3 : Nat) : Int)), .null, .null] [] (M', L') Q) : V l Γ T_law (d + 1) r 756 [.ref 50, .ref 0, .ref 27, .ref 42, .int (iI (i : Int)), .null, .null] [] (M, L) Q := by
  obtain ⟨P1, hv1, h1⟩ := hp L _
  refine s_law_756 _ ⟨(by rw [iI_add]; exact iI_in (by omega) (by omega) (by omega)), P1, hv1, fun x1 M1 q1 => ?_⟩
  obtain ⟨P2, hv2, h2⟩ := h1 x1 M1 q1
  refine ⟨(by rw [iI_add]; exact iI_in (by omega) (by omega) (by omega)), P2, hv2, fun x2 M2 q2 => ?_⟩
  obtain ⟨e, hR⟩ := h2 x2 M2 q2
  exact ⟨fun _ => lw_next (hk M2 L hR), fun z => absurd e z⟩
theorem lw_exit {i : Nat} (hi : Γ.2.2.2.2 < i + 3) (hN : Γ.2.2.2.2 ≤ 1536) (hi2 : i ≤ 2000) (hQ : Q (.inl (some (.int (iI 1)))) (M, L)) : V l Γ T_law (d + 1) r 23 [.ref 50, .ref 0, .ref 27, .ref 42, .int (iI (i : Int)), .null, .null] [] (M, L) Q := by
  refine s_law_23 _ ⟨fun _ => hQ, fun z => absurd ?_ z⟩
  rw [iI_nI, iI_sub, iI_lt (by omega) (by omega) (by omega) (by omega)]
  omega
set_option maxRecDepth 100000 in
theorem lw_iter {i : Nat} (hi : i + 2 < Γ.2.2.2.2) (hN : Γ.2.2.2.2 ≤ 1536) (hp : allP l Γ d M R) (hk : ∀ M' L', R M' → V l Γ T_law (d + 1) r 23 [.ref 50, .ref 0, .ref 27, .ref 42, .int (iI ((i + 3 : Nat) : Int)), .null, .null] [] (M', L') Q) (hm : R M) : V l Γ T_law (d + 1) (r + 1) 23 [.ref 50, .ref 0, .ref 27, .ref 42, .int (iI (i : Int)), .null, .null] [] (M, L) Q := by
  have hk1 : ∀ M' L', R M' → V l Γ T_law (d + 1) (r + 1) 23 [.ref 50, .ref 0, .ref 27, .ref 42, .int (iI ((i + 3 : Nat) : Int)), .null, .null] [] (M', L') Q := fun M' L' h => (hk M' L' h).more (by omega)
  obtain ⟨h_type, h_wipe, h_enter, h_lines, h_list, h_programByte, h_start, h_run, h_state, h_place, h_variable, h_cell, h_output, h_save, h_load, h_wobble, h_waves, h_wave, h_setWave, h_length, h_charAt⟩ := hp
  refine s_law_23 _ ⟨fun z => ?_, fun _ => ⟨iI_in (by omega) (by omega) (by omega), ?_⟩⟩
  · rw [iI_nI, iI_sub, iI_lt (by omega) (by omega) (by omega) (by omega)] at z
    omega
  exact ⟨fun _ => lw_c_type hi hN h_type hk1, fun _ => ⟨fun _ => lw_c_wipe hi hN h_wipe hk1, fun _ => ⟨fun _ => lw_c_enter hi hN h_enter hk1, fun _ => ⟨fun _ => lw_c_lines hi hN h_lines hk1, fun _ => ⟨fun _ => lw_c_list hi hN h_list hk, fun _ => ⟨fun _ => lw_c_programByte hi hN h_programByte hk, fun _ => ⟨fun _ => lw_c_start hi hN h_start hk1, fun _ => ⟨fun _ => lw_c_run hi hN h_run hk, fun _ => ⟨fun _ => lw_c_state hi hN h_state hk1, fun _ => ⟨fun _ => lw_c_place hi hN h_place hk1, fun _ => ⟨fun _ => lw_c_variable hi hN h_variable hk, fun _ => ⟨fun _ => lw_c_cell hi hN h_cell hk, fun _ => ⟨fun _ => lw_c_output hi hN h_output hk1, fun _ => ⟨fun _ => lw_c_save hi hN h_save hk1, fun _ => ⟨fun _ => lw_c_load hi hN h_load hk1, fun _ => ⟨fun _ => lw_c_wobble hi hN h_wobble hk, fun _ => ⟨fun _ => lw_c_waves hi hN h_waves hk1, fun _ => ⟨fun _ => lw_c_wave hi hN h_wave hk, fun _ => ⟨fun _ => lw_c_setWave hi hN h_setWave hk, fun _ => ⟨fun _ => lw_c_length hi hN h_length hk1, fun _ => ⟨fun _ => lw_c_charAt hi hN h_charAt hk1, fun _ => lw_next (hk1 M L hm)⟩⟩⟩⟩⟩⟩⟩⟩⟩⟩⟩⟩⟩⟩⟩⟩⟩⟩⟩⟩⟩
theorem lw_loop (hN : Γ.2.2.2.2 ≤ 1536) (hall : ∀ M, R M → allP l Γ d M R) (hQ : ∀ S, Q (.inl (some (.int (iI 1)))) S) : ∀ (n i : Nat) (M : qM) (L : Nat → Int64), i ≤ Γ.2.2.2.2 + 3 → Γ.2.2.2.2 ≤ i + 3 * n → R M → V l Γ T_law (d + 1) n 23 [.ref 50, .ref 0, .ref 27, .ref 42, .int (iI (i : Int)), .null, .null] [] (M, L) Q := by
  intro n
  induction n with
  | zero => intro i M L h1 h2 hm; exact lw_exit (by omega) hN (by omega) (hQ _)
  | succ n ih =>
    intro i M L h1 h2 hm
    by_cases hi : i + 2 < Γ.2.2.2.2
    · exact lw_iter hi hN (hall M hm) (fun M' L' h => ih (i + 3) M' L' (by omega) (by omega) h) hm
    · exact lw_exit (by omega) hN (by omega) (hQ _)
end Loop
