def q_nms : List String := ["java/lang/RuntimeException", "java/lang/Exception"]
theorem q_nms_fit : ∀ n ∈ q_nms, Bundle.fit n = true := by decide +kernel
theorem q_ex0 : (Bundle.ownAtoms0 "TapedLines" 94 (q_exn 0) q_nms).all q_exw = true := by decide +kernel
theorem q_ex1 : (Bundle.ownAtoms0 "TapedLines" 108 (q_exn 1) q_nms).all q_exw = true := by decide +kernel
theorem q_ex2 : (Bundle.ownAtoms0 "TapedLines" 111 (q_exn 2) q_nms).all q_exw = true := by decide +kernel
theorem q_exc : (q_in (Cond.classLink "TapedLines" 92 (q_exn 0)) && q_in (Cond.classLink "TapedLines" 106 (q_exn 1)) && q_in (Cond.classLink "TapedLines" 109 (q_exn 2))) = true := by decide +kernel
theorem q_exi : (List.range 3).all (fun ec => q_in (Cond.instantiable (q_exn ec) 6) && q_in (Cond.initialized (q_exn ec)) && Bundle.fit (q_exn ec)) = true := by decide +kernel
