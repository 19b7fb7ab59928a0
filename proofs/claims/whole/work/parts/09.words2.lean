theorem wu_X0_95 : (∀ w ∈ va_wsU RX0 95 (RX3, TX3, 13).1 "SalePart$Told" ⟨"SalePart$Fact", "isKnownOn", "(I)Z"⟩ yX9_isKnownOn (wsY yX9_isKnownOn cX9_isKnownOn 2 (some .boolean)), w ∈ BW) ∧ yX9_isKnownOn = ⟨"SalePart$Told", "isKnownOn", "(I)Z"⟩ ∧ "SalePart$Told" ≠ "java/lang/invoke/MethodHandle" ∧ "SalePart$Told" ≠ "java/lang/invoke/VarHandle" ∧ (parseMethodDescriptor "(I)Z").map (fun d => d.parameters.length) = some 1 := by
  refine ⟨fun w hw => ?_, rfl, by decide +kernel, by decide +kernel, by decide +kernel⟩
  rcases List.mem_append.mp (show w ∈ ([.methodLink RX0 95 ⟨"SalePart$Fact", "isKnownOn", "(I)Z"⟩, .sameMethod "SalePart$Fact" "SalePart$Told" "isKnownOn" "(I)Z", .selects RX3 ⟨"SalePart$Fact", "isKnownOn", "(I)Z"⟩ yX9_isKnownOn, .instanceMethod yX9_isKnownOn, .initialized RX9] : List Cond) ++ wsY yX9_isKnownOn cX9_isKnownOn 2 (some .boolean) from hw) with h | h
  · simp only [List.mem_cons, List.not_mem_nil, or_false] at h
    rcases h with rfl | rfl | rfl | rfl | rfl
    · exact (bw (t_5 _ (List.mem_of_getElem? (i := 91) rfl)) rfl)
    · exact (bw (t_4 _ (List.mem_of_getElem? (i := 32) rfl)) rfl)
    · exact (bw (t_4 _ (List.mem_of_getElem? (i := 34) rfl)) rfl)
    · exact (bw (t_4 _ (List.mem_of_getElem? (i := 35) rfl)) rfl)
    · exact (bw (t_1 _ (List.mem_of_getElem? (i := 7) rfl)) rfl)
  · rcases List.mem_cons.mp h with rfl | h
    · exact ml_X9_isKnownOn.1
    · exact h
theorem wu_X1_110 : (∀ w ∈ va_wsU RX1 110 (RX3, TX3, 13).1 "SalePart$Told" ⟨"SalePart$Fact", "isKnownOn", "(I)Z"⟩ yX9_isKnownOn (wsY yX9_isKnownOn cX9_isKnownOn 2 (some .boolean)), w ∈ BW) ∧ yX9_isKnownOn = ⟨"SalePart$Told", "isKnownOn", "(I)Z"⟩ ∧ "SalePart$Told" ≠ "java/lang/invoke/MethodHandle" ∧ "SalePart$Told" ≠ "java/lang/invoke/VarHandle" ∧ (parseMethodDescriptor "(I)Z").map (fun d => d.parameters.length) = some 1 := by
  refine ⟨fun w hw => ?_, rfl, by decide +kernel, by decide +kernel, by decide +kernel⟩
  rcases List.mem_append.mp (show w ∈ ([.methodLink RX1 110 ⟨"SalePart$Fact", "isKnownOn", "(I)Z"⟩, .sameMethod "SalePart$Fact" "SalePart$Told" "isKnownOn" "(I)Z", .selects RX3 ⟨"SalePart$Fact", "isKnownOn", "(I)Z"⟩ yX9_isKnownOn, .instanceMethod yX9_isKnownOn, .initialized RX9] : List Cond) ++ wsY yX9_isKnownOn cX9_isKnownOn 2 (some .boolean) from hw) with h | h
  · simp only [List.mem_cons, List.not_mem_nil, or_false] at h
    rcases h with rfl | rfl | rfl | rfl | rfl
    · exact (bw (t_4 _ (List.mem_of_getElem? (i := 31) rfl)) rfl)
    · exact (bw (t_4 _ (List.mem_of_getElem? (i := 32) rfl)) rfl)
    · exact (bw (t_4 _ (List.mem_of_getElem? (i := 34) rfl)) rfl)
    · exact (bw (t_4 _ (List.mem_of_getElem? (i := 35) rfl)) rfl)
    · exact (bw (t_1 _ (List.mem_of_getElem? (i := 7) rfl)) rfl)
  · rcases List.mem_cons.mp h with rfl | h
    · exact ml_X9_isKnownOn.1
    · exact h
theorem wu_X1_146 : (∀ w ∈ va_wsU RX1 146 (RX4, TX4, 16).1 "SalePart$Told" ⟨"SalePart$Law", "isKnownOn", "(I)Z"⟩ yX9_isKnownOn (wsY yX9_isKnownOn cX9_isKnownOn 2 (some .boolean)), w ∈ BW) ∧ yX9_isKnownOn = ⟨"SalePart$Told", "isKnownOn", "(I)Z"⟩ ∧ "SalePart$Told" ≠ "java/lang/invoke/MethodHandle" ∧ "SalePart$Told" ≠ "java/lang/invoke/VarHandle" ∧ (parseMethodDescriptor "(I)Z").map (fun d => d.parameters.length) = some 1 := by
  refine ⟨fun w hw => ?_, rfl, by decide +kernel, by decide +kernel, by decide +kernel⟩
  rcases List.mem_append.mp (show w ∈ ([.methodLink RX1 146 ⟨"SalePart$Law", "isKnownOn", "(I)Z"⟩, .sameMethod "SalePart$Law" "SalePart$Told" "isKnownOn" "(I)Z", .selects RX4 ⟨"SalePart$Law", "isKnownOn", "(I)Z"⟩ yX9_isKnownOn, .instanceMethod yX9_isKnownOn, .initialized RX9] : List Cond) ++ wsY yX9_isKnownOn cX9_isKnownOn 2 (some .boolean) from hw) with h | h
  · simp only [List.mem_cons, List.not_mem_nil, or_false] at h
    rcases h with rfl | rfl | rfl | rfl | rfl
    · exact (bw (t_5 _ (List.mem_of_getElem? (i := 129) rfl)) rfl)
    · exact (bw (t_5 _ (List.mem_of_getElem? (i := 130) rfl)) rfl)
    · exact (bw (t_5 _ (List.mem_of_getElem? (i := 131) rfl)) rfl)
    · exact (bw (t_4 _ (List.mem_of_getElem? (i := 35) rfl)) rfl)
    · exact (bw (t_1 _ (List.mem_of_getElem? (i := 7) rfl)) rfl)
  · rcases List.mem_cons.mp h with rfl | h
    · exact ml_X9_isKnownOn.1
    · exact h
theorem wu_X11_261 : (∀ w ∈ va_wsU RX11 261 (RX3, TX3, 13).1 "SalePart$Told" ⟨"SalePart$Fact", "isKnownOn", "(I)Z"⟩ yX9_isKnownOn (wsY yX9_isKnownOn cX9_isKnownOn 2 (some .boolean)), w ∈ BW) ∧ yX9_isKnownOn = ⟨"SalePart$Told", "isKnownOn", "(I)Z"⟩ ∧ "SalePart$Told" ≠ "java/lang/invoke/MethodHandle" ∧ "SalePart$Told" ≠ "java/lang/invoke/VarHandle" ∧ (parseMethodDescriptor "(I)Z").map (fun d => d.parameters.length) = some 1 := by
  refine ⟨fun w hw => ?_, rfl, by decide +kernel, by decide +kernel, by decide +kernel⟩
  rcases List.mem_append.mp (show w ∈ ([.methodLink RX11 261 ⟨"SalePart$Fact", "isKnownOn", "(I)Z"⟩, .sameMethod "SalePart$Fact" "SalePart$Told" "isKnownOn" "(I)Z", .selects RX3 ⟨"SalePart$Fact", "isKnownOn", "(I)Z"⟩ yX9_isKnownOn, .instanceMethod yX9_isKnownOn, .initialized RX9] : List Cond) ++ wsY yX9_isKnownOn cX9_isKnownOn 2 (some .boolean) from hw) with h | h
  · simp only [List.mem_cons, List.not_mem_nil, or_false] at h
    rcases h with rfl | rfl | rfl | rfl | rfl
    · exact (bw (t_5 _ (List.mem_of_getElem? (i := 85) rfl)) rfl)
    · exact (bw (t_4 _ (List.mem_of_getElem? (i := 32) rfl)) rfl)
    · exact (bw (t_4 _ (List.mem_of_getElem? (i := 34) rfl)) rfl)
    · exact (bw (t_4 _ (List.mem_of_getElem? (i := 35) rfl)) rfl)
    · exact (bw (t_1 _ (List.mem_of_getElem? (i := 7) rfl)) rfl)
  · rcases List.mem_cons.mp h with rfl | h
    · exact ml_X9_isKnownOn.1
    · exact h
theorem wu_X2_59 : (∀ w ∈ va_wsU RX2 59 (RX3, TX3, 13).1 "SalePart$Told" ⟨"SalePart$Fact", "isKnownOn", "(I)Z"⟩ yX9_isKnownOn (wsY yX9_isKnownOn cX9_isKnownOn 2 (some .boolean)), w ∈ BW) ∧ yX9_isKnownOn = ⟨"SalePart$Told", "isKnownOn", "(I)Z"⟩ ∧ "SalePart$Told" ≠ "java/lang/invoke/MethodHandle" ∧ "SalePart$Told" ≠ "java/lang/invoke/VarHandle" ∧ (parseMethodDescriptor "(I)Z").map (fun d => d.parameters.length) = some 1 := by
  refine ⟨fun w hw => ?_, rfl, by decide +kernel, by decide +kernel, by decide +kernel⟩
  rcases List.mem_append.mp (show w ∈ ([.methodLink RX2 59 ⟨"SalePart$Fact", "isKnownOn", "(I)Z"⟩, .sameMethod "SalePart$Fact" "SalePart$Told" "isKnownOn" "(I)Z", .selects RX3 ⟨"SalePart$Fact", "isKnownOn", "(I)Z"⟩ yX9_isKnownOn, .instanceMethod yX9_isKnownOn, .initialized RX9] : List Cond) ++ wsY yX9_isKnownOn cX9_isKnownOn 2 (some .boolean) from hw) with h | h
  · simp only [List.mem_cons, List.not_mem_nil, or_false] at h
    rcases h with rfl | rfl | rfl | rfl | rfl
    · exact (bw (t_6 _ (List.mem_of_getElem? (i := 7) rfl)) rfl)
    · exact (bw (t_4 _ (List.mem_of_getElem? (i := 32) rfl)) rfl)
    · exact (bw (t_4 _ (List.mem_of_getElem? (i := 34) rfl)) rfl)
    · exact (bw (t_4 _ (List.mem_of_getElem? (i := 35) rfl)) rfl)
    · exact (bw (t_1 _ (List.mem_of_getElem? (i := 7) rfl)) rfl)
  · rcases List.mem_cons.mp h with rfl | h
    · exact ml_X9_isKnownOn.1
    · exact h
