/-! words of copies, and of the call by kind -/
set_option maxRecDepth 100000 in
theorem kc9_40 : zq_ac 9 40 := ⟨zq_tg (List.mem_of_getElem? (i := 351) rfl) rfl, zq_tg (List.mem_of_getElem? (i := 353) rfl) rfl, zq_tg (List.mem_of_getElem? (i := 352) rfl) rfl, zq_tg (List.mem_of_getElem? (i := 15) rfl) rfl⟩
set_option maxRecDepth 100000 in
theorem kc5_46 : zq_ac 5 46 := ⟨zq_tg (List.mem_of_getElem? (i := 358) rfl) rfl, zq_tg (List.mem_of_getElem? (i := 353) rfl) rfl, zq_tg (List.mem_of_getElem? (i := 352) rfl) rfl, zq_tg (List.mem_of_getElem? (i := 15) rfl) rfl⟩
set_option maxRecDepth 100000 in
theorem kd11_233 : Cond.methodLink (zq_cn 11) 233 mX6_worth.2.1 ∈ zq_g ∧ Cond.sameMethod mX6_worth.2.1.cls mX6_worth.2.1.cls mX6_worth.2.1.name mX6_worth.2.1.desc ∈ zq_g ∧ Cond.instanceMethod mX6_worth.2.1 ∈ zq_g ∧ zq_cw mX6_worth ∈ zq_g ∧ (mX6_worth.2.1.cls ≠ "java/lang/invoke/MethodHandle" ∧ mX6_worth.2.1.cls ≠ "java/lang/invoke/VarHandle" ∧ (parseMethodDescriptor mX6_worth.2.1.desc).map (fun d => d.parameters.length) = some 1) := ⟨zq_tg (List.mem_of_getElem? (i := 621) rfl) rfl, zq_tg (List.mem_of_getElem? (i := 624) rfl) rfl, zq_tg (List.mem_of_getElem? (i := 622) rfl) rfl, wX6_worth, by decide +kernel⟩
set_option maxRecDepth 100000 in
theorem kd_Plain : Cond.selects "SquareLate$Plain" mX6_worth.2.1 mX6_worth.2.1 ∈ zq_g ∧ Cond.instanceMethod mX6_worth.2.1 ∈ zq_g ∧ Cond.initialized mX6_worth.2.1.cls ∈ zq_g ∧ zq_cw mX6_worth ∈ zq_g := ⟨zq_tg (List.mem_of_getElem? (i := 623) rfl) rfl, zq_tg (List.mem_of_getElem? (i := 622) rfl) rfl, zq_tg (List.mem_of_getElem? (i := 7) rfl) rfl, wX6_worth⟩
set_option maxRecDepth 100000 in
theorem kd_Posed : Cond.selects "SquareLate$Posed" mX6_worth.2.1 mX7_worth.2.1 ∈ zq_g ∧ Cond.instanceMethod mX7_worth.2.1 ∈ zq_g ∧ Cond.initialized mX7_worth.2.1.cls ∈ zq_g ∧ zq_cw mX7_worth ∈ zq_g := ⟨zq_tg (List.mem_of_getElem? (i := 650) rfl) rfl, zq_tg (List.mem_of_getElem? (i := 645) rfl) rfl, zq_tg (List.mem_of_getElem? (i := 8) rfl) rfl, wX7_worth⟩
set_option maxRecDepth 100000 in
theorem kd_Hidden : Cond.selects "SquareLate$Hidden" mX6_worth.2.1 mX3_worth.2.1 ∈ zq_g ∧ Cond.instanceMethod mX3_worth.2.1 ∈ zq_g ∧ Cond.initialized mX3_worth.2.1.cls ∈ zq_g ∧ zq_cw mX3_worth ∈ zq_g := ⟨zq_tg (List.mem_of_getElem? (i := 639) rfl) rfl, zq_tg (List.mem_of_getElem? (i := 630) rfl) rfl, zq_tg (List.mem_of_getElem? (i := 9) rfl) rfl, wX3_worth⟩
set_option maxRecDepth 100000 in
theorem kd_Lawful : Cond.selects "SquareLate$Lawful" mX6_worth.2.1 mX4_worth.2.1 ∈ zq_g ∧ Cond.instanceMethod mX4_worth.2.1 ∈ zq_g ∧ Cond.initialized mX4_worth.2.1.cls ∈ zq_g ∧ zq_cw mX4_worth ∈ zq_g := ⟨zq_tg (List.mem_of_getElem? (i := 640) rfl) rfl, zq_tg (List.mem_of_getElem? (i := 641) rfl) rfl, zq_tg (List.mem_of_getElem? (i := 10) rfl) rfl, wX4_worth⟩
set_option maxRecDepth 100000 in
theorem kd_Clouded : Cond.selects "SquareLate$Clouded" mX6_worth.2.1 mX2_worth.2.1 ∈ zq_g ∧ Cond.instanceMethod mX2_worth.2.1 ∈ zq_g ∧ Cond.initialized mX2_worth.2.1.cls ∈ zq_g ∧ zq_cw mX2_worth ∈ zq_g := ⟨zq_tg (List.mem_of_getElem? (i := 625) rfl) rfl, zq_tg (List.mem_of_getElem? (i := 626) rfl) rfl, zq_tg (List.mem_of_getElem? (i := 11) rfl) rfl, wX2_worth⟩
set_option maxRecDepth 100000 in
theorem kd_Twice : Cond.selects "SquareLate$Twice" mX6_worth.2.1 mX10_worth.2.1 ∈ zq_g ∧ Cond.instanceMethod mX10_worth.2.1 ∈ zq_g ∧ Cond.initialized mX10_worth.2.1.cls ∈ zq_g ∧ zq_cw mX10_worth ∈ zq_g := ⟨zq_tg (List.mem_of_getElem? (i := 651) rfl) rfl, zq_tg (List.mem_of_getElem? (i := 652) rfl) rfl, zq_tg (List.mem_of_getElem? (i := 12) rfl) rfl, wX10_worth⟩
