/-! the words of the constructors -/
set_option maxRecDepth 100000 in
theorem zk_oi : Cond.instanceMethod objectInit ∈ zq_g ∧ Cond.code objectInit ⟨#[0xb1]⟩ 1 none ∈ zq_g := ⟨zq_tg (List.mem_of_getElem? (i := 23) rfl) rfl, zq_tg (List.mem_of_getElem? (i := 24) rfl) rfl⟩
set_option maxRecDepth 100000 in
theorem zk_wi : Cond.arrayClass .int ∈ zq_g := zq_tg (List.mem_of_getElem? (i := 78) rfl) rfl
set_option maxRecDepth 100000 in
theorem zk_wz : Cond.arrayClass .boolean ∈ zq_g := zq_tg (List.mem_of_getElem? (i := 164) rfl) rfl
set_option maxRecDepth 100000 in
theorem zo11_1 : Cond.methodLink (zq_cn 11) 1 objectInit ∈ zq_g := zq_tg (List.mem_of_getElem? (i := 22) rfl) rfl
set_option maxRecDepth 100000 in
theorem zi11_15 : zq_cvN 11 15 mX9_init 0 ∧ mX9_init.2.1.name = "<init>" ∧ mX9_init.2.2.2.2 = none ∧ Cond.instanceMethod mX9_init.2.1 ∈ zq_g := ⟨⟨List.mem_filter.mpr ⟨List.mem_append_right _ (List.mem_of_getElem? (i := 27) rfl), rfl⟩, zq_tg (List.mem_of_getElem? (i := 2) rfl) rfl, wX9_init, by decide +kernel⟩, rfl, rfl, zq_tg (List.mem_of_getElem? (i := 28) rfl) rfl⟩
set_option maxRecDepth 100000 in
theorem zo9_3 : Cond.methodLink (zq_cn 9) 3 objectInit ∈ zq_g := zq_tg (List.mem_of_getElem? (i := 30) rfl) rfl
set_option maxRecDepth 100000 in
theorem zi11_25 : zq_cv 11 25 mX8_init 2 ∧ mX8_init.2.1.name = "<init>" ∧ mX8_init.2.2.2.2 = none ∧ Cond.instanceMethod mX8_init.2.1 ∈ zq_g := ⟨⟨zq_tg (List.mem_of_getElem? (i := 81) rfl) rfl, zq_tg (List.mem_of_getElem? (i := 3) rfl) rfl, wX8_init, by decide +kernel⟩, rfl, rfl, zq_tg (List.mem_of_getElem? (i := 82) rfl) rfl⟩
set_option maxRecDepth 100000 in
theorem zo8_3 : Cond.methodLink (zq_cn 8) 3 objectInit ∈ zq_g := zq_tg (List.mem_of_getElem? (i := 84) rfl) rfl
set_option maxRecDepth 100000 in
theorem zi11_34 : zq_cv 11 34 mX5_init 1 ∧ mX5_init.2.1.name = "<init>" ∧ mX5_init.2.2.2.2 = none ∧ Cond.instanceMethod mX5_init.2.1 ∈ zq_g := ⟨⟨zq_tg (List.mem_of_getElem? (i := 112) rfl) rfl, zq_tg (List.mem_of_getElem? (i := 4) rfl) rfl, wX5_init, by decide +kernel⟩, rfl, rfl, zq_tg (List.mem_of_getElem? (i := 113) rfl) rfl⟩
set_option maxRecDepth 100000 in
theorem zo5_3 : Cond.methodLink (zq_cn 5) 3 objectInit ∈ zq_g := zq_tg (List.mem_of_getElem? (i := 115) rfl) rfl
set_option maxRecDepth 100000 in
theorem zi11_51 : zq_cv 11 51 mX1_init 2 ∧ mX1_init.2.1.name = "<init>" ∧ mX1_init.2.2.2.2 = none ∧ Cond.instanceMethod mX1_init.2.1 ∈ zq_g := ⟨⟨zq_tg (List.mem_of_getElem? (i := 153) rfl) rfl, zq_tg (List.mem_of_getElem? (i := 5) rfl) rfl, wX1_init, by decide +kernel⟩, rfl, rfl, zq_tg (List.mem_of_getElem? (i := 154) rfl) rfl⟩
set_option maxRecDepth 100000 in
theorem zo1_3 : Cond.methodLink (zq_cn 1) 3 objectInit ∈ zq_g := zq_tg (List.mem_of_getElem? (i := 156) rfl) rfl
set_option maxRecDepth 100000 in
theorem zi11_60 : zq_cv 11 60 mX0_init 2 ∧ mX0_init.2.1.name = "<init>" ∧ mX0_init.2.2.2.2 = none ∧ Cond.instanceMethod mX0_init.2.1 ∈ zq_g := ⟨⟨zq_tg (List.mem_of_getElem? (i := 167) rfl) rfl, zq_tg (List.mem_of_getElem? (i := 6) rfl) rfl, wX0_init, by decide +kernel⟩, rfl, rfl, zq_tg (List.mem_of_getElem? (i := 168) rfl) rfl⟩
set_option maxRecDepth 100000 in
theorem zo0_1 : Cond.methodLink (zq_cn 0) 1 objectInit ∈ zq_g := zq_tg (List.mem_of_getElem? (i := 170) rfl) rfl
set_option maxRecDepth 100000 in
theorem zi11_67 : zq_cvN 11 67 mX6_init 0 ∧ mX6_init.2.1.name = "<init>" ∧ mX6_init.2.2.2.2 = none ∧ Cond.instanceMethod mX6_init.2.1 ∈ zq_g := ⟨⟨List.mem_filter.mpr ⟨List.mem_append_right _ (List.mem_of_getElem? (i := 197) rfl), rfl⟩, zq_tg (List.mem_of_getElem? (i := 7) rfl) rfl, wX6_init, by decide +kernel⟩, rfl, rfl, zq_tg (List.mem_of_getElem? (i := 198) rfl) rfl⟩
set_option maxRecDepth 100000 in
theorem zo6_3 : Cond.methodLink (zq_cn 6) 3 objectInit ∈ zq_g := zq_tg (List.mem_of_getElem? (i := 200) rfl) rfl
set_option maxRecDepth 100000 in
theorem zi11_70 : zq_cvN 11 70 mX7_init 0 ∧ mX7_init.2.1.name = "<init>" ∧ mX7_init.2.2.2.2 = none ∧ Cond.instanceMethod mX7_init.2.1 ∈ zq_g := ⟨⟨List.mem_filter.mpr ⟨List.mem_append_right _ (List.mem_of_getElem? (i := 204) rfl), rfl⟩, zq_tg (List.mem_of_getElem? (i := 8) rfl) rfl, wX7_init, by decide +kernel⟩, rfl, rfl, zq_tg (List.mem_of_getElem? (i := 205) rfl) rfl⟩
set_option maxRecDepth 100000 in
theorem zi7_3 : zq_cvN 7 3 mX6_init 0 ∧ mX6_init.2.1.name = "<init>" ∧ mX6_init.2.2.2.2 = none ∧ Cond.instanceMethod mX6_init.2.1 ∈ zq_g := ⟨⟨List.mem_filter.mpr ⟨List.mem_append_right _ (List.mem_of_getElem? (i := 207) rfl), rfl⟩, zq_tg (List.mem_of_getElem? (i := 7) rfl) rfl, wX6_init, by decide +kernel⟩, rfl, rfl, zq_tg (List.mem_of_getElem? (i := 198) rfl) rfl⟩
set_option maxRecDepth 100000 in
theorem zi11_73 : zq_cvN 11 73 mX3_init 0 ∧ mX3_init.2.1.name = "<init>" ∧ mX3_init.2.2.2.2 = none ∧ Cond.instanceMethod mX3_init.2.1 ∈ zq_g := ⟨⟨List.mem_filter.mpr ⟨List.mem_append_right _ (List.mem_of_getElem? (i := 211) rfl), rfl⟩, zq_tg (List.mem_of_getElem? (i := 9) rfl) rfl, wX3_init, by decide +kernel⟩, rfl, rfl, zq_tg (List.mem_of_getElem? (i := 212) rfl) rfl⟩
set_option maxRecDepth 100000 in
theorem zi3_3 : zq_cvN 3 3 mX6_init 0 ∧ mX6_init.2.1.name = "<init>" ∧ mX6_init.2.2.2.2 = none ∧ Cond.instanceMethod mX6_init.2.1 ∈ zq_g := ⟨⟨List.mem_filter.mpr ⟨List.mem_append_right _ (List.mem_of_getElem? (i := 214) rfl), rfl⟩, zq_tg (List.mem_of_getElem? (i := 7) rfl) rfl, wX6_init, by decide +kernel⟩, rfl, rfl, zq_tg (List.mem_of_getElem? (i := 198) rfl) rfl⟩
set_option maxRecDepth 100000 in
theorem zi11_76 : zq_cvN 11 76 mX4_init 0 ∧ mX4_init.2.1.name = "<init>" ∧ mX4_init.2.2.2.2 = none ∧ Cond.instanceMethod mX4_init.2.1 ∈ zq_g := ⟨⟨List.mem_filter.mpr ⟨List.mem_append_right _ (List.mem_of_getElem? (i := 218) rfl), rfl⟩, zq_tg (List.mem_of_getElem? (i := 10) rfl) rfl, wX4_init, by decide +kernel⟩, rfl, rfl, zq_tg (List.mem_of_getElem? (i := 219) rfl) rfl⟩
set_option maxRecDepth 100000 in
theorem zi4_1 : zq_cvN 4 1 mX7_init 0 ∧ mX7_init.2.1.name = "<init>" ∧ mX7_init.2.2.2.2 = none ∧ Cond.instanceMethod mX7_init.2.1 ∈ zq_g := ⟨⟨List.mem_filter.mpr ⟨List.mem_append_right _ (List.mem_of_getElem? (i := 221) rfl), rfl⟩, zq_tg (List.mem_of_getElem? (i := 8) rfl) rfl, wX7_init, by decide +kernel⟩, rfl, rfl, zq_tg (List.mem_of_getElem? (i := 205) rfl) rfl⟩
set_option maxRecDepth 100000 in
theorem zi11_79 : zq_cvN 11 79 mX2_init 0 ∧ mX2_init.2.1.name = "<init>" ∧ mX2_init.2.2.2.2 = none ∧ Cond.instanceMethod mX2_init.2.1 ∈ zq_g := ⟨⟨List.mem_filter.mpr ⟨List.mem_append_right _ (List.mem_of_getElem? (i := 225) rfl), rfl⟩, zq_tg (List.mem_of_getElem? (i := 11) rfl) rfl, wX2_init, by decide +kernel⟩, rfl, rfl, zq_tg (List.mem_of_getElem? (i := 226) rfl) rfl⟩
set_option maxRecDepth 100000 in
theorem zi2_1 : zq_cvN 2 1 mX3_init 0 ∧ mX3_init.2.1.name = "<init>" ∧ mX3_init.2.2.2.2 = none ∧ Cond.instanceMethod mX3_init.2.1 ∈ zq_g := ⟨⟨List.mem_filter.mpr ⟨List.mem_append_right _ (List.mem_of_getElem? (i := 228) rfl), rfl⟩, zq_tg (List.mem_of_getElem? (i := 9) rfl) rfl, wX3_init, by decide +kernel⟩, rfl, rfl, zq_tg (List.mem_of_getElem? (i := 212) rfl) rfl⟩
set_option maxRecDepth 100000 in
theorem zi11_82 : zq_cvN 11 82 mX10_init 0 ∧ mX10_init.2.1.name = "<init>" ∧ mX10_init.2.2.2.2 = none ∧ Cond.instanceMethod mX10_init.2.1 ∈ zq_g := ⟨⟨List.mem_filter.mpr ⟨List.mem_append_right _ (List.mem_of_getElem? (i := 232) rfl), rfl⟩, zq_tg (List.mem_of_getElem? (i := 12) rfl) rfl, wX10_init, by decide +kernel⟩, rfl, rfl, zq_tg (List.mem_of_getElem? (i := 233) rfl) rfl⟩
set_option maxRecDepth 100000 in
theorem zi10_3 : zq_cvN 10 3 mX6_init 0 ∧ mX6_init.2.1.name = "<init>" ∧ mX6_init.2.2.2.2 = none ∧ Cond.instanceMethod mX6_init.2.1 ∈ zq_g := ⟨⟨List.mem_filter.mpr ⟨List.mem_append_right _ (List.mem_of_getElem? (i := 235) rfl), rfl⟩, zq_tg (List.mem_of_getElem? (i := 7) rfl) rfl, wX6_init, by decide +kernel⟩, rfl, rfl, zq_tg (List.mem_of_getElem? (i := 198) rfl) rfl⟩
set_option maxRecDepth 100000 in
theorem zo12_1 : Cond.methodLink (zq_cn 12) 1 objectInit ∈ zq_g := zq_tg (List.mem_of_getElem? (i := 689) rfl) rfl
set_option maxRecDepth 100000 in
theorem zn11_13 : Cond.classLink (zq_cn 11) 13 RX9 ∈ zq_g ∧ Cond.instantiable RX9 9 ∈ zq_g ∧ Cond.initialized RX9 ∈ zq_g := ⟨zq_tg (List.mem_of_getElem? (i := 25) rfl) rfl, zq_tg (List.mem_of_getElem? (i := 26) rfl) rfl, zq_tg (List.mem_of_getElem? (i := 2) rfl) rfl⟩
set_option maxRecDepth 100000 in
theorem zn11_23 : Cond.classLink (zq_cn 11) 23 RX8 ∈ zq_g ∧ Cond.instantiable RX8 8 ∈ zq_g ∧ Cond.initialized RX8 ∈ zq_g := ⟨zq_tg (List.mem_of_getElem? (i := 79) rfl) rfl, zq_tg (List.mem_of_getElem? (i := 80) rfl) rfl, zq_tg (List.mem_of_getElem? (i := 3) rfl) rfl⟩
set_option maxRecDepth 100000 in
theorem zn11_32 : Cond.classLink (zq_cn 11) 32 RX5 ∈ zq_g ∧ Cond.instantiable RX5 9 ∈ zq_g ∧ Cond.initialized RX5 ∈ zq_g := ⟨zq_tg (List.mem_of_getElem? (i := 110) rfl) rfl, zq_tg (List.mem_of_getElem? (i := 111) rfl) rfl, zq_tg (List.mem_of_getElem? (i := 4) rfl) rfl⟩
set_option maxRecDepth 100000 in
theorem zn11_49 : Cond.classLink (zq_cn 11) 49 RX1 ∈ zq_g ∧ Cond.instantiable RX1 2 ∈ zq_g ∧ Cond.initialized RX1 ∈ zq_g := ⟨zq_tg (List.mem_of_getElem? (i := 151) rfl) rfl, zq_tg (List.mem_of_getElem? (i := 152) rfl) rfl, zq_tg (List.mem_of_getElem? (i := 5) rfl) rfl⟩
set_option maxRecDepth 100000 in
theorem zn11_58 : Cond.classLink (zq_cn 11) 58 RX0 ∈ zq_g ∧ Cond.instantiable RX0 4 ∈ zq_g ∧ Cond.initialized RX0 ∈ zq_g := ⟨zq_tg (List.mem_of_getElem? (i := 165) rfl) rfl, zq_tg (List.mem_of_getElem? (i := 166) rfl) rfl, zq_tg (List.mem_of_getElem? (i := 6) rfl) rfl⟩
set_option maxRecDepth 100000 in
theorem zn11_65 : Cond.classLink (zq_cn 11) 65 RX6 ∈ zq_g ∧ Cond.instantiable RX6 0 ∈ zq_g ∧ Cond.initialized RX6 ∈ zq_g := ⟨zq_tg (List.mem_of_getElem? (i := 194) rfl) rfl, zq_tg (List.mem_of_getElem? (i := 196) rfl) rfl, zq_tg (List.mem_of_getElem? (i := 7) rfl) rfl⟩
set_option maxRecDepth 100000 in
theorem zn11_68 : Cond.classLink (zq_cn 11) 68 RX7 ∈ zq_g ∧ Cond.instantiable RX7 0 ∈ zq_g ∧ Cond.initialized RX7 ∈ zq_g := ⟨zq_tg (List.mem_of_getElem? (i := 202) rfl) rfl, zq_tg (List.mem_of_getElem? (i := 203) rfl) rfl, zq_tg (List.mem_of_getElem? (i := 8) rfl) rfl⟩
set_option maxRecDepth 100000 in
theorem zn11_71 : Cond.classLink (zq_cn 11) 71 RX3 ∈ zq_g ∧ Cond.instantiable RX3 0 ∈ zq_g ∧ Cond.initialized RX3 ∈ zq_g := ⟨zq_tg (List.mem_of_getElem? (i := 209) rfl) rfl, zq_tg (List.mem_of_getElem? (i := 210) rfl) rfl, zq_tg (List.mem_of_getElem? (i := 9) rfl) rfl⟩
set_option maxRecDepth 100000 in
theorem zn11_74 : Cond.classLink (zq_cn 11) 74 RX4 ∈ zq_g ∧ Cond.instantiable RX4 0 ∈ zq_g ∧ Cond.initialized RX4 ∈ zq_g := ⟨zq_tg (List.mem_of_getElem? (i := 216) rfl) rfl, zq_tg (List.mem_of_getElem? (i := 217) rfl) rfl, zq_tg (List.mem_of_getElem? (i := 10) rfl) rfl⟩
set_option maxRecDepth 100000 in
theorem zn11_77 : Cond.classLink (zq_cn 11) 77 RX2 ∈ zq_g ∧ Cond.instantiable RX2 0 ∈ zq_g ∧ Cond.initialized RX2 ∈ zq_g := ⟨zq_tg (List.mem_of_getElem? (i := 223) rfl) rfl, zq_tg (List.mem_of_getElem? (i := 224) rfl) rfl, zq_tg (List.mem_of_getElem? (i := 11) rfl) rfl⟩
set_option maxRecDepth 100000 in
theorem zn11_80 : Cond.classLink (zq_cn 11) 80 RX10 ∈ zq_g ∧ Cond.instantiable RX10 0 ∈ zq_g ∧ Cond.initialized RX10 ∈ zq_g := ⟨zq_tg (List.mem_of_getElem? (i := 230) rfl) rfl, zq_tg (List.mem_of_getElem? (i := 231) rfl) rfl, zq_tg (List.mem_of_getElem? (i := 12) rfl) rfl⟩
