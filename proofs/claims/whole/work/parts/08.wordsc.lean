theorem dvX0 : ∀ j, j < 6 → defaultValue (tyX0 j) = if fk_ 0 j = 30 then Value.int 0 else Value.null := by decide +kernel
theorem js_i1X0 : Cond.instantiable RX0 6 ∈ js_W := js_in (List.mem_of_getElem? (i := 310) (by decide +kernel)) rfl
theorem js_i2X0 : Cond.initialized RX0 ∈ js_W := js_in (List.mem_of_getElem? (i := 88) (by decide +kernel)) rfl
theorem dvX1 : ∀ j, j < 5 → defaultValue (tyX1 j) = if fk_ 1 j = 30 then Value.int 0 else Value.null := by decide +kernel
theorem js_i1X1 : Cond.instantiable RX1 5 ∈ js_W := js_in (List.mem_of_getElem? (i := 283) (by decide +kernel)) rfl
theorem js_i2X1 : Cond.initialized RX1 ∈ js_W := js_in (List.mem_of_getElem? (i := 87) (by decide +kernel)) rfl
theorem dvX2 : ∀ j, j < 4 → defaultValue (tyX2 j) = if fk_ 2 j = 30 then Value.int 0 else Value.null := by decide +kernel
theorem js_i1X2 : Cond.instantiable RX2 4 ∈ js_W := js_in (List.mem_of_getElem? (i := 339) (by decide +kernel)) rfl
theorem js_i2X2 : Cond.initialized RX2 ∈ js_W := js_in (List.mem_of_getElem? (i := 89) (by decide +kernel)) rfl
theorem dvX3 : ∀ j, j < 8 → defaultValue (tyX3 j) = if fk_ 3 j = 30 then Value.int 0 else Value.null := by decide +kernel
theorem js_i1X3 : Cond.instantiable RX3 8 ∈ js_W := js_in (List.mem_of_getElem? (i := 204) (by decide +kernel)) rfl
theorem js_i2X3 : Cond.initialized RX3 ∈ js_W := js_in (List.mem_of_getElem? (i := 84) (by decide +kernel)) rfl
theorem dvX4 : ∀ j, j < 1 → defaultValue (tyX4 j) = if fk_ 4 j = 30 then Value.int 0 else Value.null := by decide +kernel
theorem js_i1X4 : Cond.instantiable RX4 1 ∈ js_W := js_in (List.mem_of_getElem? (i := 250) (by decide +kernel)) rfl
theorem js_i2X4 : Cond.initialized RX4 ∈ js_W := js_in (List.mem_of_getElem? (i := 86) (by decide +kernel)) rfl
theorem dvX5 : ∀ j, j < 5 → defaultValue (tyX5 j) = if fk_ 5 j = 30 then Value.int 0 else Value.null := by decide +kernel
theorem js_i1X5 : Cond.instantiable RX5 5 ∈ js_W := js_in (List.mem_of_getElem? (i := 244) (by decide +kernel)) rfl
theorem js_i2X5 : Cond.initialized RX5 ∈ js_W := js_in (List.mem_of_getElem? (i := 85) (by decide +kernel)) rfl
theorem dvX6 : ∀ j, j < 6 → defaultValue (tyX6 j) = if fk_ 6 j = 30 then Value.int 0 else Value.null := by decide +kernel
theorem js_i1X6 : Cond.instantiable RX6 6 ∈ js_W := js_in (List.mem_of_getElem? (i := 103) (by decide +kernel)) rfl
theorem js_i2X6 : Cond.initialized RX6 ∈ js_W := js_in (List.mem_of_getElem? (i := 78) (by decide +kernel)) rfl
theorem dvX7 : ∀ j, j < 2 → defaultValue (tyX7 j) = if fk_ 7 j = 30 then Value.int 0 else Value.null := by decide +kernel
theorem js_i1X7 : Cond.instantiable RX7 2 ∈ js_W := js_in (List.mem_of_getElem? (i := 189) (by decide +kernel)) rfl
theorem js_i2X7 : Cond.initialized RX7 ∈ js_W := js_in (List.mem_of_getElem? (i := 83) (by decide +kernel)) rfl
theorem dvX8 : ∀ j, j < 1 → defaultValue (tyX8 j) = if fk_ 8 j = 30 then Value.int 0 else Value.null := by decide +kernel
theorem js_i1X8 : Cond.instantiable RX8 1 ∈ js_W := js_in (List.mem_of_getElem? (i := 109) (by decide +kernel)) rfl
theorem js_i2X8 : Cond.initialized RX8 ∈ js_W := js_in (List.mem_of_getElem? (i := 79) (by decide +kernel)) rfl
theorem dvX9 : ∀ j, j < 2 → defaultValue (tyX9 j) = if fk_ 9 j = 30 then Value.int 0 else Value.null := by decide +kernel
theorem js_i1X9 : Cond.instantiable RX9 2 ∈ js_W := js_in (List.mem_of_getElem? (i := 121) (by decide +kernel)) rfl
theorem js_i2X9 : Cond.initialized RX9 ∈ js_W := js_in (List.mem_of_getElem? (i := 80) (by decide +kernel)) rfl
theorem dvX10 : ∀ j, j < 4 → defaultValue (tyX10 j) = if fk_ 10 j = 30 then Value.int 0 else Value.null := by decide +kernel
theorem js_i1X10 : Cond.instantiable RX10 4 ∈ js_W := js_in (List.mem_of_getElem? (i := 165) (by decide +kernel)) rfl
theorem js_i2X10 : Cond.initialized RX10 ∈ js_W := js_in (List.mem_of_getElem? (i := 81) (by decide +kernel)) rfl
theorem dvX11 : ∀ j, j < 16 → defaultValue (tyX11 j) = if fk_ 11 j = 30 then Value.int 0 else Value.null := by decide +kernel
theorem js_i1X11 : Cond.instantiable RX11 16 ∈ js_W := js_in (List.mem_of_getElem? (i := 95) (by decide +kernel)) rfl
theorem js_i2X11 : Cond.initialized RX11 ∈ js_W := js_in (List.mem_of_getElem? (i := 77) (by decide +kernel)) rfl
theorem dvX12 : ∀ j, j < 41 → defaultValue (tyX12 j) = if fk_ 12 j = 30 then Value.int 0 else Value.null := by decide +kernel
theorem js_i1X12 : Cond.instantiable RX12 41 ∈ js_W := js_in (List.mem_of_getElem? (i := 1109) (by decide +kernel)) rfl
theorem js_i2X12 : Cond.initialized RX12 ∈ js_W := js_in (List.mem_of_getElem? (i := 90) (by decide +kernel)) rfl
theorem js_arI : Cond.arrayClass .int ∈ js_W := js_in (List.mem_of_getElem? (i := 118) (by decide +kernel)) rfl
theorem js_arJ : Cond.arrayClass .long ∈ js_W := js_in (List.mem_of_getElem? (i := 259) (by decide +kernel)) rfl
theorem js_arZ : Cond.arrayClass .boolean ∈ js_W := js_in (List.mem_of_getElem? (i := 240) (by decide +kernel)) rfl
theorem js_oi1 : Cond.instanceMethod objectInit ∈ js_W := js_in (List.mem_of_getElem? (i := 100) (by decide +kernel)) rfl
theorem js_oi2 : Cond.code objectInit ⟨#[0xb1]⟩ 1 none ∈ js_W := js_in (List.mem_of_getElem? (i := 101) (by decide +kernel)) rfl
theorem mfX9_init : js_mc yX9_init cX9_init 1 0 := ⟨js_in (List.mem_of_getElem? (i := 124) (by decide +kernel)) rfl, js_in (List.mem_of_getElem? (i := 80) (by decide +kernel)) rfl, by decide +kernel, js_in (List.mem_of_getElem? (i := 123) (by decide +kernel)) rfl, rfl⟩
theorem mfX8_init : js_mc yX8_init cX8_init 1 0 := ⟨js_in (List.mem_of_getElem? (i := 112) (by decide +kernel)) rfl, js_in (List.mem_of_getElem? (i := 79) (by decide +kernel)) rfl, by decide +kernel, js_in (List.mem_of_getElem? (i := 111) (by decide +kernel)) rfl, rfl⟩
theorem mfX4_init : js_mc yX4_init cX4_init 1 0 := ⟨js_in (List.mem_of_getElem? (i := 253) (by decide +kernel)) rfl, js_in (List.mem_of_getElem? (i := 86) (by decide +kernel)) rfl, by decide +kernel, js_in (List.mem_of_getElem? (i := 252) (by decide +kernel)) rfl, rfl⟩
theorem mfX10_init : js_mc yX10_init cX10_init 3 1 := ⟨js_in (List.mem_of_getElem? (i := 168) (by decide +kernel)) rfl, js_in (List.mem_of_getElem? (i := 81) (by decide +kernel)) rfl, by decide +kernel, js_in (List.mem_of_getElem? (i := 167) (by decide +kernel)) rfl, rfl⟩
theorem mfX6_init : js_mc yX6_init cX6_init 2 0 := ⟨js_in (List.mem_of_getElem? (i := 106) (by decide +kernel)) rfl, js_in (List.mem_of_getElem? (i := 78) (by decide +kernel)) rfl, by decide +kernel, js_in (List.mem_of_getElem? (i := 105) (by decide +kernel)) rfl, rfl⟩
theorem mfX7_init : js_mc yX7_init cX7_init 2 0 := ⟨js_in (List.mem_of_getElem? (i := 192) (by decide +kernel)) rfl, js_in (List.mem_of_getElem? (i := 83) (by decide +kernel)) rfl, by decide +kernel, js_in (List.mem_of_getElem? (i := 191) (by decide +kernel)) rfl, rfl⟩
theorem mfX3_init : js_mc yX3_init cX3_init 2 0 := ⟨js_in (List.mem_of_getElem? (i := 207) (by decide +kernel)) rfl, js_in (List.mem_of_getElem? (i := 84) (by decide +kernel)) rfl, by decide +kernel, js_in (List.mem_of_getElem? (i := 206) (by decide +kernel)) rfl, rfl⟩
theorem mfX5_init : js_mc yX5_init cX5_init 1 0 := ⟨js_in (List.mem_of_getElem? (i := 247) (by decide +kernel)) rfl, js_in (List.mem_of_getElem? (i := 85) (by decide +kernel)) rfl, by decide +kernel, js_in (List.mem_of_getElem? (i := 246) (by decide +kernel)) rfl, rfl⟩
theorem mfX1_init : js_mc yX1_init cX1_init 1 0 := ⟨js_in (List.mem_of_getElem? (i := 286) (by decide +kernel)) rfl, js_in (List.mem_of_getElem? (i := 87) (by decide +kernel)) rfl, by decide +kernel, js_in (List.mem_of_getElem? (i := 285) (by decide +kernel)) rfl, rfl⟩
theorem mfX0_init : js_mc yX0_init cX0_init 1 0 := ⟨js_in (List.mem_of_getElem? (i := 313) (by decide +kernel)) rfl, js_in (List.mem_of_getElem? (i := 88) (by decide +kernel)) rfl, by decide +kernel, js_in (List.mem_of_getElem? (i := 312) (by decide +kernel)) rfl, rfl⟩
theorem mfX2_init : js_mc yX2_init cX2_init 1 0 := ⟨js_in (List.mem_of_getElem? (i := 342) (by decide +kernel)) rfl, js_in (List.mem_of_getElem? (i := 89) (by decide +kernel)) rfl, by decide +kernel, js_in (List.mem_of_getElem? (i := 341) (by decide +kernel)) rfl, rfl⟩
theorem mfX11_init : js_mc yX11_init cX11_init 1 0 := ⟨js_in (List.mem_of_getElem? (i := 98) (by decide +kernel)) rfl, js_in (List.mem_of_getElem? (i := 77) (by decide +kernel)) rfl, by decide +kernel, js_in (List.mem_of_getElem? (i := 97) (by decide +kernel)) rfl, rfl⟩
theorem mfX12_init : js_mc yX12_init cX12_init 2 0 := ⟨js_in (List.mem_of_getElem? (i := 1112) (by decide +kernel)) rfl, js_in (List.mem_of_getElem? (i := 90) (by decide +kernel)) rfl, by decide +kernel, js_in (List.mem_of_getElem? (i := 1111) (by decide +kernel)) rfl, rfl⟩
theorem lk_X0_3 : Cond.methodLink RX0 3 objectInit ∈ js_W := js_in (List.mem_of_getElem? (i := 314) (by decide +kernel)) rfl
theorem lk_X10_3 : Cond.methodLink RX10 3 objectInit ∈ js_W := js_in (List.mem_of_getElem? (i := 169) (by decide +kernel)) rfl
theorem lk_X10_9 : Cond.methodLink RX10 9 Lib.Math.max.name ∈ js_W := js_in (List.mem_of_getElem? (i := 170) (by decide +kernel)) rfl
theorem lk_X11_11 : Cond.methodLink RX11 11 yX6_init ∈ js_W := js_in (List.mem_of_getElem? (i := 104) (by decide +kernel)) rfl
theorem lk_X11_19 : Cond.classLink RX11 19 RX10 ∈ js_W := js_in (List.mem_of_getElem? (i := 164) (by decide +kernel)) rfl
theorem lk_X11_21 : Cond.methodLink RX11 21 yX10_init ∈ js_W := js_in (List.mem_of_getElem? (i := 166) (by decide +kernel)) rfl
theorem lk_X11_3 : Cond.methodLink RX11 3 objectInit ∈ js_W := js_in (List.mem_of_getElem? (i := 99) (by decide +kernel)) rfl
theorem lk_X11_31 : Cond.classLink RX11 31 RX7 ∈ js_W := js_in (List.mem_of_getElem? (i := 188) (by decide +kernel)) rfl
theorem lk_X11_33 : Cond.methodLink RX11 33 yX7_init ∈ js_W := js_in (List.mem_of_getElem? (i := 190) (by decide +kernel)) rfl
theorem lk_X11_38 : Cond.classLink RX11 38 RX3 ∈ js_W := js_in (List.mem_of_getElem? (i := 203) (by decide +kernel)) rfl
theorem lk_X11_40 : Cond.methodLink RX11 40 yX3_init ∈ js_W := js_in (List.mem_of_getElem? (i := 205) (by decide +kernel)) rfl
theorem lk_X11_45 : Cond.classLink RX11 45 RX9 ∈ js_W := js_in (List.mem_of_getElem? (i := 241) (by decide +kernel)) rfl
theorem lk_X11_47 : Cond.methodLink RX11 47 yX9_init ∈ js_W := js_in (List.mem_of_getElem? (i := 242) (by decide +kernel)) rfl
theorem lk_X11_52 : Cond.classLink RX11 52 RX5 ∈ js_W := js_in (List.mem_of_getElem? (i := 243) (by decide +kernel)) rfl
theorem lk_X11_54 : Cond.methodLinkNest RX11 54 yX5_init RX11 ∈ js_N := js_inN (List.mem_of_getElem? (i := 245) (by decide +kernel)) rfl
theorem lk_X11_59 : Cond.classLink RX11 59 RX1 ∈ js_W := js_in (List.mem_of_getElem? (i := 282) (by decide +kernel)) rfl
theorem lk_X11_61 : Cond.methodLinkNest RX11 61 yX1_init RX11 ∈ js_N := js_inN (List.mem_of_getElem? (i := 284) (by decide +kernel)) rfl
theorem lk_X11_66 : Cond.classLink RX11 66 RX0 ∈ js_W := js_in (List.mem_of_getElem? (i := 309) (by decide +kernel)) rfl
theorem lk_X11_68 : Cond.methodLinkNest RX11 68 yX0_init RX11 ∈ js_N := js_inN (List.mem_of_getElem? (i := 311) (by decide +kernel)) rfl
theorem lk_X11_73 : Cond.classLink RX11 73 RX2 ∈ js_W := js_in (List.mem_of_getElem? (i := 338) (by decide +kernel)) rfl
theorem lk_X11_75 : Cond.methodLinkNest RX11 75 yX2_init RX11 ∈ js_N := js_inN (List.mem_of_getElem? (i := 340) (by decide +kernel)) rfl
theorem lk_X11_9 : Cond.classLink RX11 9 RX6 ∈ js_W := js_in (List.mem_of_getElem? (i := 102) (by decide +kernel)) rfl
theorem lk_X12_3 : Cond.methodLink RX12 3 objectInit ∈ js_W := js_in (List.mem_of_getElem? (i := 1113) (by decide +kernel)) rfl
theorem lk_X12_75 : Cond.constant RX12 75 (177147) ∈ js_W := js_in (List.mem_of_getElem? (i := 1114) (by decide +kernel)) rfl
theorem lk_X12_94 : Cond.constant RX12 94 (115296) ∈ js_W := js_in (List.mem_of_getElem? (i := 1115) (by decide +kernel)) rfl
theorem lk_X1_11 : Cond.methodLinkNest RX1 11 yX4_init RX11 ∈ js_N := js_inN (List.mem_of_getElem? (i := 289) (by decide +kernel)) rfl
theorem lk_X1_3 : Cond.methodLink RX1 3 objectInit ∈ js_W := js_in (List.mem_of_getElem? (i := 287) (by decide +kernel)) rfl
theorem lk_X1_9 : Cond.classLink RX1 9 RX4 ∈ js_W := js_in (List.mem_of_getElem? (i := 288) (by decide +kernel)) rfl
theorem lk_X2_11 : Cond.methodLinkNest RX2 11 yX1_init RX11 ∈ js_N := js_inN (List.mem_of_getElem? (i := 345) (by decide +kernel)) rfl
theorem lk_X2_3 : Cond.methodLink RX2 3 objectInit ∈ js_W := js_in (List.mem_of_getElem? (i := 343) (by decide +kernel)) rfl
theorem lk_X2_9 : Cond.classLink RX2 9 RX1 ∈ js_W := js_in (List.mem_of_getElem? (i := 344) (by decide +kernel)) rfl
theorem lk_X3_11 : Cond.classLink RX3 11 RX9 ∈ js_W := js_in (List.mem_of_getElem? (i := 209) (by decide +kernel)) rfl
theorem lk_X3_21 : Cond.methodLink RX3 21 yX9_init ∈ js_W := js_in (List.mem_of_getElem? (i := 210) (by decide +kernel)) rfl
theorem lk_X3_3 : Cond.methodLink RX3 3 objectInit ∈ js_W := js_in (List.mem_of_getElem? (i := 208) (by decide +kernel)) rfl
theorem lk_X4_5 : Cond.methodLink RX4 5 objectInit ∈ js_W := js_in (List.mem_of_getElem? (i := 254) (by decide +kernel)) rfl
theorem lk_X5_21 : Cond.classLink RX5 21 RX4 ∈ js_W := js_in (List.mem_of_getElem? (i := 249) (by decide +kernel)) rfl
theorem lk_X5_23 : Cond.methodLinkNest RX5 23 yX4_init RX11 ∈ js_N := js_inN (List.mem_of_getElem? (i := 251) (by decide +kernel)) rfl
theorem lk_X5_3 : Cond.methodLink RX5 3 objectInit ∈ js_W := js_in (List.mem_of_getElem? (i := 248) (by decide +kernel)) rfl
theorem lk_X6_11 : Cond.methodLink RX6 11 yX8_init ∈ js_W := js_in (List.mem_of_getElem? (i := 110) (by decide +kernel)) rfl
theorem lk_X6_18 : Cond.classLink RX6 18 RX9 ∈ js_W := js_in (List.mem_of_getElem? (i := 119) (by decide +kernel)) rfl
theorem lk_X6_3 : Cond.methodLink RX6 3 objectInit ∈ js_W := js_in (List.mem_of_getElem? (i := 107) (by decide +kernel)) rfl
theorem lk_X6_30 : Cond.methodLink RX6 30 yX9_init ∈ js_W := js_in (List.mem_of_getElem? (i := 122) (by decide +kernel)) rfl
theorem lk_X6_9 : Cond.classLink RX6 9 RX8 ∈ js_W := js_in (List.mem_of_getElem? (i := 108) (by decide +kernel)) rfl
theorem lk_X7_15 : Cond.classLink RX7 15 RX9 ∈ js_W := js_in (List.mem_of_getElem? (i := 194) (by decide +kernel)) rfl
theorem lk_X7_21 : Cond.methodLink RX7 21 yX9_init ∈ js_W := js_in (List.mem_of_getElem? (i := 195) (by decide +kernel)) rfl
theorem lk_X7_3 : Cond.methodLink RX7 3 objectInit ∈ js_W := js_in (List.mem_of_getElem? (i := 193) (by decide +kernel)) rfl
theorem lk_X8_3 : Cond.methodLink RX8 3 objectInit ∈ js_W := js_in (List.mem_of_getElem? (i := 113) (by decide +kernel)) rfl
theorem lk_X9_3 : Cond.methodLink RX9 3 objectInit ∈ js_W := js_in (List.mem_of_getElem? (i := 125) (by decide +kernel)) rfl
