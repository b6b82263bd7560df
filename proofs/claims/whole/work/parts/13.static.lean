theorem gm_54 : Cond.methodLink RX3 1 objectInit ∈ Gw := List.mem_of_getElem? (i := 54) (by decide +kernel)
theorem gm_55 : Cond.methodLink RX3 7 Lib.Math.max.name ∈ Gw := List.mem_of_getElem? (i := 55) (by decide +kernel)
theorem gm_43 : Cond.static Lib.Math.max.name ∈ Gw := List.mem_of_getElem? (i := 43) (by decide +kernel)
theorem gm_44 : Cond.initialized "java/lang/Math" ∈ Gw := List.mem_of_getElem? (i := 44) (by decide +kernel)
theorem gm_45 : Cond.code Lib.Math.max.name Lib.Math.max.code 2 (some .int) ∈ Gw := List.mem_of_getElem? (i := 45) (by decide +kernel)
theorem gm_56 : Cond.classLink RX3 13 RX2 ∈ Gw := List.mem_of_getElem? (i := 56) (by decide +kernel)
theorem flX3_15 : FL RX3 15 3 0 2 true := ⟨RX3, TX3, 2, tyX3, rfl, inlX3, tyX3_ok, nmX3, by decide, rfl, List.mem_of_getElem? (i := 57) (by decide +kernel), rfl, vo_a _, rfl, (fun _ => rfl), by decide⟩
theorem gm_60 : Cond.methodLink RX0 3 objectInit ∈ Gw := List.mem_of_getElem? (i := 60) (by decide +kernel)
theorem gm_61 : Cond.arrayClass .long ∈ Gw := List.mem_of_getElem? (i := 61) (by decide +kernel)
theorem flX0_9 : FL RX0 9 0 4 2 true := ⟨RX0, TX0, 11, tyX0, rfl, inlX0, tyX0_ok, nmX0, by decide, rfl, List.mem_of_getElem? (i := 62) (by decide +kernel), rfl, vo_a _, rfl, (fun _ => rfl), by decide⟩
theorem gm_63 : Cond.arrayClass .int ∈ Gw := List.mem_of_getElem? (i := 63) (by decide +kernel)
theorem flX0_15 : FL RX0 15 0 5 2 true := ⟨RX0, TX0, 11, tyX0, rfl, inlX0, tyX0_ok, nmX0, by decide, rfl, List.mem_of_getElem? (i := 64) (by decide +kernel), rfl, vo_a _, rfl, (fun _ => rfl), by decide⟩
theorem flX0_19 : FL RX0 19 0 6 2 true := ⟨RX0, TX0, 11, tyX0, rfl, inlX0, tyX0_ok, nmX0, by decide, rfl, List.mem_of_getElem? (i := 65) (by decide +kernel), rfl, vo_a _, rfl, (fun _ => rfl), by decide⟩
theorem flX0_22 : FL RX0 22 0 7 2 true := ⟨RX0, TX0, 11, tyX0, rfl, inlX0, tyX0_ok, nmX0, by decide, rfl, List.mem_of_getElem? (i := 66) (by decide +kernel), rfl, vo_a _, rfl, (fun _ => rfl), by decide⟩
theorem flX0_25 : FL RX0 25 0 8 2 true := ⟨RX0, TX0, 11, tyX0, rfl, inlX0, tyX0_ok, nmX0, by decide, rfl, List.mem_of_getElem? (i := 67) (by decide +kernel), rfl, vo_a _, rfl, (fun _ => rfl), by decide⟩
theorem flX0_28 : FL RX0 28 0 9 2 true := ⟨RX0, TX0, 11, tyX0, rfl, inlX0, tyX0_ok, nmX0, by decide, rfl, List.mem_of_getElem? (i := 68) (by decide +kernel), rfl, vo_a _, rfl, (fun _ => rfl), by decide⟩
theorem flX0_31 : FL RX0 31 0 10 2 true := ⟨RX0, TX0, 11, tyX0, rfl, inlX0, tyX0_ok, nmX0, by decide, rfl, List.mem_of_getElem? (i := 69) (by decide +kernel), rfl, vo_a _, rfl, (fun _ => rfl), by decide⟩
theorem flX0_34 : FL RX0 34 0 0 0 false := ⟨RX0, TX0, 11, tyX0, rfl, inlX0, tyX0_ok, nmX0, by decide, rfl, List.mem_of_getElem? (i := 74) (by decide +kernel), rfl, vo_i, rfl, (fun h => by cases h), by decide⟩
theorem flX0_38 : FL RX0 38 0 1 0 false := ⟨RX0, TX0, 11, tyX0, rfl, inlX0, tyX0_ok, nmX0, by decide, rfl, List.mem_of_getElem? (i := 75) (by decide +kernel), rfl, vo_i, rfl, (fun h => by cases h), by decide⟩
theorem flX0_41 : FL RX0 41 0 2 0 false := ⟨RX0, TX0, 11, tyX0, rfl, inlX0, tyX0_ok, nmX0, by decide, rfl, List.mem_of_getElem? (i := 76) (by decide +kernel), rfl, vo_i, rfl, (fun h => by cases h), by decide⟩
theorem flX0_44 : FL RX0 44 0 3 0 false := ⟨RX0, TX0, 11, tyX0, rfl, inlX0, tyX0_ok, nmX0, by decide, rfl, List.mem_of_getElem? (i := 77) (by decide +kernel), rfl, vo_i, rfl, (fun h => by cases h), by decide⟩
theorem saX0_47 : SA RX0 47 := ⟨List.mem_of_getElem? (i := 78) (by decide +kernel), List.mem_of_getElem? (i := 79) (by decide +kernel), List.mem_of_getElem? (i := 80) (by decide +kernel), List.mem_of_getElem? (i := 81) (by decide +kernel)⟩
theorem gm_33 : Cond.methodLink RX4 3 objectInit ∈ Gw := List.mem_of_getElem? (i := 33) (by decide +kernel)
theorem clX4_9 : CL RX4 9 3 2 := ⟨RX3, TX3, tyX3, rfl, inlX3, tyX3_ok, List.mem_of_getElem? (i := 34) (by decide +kernel), List.mem_of_getElem? (i := 27) (by decide +kernel), List.mem_of_getElem? (i := 28) (by decide +kernel), by decide +kernel, by decide⟩
theorem mlX4_11 : ML RX4 11 yX3_init cX3_init 2 none 1 := ⟨List.mem_of_getElem? (i := 51) (by decide +kernel), List.mem_of_getElem? (i := 53) (by decide +kernel), List.mem_of_getElem? (i := 28) (by decide +kernel), by decide +kernel⟩
theorem gm_52 : Cond.instanceMethod yX3_init ∈ Gw := List.mem_of_getElem? (i := 52) (by decide +kernel)
theorem flX4_14 : FL RX4 14 4 1 2 true := ⟨RX4, TX4, 6, tyX4, rfl, inlX4, tyX4_ok, nmX4, by decide, rfl, List.mem_of_getElem? (i := 35) (by decide +kernel), rfl, vo_o _, rfl, (fun _ => rfl), by decide⟩
theorem gm_36 : Cond.classLink RX4 20 RX0 ∈ Gw := List.mem_of_getElem? (i := 36) (by decide +kernel)
theorem flX4_22 : FL RX4 22 4 2 2 true := ⟨RX4, TX4, 6, tyX4, rfl, inlX4, tyX4_ok, nmX4, by decide, rfl, List.mem_of_getElem? (i := 37) (by decide +kernel), rfl, vo_a _, rfl, (fun _ => rfl), by decide⟩
theorem flX4_26 : FL RX4 26 4 3 2 true := ⟨RX4, TX4, 6, tyX4, rfl, inlX4, tyX4_ok, nmX4, by decide, rfl, List.mem_of_getElem? (i := 38) (by decide +kernel), rfl, vo_a _, rfl, (fun _ => rfl), by decide⟩
theorem flX4_29 : FL RX4 29 4 4 3 false := ⟨RX4, TX4, 6, tyX4, rfl, inlX4, tyX4_ok, nmX4, by decide, rfl, List.mem_of_getElem? (i := 39) (by decide +kernel), rfl, vo_z, rfl, (fun h => by cases h), by decide⟩
theorem flX4_33 : FL RX4 33 4 5 3 false := ⟨RX4, TX4, 6, tyX4, rfl, inlX4, tyX4_ok, nmX4, by decide, rfl, List.mem_of_getElem? (i := 40) (by decide +kernel), rfl, vo_z, rfl, (fun h => by cases h), by decide⟩
theorem flX4_36 : FL RX4 36 4 0 0 true := ⟨RX4, TX4, 6, tyX4, rfl, inlX4, tyX4_ok, nmX4, by decide, rfl, List.mem_of_getElem? (i := 41) (by decide +kernel), rfl, vo_i, rfl, (fun _ => rfl), by decide⟩
theorem gm_42 : Cond.methodLink RX4 40 Lib.Math.max.name ∈ Gw := List.mem_of_getElem? (i := 42) (by decide +kernel)
theorem clX4_20 : CL RX4 20 0 11 := ⟨RX0, TX0, tyX0, rfl, inlX0, tyX0_ok, List.mem_of_getElem? (i := 36) (by decide +kernel), List.mem_of_getElem? (i := 46) (by decide +kernel), List.mem_of_getElem? (i := 47) (by decide +kernel), by decide +kernel, by decide⟩
theorem mn_X0_init : MN yX0_init cX0_init 1 none 0 := ⟨List.mem_of_getElem? (i := 59) (by decide +kernel), List.mem_of_getElem? (i := 47) (by decide +kernel), by decide +kernel⟩
theorem gm_58 : Cond.instanceMethod yX0_init ∈ Gw := List.mem_of_getElem? (i := 58) (by decide +kernel)
theorem flX4_47 : FL RX4 47 0 2 0 false := ⟨RX0, TX0, 11, tyX0, rfl, inlX0, tyX0_ok, nmX0, by decide, rfl, List.mem_of_getElem? (i := 48) (by decide +kernel), rfl, vo_i, rfl, (fun h => by cases h), by decide⟩
theorem flX4_50 : FL RX4 50 0 0 0 false := ⟨RX0, TX0, 11, tyX0, rfl, inlX0, tyX0_ok, nmX0, by decide, rfl, List.mem_of_getElem? (i := 49) (by decide +kernel), rfl, vo_i, rfl, (fun h => by cases h), by decide⟩
theorem flX4_53 : FL RX4 53 0 1 0 false := ⟨RX0, TX0, 11, tyX0, rfl, inlX0, tyX0_ok, nmX0, by decide, rfl, List.mem_of_getElem? (i := 50) (by decide +kernel), rfl, vo_i, rfl, (fun h => by cases h), by decide⟩
theorem mlX4_56 : ML RX4 56 yX0_copyFrom cX0_copyFrom 2 none 1 := ⟨List.mem_of_getElem? (i := 70) (by decide +kernel), List.mem_of_getElem? (i := 73) (by decide +kernel), List.mem_of_getElem? (i := 47) (by decide +kernel), by decide +kernel⟩
theorem gm_71 : Cond.instanceMethod yX0_copyFrom ∈ Gw := List.mem_of_getElem? (i := 71) (by decide +kernel)
theorem gm_72 : Cond.selects RX0 yX0_copyFrom yX0_copyFrom ∈ Gw := List.mem_of_getElem? (i := 72) (by decide +kernel)
theorem gm_85 : Cond.methodLink RX1 3 objectInit ∈ Gw := List.mem_of_getElem? (i := 85) (by decide +kernel)
theorem flX1_9 : FL RX1 9 1 4 2 true := ⟨RX1, TX1, 11, tyX1, rfl, inlX1, tyX1_ok, nmX1, by decide, rfl, List.mem_of_getElem? (i := 86) (by decide +kernel), rfl, vo_a _, rfl, (fun _ => rfl), by decide⟩
theorem flX1_15 : FL RX1 15 1 5 2 true := ⟨RX1, TX1, 11, tyX1, rfl, inlX1, tyX1_ok, nmX1, by decide, rfl, List.mem_of_getElem? (i := 87) (by decide +kernel), rfl, vo_a _, rfl, (fun _ => rfl), by decide⟩
theorem flX1_18 : FL RX1 18 1 6 2 true := ⟨RX1, TX1, 11, tyX1, rfl, inlX1, tyX1_ok, nmX1, by decide, rfl, List.mem_of_getElem? (i := 88) (by decide +kernel), rfl, vo_a _, rfl, (fun _ => rfl), by decide⟩
theorem flX1_21 : FL RX1 21 1 7 2 true := ⟨RX1, TX1, 11, tyX1, rfl, inlX1, tyX1_ok, nmX1, by decide, rfl, List.mem_of_getElem? (i := 89) (by decide +kernel), rfl, vo_a _, rfl, (fun _ => rfl), by decide⟩
theorem flX1_25 : FL RX1 25 1 8 2 true := ⟨RX1, TX1, 11, tyX1, rfl, inlX1, tyX1_ok, nmX1, by decide, rfl, List.mem_of_getElem? (i := 90) (by decide +kernel), rfl, vo_a _, rfl, (fun _ => rfl), by decide⟩
theorem flX1_28 : FL RX1 28 1 9 2 true := ⟨RX1, TX1, 11, tyX1, rfl, inlX1, tyX1_ok, nmX1, by decide, rfl, List.mem_of_getElem? (i := 91) (by decide +kernel), rfl, vo_a _, rfl, (fun _ => rfl), by decide⟩
theorem flX1_31 : FL RX1 31 1 10 2 true := ⟨RX1, TX1, 11, tyX1, rfl, inlX1, tyX1_ok, nmX1, by decide, rfl, List.mem_of_getElem? (i := 92) (by decide +kernel), rfl, vo_a _, rfl, (fun _ => rfl), by decide⟩
theorem flX1_34 : FL RX1 34 1 0 0 true := ⟨RX1, TX1, 11, tyX1, rfl, inlX1, tyX1_ok, nmX1, by decide, rfl, List.mem_of_getElem? (i := 93) (by decide +kernel), rfl, vo_i, rfl, (fun _ => rfl), by decide⟩
theorem gm_94 : Cond.methodLink RX1 38 Lib.Math.max.name ∈ Gw := List.mem_of_getElem? (i := 94) (by decide +kernel)
theorem gm_14 : Cond.methodLink RX5 3 objectInit ∈ Gw := List.mem_of_getElem? (i := 14) (by decide +kernel)
theorem flX5_9 : FL RX5 9 5 3 0 true := ⟨RX5, TX5, 9, tyX5, rfl, inlX5, tyX5_ok, nmX5, by decide, rfl, List.mem_of_getElem? (i := 17) (by decide +kernel), rfl, vo_i, rfl, (fun _ => rfl), by decide⟩
theorem gm_18 : Cond.classLink RX5 13 RX4 ∈ Gw := List.mem_of_getElem? (i := 18) (by decide +kernel)
theorem flX5_15 : FL RX5 15 5 0 2 true := ⟨RX5, TX5, 9, tyX5, rfl, inlX5, tyX5_ok, nmX5, by decide, rfl, List.mem_of_getElem? (i := 19) (by decide +kernel), rfl, vo_a _, rfl, (fun _ => rfl), by decide⟩
theorem clX5_13 : CL RX5 13 4 6 := ⟨RX4, TX4, tyX4, rfl, inlX4, tyX4_ok, List.mem_of_getElem? (i := 18) (by decide +kernel), List.mem_of_getElem? (i := 20) (by decide +kernel), List.mem_of_getElem? (i := 21) (by decide +kernel), by decide +kernel, by decide⟩
theorem mlX5_19 : ML RX5 19 yX4_init cX4_init 6 none 2 := ⟨List.mem_of_getElem? (i := 30) (by decide +kernel), List.mem_of_getElem? (i := 32) (by decide +kernel), List.mem_of_getElem? (i := 21) (by decide +kernel), by decide +kernel⟩
theorem gm_31 : Cond.instanceMethod yX4_init ∈ Gw := List.mem_of_getElem? (i := 31) (by decide +kernel)
theorem gm_22 : Cond.classLink RX5 22 RX1 ∈ Gw := List.mem_of_getElem? (i := 22) (by decide +kernel)
theorem flX5_24 : FL RX5 24 5 1 2 true := ⟨RX5, TX5, 9, tyX5, rfl, inlX5, tyX5_ok, nmX5, by decide, rfl, List.mem_of_getElem? (i := 23) (by decide +kernel), rfl, vo_a _, rfl, (fun _ => rfl), by decide⟩
theorem clX5_22 : CL RX5 22 1 11 := ⟨RX1, TX1, tyX1, rfl, inlX1, tyX1_ok, List.mem_of_getElem? (i := 22) (by decide +kernel), List.mem_of_getElem? (i := 24) (by decide +kernel), List.mem_of_getElem? (i := 25) (by decide +kernel), by decide +kernel, by decide⟩
theorem mlX5_28 : ML RX5 28 yX1_init cX1_init 5 none 2 := ⟨List.mem_of_getElem? (i := 82) (by decide +kernel), List.mem_of_getElem? (i := 84) (by decide +kernel), List.mem_of_getElem? (i := 25) (by decide +kernel), by decide +kernel⟩
theorem gm_83 : Cond.instanceMethod yX1_init ∈ Gw := List.mem_of_getElem? (i := 83) (by decide +kernel)
theorem clX5_29 : CL RX5 29 3 2 := ⟨RX3, TX3, tyX3, rfl, inlX3, tyX3_ok, List.mem_of_getElem? (i := 26) (by decide +kernel), List.mem_of_getElem? (i := 27) (by decide +kernel), List.mem_of_getElem? (i := 28) (by decide +kernel), by decide +kernel, by decide⟩
theorem mlX5_31 : ML RX5 31 yX3_init cX3_init 2 none 1 := ⟨List.mem_of_getElem? (i := 95) (by decide +kernel), List.mem_of_getElem? (i := 53) (by decide +kernel), List.mem_of_getElem? (i := 28) (by decide +kernel), by decide +kernel⟩
theorem flX5_34 : FL RX5 34 5 2 2 true := ⟨RX5, TX5, 9, tyX5, rfl, inlX5, tyX5_ok, nmX5, by decide, rfl, List.mem_of_getElem? (i := 29) (by decide +kernel), rfl, vo_o _, rfl, (fun _ => rfl), by decide⟩
theorem gm_99 : Cond.methodLink RX6 1 objectInit ∈ Gw := List.mem_of_getElem? (i := 99) (by decide +kernel)
theorem flX6_7 : FL RX6 7 6 7 2 true := ⟨RX6, TX6, 53, tyX6, rfl, inlX6, tyX6_ok, nmX6, by decide, rfl, List.mem_of_getElem? (i := 100) (by decide +kernel), rfl, vo_a _, rfl, (fun _ => rfl), by decide⟩
theorem flX6_13 : FL RX6 13 6 8 2 true := ⟨RX6, TX6, 53, tyX6, rfl, inlX6, tyX6_ok, nmX6, by decide, rfl, List.mem_of_getElem? (i := 101) (by decide +kernel), rfl, vo_a _, rfl, (fun _ => rfl), by decide⟩
theorem flX6_16 : FL RX6 16 6 9 2 true := ⟨RX6, TX6, 53, tyX6, rfl, inlX6, tyX6_ok, nmX6, by decide, rfl, List.mem_of_getElem? (i := 102) (by decide +kernel), rfl, vo_a _, rfl, (fun _ => rfl), by decide⟩
theorem flX6_19 : FL RX6 19 6 10 2 true := ⟨RX6, TX6, 53, tyX6, rfl, inlX6, tyX6_ok, nmX6, by decide, rfl, List.mem_of_getElem? (i := 103) (by decide +kernel), rfl, vo_a _, rfl, (fun _ => rfl), by decide⟩
theorem flX6_22 : FL RX6 22 6 11 2 true := ⟨RX6, TX6, 53, tyX6, rfl, inlX6, tyX6_ok, nmX6, by decide, rfl, List.mem_of_getElem? (i := 104) (by decide +kernel), rfl, vo_a _, rfl, (fun _ => rfl), by decide⟩
theorem flX6_25 : FL RX6 25 6 12 2 true := ⟨RX6, TX6, 53, tyX6, rfl, inlX6, tyX6_ok, nmX6, by decide, rfl, List.mem_of_getElem? (i := 105) (by decide +kernel), rfl, vo_a _, rfl, (fun _ => rfl), by decide⟩
theorem flX6_29 : FL RX6 29 6 13 2 true := ⟨RX6, TX6, 53, tyX6, rfl, inlX6, tyX6_ok, nmX6, by decide, rfl, List.mem_of_getElem? (i := 106) (by decide +kernel), rfl, vo_a _, rfl, (fun _ => rfl), by decide⟩
theorem flX6_32 : FL RX6 32 6 14 2 true := ⟨RX6, TX6, 53, tyX6, rfl, inlX6, tyX6_ok, nmX6, by decide, rfl, List.mem_of_getElem? (i := 107) (by decide +kernel), rfl, vo_a _, rfl, (fun _ => rfl), by decide⟩
theorem flX6_35 : FL RX6 35 6 15 2 true := ⟨RX6, TX6, 53, tyX6, rfl, inlX6, tyX6_ok, nmX6, by decide, rfl, List.mem_of_getElem? (i := 108) (by decide +kernel), rfl, vo_a _, rfl, (fun _ => rfl), by decide⟩
theorem flX6_38 : FL RX6 38 6 16 2 true := ⟨RX6, TX6, 53, tyX6, rfl, inlX6, tyX6_ok, nmX6, by decide, rfl, List.mem_of_getElem? (i := 109) (by decide +kernel), rfl, vo_a _, rfl, (fun _ => rfl), by decide⟩
theorem flX6_41 : FL RX6 41 6 17 2 true := ⟨RX6, TX6, 53, tyX6, rfl, inlX6, tyX6_ok, nmX6, by decide, rfl, List.mem_of_getElem? (i := 110) (by decide +kernel), rfl, vo_a _, rfl, (fun _ => rfl), by decide⟩
theorem flX6_44 : FL RX6 44 6 18 2 true := ⟨RX6, TX6, 53, tyX6, rfl, inlX6, tyX6_ok, nmX6, by decide, rfl, List.mem_of_getElem? (i := 111) (by decide +kernel), rfl, vo_a _, rfl, (fun _ => rfl), by decide⟩
theorem flX6_47 : FL RX6 47 6 19 2 true := ⟨RX6, TX6, 53, tyX6, rfl, inlX6, tyX6_ok, nmX6, by decide, rfl, List.mem_of_getElem? (i := 112) (by decide +kernel), rfl, vo_a _, rfl, (fun _ => rfl), by decide⟩
theorem flX6_50 : FL RX6 50 6 20 2 true := ⟨RX6, TX6, 53, tyX6, rfl, inlX6, tyX6_ok, nmX6, by decide, rfl, List.mem_of_getElem? (i := 113) (by decide +kernel), rfl, vo_a _, rfl, (fun _ => rfl), by decide⟩
theorem flX6_53 : FL RX6 53 6 21 2 true := ⟨RX6, TX6, 53, tyX6, rfl, inlX6, tyX6_ok, nmX6, by decide, rfl, List.mem_of_getElem? (i := 114) (by decide +kernel), rfl, vo_a _, rfl, (fun _ => rfl), by decide⟩
theorem flX6_56 : FL RX6 56 6 22 2 true := ⟨RX6, TX6, 53, tyX6, rfl, inlX6, tyX6_ok, nmX6, by decide, rfl, List.mem_of_getElem? (i := 115) (by decide +kernel), rfl, vo_a _, rfl, (fun _ => rfl), by decide⟩
theorem flX6_59 : FL RX6 59 6 23 2 true := ⟨RX6, TX6, 53, tyX6, rfl, inlX6, tyX6_ok, nmX6, by decide, rfl, List.mem_of_getElem? (i := 116) (by decide +kernel), rfl, vo_a _, rfl, (fun _ => rfl), by decide⟩
theorem flX6_62 : FL RX6 62 6 24 2 true := ⟨RX6, TX6, 53, tyX6, rfl, inlX6, tyX6_ok, nmX6, by decide, rfl, List.mem_of_getElem? (i := 117) (by decide +kernel), rfl, vo_a _, rfl, (fun _ => rfl), by decide⟩
theorem flX6_65 : FL RX6 65 6 25 2 true := ⟨RX6, TX6, 53, tyX6, rfl, inlX6, tyX6_ok, nmX6, by decide, rfl, List.mem_of_getElem? (i := 118) (by decide +kernel), rfl, vo_a _, rfl, (fun _ => rfl), by decide⟩
theorem flX6_68 : FL RX6 68 6 26 2 true := ⟨RX6, TX6, 53, tyX6, rfl, inlX6, tyX6_ok, nmX6, by decide, rfl, List.mem_of_getElem? (i := 119) (by decide +kernel), rfl, vo_a _, rfl, (fun _ => rfl), by decide⟩
theorem flX6_71 : FL RX6 71 6 27 2 true := ⟨RX6, TX6, 53, tyX6, rfl, inlX6, tyX6_ok, nmX6, by decide, rfl, List.mem_of_getElem? (i := 120) (by decide +kernel), rfl, vo_a _, rfl, (fun _ => rfl), by decide⟩
theorem gm_121 : Cond.arrayClass .boolean ∈ Gw := List.mem_of_getElem? (i := 121) (by decide +kernel)
theorem flX6_74 : FL RX6 74 6 28 2 true := ⟨RX6, TX6, 53, tyX6, rfl, inlX6, tyX6_ok, nmX6, by decide, rfl, List.mem_of_getElem? (i := 122) (by decide +kernel), rfl, vo_a _, rfl, (fun _ => rfl), by decide⟩
theorem flX6_78 : FL RX6 78 6 29 2 true := ⟨RX6, TX6, 53, tyX6, rfl, inlX6, tyX6_ok, nmX6, by decide, rfl, List.mem_of_getElem? (i := 123) (by decide +kernel), rfl, vo_a _, rfl, (fun _ => rfl), by decide⟩
theorem flX6_81 : FL RX6 81 6 30 2 true := ⟨RX6, TX6, 53, tyX6, rfl, inlX6, tyX6_ok, nmX6, by decide, rfl, List.mem_of_getElem? (i := 124) (by decide +kernel), rfl, vo_a _, rfl, (fun _ => rfl), by decide⟩
theorem flX6_84 : FL RX6 84 6 31 2 true := ⟨RX6, TX6, 53, tyX6, rfl, inlX6, tyX6_ok, nmX6, by decide, rfl, List.mem_of_getElem? (i := 125) (by decide +kernel), rfl, vo_a _, rfl, (fun _ => rfl), by decide⟩
theorem flX6_87 : FL RX6 87 6 32 2 true := ⟨RX6, TX6, 53, tyX6, rfl, inlX6, tyX6_ok, nmX6, by decide, rfl, List.mem_of_getElem? (i := 126) (by decide +kernel), rfl, vo_a _, rfl, (fun _ => rfl), by decide⟩
theorem flX6_90 : FL RX6 90 6 33 2 true := ⟨RX6, TX6, 53, tyX6, rfl, inlX6, tyX6_ok, nmX6, by decide, rfl, List.mem_of_getElem? (i := 127) (by decide +kernel), rfl, vo_a _, rfl, (fun _ => rfl), by decide⟩
theorem flX6_93 : FL RX6 93 6 34 2 true := ⟨RX6, TX6, 53, tyX6, rfl, inlX6, tyX6_ok, nmX6, by decide, rfl, List.mem_of_getElem? (i := 128) (by decide +kernel), rfl, vo_a _, rfl, (fun _ => rfl), by decide⟩
theorem flX6_96 : FL RX6 96 6 35 2 true := ⟨RX6, TX6, 53, tyX6, rfl, inlX6, tyX6_ok, nmX6, by decide, rfl, List.mem_of_getElem? (i := 129) (by decide +kernel), rfl, vo_a _, rfl, (fun _ => rfl), by decide⟩
theorem flX6_99 : FL RX6 99 6 36 2 true := ⟨RX6, TX6, 53, tyX6, rfl, inlX6, tyX6_ok, nmX6, by decide, rfl, List.mem_of_getElem? (i := 130) (by decide +kernel), rfl, vo_a _, rfl, (fun _ => rfl), by decide⟩
theorem flX6_102 : FL RX6 102 6 37 2 true := ⟨RX6, TX6, 53, tyX6, rfl, inlX6, tyX6_ok, nmX6, by decide, rfl, List.mem_of_getElem? (i := 131) (by decide +kernel), rfl, vo_a _, rfl, (fun _ => rfl), by decide⟩
theorem flX6_105 : FL RX6 105 6 38 2 true := ⟨RX6, TX6, 53, tyX6, rfl, inlX6, tyX6_ok, nmX6, by decide, rfl, List.mem_of_getElem? (i := 132) (by decide +kernel), rfl, vo_a _, rfl, (fun _ => rfl), by decide⟩
theorem flX6_108 : FL RX6 108 6 39 2 true := ⟨RX6, TX6, 53, tyX6, rfl, inlX6, tyX6_ok, nmX6, by decide, rfl, List.mem_of_getElem? (i := 133) (by decide +kernel), rfl, vo_a _, rfl, (fun _ => rfl), by decide⟩
theorem flX6_111 : FL RX6 111 6 40 2 true := ⟨RX6, TX6, 53, tyX6, rfl, inlX6, tyX6_ok, nmX6, by decide, rfl, List.mem_of_getElem? (i := 134) (by decide +kernel), rfl, vo_a _, rfl, (fun _ => rfl), by decide⟩
theorem flX6_114 : FL RX6 114 6 41 2 true := ⟨RX6, TX6, 53, tyX6, rfl, inlX6, tyX6_ok, nmX6, by decide, rfl, List.mem_of_getElem? (i := 135) (by decide +kernel), rfl, vo_a _, rfl, (fun _ => rfl), by decide⟩
theorem gm_136 : Cond.constant RX6 117 (56400) ∈ Gw := List.mem_of_getElem? (i := 136) (by decide +kernel)
theorem flX6_118 : FL RX6 118 6 42 2 true := ⟨RX6, TX6, 53, tyX6, rfl, inlX6, tyX6_ok, nmX6, by decide, rfl, List.mem_of_getElem? (i := 137) (by decide +kernel), rfl, vo_a _, rfl, (fun _ => rfl), by decide⟩
theorem flX6_121 : FL RX6 121 6 43 2 true := ⟨RX6, TX6, 53, tyX6, rfl, inlX6, tyX6_ok, nmX6, by decide, rfl, List.mem_of_getElem? (i := 138) (by decide +kernel), rfl, vo_a _, rfl, (fun _ => rfl), by decide⟩
theorem flX6_124 : FL RX6 124 6 44 2 true := ⟨RX6, TX6, 53, tyX6, rfl, inlX6, tyX6_ok, nmX6, by decide, rfl, List.mem_of_getElem? (i := 139) (by decide +kernel), rfl, vo_a _, rfl, (fun _ => rfl), by decide⟩
theorem flX6_127 : FL RX6 127 6 45 2 true := ⟨RX6, TX6, 53, tyX6, rfl, inlX6, tyX6_ok, nmX6, by decide, rfl, List.mem_of_getElem? (i := 140) (by decide +kernel), rfl, vo_a _, rfl, (fun _ => rfl), by decide⟩
theorem flX6_130 : FL RX6 130 6 46 2 true := ⟨RX6, TX6, 53, tyX6, rfl, inlX6, tyX6_ok, nmX6, by decide, rfl, List.mem_of_getElem? (i := 141) (by decide +kernel), rfl, vo_a _, rfl, (fun _ => rfl), by decide⟩
theorem flX6_133 : FL RX6 133 6 47 2 true := ⟨RX6, TX6, 53, tyX6, rfl, inlX6, tyX6_ok, nmX6, by decide, rfl, List.mem_of_getElem? (i := 142) (by decide +kernel), rfl, vo_a _, rfl, (fun _ => rfl), by decide⟩
theorem flX6_136 : FL RX6 136 6 49 2 true := ⟨RX6, TX6, 53, tyX6, rfl, inlX6, tyX6_ok, nmX6, by decide, rfl, List.mem_of_getElem? (i := 143) (by decide +kernel), rfl, vo_a _, rfl, (fun _ => rfl), by decide⟩
theorem flX6_139 : FL RX6 139 6 51 2 true := ⟨RX6, TX6, 53, tyX6, rfl, inlX6, tyX6_ok, nmX6, by decide, rfl, List.mem_of_getElem? (i := 144) (by decide +kernel), rfl, vo_a _, rfl, (fun _ => rfl), by decide⟩
theorem flX6_142 : FL RX6 142 6 52 2 true := ⟨RX6, TX6, 53, tyX6, rfl, inlX6, tyX6_ok, nmX6, by decide, rfl, List.mem_of_getElem? (i := 145) (by decide +kernel), rfl, vo_a _, rfl, (fun _ => rfl), by decide⟩
theorem flX6_145 : FL RX6 145 6 0 0 true := ⟨RX6, TX6, 53, tyX6, rfl, inlX6, tyX6_ok, nmX6, by decide, rfl, List.mem_of_getElem? (i := 146) (by decide +kernel), rfl, vo_i, rfl, (fun _ => rfl), by decide⟩
theorem flX6_149 : FL RX6 149 6 1 0 true := ⟨RX6, TX6, 53, tyX6, rfl, inlX6, tyX6_ok, nmX6, by decide, rfl, List.mem_of_getElem? (i := 147) (by decide +kernel), rfl, vo_i, rfl, (fun _ => rfl), by decide⟩
theorem mlX5_38 : ML RX5 38 yX5_clientAt cX5_clientAt 2 (some (.object "OnceCalls$Client")) 1 := ⟨List.mem_of_getElem? (i := 157) (by decide +kernel), List.mem_of_getElem? (i := 160) (by decide +kernel), List.mem_of_getElem? (i := 2) (by decide +kernel), by decide +kernel⟩
theorem gm_158 : Cond.instanceMethod yX5_clientAt ∈ Gw := List.mem_of_getElem? (i := 158) (by decide +kernel)
theorem gm_159 : Cond.selects RX5 yX5_clientAt yX5_clientAt ∈ Gw := List.mem_of_getElem? (i := 159) (by decide +kernel)
theorem flX5_42 : FL RX5 42 5 5 0 false := ⟨RX5, TX5, 9, tyX5, rfl, inlX5, tyX5_ok, nmX5, by decide, rfl, List.mem_of_getElem? (i := 152) (by decide +kernel), rfl, vo_i, rfl, (fun h => by cases h), by decide⟩
theorem flX5_45 : FL RX5 45 1 1 0 false := ⟨RX1, TX1, 11, tyX1, rfl, inlX1, tyX1_ok, nmX1, by decide, rfl, List.mem_of_getElem? (i := 153) (by decide +kernel), rfl, vo_i, rfl, (fun h => by cases h), by decide⟩
theorem flX5_48 : FL RX5 48 1 3 0 false := ⟨RX1, TX1, 11, tyX1, rfl, inlX1, tyX1_ok, nmX1, by decide, rfl, List.mem_of_getElem? (i := 154) (by decide +kernel), rfl, vo_i, rfl, (fun h => by cases h), by decide⟩
theorem flX5_51 : FL RX5 51 5 4 0 false := ⟨RX5, TX5, 9, tyX5, rfl, inlX5, tyX5_ok, nmX5, by decide, rfl, List.mem_of_getElem? (i := 155) (by decide +kernel), rfl, vo_i, rfl, (fun h => by cases h), by decide⟩
theorem flX5_54 : FL RX5 54 1 2 0 false := ⟨RX1, TX1, 11, tyX1, rfl, inlX1, tyX1_ok, nmX1, by decide, rfl, List.mem_of_getElem? (i := 156) (by decide +kernel), rfl, vo_i, rfl, (fun h => by cases h), by decide⟩
theorem mlX6_152 : ML RX6 152 yX6_in cX6_in 3 (some .boolean) 3 := ⟨List.mem_of_getElem? (i := 170) (by decide +kernel), List.mem_of_getElem? (i := 172) (by decide +kernel), List.mem_of_getElem? (i := 5) (by decide +kernel), by decide +kernel⟩
theorem gm_171 : Cond.static yX6_in ∈ Gw := List.mem_of_getElem? (i := 171) (by decide +kernel)
theorem mlX6_172 : ML RX6 172 yX6_isClient cX6_isClient 1 (some .boolean) 1 := ⟨List.mem_of_getElem? (i := 167) (by decide +kernel), List.mem_of_getElem? (i := 169) (by decide +kernel), List.mem_of_getElem? (i := 5) (by decide +kernel), by decide +kernel⟩
theorem gm_168 : Cond.static yX6_isClient ∈ Gw := List.mem_of_getElem? (i := 168) (by decide +kernel)
theorem flX6_176 : FL RX6 176 6 6 0 false := ⟨RX6, TX6, 53, tyX6, rfl, inlX6, tyX6_ok, nmX6, by decide, rfl, List.mem_of_getElem? (i := 165) (by decide +kernel), rfl, vo_i, rfl, (fun h => by cases h), by decide⟩
theorem flX6_156 : FL RX6 156 6 2 0 false := ⟨RX6, TX6, 53, tyX6, rfl, inlX6, tyX6_ok, nmX6, by decide, rfl, List.mem_of_getElem? (i := 166) (by decide +kernel), rfl, vo_i, rfl, (fun h => by cases h), by decide⟩
theorem mlX5_57 : ML RX5 57 yX5_isLive cX5_isLive 4 (some .boolean) 2 := ⟨List.mem_of_getElem? (i := 177) (by decide +kernel), List.mem_of_getElem? (i := 180) (by decide +kernel), List.mem_of_getElem? (i := 2) (by decide +kernel), by decide +kernel⟩
theorem gm_178 : Cond.instanceMethod yX5_isLive ∈ Gw := List.mem_of_getElem? (i := 178) (by decide +kernel)
theorem gm_179 : Cond.selects RX5 yX5_isLive yX5_isLive ∈ Gw := List.mem_of_getElem? (i := 179) (by decide +kernel)
theorem mlX6_179 : ML RX6 179 yX6_isLive cX6_isLive 4 (some .boolean) 1 := ⟨List.mem_of_getElem? (i := 185) (by decide +kernel), List.mem_of_getElem? (i := 188) (by decide +kernel), List.mem_of_getElem? (i := 5) (by decide +kernel), by decide +kernel⟩
theorem gm_186 : Cond.instanceMethod yX6_isLive ∈ Gw := List.mem_of_getElem? (i := 186) (by decide +kernel)
theorem gm_187 : Cond.selects RX6 yX6_isLive yX6_isLive ∈ Gw := List.mem_of_getElem? (i := 187) (by decide +kernel)
theorem flX1_44 : FL RX1 44 1 3 0 false := ⟨RX1, TX1, 11, tyX1, rfl, inlX1, tyX1_ok, nmX1, by decide, rfl, List.mem_of_getElem? (i := 197) (by decide +kernel), rfl, vo_i, rfl, (fun h => by cases h), by decide⟩
theorem gm_227 : Cond.methodLink RX2 3 objectInit ∈ Gw := List.mem_of_getElem? (i := 227) (by decide +kernel)
theorem flX2_9 : FL RX2 9 2 0 0 true := ⟨RX2, TX2, 15, tyX2, rfl, inlX2, tyX2_ok, nmX2, by decide, rfl, List.mem_of_getElem? (i := 228) (by decide +kernel), rfl, vo_i, rfl, (fun _ => rfl), by decide⟩
theorem flX2_15 : FL RX2 15 2 1 0 true := ⟨RX2, TX2, 15, tyX2, rfl, inlX2, tyX2_ok, nmX2, by decide, rfl, List.mem_of_getElem? (i := 229) (by decide +kernel), rfl, vo_i, rfl, (fun _ => rfl), by decide⟩
theorem flX2_18 : FL RX2 18 2 2 0 true := ⟨RX2, TX2, 15, tyX2, rfl, inlX2, tyX2_ok, nmX2, by decide, rfl, List.mem_of_getElem? (i := 230) (by decide +kernel), rfl, vo_i, rfl, (fun _ => rfl), by decide⟩
theorem flX5_250 : FG RX5 250 1 5 2 := ⟨RX1, TX1, 11, rfl, inlX1, by decide, rfl, List.mem_of_getElem? (i := 205) (by decide +kernel), rfl, by decide⟩
theorem clX5_89 : CL RX5 89 2 15 := ⟨RX2, TX2, tyX2, rfl, inlX2, tyX2_ok, List.mem_of_getElem? (i := 206) (by decide +kernel), List.mem_of_getElem? (i := 207) (by decide +kernel), List.mem_of_getElem? (i := 208) (by decide +kernel), by decide +kernel, by decide⟩
theorem flX5_225 : FG RX5 225 1 4 2 := ⟨RX1, TX1, 11, rfl, inlX1, by decide, rfl, List.mem_of_getElem? (i := 209) (by decide +kernel), rfl, by decide⟩
theorem mlX5_205 : ML RX5 205 yX5_bucketOf cX5_bucketOf 1 (some .int) 1 := ⟨List.mem_of_getElem? (i := 221) (by decide +kernel), List.mem_of_getElem? (i := 223) (by decide +kernel), List.mem_of_getElem? (i := 2) (by decide +kernel), by decide +kernel⟩
theorem gm_222 : Cond.static yX5_bucketOf ∈ Gw := List.mem_of_getElem? (i := 222) (by decide +kernel)
theorem flX5_312 : FG RX5 312 1 0 0 := ⟨RX1, TX1, 11, rfl, inlX1, by decide, rfl, List.mem_of_getElem? (i := 210) (by decide +kernel), rfl, by decide⟩
theorem mlX5_91 : ML RX5 91 yX2_init cX2_init 4 none 3 := ⟨List.mem_of_getElem? (i := 224) (by decide +kernel), List.mem_of_getElem? (i := 226) (by decide +kernel), List.mem_of_getElem? (i := 208) (by decide +kernel), by decide +kernel⟩
theorem gm_225 : Cond.instanceMethod yX2_init ∈ Gw := List.mem_of_getElem? (i := 225) (by decide +kernel)
theorem flX5_94 : FL RX5 94 2 3 0 false := ⟨RX2, TX2, 15, tyX2, rfl, inlX2, tyX2_ok, nmX2, by decide, rfl, List.mem_of_getElem? (i := 211) (by decide +kernel), rfl, vo_i, rfl, (fun h => by cases h), by decide⟩
theorem flX5_240 : FL RX5 240 2 5 0 false := ⟨RX2, TX2, 15, tyX2, rfl, inlX2, tyX2_ok, nmX2, by decide, rfl, List.mem_of_getElem? (i := 212) (by decide +kernel), rfl, vo_i, rfl, (fun h => by cases h), by decide⟩
theorem mlX5_95 : ML RX5 95 yX1_first cX1_first 2 (some .int) 0 := ⟨List.mem_of_getElem? (i := 231) (by decide +kernel), List.mem_of_getElem? (i := 234) (by decide +kernel), List.mem_of_getElem? (i := 25) (by decide +kernel), by decide +kernel⟩
theorem gm_232 : Cond.instanceMethod yX1_first ∈ Gw := List.mem_of_getElem? (i := 232) (by decide +kernel)
theorem gm_233 : Cond.selects RX1 yX1_first yX1_first ∈ Gw := List.mem_of_getElem? (i := 233) (by decide +kernel)
theorem flX5_98 : FL RX5 98 2 6 0 false := ⟨RX2, TX2, 15, tyX2, rfl, inlX2, tyX2_ok, nmX2, by decide, rfl, List.mem_of_getElem? (i := 213) (by decide +kernel), rfl, vo_i, rfl, (fun h => by cases h), by decide⟩
theorem flX5_268 : FL RX5 268 2 9 0 false := ⟨RX2, TX2, 15, tyX2, rfl, inlX2, tyX2_ok, nmX2, by decide, rfl, List.mem_of_getElem? (i := 214) (by decide +kernel), rfl, vo_i, rfl, (fun h => by cases h), by decide⟩
theorem flX5_313 : FG RX5 313 1 6 2 := ⟨RX1, TX1, 11, rfl, inlX1, by decide, rfl, List.mem_of_getElem? (i := 215) (by decide +kernel), rfl, by decide⟩
theorem flX5_316 : FL RX5 316 2 10 0 false := ⟨RX2, TX2, 15, tyX2, rfl, inlX2, tyX2_ok, nmX2, by decide, rfl, List.mem_of_getElem? (i := 216) (by decide +kernel), rfl, vo_i, rfl, (fun h => by cases h), by decide⟩
theorem flX5_319 : FG RX5 319 1 7 2 := ⟨RX1, TX1, 11, rfl, inlX1, by decide, rfl, List.mem_of_getElem? (i := 217) (by decide +kernel), rfl, by decide⟩
theorem flX5_322 : FL RX5 322 2 11 1 false := ⟨RX2, TX2, 15, tyX2, rfl, inlX2, tyX2_ok, nmX2, by decide, rfl, List.mem_of_getElem? (i := 218) (by decide +kernel), rfl, vo_l, rfl, (fun h => by cases h), by decide⟩
theorem flX5_325 : FG RX5 325 1 8 2 := ⟨RX1, TX1, 11, rfl, inlX1, by decide, rfl, List.mem_of_getElem? (i := 219) (by decide +kernel), rfl, by decide⟩
theorem flX5_328 : FL RX5 328 2 12 1 false := ⟨RX2, TX2, 15, tyX2, rfl, inlX2, tyX2_ok, nmX2, by decide, rfl, List.mem_of_getElem? (i := 220) (by decide +kernel), rfl, vo_l, rfl, (fun h => by cases h), by decide⟩
theorem flX3_21 : FL RX3 21 3 1 0 false := ⟨RX3, TX3, 2, tyX3, rfl, inlX3, tyX3_ok, nmX3, by decide, rfl, List.mem_of_getElem? (i := 244) (by decide +kernel), rfl, vo_i, rfl, (fun h => by cases h), by decide⟩
theorem mlX5_127 : ML RX5 127 yX3_append cX3_append 2 (some .boolean) 1 := ⟨List.mem_of_getElem? (i := 240) (by decide +kernel), List.mem_of_getElem? (i := 243) (by decide +kernel), List.mem_of_getElem? (i := 28) (by decide +kernel), by decide +kernel⟩
theorem gm_241 : Cond.instanceMethod yX3_append ∈ Gw := List.mem_of_getElem? (i := 241) (by decide +kernel)
theorem gm_242 : Cond.selects RX3 yX3_append yX3_append ∈ Gw := List.mem_of_getElem? (i := 242) (by decide +kernel)
theorem flX5_120 : FL RX5 120 5 6 0 false := ⟨RX5, TX5, 9, tyX5, rfl, inlX5, tyX5_ok, nmX5, by decide, rfl, List.mem_of_getElem? (i := 239) (by decide +kernel), rfl, vo_i, rfl, (fun h => by cases h), by decide⟩
theorem mlX5_61 : ML RX5 61 yX1_waiting cX1_waiting 3 (some .int) 0 := ⟨List.mem_of_getElem? (i := 193) (by decide +kernel), List.mem_of_getElem? (i := 196) (by decide +kernel), List.mem_of_getElem? (i := 25) (by decide +kernel), by decide +kernel⟩
theorem gm_194 : Cond.instanceMethod yX1_waiting ∈ Gw := List.mem_of_getElem? (i := 194) (by decide +kernel)
theorem gm_195 : Cond.selects RX1 yX1_waiting yX1_waiting ∈ Gw := List.mem_of_getElem? (i := 195) (by decide +kernel)
theorem mlX5_65 : ML RX5 65 yX1_newCall cX1_newCall 7 (some .int) 4 := ⟨List.mem_of_getElem? (i := 198) (by decide +kernel), List.mem_of_getElem? (i := 201) (by decide +kernel), List.mem_of_getElem? (i := 25) (by decide +kernel), by decide +kernel⟩
theorem gm_199 : Cond.instanceMethod yX1_newCall ∈ Gw := List.mem_of_getElem? (i := 199) (by decide +kernel)
theorem gm_200 : Cond.selects RX1 yX1_newCall yX1_newCall ∈ Gw := List.mem_of_getElem? (i := 200) (by decide +kernel)
theorem mlX5_69 : ML RX5 69 yX5_requestOf cX5_requestOf 4 (some (.object "OnceCalls$Letter")) 2 := ⟨List.mem_of_getElem? (i := 202) (by decide +kernel), List.mem_of_getElem? (i := 204) (by decide +kernel), List.mem_of_getElem? (i := 2) (by decide +kernel), by decide +kernel⟩
theorem gm_203 : Cond.static yX5_requestOf ∈ Gw := List.mem_of_getElem? (i := 203) (by decide +kernel)
theorem mlX5_73 : ML RX5 73 yX5_send cX5_send 2 none 1 := ⟨List.mem_of_getElem? (i := 235) (by decide +kernel), List.mem_of_getElem? (i := 238) (by decide +kernel), List.mem_of_getElem? (i := 2) (by decide +kernel), by decide +kernel⟩
theorem gm_236 : Cond.instanceMethod yX5_send ∈ Gw := List.mem_of_getElem? (i := 236) (by decide +kernel)
theorem gm_237 : Cond.selects RX5 yX5_send yX5_send ∈ Gw := List.mem_of_getElem? (i := 237) (by decide +kernel)
theorem flX6_159 : FL RX6 159 6 48 0 false := ⟨RX6, TX6, 53, tyX6, rfl, inlX6, tyX6_ok, nmX6, by decide, rfl, List.mem_of_getElem? (i := 261) (by decide +kernel), rfl, vo_i, rfl, (fun h => by cases h), by decide⟩
theorem flX6_162 : FL RX6 162 6 50 0 false := ⟨RX6, TX6, 53, tyX6, rfl, inlX6, tyX6_ok, nmX6, by decide, rfl, List.mem_of_getElem? (i := 270) (by decide +kernel), rfl, vo_i, rfl, (fun h => by cases h), by decide⟩
theorem flX6_165 : FL RX6 165 6 3 0 false := ⟨RX6, TX6, 53, tyX6, rfl, inlX6, tyX6_ok, nmX6, by decide, rfl, List.mem_of_getElem? (i := 271) (by decide +kernel), rfl, vo_i, rfl, (fun h => by cases h), by decide⟩
theorem mlX6_182 : ML RX6 182 yX6_letter cX6_letter 5 (some .int) 3 := ⟨List.mem_of_getElem? (i := 257) (by decide +kernel), List.mem_of_getElem? (i := 260) (by decide +kernel), List.mem_of_getElem? (i := 5) (by decide +kernel), by decide +kernel⟩
theorem gm_258 : Cond.instanceMethod yX6_letter ∈ Gw := List.mem_of_getElem? (i := 258) (by decide +kernel)
theorem gm_259 : Cond.selects RX6 yX6_letter yX6_letter ∈ Gw := List.mem_of_getElem? (i := 259) (by decide +kernel)
theorem mlX6_186 : ML RX6 186 yX6_first cX6_first 3 (some .int) 1 := ⟨List.mem_of_getElem? (i := 262) (by decide +kernel), List.mem_of_getElem? (i := 265) (by decide +kernel), List.mem_of_getElem? (i := 5) (by decide +kernel), by decide +kernel⟩
theorem gm_263 : Cond.instanceMethod yX6_first ∈ Gw := List.mem_of_getElem? (i := 263) (by decide +kernel)
theorem gm_264 : Cond.selects RX6 yX6_first yX6_first ∈ Gw := List.mem_of_getElem? (i := 264) (by decide +kernel)
theorem mlX6_168 : ML RX6 168 yX6_go cX6_go 2 none 1 := ⟨List.mem_of_getElem? (i := 266) (by decide +kernel), List.mem_of_getElem? (i := 269) (by decide +kernel), List.mem_of_getElem? (i := 5) (by decide +kernel), by decide +kernel⟩
theorem gm_267 : Cond.instanceMethod yX6_go ∈ Gw := List.mem_of_getElem? (i := 267) (by decide +kernel)
theorem gm_268 : Cond.selects RX6 yX6_go yX6_go ∈ Gw := List.mem_of_getElem? (i := 268) (by decide +kernel)
theorem mlX6_190 : ML RX6 190 yX6_waiting cX6_waiting 4 (some .int) 1 := ⟨List.mem_of_getElem? (i := 249) (by decide +kernel), List.mem_of_getElem? (i := 252) (by decide +kernel), List.mem_of_getElem? (i := 5) (by decide +kernel), by decide +kernel⟩
theorem gm_250 : Cond.instanceMethod yX6_waiting ∈ Gw := List.mem_of_getElem? (i := 250) (by decide +kernel)
theorem gm_251 : Cond.selects RX6 yX6_waiting yX6_waiting ∈ Gw := List.mem_of_getElem? (i := 251) (by decide +kernel)
theorem mlX6_193 : ML RX6 193 yX6_request cX6_request 5 none 2 := ⟨List.mem_of_getElem? (i := 253) (by decide +kernel), List.mem_of_getElem? (i := 256) (by decide +kernel), List.mem_of_getElem? (i := 5) (by decide +kernel), by decide +kernel⟩
theorem gm_254 : Cond.instanceMethod yX6_request ∈ Gw := List.mem_of_getElem? (i := 254) (by decide +kernel)
theorem gm_255 : Cond.selects RX6 yX6_request yX6_request ∈ Gw := List.mem_of_getElem? (i := 255) (by decide +kernel)
theorem mlX5_77 : ML RX5 77 yX1_hasCall cX1_hasCall 2 (some .boolean) 1 := ⟨List.mem_of_getElem? (i := 277) (by decide +kernel), List.mem_of_getElem? (i := 280) (by decide +kernel), List.mem_of_getElem? (i := 25) (by decide +kernel), by decide +kernel⟩
theorem gm_278 : Cond.instanceMethod yX1_hasCall ∈ Gw := List.mem_of_getElem? (i := 278) (by decide +kernel)
theorem gm_279 : Cond.selects RX1 yX1_hasCall yX1_hasCall ∈ Gw := List.mem_of_getElem? (i := 279) (by decide +kernel)
theorem flX5_81 : FG RX5 81 1 9 2 := ⟨RX1, TX1, 11, rfl, inlX1, by decide, rfl, List.mem_of_getElem? (i := 276) (by decide +kernel), rfl, by decide⟩
theorem mlX6_197 : ML RX6 197 yX6_isCall cX6_isCall 3 (some .boolean) 2 := ⟨List.mem_of_getElem? (i := 285) (by decide +kernel), List.mem_of_getElem? (i := 288) (by decide +kernel), List.mem_of_getElem? (i := 5) (by decide +kernel), by decide +kernel⟩
theorem gm_286 : Cond.instanceMethod yX6_isCall ∈ Gw := List.mem_of_getElem? (i := 286) (by decide +kernel)
theorem gm_287 : Cond.selects RX6 yX6_isCall yX6_isCall ∈ Gw := List.mem_of_getElem? (i := 287) (by decide +kernel)
theorem mlX5_85 : ML RX5 85 yX5_serverAt cX5_serverAt 2 (some (.object "OnceCalls$Server")) 1 := ⟨List.mem_of_getElem? (i := 293) (by decide +kernel), List.mem_of_getElem? (i := 296) (by decide +kernel), List.mem_of_getElem? (i := 2) (by decide +kernel), by decide +kernel⟩
theorem gm_294 : Cond.instanceMethod yX5_serverAt ∈ Gw := List.mem_of_getElem? (i := 294) (by decide +kernel)
theorem gm_295 : Cond.selects RX5 yX5_serverAt yX5_serverAt ∈ Gw := List.mem_of_getElem? (i := 295) (by decide +kernel)
theorem mlX6_201 : ML RX6 201 yX6_isServer cX6_isServer 2 (some .boolean) 1 := ⟨List.mem_of_getElem? (i := 301) (by decide +kernel), List.mem_of_getElem? (i := 304) (by decide +kernel), List.mem_of_getElem? (i := 5) (by decide +kernel), by decide +kernel⟩
theorem gm_302 : Cond.instanceMethod yX6_isServer ∈ Gw := List.mem_of_getElem? (i := 302) (by decide +kernel)
theorem gm_303 : Cond.selects RX6 yX6_isServer yX6_isServer ∈ Gw := List.mem_of_getElem? (i := 303) (by decide +kernel)
theorem flX5_113 : FG RX5 113 2 1 0 := ⟨RX2, TX2, 15, rfl, inlX2, by decide, rfl, List.mem_of_getElem? (i := 310) (by decide +kernel), rfl, by decide⟩
theorem flX5_243 : FL RX5 243 2 8 0 false := ⟨RX2, TX2, 15, tyX2, rfl, inlX2, tyX2_ok, nmX2, by decide, rfl, List.mem_of_getElem? (i := 324) (by decide +kernel), rfl, vo_i, rfl, (fun h => by cases h), by decide⟩
theorem mlX5_253 : ML RX5 253 yX1_refuseWaiting cX1_refuseWaiting 2 none 0 := ⟨List.mem_of_getElem? (i := 328) (by decide +kernel), List.mem_of_getElem? (i := 331) (by decide +kernel), List.mem_of_getElem? (i := 25) (by decide +kernel), by decide +kernel⟩
theorem gm_329 : Cond.instanceMethod yX1_refuseWaiting ∈ Gw := List.mem_of_getElem? (i := 329) (by decide +kernel)
theorem gm_330 : Cond.selects RX1 yX1_refuseWaiting yX1_refuseWaiting ∈ Gw := List.mem_of_getElem? (i := 330) (by decide +kernel)
theorem flX5_246 : FL RX5 246 2 13 1 false := ⟨RX2, TX2, 15, tyX2, rfl, inlX2, tyX2_ok, nmX2, by decide, rfl, List.mem_of_getElem? (i := 326) (by decide +kernel), rfl, vo_l, rfl, (fun h => by cases h), by decide⟩
theorem flX5_228 : FG RX5 228 1 10 2 := ⟨RX1, TX1, 11, rfl, inlX1, by decide, rfl, List.mem_of_getElem? (i := 325) (by decide +kernel), rfl, by decide⟩
theorem flX5_237 : FL RX5 237 5 8 0 false := ⟨RX5, TX5, 9, tyX5, rfl, inlX5, tyX5_ok, nmX5, by decide, rfl, List.mem_of_getElem? (i := 327) (by decide +kernel), rfl, vo_i, rfl, (fun h => by cases h), by decide⟩
theorem flX5_161 : FL RX5 161 4 5 3 false := ⟨RX4, TX4, 6, tyX4, rfl, inlX4, tyX4_ok, nmX4, by decide, rfl, List.mem_of_getElem? (i := 356) (by decide +kernel), rfl, vo_z, rfl, (fun h => by cases h), by decide⟩
theorem flX5_134 : FG RX5 134 4 1 2 := ⟨RX4, TX4, 6, rfl, inlX4, by decide, rfl, List.mem_of_getElem? (i := 357) (by decide +kernel), rfl, by decide⟩
theorem flX5_271 : FG RX5 271 2 2 0 := ⟨RX2, TX2, 15, rfl, inlX2, by decide, rfl, List.mem_of_getElem? (i := 340) (by decide +kernel), rfl, by decide⟩
theorem flX5_303 : FG RX5 303 4 0 0 := ⟨RX4, TX4, 6, rfl, inlX4, by decide, rfl, List.mem_of_getElem? (i := 351) (by decide +kernel), rfl, by decide⟩
theorem mlX5_180 : ML RX5 180 yX5_sendFrom cX5_sendFrom 4 none 2 := ⟨List.mem_of_getElem? (i := 352) (by decide +kernel), List.mem_of_getElem? (i := 355) (by decide +kernel), List.mem_of_getElem? (i := 2) (by decide +kernel), by decide +kernel⟩
theorem gm_353 : Cond.instanceMethod yX5_sendFrom ∈ Gw := List.mem_of_getElem? (i := 353) (by decide +kernel)
theorem gm_354 : Cond.selects RX5 yX5_sendFrom yX5_sendFrom ∈ Gw := List.mem_of_getElem? (i := 354) (by decide +kernel)
theorem mlX0_80 : ML RX0 80 yX0_removeRecord cX0_removeRecord 3 none 1 := ⟨List.mem_of_getElem? (i := 377) (by decide +kernel), List.mem_of_getElem? (i := 380) (by decide +kernel), List.mem_of_getElem? (i := 47) (by decide +kernel), by decide +kernel⟩
theorem gm_378 : Cond.instanceMethod yX0_removeRecord ∈ Gw := List.mem_of_getElem? (i := 378) (by decide +kernel)
theorem gm_379 : Cond.selects RX0 yX0_removeRecord yX0_removeRecord ∈ Gw := List.mem_of_getElem? (i := 379) (by decide +kernel)
theorem flX0_62 : FG RX0 62 2 2 0 := ⟨RX2, TX2, 15, rfl, inlX2, by decide, rfl, List.mem_of_getElem? (i := 369) (by decide +kernel), rfl, by decide⟩
theorem flX0_67 : FL RX0 67 2 3 0 false := ⟨RX2, TX2, 15, tyX2, rfl, inlX2, tyX2_ok, nmX2, by decide, rfl, List.mem_of_getElem? (i := 370) (by decide +kernel), rfl, vo_i, rfl, (fun h => by cases h), by decide⟩
theorem flX0_77 : FL RX0 77 2 6 0 false := ⟨RX2, TX2, 15, tyX2, rfl, inlX2, tyX2_ok, nmX2, by decide, rfl, List.mem_of_getElem? (i := 372) (by decide +kernel), rfl, vo_i, rfl, (fun h => by cases h), by decide⟩
theorem mlX0_73 : ML RX0 73 yX0_removeRecordsBelow cX0_removeRecordsBelow 4 none 2 := ⟨List.mem_of_getElem? (i := 373) (by decide +kernel), List.mem_of_getElem? (i := 376) (by decide +kernel), List.mem_of_getElem? (i := 47) (by decide +kernel), by decide +kernel⟩
theorem gm_374 : Cond.instanceMethod yX0_removeRecordsBelow ∈ Gw := List.mem_of_getElem? (i := 374) (by decide +kernel)
theorem gm_375 : Cond.selects RX0 yX0_removeRecordsBelow yX0_removeRecordsBelow ∈ Gw := List.mem_of_getElem? (i := 375) (by decide +kernel)
theorem gm_371 : Cond.constant RX0 72 (2147483647) ∈ Gw := List.mem_of_getElem? (i := 371) (by decide +kernel)
theorem flX0_84 : FL RX0 84 2 5 0 false := ⟨RX2, TX2, 15, tyX2, rfl, inlX2, tyX2_ok, nmX2, by decide, rfl, List.mem_of_getElem? (i := 385) (by decide +kernel), rfl, vo_i, rfl, (fun h => by cases h), by decide⟩
theorem flX0_87 : FL RX0 87 2 9 0 false := ⟨RX2, TX2, 15, tyX2, rfl, inlX2, tyX2_ok, nmX2, by decide, rfl, List.mem_of_getElem? (i := 394) (by decide +kernel), rfl, vo_i, rfl, (fun h => by cases h), by decide⟩
theorem mn_X5_placeOf : MN yX5_placeOf cX5_placeOf 1 (some .int) 1 := ⟨List.mem_of_getElem? (i := 399) (by decide +kernel), List.mem_of_getElem? (i := 2) (by decide +kernel), by decide +kernel⟩
theorem gm_398 : Cond.static yX5_placeOf ∈ Gw := List.mem_of_getElem? (i := 398) (by decide +kernel)
theorem flX0_94 : FL RX0 94 2 10 0 false := ⟨RX2, TX2, 15, tyX2, rfl, inlX2, tyX2_ok, nmX2, by decide, rfl, List.mem_of_getElem? (i := 395) (by decide +kernel), rfl, vo_i, rfl, (fun h => by cases h), by decide⟩
theorem flX0_97 : FL RX0 97 2 11 1 false := ⟨RX2, TX2, 15, tyX2, rfl, inlX2, tyX2_ok, nmX2, by decide, rfl, List.mem_of_getElem? (i := 396) (by decide +kernel), rfl, vo_l, rfl, (fun h => by cases h), by decide⟩
theorem flX0_101 : FL RX0 101 2 12 1 false := ⟨RX2, TX2, 15, tyX2, rfl, inlX2, tyX2_ok, nmX2, by decide, rfl, List.mem_of_getElem? (i := 397) (by decide +kernel), rfl, vo_l, rfl, (fun h => by cases h), by decide⟩
theorem mlX5_282 : ML RX5 282 yX0_know cX0_know 3 (some .boolean) 1 := ⟨List.mem_of_getElem? (i := 365) (by decide +kernel), List.mem_of_getElem? (i := 368) (by decide +kernel), List.mem_of_getElem? (i := 47) (by decide +kernel), by decide +kernel⟩
theorem gm_366 : Cond.instanceMethod yX0_know ∈ Gw := List.mem_of_getElem? (i := 366) (by decide +kernel)
theorem gm_367 : Cond.selects RX0 yX0_know yX0_know ∈ Gw := List.mem_of_getElem? (i := 367) (by decide +kernel)
theorem mlX5_285 : ML RX5 285 yX0_find cX0_find 3 (some .int) 1 := ⟨List.mem_of_getElem? (i := 381) (by decide +kernel), List.mem_of_getElem? (i := 384) (by decide +kernel), List.mem_of_getElem? (i := 47) (by decide +kernel), by decide +kernel⟩
theorem gm_382 : Cond.instanceMethod yX0_find ∈ Gw := List.mem_of_getElem? (i := 382) (by decide +kernel)
theorem gm_383 : Cond.selects RX0 yX0_find yX0_find ∈ Gw := List.mem_of_getElem? (i := 383) (by decide +kernel)
theorem mlX5_289 : ML RX5 289 yX0_firstOf cX0_firstOf 2 (some .int) 1 := ⟨List.mem_of_getElem? (i := 386) (by decide +kernel), List.mem_of_getElem? (i := 389) (by decide +kernel), List.mem_of_getElem? (i := 47) (by decide +kernel), by decide +kernel⟩
theorem gm_387 : Cond.instanceMethod yX0_firstOf ∈ Gw := List.mem_of_getElem? (i := 387) (by decide +kernel)
theorem gm_388 : Cond.selects RX0 yX0_firstOf yX0_firstOf ∈ Gw := List.mem_of_getElem? (i := 388) (by decide +kernel)
theorem flX5_202 : FL RX5 202 0 3 0 false := ⟨RX0, TX0, 11, tyX0, rfl, inlX0, tyX0_ok, nmX0, by decide, rfl, List.mem_of_getElem? (i := 363) (by decide +kernel), rfl, vo_i, rfl, (fun h => by cases h), by decide⟩
theorem mlX5_295 : ML RX5 295 yX0_doAct cX0_doAct 5 (some .long) 1 := ⟨List.mem_of_getElem? (i := 390) (by decide +kernel), List.mem_of_getElem? (i := 393) (by decide +kernel), List.mem_of_getElem? (i := 47) (by decide +kernel), by decide +kernel⟩
theorem gm_391 : Cond.instanceMethod yX0_doAct ∈ Gw := List.mem_of_getElem? (i := 391) (by decide +kernel)
theorem gm_392 : Cond.selects RX0 yX0_doAct yX0_doAct ∈ Gw := List.mem_of_getElem? (i := 392) (by decide +kernel)
theorem mlX5_299 : ML RX5 299 yX0_addRecord cX0_addRecord 4 none 2 := ⟨List.mem_of_getElem? (i := 400) (by decide +kernel), List.mem_of_getElem? (i := 403) (by decide +kernel), List.mem_of_getElem? (i := 47) (by decide +kernel), by decide +kernel⟩
theorem gm_401 : Cond.instanceMethod yX0_addRecord ∈ Gw := List.mem_of_getElem? (i := 401) (by decide +kernel)
theorem gm_402 : Cond.selects RX0 yX0_addRecord yX0_addRecord ∈ Gw := List.mem_of_getElem? (i := 402) (by decide +kernel)
theorem flX5_234 : FL RX5 234 5 7 0 false := ⟨RX5, TX5, 9, tyX5, rfl, inlX5, tyX5_ok, nmX5, by decide, rfl, List.mem_of_getElem? (i := 364) (by decide +kernel), rfl, vo_i, rfl, (fun h => by cases h), by decide⟩
theorem mlX5_274 : ML RX5 274 yX5_answer cX5_answer 7 none 4 := ⟨List.mem_of_getElem? (i := 347) (by decide +kernel), List.mem_of_getElem? (i := 350) (by decide +kernel), List.mem_of_getElem? (i := 2) (by decide +kernel), by decide +kernel⟩
theorem gm_348 : Cond.instanceMethod yX5_answer ∈ Gw := List.mem_of_getElem? (i := 348) (by decide +kernel)
theorem gm_349 : Cond.selects RX5 yX5_answer yX5_answer ∈ Gw := List.mem_of_getElem? (i := 349) (by decide +kernel)
theorem flX5_292 : FG RX5 292 0 8 2 := ⟨RX0, TX0, 11, rfl, inlX0, by decide, rfl, List.mem_of_getElem? (i := 362) (by decide +kernel), rfl, by decide⟩
theorem mlX5_146 : ML RX5 146 yX4_bucketAt cX4_bucketAt 2 (some (.object "OnceCalls$Bucket")) 1 := ⟨List.mem_of_getElem? (i := 343) (by decide +kernel), List.mem_of_getElem? (i := 346) (by decide +kernel), List.mem_of_getElem? (i := 21) (by decide +kernel), by decide +kernel⟩
theorem gm_344 : Cond.instanceMethod yX4_bucketAt ∈ Gw := List.mem_of_getElem? (i := 344) (by decide +kernel)
theorem gm_345 : Cond.selects RX4 yX4_bucketAt yX4_bucketAt ∈ Gw := List.mem_of_getElem? (i := 345) (by decide +kernel)
theorem flX5_155 : FL RX5 155 0 0 0 false := ⟨RX0, TX0, 11, tyX0, rfl, inlX0, tyX0_ok, nmX0, by decide, rfl, List.mem_of_getElem? (i := 341) (by decide +kernel), rfl, vo_i, rfl, (fun h => by cases h), by decide⟩
theorem mlX5_278 : ML RX5 278 yX5_takeOwnRequest cX5_takeOwnRequest 7 none 3 := ⟨List.mem_of_getElem? (i := 358) (by decide +kernel), List.mem_of_getElem? (i := 361) (by decide +kernel), List.mem_of_getElem? (i := 2) (by decide +kernel), by decide +kernel⟩
theorem gm_359 : Cond.instanceMethod yX5_takeOwnRequest ∈ Gw := List.mem_of_getElem? (i := 359) (by decide +kernel)
theorem gm_360 : Cond.selects RX5 yX5_takeOwnRequest yX5_takeOwnRequest ∈ Gw := List.mem_of_getElem? (i := 360) (by decide +kernel)
theorem flX5_158 : FL RX5 158 0 2 0 false := ⟨RX0, TX0, 11, tyX0, rfl, inlX0, tyX0_ok, nmX0, by decide, rfl, List.mem_of_getElem? (i := 342) (by decide +kernel), rfl, vo_i, rfl, (fun h => by cases h), by decide⟩
theorem flX5_164 : FL RX5 164 2 7 0 false := ⟨RX2, TX2, 15, tyX2, rfl, inlX2, tyX2_ok, nmX2, by decide, rfl, List.mem_of_getElem? (i := 408) (by decide +kernel), rfl, vo_i, rfl, (fun h => by cases h), by decide⟩
theorem flX5_172 : FL RX5 172 2 14 2 false := ⟨RX2, TX2, 15, tyX2, rfl, inlX2, tyX2_ok, nmX2, by decide, rfl, List.mem_of_getElem? (i := 409) (by decide +kernel), rfl, vo_o _, rfl, (fun h => by cases h), by decide⟩
theorem flX5_170 : FL RX5 170 2 4 0 false := ⟨RX2, TX2, 15, tyX2, rfl, inlX2, tyX2_ok, nmX2, by decide, rfl, List.mem_of_getElem? (i := 410) (by decide +kernel), rfl, vo_i, rfl, (fun h => by cases h), by decide⟩
theorem flX5_167 : FL RX5 167 0 1 0 false := ⟨RX0, TX0, 11, tyX0, rfl, inlX0, tyX0_ok, nmX0, by decide, rfl, List.mem_of_getElem? (i := 411) (by decide +kernel), rfl, vo_i, rfl, (fun h => by cases h), by decide⟩
theorem mlX5_176 : ML RX5 176 yX0_copyFrom cX0_copyFrom 2 none 1 := ⟨List.mem_of_getElem? (i := 412) (by decide +kernel), List.mem_of_getElem? (i := 73) (by decide +kernel), List.mem_of_getElem? (i := 47) (by decide +kernel), by decide +kernel⟩
theorem mlX0_53 : ML RX0 53 yJ7_fill_d0a16 cJ7_fill_d0a16 5 none 2 := ⟨List.mem_of_getElem? (i := 421) (by decide +kernel), List.mem_of_getElem? (i := 424) (by decide +kernel), List.mem_of_getElem? (i := 423) (by decide +kernel), by decide +kernel⟩
theorem gm_422 : Cond.static yJ7_fill_d0a16 ∈ Gw := List.mem_of_getElem? (i := 422) (by decide +kernel)
theorem mlX0_59 : ML RX0 59 yJ7_fill_53178 cJ7_fill_53178 4 none 2 := ⟨List.mem_of_getElem? (i := 425) (by decide +kernel), List.mem_of_getElem? (i := 427) (by decide +kernel), List.mem_of_getElem? (i := 423) (by decide +kernel), by decide +kernel⟩
theorem gm_426 : Cond.static yJ7_fill_53178 ∈ Gw := List.mem_of_getElem? (i := 426) (by decide +kernel)
theorem mlX5_306 : ML RX5 306 yX0_empty cX0_empty 1 none 0 := ⟨List.mem_of_getElem? (i := 417) (by decide +kernel), List.mem_of_getElem? (i := 420) (by decide +kernel), List.mem_of_getElem? (i := 47) (by decide +kernel), by decide +kernel⟩
theorem gm_418 : Cond.instanceMethod yX0_empty ∈ Gw := List.mem_of_getElem? (i := 418) (by decide +kernel)
theorem gm_419 : Cond.selects RX0 yX0_empty yX0_empty ∈ Gw := List.mem_of_getElem? (i := 419) (by decide +kernel)
theorem flX5_107 : FG RX5 107 2 0 0 := ⟨RX2, TX2, 15, rfl, inlX2, by decide, rfl, List.mem_of_getElem? (i := 309) (by decide +kernel), rfl, by decide⟩
theorem mlX5_256 : ML RX5 256 yX5_takeRequest cX5_takeRequest 4 none 2 := ⟨List.mem_of_getElem? (i := 336) (by decide +kernel), List.mem_of_getElem? (i := 339) (by decide +kernel), List.mem_of_getElem? (i := 2) (by decide +kernel), by decide +kernel⟩
theorem gm_337 : Cond.instanceMethod yX5_takeRequest ∈ Gw := List.mem_of_getElem? (i := 337) (by decide +kernel)
theorem gm_338 : Cond.selects RX5 yX5_takeRequest yX5_takeRequest ∈ Gw := List.mem_of_getElem? (i := 338) (by decide +kernel)
theorem mlX5_259 : ML RX5 259 yX5_takeMove cX5_takeMove 5 none 2 := ⟨List.mem_of_getElem? (i := 404) (by decide +kernel), List.mem_of_getElem? (i := 407) (by decide +kernel), List.mem_of_getElem? (i := 2) (by decide +kernel), by decide +kernel⟩
theorem gm_405 : Cond.instanceMethod yX5_takeMove ∈ Gw := List.mem_of_getElem? (i := 405) (by decide +kernel)
theorem gm_406 : Cond.selects RX5 yX5_takeMove yX5_takeMove ∈ Gw := List.mem_of_getElem? (i := 406) (by decide +kernel)
theorem mlX5_262 : ML RX5 262 yX5_takeTaken cX5_takeTaken 4 none 2 := ⟨List.mem_of_getElem? (i := 413) (by decide +kernel), List.mem_of_getElem? (i := 416) (by decide +kernel), List.mem_of_getElem? (i := 2) (by decide +kernel), by decide +kernel⟩
theorem gm_414 : Cond.instanceMethod yX5_takeTaken ∈ Gw := List.mem_of_getElem? (i := 414) (by decide +kernel)
theorem gm_415 : Cond.selects RX5 yX5_takeTaken yX5_takeTaken ∈ Gw := List.mem_of_getElem? (i := 415) (by decide +kernel)
theorem mlX5_265 : ML RX5 265 yX5_takeAck cX5_takeAck 5 none 2 := ⟨List.mem_of_getElem? (i := 428) (by decide +kernel), List.mem_of_getElem? (i := 431) (by decide +kernel), List.mem_of_getElem? (i := 2) (by decide +kernel), by decide +kernel⟩
theorem gm_429 : Cond.instanceMethod yX5_takeAck ∈ Gw := List.mem_of_getElem? (i := 429) (by decide +kernel)
theorem gm_430 : Cond.selects RX5 yX5_takeAck yX5_takeAck ∈ Gw := List.mem_of_getElem? (i := 430) (by decide +kernel)
theorem mlX5_100 : ML RX5 100 yX3_at cX3_at 2 (some (.object "OnceCalls$Letter")) 1 := ⟨List.mem_of_getElem? (i := 312) (by decide +kernel), List.mem_of_getElem? (i := 315) (by decide +kernel), List.mem_of_getElem? (i := 28) (by decide +kernel), by decide +kernel⟩
theorem gm_313 : Cond.instanceMethod yX3_at ∈ Gw := List.mem_of_getElem? (i := 313) (by decide +kernel)
theorem gm_314 : Cond.selects RX3 yX3_at yX3_at ∈ Gw := List.mem_of_getElem? (i := 314) (by decide +kernel)
theorem mlX5_104 : ML RX5 104 yX3_removeAt cX3_removeAt 3 none 1 := ⟨List.mem_of_getElem? (i := 316) (by decide +kernel), List.mem_of_getElem? (i := 319) (by decide +kernel), List.mem_of_getElem? (i := 28) (by decide +kernel), by decide +kernel⟩
theorem gm_317 : Cond.instanceMethod yX3_removeAt ∈ Gw := List.mem_of_getElem? (i := 317) (by decide +kernel)
theorem gm_318 : Cond.selects RX3 yX3_removeAt yX3_removeAt ∈ Gw := List.mem_of_getElem? (i := 318) (by decide +kernel)
theorem flX5_116 : FL RX5 116 4 4 3 false := ⟨RX4, TX4, 6, tyX4, rfl, inlX4, tyX4_ok, nmX4, by decide, rfl, List.mem_of_getElem? (i := 311) (by decide +kernel), rfl, vo_z, rfl, (fun h => by cases h), by decide⟩
theorem mlX5_123 : ML RX5 123 yX5_takeAtServer cX5_takeAtServer 3 none 2 := ⟨List.mem_of_getElem? (i := 332) (by decide +kernel), List.mem_of_getElem? (i := 335) (by decide +kernel), List.mem_of_getElem? (i := 2) (by decide +kernel), by decide +kernel⟩
theorem gm_333 : Cond.instanceMethod yX5_takeAtServer ∈ Gw := List.mem_of_getElem? (i := 333) (by decide +kernel)
theorem gm_334 : Cond.selects RX5 yX5_takeAtServer yX5_takeAtServer ∈ Gw := List.mem_of_getElem? (i := 334) (by decide +kernel)
theorem mlX5_110 : ML RX5 110 yX5_takeAnswer cX5_takeAnswer 3 none 1 := ⟨List.mem_of_getElem? (i := 320) (by decide +kernel), List.mem_of_getElem? (i := 323) (by decide +kernel), List.mem_of_getElem? (i := 2) (by decide +kernel), by decide +kernel⟩
theorem gm_321 : Cond.instanceMethod yX5_takeAnswer ∈ Gw := List.mem_of_getElem? (i := 321) (by decide +kernel)
theorem gm_322 : Cond.selects RX5 yX5_takeAnswer yX5_takeAnswer ∈ Gw := List.mem_of_getElem? (i := 322) (by decide +kernel)
theorem mlX6_210 : ML RX6 210 yX6_sendFrom cX6_sendFrom 3 none 2 := ⟨List.mem_of_getElem? (i := 449) (by decide +kernel), List.mem_of_getElem? (i := 452) (by decide +kernel), List.mem_of_getElem? (i := 5) (by decide +kernel), by decide +kernel⟩
theorem gm_450 : Cond.instanceMethod yX6_sendFrom ∈ Gw := List.mem_of_getElem? (i := 450) (by decide +kernel)
theorem gm_451 : Cond.selects RX6 yX6_sendFrom yX6_sendFrom ∈ Gw := List.mem_of_getElem? (i := 451) (by decide +kernel)
theorem mlX6_207 : ML RX6 207 yX6_forget cX6_forget 5 none 2 := ⟨List.mem_of_getElem? (i := 457) (by decide +kernel), List.mem_of_getElem? (i := 460) (by decide +kernel), List.mem_of_getElem? (i := 5) (by decide +kernel), by decide +kernel⟩
theorem gm_458 : Cond.instanceMethod yX6_forget ∈ Gw := List.mem_of_getElem? (i := 458) (by decide +kernel)
theorem gm_459 : Cond.selects RX6 yX6_forget yX6_forget ∈ Gw := List.mem_of_getElem? (i := 459) (by decide +kernel)
theorem mlX6_217 : ML RX6 217 yX6_know cX6_know 10 none 5 := ⟨List.mem_of_getElem? (i := 453) (by decide +kernel), List.mem_of_getElem? (i := 456) (by decide +kernel), List.mem_of_getElem? (i := 5) (by decide +kernel), by decide +kernel⟩
theorem gm_454 : Cond.instanceMethod yX6_know ∈ Gw := List.mem_of_getElem? (i := 454) (by decide +kernel)
theorem gm_455 : Cond.selects RX6 yX6_know yX6_know ∈ Gw := List.mem_of_getElem? (i := 455) (by decide +kernel)
theorem mlX6_221 : ML RX6 221 yX6_effect cX6_effect 5 (some .long) 2 := ⟨List.mem_of_getElem? (i := 461) (by decide +kernel), List.mem_of_getElem? (i := 464) (by decide +kernel), List.mem_of_getElem? (i := 5) (by decide +kernel), by decide +kernel⟩
theorem gm_462 : Cond.instanceMethod yX6_effect ∈ Gw := List.mem_of_getElem? (i := 462) (by decide +kernel)
theorem gm_463 : Cond.selects RX6 yX6_effect yX6_effect ∈ Gw := List.mem_of_getElem? (i := 463) (by decide +kernel)
theorem flX6_225 : FL RX6 225 6 4 0 false := ⟨RX6, TX6, 53, tyX6, rfl, inlX6, tyX6_ok, nmX6, by decide, rfl, List.mem_of_getElem? (i := 444) (by decide +kernel), rfl, vo_i, rfl, (fun h => by cases h), by decide⟩
theorem mlX6_213 : ML RX6 213 yX6_answer cX6_answer 7 none 4 := ⟨List.mem_of_getElem? (i := 445) (by decide +kernel), List.mem_of_getElem? (i := 448) (by decide +kernel), List.mem_of_getElem? (i := 5) (by decide +kernel), by decide +kernel⟩
theorem gm_446 : Cond.instanceMethod yX6_answer ∈ Gw := List.mem_of_getElem? (i := 446) (by decide +kernel)
theorem gm_447 : Cond.selects RX6 yX6_answer yX6_answer ∈ Gw := List.mem_of_getElem? (i := 447) (by decide +kernel)
theorem flX6_204 : FL RX6 204 6 5 0 false := ⟨RX6, TX6, 53, tyX6, rfl, inlX6, tyX6_ok, nmX6, by decide, rfl, List.mem_of_getElem? (i := 469) (by decide +kernel), rfl, vo_i, rfl, (fun h => by cases h), by decide⟩
theorem mlX6_228 : ML RX6 228 yX6_takeOut cX6_takeOut 4 (some .int) 1 := ⟨List.mem_of_getElem? (i := 436) (by decide +kernel), List.mem_of_getElem? (i := 439) (by decide +kernel), List.mem_of_getElem? (i := 5) (by decide +kernel), by decide +kernel⟩
theorem gm_437 : Cond.instanceMethod yX6_takeOut ∈ Gw := List.mem_of_getElem? (i := 437) (by decide +kernel)
theorem gm_438 : Cond.selects RX6 yX6_takeOut yX6_takeOut ∈ Gw := List.mem_of_getElem? (i := 438) (by decide +kernel)
theorem mlX6_231 : ML RX6 231 yX6_asked cX6_asked 8 none 1 := ⟨List.mem_of_getElem? (i := 440) (by decide +kernel), List.mem_of_getElem? (i := 443) (by decide +kernel), List.mem_of_getElem? (i := 5) (by decide +kernel), by decide +kernel⟩
theorem gm_441 : Cond.instanceMethod yX6_asked ∈ Gw := List.mem_of_getElem? (i := 441) (by decide +kernel)
theorem gm_442 : Cond.selects RX6 yX6_asked yX6_asked ∈ Gw := List.mem_of_getElem? (i := 442) (by decide +kernel)
theorem mlX6_234 : ML RX6 234 yX6_answered cX6_answered 5 none 1 := ⟨List.mem_of_getElem? (i := 465) (by decide +kernel), List.mem_of_getElem? (i := 468) (by decide +kernel), List.mem_of_getElem? (i := 5) (by decide +kernel), by decide +kernel⟩
theorem gm_466 : Cond.instanceMethod yX6_answered ∈ Gw := List.mem_of_getElem? (i := 466) (by decide +kernel)
theorem gm_467 : Cond.selects RX6 yX6_answered yX6_answered ∈ Gw := List.mem_of_getElem? (i := 467) (by decide +kernel)
theorem mlX6_237 : ML RX6 237 yX6_moved cX6_moved 6 none 1 := ⟨List.mem_of_getElem? (i := 470) (by decide +kernel), List.mem_of_getElem? (i := 473) (by decide +kernel), List.mem_of_getElem? (i := 5) (by decide +kernel), by decide +kernel⟩
theorem gm_471 : Cond.instanceMethod yX6_moved ∈ Gw := List.mem_of_getElem? (i := 471) (by decide +kernel)
theorem gm_472 : Cond.selects RX6 yX6_moved yX6_moved ∈ Gw := List.mem_of_getElem? (i := 472) (by decide +kernel)
theorem mlX6_240 : ML RX6 240 yX6_taken cX6_taken 4 none 1 := ⟨List.mem_of_getElem? (i := 474) (by decide +kernel), List.mem_of_getElem? (i := 477) (by decide +kernel), List.mem_of_getElem? (i := 5) (by decide +kernel), by decide +kernel⟩
theorem gm_475 : Cond.instanceMethod yX6_taken ∈ Gw := List.mem_of_getElem? (i := 475) (by decide +kernel)
theorem gm_476 : Cond.selects RX6 yX6_taken yX6_taken ∈ Gw := List.mem_of_getElem? (i := 476) (by decide +kernel)
theorem mlX5_131 : ML RX5 131 yX4_keep cX4_keep 2 none 0 := ⟨List.mem_of_getElem? (i := 499) (by decide +kernel), List.mem_of_getElem? (i := 502) (by decide +kernel), List.mem_of_getElem? (i := 21) (by decide +kernel), by decide +kernel⟩
theorem gm_500 : Cond.instanceMethod yX4_keep ∈ Gw := List.mem_of_getElem? (i := 500) (by decide +kernel)
theorem gm_501 : Cond.selects RX4 yX4_keep yX4_keep ∈ Gw := List.mem_of_getElem? (i := 501) (by decide +kernel)
theorem flX5_137 : FL RX5 137 3 1 0 false := ⟨RX3, TX3, 2, tyX3, rfl, inlX3, tyX3_ok, nmX3, by decide, rfl, List.mem_of_getElem? (i := 498) (by decide +kernel), rfl, vo_i, rfl, (fun h => by cases h), by decide⟩
theorem mlX5_140 : ML RX5 140 yX3_clear cX3_clear 2 none 0 := ⟨List.mem_of_getElem? (i := 503) (by decide +kernel), List.mem_of_getElem? (i := 506) (by decide +kernel), List.mem_of_getElem? (i := 28) (by decide +kernel), by decide +kernel⟩
theorem gm_504 : Cond.instanceMethod yX3_clear ∈ Gw := List.mem_of_getElem? (i := 504) (by decide +kernel)
theorem gm_505 : Cond.selects RX3 yX3_clear yX3_clear ∈ Gw := List.mem_of_getElem? (i := 505) (by decide +kernel)
theorem mlX6_243 : ML RX6 243 yX6_copy cX6_copy 7 none 2 := ⟨List.mem_of_getElem? (i := 511) (by decide +kernel), List.mem_of_getElem? (i := 514) (by decide +kernel), List.mem_of_getElem? (i := 5) (by decide +kernel), by decide +kernel⟩
theorem gm_512 : Cond.instanceMethod yX6_copy ∈ Gw := List.mem_of_getElem? (i := 512) (by decide +kernel)
theorem gm_513 : Cond.selects RX6 yX6_copy yX6_copy ∈ Gw := List.mem_of_getElem? (i := 513) (by decide +kernel)
theorem mlX5_143 : ML RX5 143 yX4_restore cX4_restore 2 none 0 := ⟨List.mem_of_getElem? (i := 519) (by decide +kernel), List.mem_of_getElem? (i := 522) (by decide +kernel), List.mem_of_getElem? (i := 21) (by decide +kernel), by decide +kernel⟩
theorem gm_520 : Cond.instanceMethod yX4_restore ∈ Gw := List.mem_of_getElem? (i := 520) (by decide +kernel)
theorem gm_521 : Cond.selects RX4 yX4_restore yX4_restore ∈ Gw := List.mem_of_getElem? (i := 521) (by decide +kernel)
theorem mlX5_150 : ML RX5 150 yX0_canLeaveFor cX0_canLeaveFor 2 (some .boolean) 1 := ⟨List.mem_of_getElem? (i := 540) (by decide +kernel), List.mem_of_getElem? (i := 543) (by decide +kernel), List.mem_of_getElem? (i := 47) (by decide +kernel), by decide +kernel⟩
theorem gm_541 : Cond.instanceMethod yX0_canLeaveFor ∈ Gw := List.mem_of_getElem? (i := 541) (by decide +kernel)
theorem gm_542 : Cond.selects RX0 yX0_canLeaveFor yX0_canLeaveFor ∈ Gw := List.mem_of_getElem? (i := 542) (by decide +kernel)
theorem clX5_151 : CL RX5 151 0 11 := ⟨RX0, TX0, tyX0, rfl, inlX0, tyX0_ok, List.mem_of_getElem? (i := 539) (by decide +kernel), List.mem_of_getElem? (i := 46) (by decide +kernel), List.mem_of_getElem? (i := 47) (by decide +kernel), by decide +kernel, by decide⟩
theorem flX5_216 : FG RX5 216 0 5 2 := ⟨RX0, TX0, 11, rfl, inlX0, by decide, rfl, List.mem_of_getElem? (i := 556) (by decide +kernel), rfl, by decide⟩
theorem flX5_219 : FG RX5 219 0 6 2 := ⟨RX0, TX0, 11, rfl, inlX0, by decide, rfl, List.mem_of_getElem? (i := 557) (by decide +kernel), rfl, by decide⟩
theorem mlX5_309 : ML RX5 309 yX0_removeRecord cX0_removeRecord 3 none 1 := ⟨List.mem_of_getElem? (i := 558) (by decide +kernel), List.mem_of_getElem? (i := 380) (by decide +kernel), List.mem_of_getElem? (i := 47) (by decide +kernel), by decide +kernel⟩
theorem mlX5_183 : ML RX5 183 yX5_removeDeadRecords cX5_removeDeadRecords 4 (some .int) 1 := ⟨List.mem_of_getElem? (i := 552) (by decide +kernel), List.mem_of_getElem? (i := 555) (by decide +kernel), List.mem_of_getElem? (i := 2) (by decide +kernel), by decide +kernel⟩
theorem gm_553 : Cond.instanceMethod yX5_removeDeadRecords ∈ Gw := List.mem_of_getElem? (i := 553) (by decide +kernel)
theorem gm_554 : Cond.selects RX5 yX5_removeDeadRecords yX5_removeDeadRecords ∈ Gw := List.mem_of_getElem? (i := 554) (by decide +kernel)
theorem flX4_60 : FL RX4 60 0 3 0 false := ⟨RX0, TX0, 11, tyX0, rfl, inlX0, tyX0_ok, nmX0, by decide, rfl, List.mem_of_getElem? (i := 582) (by decide +kernel), rfl, vo_i, rfl, (fun h => by cases h), by decide⟩
theorem mlX5_187 : ML RX5 187 yX5_oneIf cX5_oneIf 1 (some .int) 1 := ⟨List.mem_of_getElem? (i := 575) (by decide +kernel), List.mem_of_getElem? (i := 577) (by decide +kernel), List.mem_of_getElem? (i := 2) (by decide +kernel), by decide +kernel⟩
theorem gm_576 : Cond.static yX5_oneIf ∈ Gw := List.mem_of_getElem? (i := 576) (by decide +kernel)
theorem mlX5_191 : ML RX5 191 yX4_recordsInAll cX4_recordsInAll 3 (some .int) 0 := ⟨List.mem_of_getElem? (i := 578) (by decide +kernel), List.mem_of_getElem? (i := 581) (by decide +kernel), List.mem_of_getElem? (i := 21) (by decide +kernel), by decide +kernel⟩
theorem gm_579 : Cond.instanceMethod yX4_recordsInAll ∈ Gw := List.mem_of_getElem? (i := 579) (by decide +kernel)
theorem gm_580 : Cond.selects RX4 yX4_recordsInAll yX4_recordsInAll ∈ Gw := List.mem_of_getElem? (i := 580) (by decide +kernel)
theorem mlX5_194 : ML RX5 194 yX5_bucketAt cX5_bucketAt 4 (some (.object "OnceCalls$Bucket")) 2 := ⟨List.mem_of_getElem? (i := 593) (by decide +kernel), List.mem_of_getElem? (i := 596) (by decide +kernel), List.mem_of_getElem? (i := 2) (by decide +kernel), by decide +kernel⟩
theorem gm_594 : Cond.instanceMethod yX5_bucketAt ∈ Gw := List.mem_of_getElem? (i := 594) (by decide +kernel)
theorem gm_595 : Cond.selects RX5 yX5_bucketAt yX5_bucketAt ∈ Gw := List.mem_of_getElem? (i := 595) (by decide +kernel)
theorem flX5_199 : FG RX5 199 0 10 2 := ⟨RX0, TX0, 11, rfl, inlX0, by decide, rfl, List.mem_of_getElem? (i := 592) (by decide +kernel), rfl, by decide⟩
theorem flX5_197 : FG RX5 197 0 9 2 := ⟨RX0, TX0, 11, rfl, inlX0, by decide, rfl, List.mem_of_getElem? (i := 591) (by decide +kernel), rfl, by decide⟩
theorem mlX6_246 : ML RX6 246 yX6_store cX6_store 2 (some .int) 1 := ⟨List.mem_of_getElem? (i := 601) (by decide +kernel), List.mem_of_getElem? (i := 604) (by decide +kernel), List.mem_of_getElem? (i := 5) (by decide +kernel), by decide +kernel⟩
theorem gm_602 : Cond.instanceMethod yX6_store ∈ Gw := List.mem_of_getElem? (i := 602) (by decide +kernel)
theorem gm_603 : Cond.selects RX6 yX6_store yX6_store ∈ Gw := List.mem_of_getElem? (i := 603) (by decide +kernel)
theorem flX5_209 : FG RX5 209 0 4 2 := ⟨RX0, TX0, 11, rfl, inlX0, by decide, rfl, List.mem_of_getElem? (i := 609) (by decide +kernel), rfl, by decide⟩
theorem mlX5_213 : ML RX5 213 yX5_placeOf cX5_placeOf 1 (some .int) 1 := ⟨List.mem_of_getElem? (i := 610) (by decide +kernel), List.mem_of_getElem? (i := 399) (by decide +kernel), List.mem_of_getElem? (i := 2) (by decide +kernel), by decide +kernel⟩
theorem flX5_222 : FG RX5 222 0 7 2 := ⟨RX0, TX0, 11, rfl, inlX0, by decide, rfl, List.mem_of_getElem? (i := 619) (by decide +kernel), rfl, by decide⟩
theorem mlX2_21 : ML RX2 21 yX2_isBetweenServers cX2_isBetweenServers 1 (some .boolean) 0 := ⟨List.mem_of_getElem? (i := 658) (by decide +kernel), List.mem_of_getElem? (i := 661) (by decide +kernel), List.mem_of_getElem? (i := 208) (by decide +kernel), by decide +kernel⟩
theorem gm_659 : Cond.instanceMethod yX2_isBetweenServers ∈ Gw := List.mem_of_getElem? (i := 659) (by decide +kernel)
theorem gm_660 : Cond.selects RX2 yX2_isBetweenServers yX2_isBetweenServers ∈ Gw := List.mem_of_getElem? (i := 660) (by decide +kernel)
theorem flX2_44 : FL RX2 44 2 5 0 false := ⟨RX2, TX2, 15, tyX2, rfl, inlX2, tyX2_ok, nmX2, by decide, rfl, List.mem_of_getElem? (i := 668) (by decide +kernel), rfl, vo_i, rfl, (fun h => by cases h), by decide⟩
theorem flX2_41 : FL RX2 41 2 6 0 false := ⟨RX2, TX2, 15, tyX2, rfl, inlX2, tyX2_ok, nmX2, by decide, rfl, List.mem_of_getElem? (i := 667) (by decide +kernel), rfl, vo_i, rfl, (fun h => by cases h), by decide⟩
theorem flX2_38 : FL RX2 38 2 7 0 false := ⟨RX2, TX2, 15, tyX2, rfl, inlX2, tyX2_ok, nmX2, by decide, rfl, List.mem_of_getElem? (i := 666) (by decide +kernel), rfl, vo_i, rfl, (fun h => by cases h), by decide⟩
theorem flX2_50 : FL RX2 50 2 14 2 false := ⟨RX2, TX2, 15, tyX2, rfl, inlX2, tyX2_ok, nmX2, by decide, rfl, List.mem_of_getElem? (i := 674) (by decide +kernel), rfl, vo_o _, rfl, (fun h => by cases h), by decide⟩
theorem flX2_54 : FL RX2 54 0 3 0 false := ⟨RX0, TX0, 11, tyX0, rfl, inlX0, tyX0_ok, nmX0, by decide, rfl, List.mem_of_getElem? (i := 675) (by decide +kernel), rfl, vo_i, rfl, (fun h => by cases h), by decide⟩
theorem flX2_47 : FL RX2 47 2 8 0 false := ⟨RX2, TX2, 15, tyX2, rfl, inlX2, tyX2_ok, nmX2, by decide, rfl, List.mem_of_getElem? (i := 673) (by decide +kernel), rfl, vo_i, rfl, (fun h => by cases h), by decide⟩
theorem flX2_28 : FL RX2 28 2 3 0 false := ⟨RX2, TX2, 15, tyX2, rfl, inlX2, tyX2_ok, nmX2, by decide, rfl, List.mem_of_getElem? (i := 657) (by decide +kernel), rfl, vo_i, rfl, (fun h => by cases h), by decide⟩
theorem flX2_25 : FL RX2 25 2 4 0 false := ⟨RX2, TX2, 15, tyX2, rfl, inlX2, tyX2_ok, nmX2, by decide, rfl, List.mem_of_getElem? (i := 656) (by decide +kernel), rfl, vo_i, rfl, (fun h => by cases h), by decide⟩
theorem mlX2_31 : ML RX2 31 yX2_fourthPart cX2_fourthPart 1 (some .int) 0 := ⟨List.mem_of_getElem? (i := 662) (by decide +kernel), List.mem_of_getElem? (i := 665) (by decide +kernel), List.mem_of_getElem? (i := 208) (by decide +kernel), by decide +kernel⟩
theorem gm_663 : Cond.instanceMethod yX2_fourthPart ∈ Gw := List.mem_of_getElem? (i := 663) (by decide +kernel)
theorem gm_664 : Cond.selects RX2 yX2_fourthPart yX2_fourthPart ∈ Gw := List.mem_of_getElem? (i := 664) (by decide +kernel)
theorem mlX2_35 : ML RX2 35 yX2_fifthPart cX2_fifthPart 1 (some .int) 0 := ⟨List.mem_of_getElem? (i := 669) (by decide +kernel), List.mem_of_getElem? (i := 672) (by decide +kernel), List.mem_of_getElem? (i := 208) (by decide +kernel), by decide +kernel⟩
theorem gm_670 : Cond.instanceMethod yX2_fifthPart ∈ Gw := List.mem_of_getElem? (i := 670) (by decide +kernel)
theorem gm_671 : Cond.selects RX2 yX2_fifthPart yX2_fifthPart ∈ Gw := List.mem_of_getElem? (i := 671) (by decide +kernel)
theorem mlX5_231 : ML RX5 231 yX2_part cX2_part 2 (some .int) 1 := ⟨List.mem_of_getElem? (i := 652) (by decide +kernel), List.mem_of_getElem? (i := 655) (by decide +kernel), List.mem_of_getElem? (i := 208) (by decide +kernel), by decide +kernel⟩
theorem gm_653 : Cond.instanceMethod yX2_part ∈ Gw := List.mem_of_getElem? (i := 653) (by decide +kernel)
theorem gm_654 : Cond.selects RX2 yX2_part yX2_part ∈ Gw := List.mem_of_getElem? (i := 654) (by decide +kernel)
