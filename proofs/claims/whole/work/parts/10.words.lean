theorem gx_ins {ws : List Cond} (ps : List Nat) (h : ps.filterMap (fun i => lw_tbl[i]?) = ws) (hg : ws.all goodWord = true) : ∀ w ∈ ws, w ∈ gx_tbl := by
  intro w hw
  have hg1 := List.all_eq_true.mp hg w hw
  rw [← h] at hw
  obtain ⟨i, -, hi⟩ := List.mem_filterMap.mp hw
  exact gx_mem i hi hg1
theorem inX0 : ∀ w ∈ u_ws RX0 TX0 11, w ∈ gx_tbl := gx_ins [160, 162, 164, 166, 168, 170, 172, 174, 176, 178, 180] (by decide +kernel) (by decide +kernel)
theorem inX1 : ∀ w ∈ u_ws RX1 TX1 4, w ∈ gx_tbl := gx_ins [268, 270, 272, 274] (by decide +kernel) (by decide +kernel)
theorem inX2 : ∀ w ∈ u_ws RX2 TX2 1, w ∈ gx_tbl := gx_ins [360] (by decide +kernel) (by decide +kernel)
theorem inX3 : ∀ w ∈ u_ws RX3 TX3 2, w ∈ gx_tbl := gx_ins [227, 229] (by decide +kernel) (by decide +kernel)
theorem inX5 : ∀ w ∈ u_ws RX5 TX5 8, w ∈ gx_tbl := gx_ins [336, 338, 340, 342, 344, 346, 348, 350] (by decide +kernel) (by decide +kernel)
theorem inX7 : ∀ w ∈ u_ws RX7 TX7 5, w ∈ gx_tbl := gx_ins [249, 251, 253, 255, 257] (by decide +kernel) (by decide +kernel)
theorem inX8 : ∀ w ∈ u_ws RX8 TX8 5, w ∈ gx_tbl := gx_ins [213, 215, 217, 219, 221] (by decide +kernel) (by decide +kernel)
theorem inX9 : ∀ w ∈ u_ws RX9 TX9 8, w ∈ gx_tbl := gx_ins [298, 300, 302, 304, 306, 308, 310, 312] (by decide +kernel) (by decide +kernel)
theorem inX10 : ∀ w ∈ u_ws RX10 TX10 11, w ∈ gx_tbl := gx_ins [374, 376, 378, 380, 382, 384, 386, 388, 390, 392, 394] (by decide +kernel) (by decide +kernel)
theorem inX11 : ∀ w ∈ u_ws RX11 TX11 14, w ∈ gx_tbl := gx_ins [1018, 1020, 1022, 1024, 1026, 1028, 1030, 1032, 1034, 1036, 1038, 1040, 1042, 1044] (by decide +kernel) (by decide +kernel)
theorem kk_RX0_3 : Cond.methodLink RX0 3 objectInit ∈ gx_tbl := gx_mem 114 (by decide +kernel) (by decide +kernel)
theorem ko_i : Cond.instanceMethod objectInit ∈ gx_tbl := gx_mem 101 (by decide +kernel) (by decide +kernel)
theorem ko_c : Cond.code objectInit ⟨#[0xb1]⟩ 1 none ∈ gx_tbl := gx_mem 102 (by decide +kernel) (by decide +kernel)
theorem kp_RX0_9 : gx_FldP RX0 9 0 0 false .int := ⟨RX0, TX0, 11, rfl, inX0, by decide, gx_mem 115 (by decide +kernel) (by decide +kernel), ⟨tyX0, tyX0_ok⟩, nmX0, rfl, by decide +kernel, fun q => by cases q⟩
theorem kp_RX0_15 : gx_FldP RX0 15 0 1 false .int := ⟨RX0, TX0, 11, rfl, inX0, by decide, gx_mem 120 (by decide +kernel) (by decide +kernel), ⟨tyX0, tyX0_ok⟩, nmX0, rfl, by decide +kernel, fun q => by cases q⟩
theorem kp_RX0_18 : gx_FldP RX0 18 0 2 false .int := ⟨RX0, TX0, 11, rfl, inX0, by decide, gx_mem 124 (by decide +kernel) (by decide +kernel), ⟨tyX0, tyX0_ok⟩, nmX0, rfl, by decide +kernel, fun q => by cases q⟩
theorem kp_RX0_21 : gx_FldP RX0 21 0 3 false .int := ⟨RX0, TX0, 11, rfl, inX0, by decide, gx_mem 129 (by decide +kernel) (by decide +kernel), ⟨tyX0, tyX0_ok⟩, nmX0, rfl, by decide +kernel, fun q => by cases q⟩
theorem ka_int : Cond.arrayClass .int ∈ gx_tbl := gx_mem 183 (by decide +kernel) (by decide +kernel)
theorem kp_RX0_24 : gx_FldP RX0 24 0 4 true (.array .int) := ⟨RX0, TX0, 11, rfl, inX0, by decide, gx_mem 134 (by decide +kernel) (by decide +kernel), ⟨tyX0, tyX0_ok⟩, nmX0, rfl, by decide +kernel, fun _ => rfl⟩
theorem kp_RX0_28 : gx_FldP RX0 28 0 5 true (.array .int) := ⟨RX0, TX0, 11, rfl, inX0, by decide, gx_mem 137 (by decide +kernel) (by decide +kernel), ⟨tyX0, tyX0_ok⟩, nmX0, rfl, by decide +kernel, fun _ => rfl⟩
theorem kp_RX0_31 : gx_FldP RX0 31 0 6 true (.array .int) := ⟨RX0, TX0, 11, rfl, inX0, by decide, gx_mem 142 (by decide +kernel) (by decide +kernel), ⟨tyX0, tyX0_ok⟩, nmX0, rfl, by decide +kernel, fun _ => rfl⟩
theorem kp_RX0_34 : gx_FldP RX0 34 0 7 true (.array .int) := ⟨RX0, TX0, 11, rfl, inX0, by decide, gx_mem 146 (by decide +kernel) (by decide +kernel), ⟨tyX0, tyX0_ok⟩, nmX0, rfl, by decide +kernel, fun _ => rfl⟩
theorem kp_RX0_37 : gx_FldP RX0 37 0 8 true (.array .int) := ⟨RX0, TX0, 11, rfl, inX0, by decide, gx_mem 149 (by decide +kernel) (by decide +kernel), ⟨tyX0, tyX0_ok⟩, nmX0, rfl, by decide +kernel, fun _ => rfl⟩
theorem kp_RX0_40 : gx_FldP RX0 40 0 9 true (.array .int) := ⟨RX0, TX0, 11, rfl, inX0, by decide, gx_mem 152 (by decide +kernel) (by decide +kernel), ⟨tyX0, tyX0_ok⟩, nmX0, rfl, by decide +kernel, fun _ => rfl⟩
theorem kp_RX0_43 : gx_FldP RX0 43 0 10 true (.array .int) := ⟨RX0, TX0, 11, rfl, inX0, by decide, gx_mem 157 (by decide +kernel) (by decide +kernel), ⟨tyX0, tyX0_ok⟩, nmX0, rfl, by decide +kernel, fun _ => rfl⟩
theorem kf_RX0_9 : gx_Fld RX0 9 0 0 := ⟨RX0, TX0, 11, rfl, inX0, by decide, gx_mem 115 (by decide +kernel) (by decide +kernel)⟩
theorem kf_RX0_15 : gx_Fld RX0 15 0 1 := ⟨RX0, TX0, 11, rfl, inX0, by decide, gx_mem 120 (by decide +kernel) (by decide +kernel)⟩
theorem kf_RX0_18 : gx_Fld RX0 18 0 2 := ⟨RX0, TX0, 11, rfl, inX0, by decide, gx_mem 124 (by decide +kernel) (by decide +kernel)⟩
theorem kf_RX0_21 : gx_Fld RX0 21 0 3 := ⟨RX0, TX0, 11, rfl, inX0, by decide, gx_mem 129 (by decide +kernel) (by decide +kernel)⟩
theorem kf_RX0_24 : gx_Fld RX0 24 0 4 := ⟨RX0, TX0, 11, rfl, inX0, by decide, gx_mem 134 (by decide +kernel) (by decide +kernel)⟩
theorem kf_RX0_28 : gx_Fld RX0 28 0 5 := ⟨RX0, TX0, 11, rfl, inX0, by decide, gx_mem 137 (by decide +kernel) (by decide +kernel)⟩
theorem kf_RX0_31 : gx_Fld RX0 31 0 6 := ⟨RX0, TX0, 11, rfl, inX0, by decide, gx_mem 142 (by decide +kernel) (by decide +kernel)⟩
theorem kf_RX0_34 : gx_Fld RX0 34 0 7 := ⟨RX0, TX0, 11, rfl, inX0, by decide, gx_mem 146 (by decide +kernel) (by decide +kernel)⟩
theorem kf_RX0_37 : gx_Fld RX0 37 0 8 := ⟨RX0, TX0, 11, rfl, inX0, by decide, gx_mem 149 (by decide +kernel) (by decide +kernel)⟩
theorem kf_RX0_40 : gx_Fld RX0 40 0 9 := ⟨RX0, TX0, 11, rfl, inX0, by decide, gx_mem 152 (by decide +kernel) (by decide +kernel)⟩
theorem kf_RX0_43 : gx_Fld RX0 43 0 10 := ⟨RX0, TX0, 11, rfl, inX0, by decide, gx_mem 157 (by decide +kernel) (by decide +kernel)⟩
theorem kt_X0_isHome : gx_Mt yX0_isHome cX0_isHome 2 (some .boolean) 1 := ⟨gx_mem 590 (by decide +kernel) (by decide +kernel), gx_mem 80 (by decide +kernel) (by decide +kernel), by decide +kernel, by decide⟩
theorem kc_RX0_46 : gx_MV RX0 46 yX0_isHome cX0_isHome 2 (some .boolean) 1 := ⟨kt_X0_isHome, gx_mem 675 (by decide +kernel) (by decide +kernel), gx_mem 588 (by decide +kernel) (by decide +kernel), gx_mem 589 (by decide +kernel) (by decide +kernel)⟩
theorem kt_X0_linkOn : gx_Mt yX0_linkOn cX0_linkOn 3 (some .int) 1 := ⟨gx_mem 436 (by decide +kernel) (by decide +kernel), gx_mem 80 (by decide +kernel) (by decide +kernel), by decide +kernel, by decide⟩
theorem kc_RX0_85 : gx_MV RX0 85 yX0_linkOn cX0_linkOn 3 (some .int) 1 := ⟨kt_X0_linkOn, gx_mem 615 (by decide +kernel) (by decide +kernel), gx_mem 434 (by decide +kernel) (by decide +kernel), gx_mem 435 (by decide +kernel) (by decide +kernel)⟩
theorem kk_RX4_7 : Cond.methodLink RX4 7 Lib.Math.max.name ∈ gx_tbl := gx_mem 623 (by decide +kernel) (by decide +kernel)
theorem km_max_s : Cond.static Lib.Math.max.name ∈ gx_tbl := gx_mem 194 (by decide +kernel) (by decide +kernel)
theorem km_i : Cond.initialized "java/lang/Math" ∈ gx_tbl := gx_mem 82 (by decide +kernel) (by decide +kernel)
theorem km_max_c : Cond.code Lib.Math.max.name Lib.Math.max.code 2 (some .int) ∈ gx_tbl := gx_mem 195 (by decide +kernel) (by decide +kernel)
theorem kk_RX4_13 : Cond.methodLink RX4 13 Lib.Math.min.name ∈ gx_tbl := gx_mem 624 (by decide +kernel) (by decide +kernel)
theorem km_min_s : Cond.static Lib.Math.min.name ∈ gx_tbl := gx_mem 625 (by decide +kernel) (by decide +kernel)
theorem km_min_c : Cond.code Lib.Math.min.name Lib.Math.min.code 2 (some .int) ∈ gx_tbl := gx_mem 626 (by decide +kernel) (by decide +kernel)
theorem kt_X4_square : gx_Mt yX4_square cX4_square 6 (some .int) 6 := ⟨gx_mem 622 (by decide +kernel) (by decide +kernel), gx_mem 94 (by decide +kernel) (by decide +kernel), by decide +kernel, by decide⟩
theorem kc_RX0_89 : gx_MS RX0 89 yX4_square cX4_square 6 (some .int) 6 := ⟨kt_X4_square, gx_mem 620 (by decide +kernel) (by decide +kernel), gx_mem 621 (by decide +kernel) (by decide +kernel)⟩
theorem kt_X6_timidly : gx_Mt yX6_timidly cX6_timidly 1 (some .int) 1 := ⟨gx_mem 604 (by decide +kernel) (by decide +kernel), gx_mem 93 (by decide +kernel) (by decide +kernel), by decide +kernel, by decide⟩
theorem kc_RX6_7 : gx_MS RX6 7 yX6_timidly cX6_timidly 1 (some .int) 1 := ⟨kt_X6_timidly, gx_mem 602 (by decide +kernel) (by decide +kernel), gx_mem 603 (by decide +kernel) (by decide +kernel)⟩
theorem kt_X6_plain : gx_Mt yX6_plain cX6_plain 3 (some .int) 3 := ⟨gx_mem 607 (by decide +kernel) (by decide +kernel), gx_mem 93 (by decide +kernel) (by decide +kernel), by decide +kernel, by decide⟩
theorem kc_RX6_13 : gx_MS RX6 13 yX6_plain cX6_plain 3 (some .int) 3 := ⟨kt_X6_plain, gx_mem 605 (by decide +kernel) (by decide +kernel), gx_mem 606 (by decide +kernel) (by decide +kernel)⟩
theorem kt_X6_cheated : gx_Mt yX6_cheated cX6_cheated 1 (some .int) 1 := ⟨gx_mem 610 (by decide +kernel) (by decide +kernel), gx_mem 93 (by decide +kernel) (by decide +kernel), by decide +kernel, by decide⟩
theorem kc_RX6_17 : gx_MS RX6 17 yX6_cheated cX6_cheated 1 (some .int) 1 := ⟨kt_X6_cheated, gx_mem 608 (by decide +kernel) (by decide +kernel), gx_mem 609 (by decide +kernel) (by decide +kernel)⟩
theorem kt_X6_square : gx_Mt yX6_square cX6_square 4 (some .int) 4 := ⟨gx_mem 601 (by decide +kernel) (by decide +kernel), gx_mem 93 (by decide +kernel) (by decide +kernel), by decide +kernel, by decide⟩
theorem kc_RX0_50 : gx_MS RX0 50 yX6_square cX6_square 4 (some .int) 4 := ⟨kt_X6_square, gx_mem 599 (by decide +kernel) (by decide +kernel), gx_mem 600 (by decide +kernel) (by decide +kernel)⟩
theorem kt_X0_linkMet : gx_Mt yX0_linkMet cX0_linkMet 3 (some .int) 2 := ⟨gx_mem 614 (by decide +kernel) (by decide +kernel), gx_mem 80 (by decide +kernel) (by decide +kernel), by decide +kernel, by decide⟩
theorem kc_RX0_55 : gx_MV RX0 55 yX0_linkMet cX0_linkMet 3 (some .int) 2 := ⟨kt_X0_linkMet, gx_mem 611 (by decide +kernel) (by decide +kernel), gx_mem 613 (by decide +kernel) (by decide +kernel), gx_mem 15 (by decide +kernel) (by decide +kernel)⟩
theorem kt_X0_leadOf : gx_Mt yX0_leadOf cX0_leadOf 3 (some .int) 2 := ⟨gx_mem 619 (by decide +kernel) (by decide +kernel), gx_mem 80 (by decide +kernel) (by decide +kernel), by decide +kernel, by decide⟩
theorem kc_RX0_59 : gx_MV RX0 59 yX0_leadOf cX0_leadOf 3 (some .int) 2 := ⟨kt_X0_leadOf, gx_mem 616 (by decide +kernel) (by decide +kernel), gx_mem 618 (by decide +kernel) (by decide +kernel), gx_mem 16 (by decide +kernel) (by decide +kernel)⟩
theorem kp_RX0_78 : gx_FldP RX0 78 6 0 false .int := ⟨RX8, TX8, 5, rfl, inX8, by decide, gx_mem 204 (by decide +kernel) (by decide +kernel), ⟨tyX8, tyX8_ok⟩, nmX8, rfl, by decide +kernel, fun q => by cases q⟩
theorem kp_RX0_81 : gx_FldP RX0 81 6 1 false .int := ⟨RX8, TX8, 5, rfl, inX8, by decide, gx_mem 206 (by decide +kernel) (by decide +kernel), ⟨tyX8, tyX8_ok⟩, nmX8, rfl, by decide +kernel, fun q => by cases q⟩
theorem kp_RX0_83 : gx_FldP RX0 83 6 2 false .int := ⟨RX8, TX8, 5, rfl, inX8, by decide, gx_mem 208 (by decide +kernel) (by decide +kernel), ⟨tyX8, tyX8_ok⟩, nmX8, rfl, by decide +kernel, fun q => by cases q⟩
theorem kp_RX0_66 : gx_FldP RX0 66 6 3 false .int := ⟨RX8, TX8, 5, rfl, inX8, by decide, gx_mem 210 (by decide +kernel) (by decide +kernel), ⟨tyX8, tyX8_ok⟩, nmX8, rfl, by decide +kernel, fun q => by cases q⟩
theorem kt_X0_remember : gx_Mt yX0_remember cX0_remember 3 none 2 := ⟨gx_mem 598 (by decide +kernel) (by decide +kernel), gx_mem 80 (by decide +kernel) (by decide +kernel), by decide +kernel, by decide⟩
theorem kc_RX0_62 : gx_MV RX0 62 yX0_remember cX0_remember 3 none 2 := ⟨kt_X0_remember, gx_mem 595 (by decide +kernel) (by decide +kernel), gx_mem 596 (by decide +kernel) (by decide +kernel), gx_mem 597 (by decide +kernel) (by decide +kernel)⟩
theorem kp_RX0_71 : gx_FldP RX0 71 6 4 false .int := ⟨RX8, TX8, 5, rfl, inX8, by decide, gx_mem 212 (by decide +kernel) (by decide +kernel), ⟨tyX8, tyX8_ok⟩, nmX8, rfl, by decide +kernel, fun q => by cases q⟩
theorem kk_RX0_73 : Cond.methodLink RX0 73 Lib.Math.min.name ∈ gx_tbl := gx_mem 627 (by decide +kernel) (by decide +kernel)
theorem kf_RX0_78 : gx_Fld RX0 78 6 0 := ⟨RX8, TX8, 5, rfl, inX8, by decide, gx_mem 204 (by decide +kernel) (by decide +kernel)⟩
theorem kf_RX0_81 : gx_Fld RX0 81 6 1 := ⟨RX8, TX8, 5, rfl, inX8, by decide, gx_mem 206 (by decide +kernel) (by decide +kernel)⟩
theorem kf_RX0_83 : gx_Fld RX0 83 6 2 := ⟨RX8, TX8, 5, rfl, inX8, by decide, gx_mem 208 (by decide +kernel) (by decide +kernel)⟩
theorem kf_RX0_66 : gx_Fld RX0 66 6 3 := ⟨RX8, TX8, 5, rfl, inX8, by decide, gx_mem 210 (by decide +kernel) (by decide +kernel)⟩
theorem kf_RX0_71 : gx_Fld RX0 71 6 4 := ⟨RX8, TX8, 5, rfl, inX8, by decide, gx_mem 212 (by decide +kernel) (by decide +kernel)⟩
theorem kk_RX8_3 : Cond.methodLink RX8 3 objectInit ∈ gx_tbl := gx_mem 202 (by decide +kernel) (by decide +kernel)
theorem kp_RX8_9 : gx_FldP RX8 9 6 0 false .int := ⟨RX8, TX8, 5, rfl, inX8, by decide, gx_mem 203 (by decide +kernel) (by decide +kernel), ⟨tyX8, tyX8_ok⟩, nmX8, rfl, by decide +kernel, fun q => by cases q⟩
theorem kp_RX8_15 : gx_FldP RX8 15 6 1 false .int := ⟨RX8, TX8, 5, rfl, inX8, by decide, gx_mem 205 (by decide +kernel) (by decide +kernel), ⟨tyX8, tyX8_ok⟩, nmX8, rfl, by decide +kernel, fun q => by cases q⟩
theorem kp_RX8_18 : gx_FldP RX8 18 6 2 false .int := ⟨RX8, TX8, 5, rfl, inX8, by decide, gx_mem 207 (by decide +kernel) (by decide +kernel), ⟨tyX8, tyX8_ok⟩, nmX8, rfl, by decide +kernel, fun q => by cases q⟩
theorem kp_RX8_21 : gx_FldP RX8 21 6 3 false .int := ⟨RX8, TX8, 5, rfl, inX8, by decide, gx_mem 209 (by decide +kernel) (by decide +kernel), ⟨tyX8, tyX8_ok⟩, nmX8, rfl, by decide +kernel, fun q => by cases q⟩
theorem kp_RX8_24 : gx_FldP RX8 24 6 4 false .int := ⟨RX8, TX8, 5, rfl, inX8, by decide, gx_mem 211 (by decide +kernel) (by decide +kernel), ⟨tyX8, tyX8_ok⟩, nmX8, rfl, by decide +kernel, fun q => by cases q⟩
theorem kk_RX3_23 : Cond.methodLink RX3 23 Lib.Math.max.name ∈ gx_tbl := gx_mem 193 (by decide +kernel) (by decide +kernel)
theorem kk_RX3_29 : Cond.classLink RX3 29 RX8 ∈ gx_tbl := gx_mem 196 (by decide +kernel) (by decide +kernel)
theorem kn_RX3_29 : gx_Cls RX3 29 6 5 [.int 0, .int 0, .int 0, .int 0, .int 0] := ⟨RX8, TX8, tyX8, rfl, inX8, tyX8_ok, gx_mem 196 (by decide +kernel) (by decide +kernel), gx_mem 198 (by decide +kernel) (by decide +kernel), gx_mem 83 (by decide +kernel) (by decide +kernel), by decide +kernel⟩
theorem kt_X8_init : gx_Mt yX8_init cX8_init 1 none 0 := ⟨gx_mem 201 (by decide +kernel) (by decide +kernel), gx_mem 83 (by decide +kernel) (by decide +kernel), by decide +kernel, by decide⟩
theorem kc_RX3_31 : gx_MIN RX3 31 yX8_init cX8_init 1 0 := ⟨kt_X8_init, by decide +kernel, gx_mem 200 (by decide +kernel) (by decide +kernel), rfl⟩
theorem kk_RX3_3 : Cond.methodLink RX3 3 objectInit ∈ gx_tbl := gx_mem 189 (by decide +kernel) (by decide +kernel)
theorem kp_RX3_9 : gx_FldP RX3 9 3 0 false .int := ⟨RX3, TX3, 2, rfl, inX3, by decide, gx_mem 224 (by decide +kernel) (by decide +kernel), ⟨tyX3, tyX3_ok⟩, nmX3, rfl, by decide +kernel, fun q => by cases q⟩
theorem kt_X3_manySteps : gx_Mt yX3_manySteps cX3_manySteps 3 (some (.array (.object "SnakeLadders$Step"))) 1 := ⟨gx_mem 192 (by decide +kernel) (by decide +kernel), gx_mem 81 (by decide +kernel) (by decide +kernel), by decide +kernel, by decide⟩
theorem kc_RX3_15 : gx_MS RX3 15 yX3_manySteps cX3_manySteps 3 (some (.array (.object "SnakeLadders$Step"))) 1 := ⟨kt_X3_manySteps, gx_mem 190 (by decide +kernel) (by decide +kernel), gx_mem 191 (by decide +kernel) (by decide +kernel)⟩
theorem kp_RX3_19 : gx_FldP RX3 19 3 1 true (.array (.object "SnakeLadders$Step")) := ⟨RX3, TX3, 2, rfl, inX3, by decide, gx_mem 226 (by decide +kernel) (by decide +kernel), ⟨tyX3, tyX3_ok⟩, nmX3, rfl, by decide +kernel, fun _ => rfl⟩
theorem kk_RX7_3 : Cond.methodLink RX7 3 objectInit ∈ gx_tbl := gx_mem 237 (by decide +kernel) (by decide +kernel)
theorem kp_RX7_9 : gx_FldP RX7 9 5 0 false .int := ⟨RX7, TX7, 5, rfl, inX7, by decide, gx_mem 238 (by decide +kernel) (by decide +kernel), ⟨tyX7, tyX7_ok⟩, nmX7, rfl, by decide +kernel, fun q => by cases q⟩
theorem kp_RX7_15 : gx_FldP RX7 15 5 1 true (.array .int) := ⟨RX7, TX7, 5, rfl, inX7, by decide, gx_mem 241 (by decide +kernel) (by decide +kernel), ⟨tyX7, tyX7_ok⟩, nmX7, rfl, by decide +kernel, fun _ => rfl⟩
theorem kp_RX7_19 : gx_FldP RX7 19 5 2 true (.array .int) := ⟨RX7, TX7, 5, rfl, inX7, by decide, gx_mem 243 (by decide +kernel) (by decide +kernel), ⟨tyX7, tyX7_ok⟩, nmX7, rfl, by decide +kernel, fun _ => rfl⟩
theorem kp_RX7_22 : gx_FldP RX7 22 5 3 true (.array .int) := ⟨RX7, TX7, 5, rfl, inX7, by decide, gx_mem 245 (by decide +kernel) (by decide +kernel), ⟨tyX7, tyX7_ok⟩, nmX7, rfl, by decide +kernel, fun _ => rfl⟩
theorem kp_RX7_25 : gx_FldP RX7 25 5 4 true (.array .int) := ⟨RX7, TX7, 5, rfl, inX7, by decide, gx_mem 247 (by decide +kernel) (by decide +kernel), ⟨tyX7, tyX7_ok⟩, nmX7, rfl, by decide +kernel, fun _ => rfl⟩
theorem kk_RX1_1 : Cond.methodLink RX1 1 objectInit ∈ gx_tbl := gx_mem 108 (by decide +kernel) (by decide +kernel)
theorem kn_RX1_7 : gx_Cls RX1 7 0 11 [.int 0, .int 0, .int 0, .int 0, .null, .null, .null, .null, .null, .null, .null] := ⟨RX0, TX0, tyX0, rfl, inX0, tyX0_ok, gx_mem 109 (by decide +kernel) (by decide +kernel), gx_mem 110 (by decide +kernel) (by decide +kernel), gx_mem 80 (by decide +kernel) (by decide +kernel), by decide +kernel⟩
theorem kt_X0_init : gx_Mt yX0_init cX0_init 1 none 0 := ⟨gx_mem 113 (by decide +kernel) (by decide +kernel), gx_mem 80 (by decide +kernel) (by decide +kernel), by decide +kernel, by decide⟩
theorem kc_RX1_9 : gx_MIN RX1 9 yX0_init cX0_init 1 0 := ⟨kt_X0_init, by decide +kernel, gx_mem 112 (by decide +kernel) (by decide +kernel), rfl⟩
theorem kp_RX1_10 : gx_FldP RX1 10 1 0 true (.object "SnakeLadders$Board") := ⟨RX1, TX1, 4, rfl, inX1, by decide, gx_mem 260 (by decide +kernel) (by decide +kernel), ⟨tyX1, tyX1_ok⟩, nmX1, rfl, by decide +kernel, fun _ => rfl⟩
theorem kn_RX1_16 : gx_Cls RX1 16 3 2 [.int 0, .null] := ⟨RX3, TX3, tyX3, rfl, inX3, tyX3_ok, gx_mem 184 (by decide +kernel) (by decide +kernel), gx_mem 185 (by decide +kernel) (by decide +kernel), gx_mem 81 (by decide +kernel) (by decide +kernel), by decide +kernel⟩
theorem kt_X3_init : gx_Mt yX3_init cX3_init 1 none 0 := ⟨gx_mem 188 (by decide +kernel) (by decide +kernel), gx_mem 81 (by decide +kernel) (by decide +kernel), by decide +kernel, by decide⟩
theorem kc_RX1_18 : gx_MIN RX1 18 yX3_init cX3_init 1 0 := ⟨kt_X3_init, by decide +kernel, gx_mem 187 (by decide +kernel) (by decide +kernel), rfl⟩
theorem kp_RX1_19 : gx_FldP RX1 19 1 1 true (.object "SnakeLadders$History") := ⟨RX1, TX1, 4, rfl, inX1, by decide, gx_mem 262 (by decide +kernel) (by decide +kernel), ⟨tyX1, tyX1_ok⟩, nmX1, rfl, by decide +kernel, fun _ => rfl⟩
theorem kn_RX1_23 : gx_Cls RX1 23 5 5 [.int 0, .null, .null, .null, .null] := ⟨RX7, TX7, tyX7, rfl, inX7, tyX7_ok, gx_mem 232 (by decide +kernel) (by decide +kernel), gx_mem 233 (by decide +kernel) (by decide +kernel), gx_mem 84 (by decide +kernel) (by decide +kernel), by decide +kernel⟩
theorem kt_X7_init : gx_Mt yX7_init cX7_init 1 none 0 := ⟨gx_mem 236 (by decide +kernel) (by decide +kernel), gx_mem 84 (by decide +kernel) (by decide +kernel), by decide +kernel, by decide⟩
theorem kc_RX1_25 : gx_MIN RX1 25 yX7_init cX7_init 1 0 := ⟨kt_X7_init, by decide +kernel, gx_mem 235 (by decide +kernel) (by decide +kernel), rfl⟩
theorem kp_RX1_26 : gx_FldP RX1 26 1 2 true (.object "SnakeLadders$Seen") := ⟨RX1, TX1, 4, rfl, inX1, by decide, gx_mem 264 (by decide +kernel) (by decide +kernel), ⟨tyX1, tyX1_ok⟩, nmX1, rfl, by decide +kernel, fun _ => rfl⟩
theorem kp_RX1_30 : gx_FldP RX1 30 1 3 true (.object "SnakeLadders$Seen") := ⟨RX1, TX1, 4, rfl, inX1, by decide, gx_mem 266 (by decide +kernel) (by decide +kernel), ⟨tyX1, tyX1_ok⟩, nmX1, rfl, by decide +kernel, fun _ => rfl⟩
theorem kf_RX7_9 : gx_Fld RX7 9 5 0 := ⟨RX7, TX7, 5, rfl, inX7, by decide, gx_mem 238 (by decide +kernel) (by decide +kernel)⟩
theorem kf_RX1_19 : gx_Fld RX1 19 1 1 := ⟨RX1, TX1, 4, rfl, inX1, by decide, gx_mem 262 (by decide +kernel) (by decide +kernel)⟩
theorem kt_X3_empty : gx_Mt yX3_empty cX3_empty 1 none 0 := ⟨gx_mem 415 (by decide +kernel) (by decide +kernel), gx_mem 81 (by decide +kernel) (by decide +kernel), by decide +kernel, by decide⟩
theorem kc_RX1_33 : gx_MV RX1 33 yX3_empty cX3_empty 1 none 0 := ⟨kt_X3_empty, gx_mem 412 (by decide +kernel) (by decide +kernel), gx_mem 413 (by decide +kernel) (by decide +kernel), gx_mem 414 (by decide +kernel) (by decide +kernel)⟩
theorem kf_RX1_26 : gx_Fld RX1 26 1 2 := ⟨RX1, TX1, 4, rfl, inX1, by decide, gx_mem 264 (by decide +kernel) (by decide +kernel)⟩
theorem kt_X7_empty : gx_Mt yX7_empty cX7_empty 2 (some .int) 0 := ⟨gx_mem 419 (by decide +kernel) (by decide +kernel), gx_mem 84 (by decide +kernel) (by decide +kernel), by decide +kernel, by decide⟩
theorem kc_RX1_36 : gx_MV RX1 36 yX7_empty cX7_empty 2 (some .int) 0 := ⟨kt_X7_empty, gx_mem 416 (by decide +kernel) (by decide +kernel), gx_mem 417 (by decide +kernel) (by decide +kernel), gx_mem 418 (by decide +kernel) (by decide +kernel)⟩
theorem kf_RX1_30 : gx_Fld RX1 30 1 3 := ⟨RX1, TX1, 4, rfl, inX1, by decide, gx_mem 266 (by decide +kernel) (by decide +kernel)⟩
theorem kf_RX8_9 : gx_Fld RX8 9 6 0 := ⟨RX8, TX8, 5, rfl, inX8, by decide, gx_mem 203 (by decide +kernel) (by decide +kernel)⟩
theorem kf_RX8_15 : gx_Fld RX8 15 6 1 := ⟨RX8, TX8, 5, rfl, inX8, by decide, gx_mem 205 (by decide +kernel) (by decide +kernel)⟩
theorem kf_RX8_18 : gx_Fld RX8 18 6 2 := ⟨RX8, TX8, 5, rfl, inX8, by decide, gx_mem 207 (by decide +kernel) (by decide +kernel)⟩
theorem kf_RX8_21 : gx_Fld RX8 21 6 3 := ⟨RX8, TX8, 5, rfl, inX8, by decide, gx_mem 209 (by decide +kernel) (by decide +kernel)⟩
theorem kf_RX8_24 : gx_Fld RX8 24 6 4 := ⟨RX8, TX8, 5, rfl, inX8, by decide, gx_mem 211 (by decide +kernel) (by decide +kernel)⟩
theorem kf_RX3_9 : gx_Fld RX3 9 3 0 := ⟨RX3, TX3, 2, rfl, inX3, by decide, gx_mem 224 (by decide +kernel) (by decide +kernel)⟩
theorem kf_RX3_19 : gx_Fld RX3 19 3 1 := ⟨RX3, TX3, 2, rfl, inX3, by decide, gx_mem 226 (by decide +kernel) (by decide +kernel)⟩
theorem kt_X8_copy : gx_Mt yX8_copy cX8_copy 2 none 1 := ⟨gx_mem 953 (by decide +kernel) (by decide +kernel), gx_mem 83 (by decide +kernel) (by decide +kernel), by decide +kernel, by decide⟩
theorem kc_RX3_41 : gx_MV RX3 41 yX8_copy cX8_copy 2 none 1 := ⟨kt_X8_copy, gx_mem 950 (by decide +kernel) (by decide +kernel), gx_mem 951 (by decide +kernel) (by decide +kernel), gx_mem 952 (by decide +kernel) (by decide +kernel)⟩
theorem kf_RX7_15 : gx_Fld RX7 15 5 1 := ⟨RX7, TX7, 5, rfl, inX7, by decide, gx_mem 241 (by decide +kernel) (by decide +kernel)⟩
theorem kf_RX7_19 : gx_Fld RX7 19 5 2 := ⟨RX7, TX7, 5, rfl, inX7, by decide, gx_mem 243 (by decide +kernel) (by decide +kernel)⟩
theorem kf_RX7_22 : gx_Fld RX7 22 5 3 := ⟨RX7, TX7, 5, rfl, inX7, by decide, gx_mem 245 (by decide +kernel) (by decide +kernel)⟩
theorem kf_RX7_25 : gx_Fld RX7 25 5 4 := ⟨RX7, TX7, 5, rfl, inX7, by decide, gx_mem 247 (by decide +kernel) (by decide +kernel)⟩
theorem kf_RX1_10 : gx_Fld RX1 10 1 0 := ⟨RX1, TX1, 4, rfl, inX1, by decide, gx_mem 260 (by decide +kernel) (by decide +kernel)⟩
theorem kt_X0_copy : gx_Mt yX0_copy cX0_copy 3 none 1 := ⟨gx_mem 635 (by decide +kernel) (by decide +kernel), gx_mem 80 (by decide +kernel) (by decide +kernel), by decide +kernel, by decide⟩
theorem kc_RX1_39 : gx_MV RX1 39 yX0_copy cX0_copy 3 none 1 := ⟨kt_X0_copy, gx_mem 945 (by decide +kernel) (by decide +kernel), gx_mem 633 (by decide +kernel) (by decide +kernel), gx_mem 634 (by decide +kernel) (by decide +kernel)⟩
theorem kt_X3_copy : gx_Mt yX3_copy cX3_copy 3 none 1 := ⟨gx_mem 949 (by decide +kernel) (by decide +kernel), gx_mem 81 (by decide +kernel) (by decide +kernel), by decide +kernel, by decide⟩
theorem kc_RX1_43 : gx_MV RX1 43 yX3_copy cX3_copy 3 none 1 := ⟨kt_X3_copy, gx_mem 946 (by decide +kernel) (by decide +kernel), gx_mem 947 (by decide +kernel) (by decide +kernel), gx_mem 948 (by decide +kernel) (by decide +kernel)⟩
theorem kt_X7_copy : gx_Mt yX7_copy cX7_copy 3 none 1 := ⟨gx_mem 957 (by decide +kernel) (by decide +kernel), gx_mem 84 (by decide +kernel) (by decide +kernel), by decide +kernel, by decide⟩
theorem kc_RX1_46 : gx_MV RX1 46 yX7_copy cX7_copy 3 none 1 := ⟨kt_X7_copy, gx_mem 954 (by decide +kernel) (by decide +kernel), gx_mem 955 (by decide +kernel) (by decide +kernel), gx_mem 956 (by decide +kernel) (by decide +kernel)⟩
theorem kk_RX7_28 : Cond.constantLong RX7 28 31 ∈ gx_tbl := gx_mem 997 (by decide +kernel) (by decide +kernel)
theorem kf_RX1_49 : gx_Fld RX1 49 0 2 := ⟨RX0, TX0, 11, rfl, inX0, by decide, gx_mem 125 (by decide +kernel) (by decide +kernel)⟩
theorem kk_RX1_53 : Cond.constantLong RX1 53 31 ∈ gx_tbl := gx_mem 992 (by decide +kernel) (by decide +kernel)
theorem kf_RX1_55 : gx_Fld RX1 55 0 4 := ⟨RX0, TX0, 11, rfl, inX0, by decide, gx_mem 135 (by decide +kernel) (by decide +kernel)⟩
theorem kf_RX1_59 : gx_Fld RX1 59 0 5 := ⟨RX0, TX0, 11, rfl, inX0, by decide, gx_mem 139 (by decide +kernel) (by decide +kernel)⟩
theorem kf_RX1_62 : gx_Fld RX1 62 0 6 := ⟨RX0, TX0, 11, rfl, inX0, by decide, gx_mem 144 (by decide +kernel) (by decide +kernel)⟩
theorem kf_RX1_65 : gx_Fld RX1 65 0 7 := ⟨RX0, TX0, 11, rfl, inX0, by decide, gx_mem 147 (by decide +kernel) (by decide +kernel)⟩
theorem kf_RX1_68 : gx_Fld RX1 68 0 3 := ⟨RX0, TX0, 11, rfl, inX0, by decide, gx_mem 131 (by decide +kernel) (by decide +kernel)⟩
theorem kt_X7_digestOn : gx_Mt yX7_digestOn cX7_digestOn 6 (some .long) 1 := ⟨gx_mem 996 (by decide +kernel) (by decide +kernel), gx_mem 84 (by decide +kernel) (by decide +kernel), by decide +kernel, by decide⟩
theorem kc_RX1_80 : gx_MV RX1 80 yX7_digestOn cX7_digestOn 6 (some .long) 1 := ⟨kt_X7_digestOn, gx_mem 993 (by decide +kernel) (by decide +kernel), gx_mem 994 (by decide +kernel) (by decide +kernel), gx_mem 995 (by decide +kernel) (by decide +kernel)⟩
theorem kf_RX1_71 : gx_Fld RX1 71 0 8 := ⟨RX0, TX0, 11, rfl, inX0, by decide, gx_mem 150 (by decide +kernel) (by decide +kernel)⟩
theorem kf_RX1_74 : gx_Fld RX1 74 0 9 := ⟨RX0, TX0, 11, rfl, inX0, by decide, gx_mem 153 (by decide +kernel) (by decide +kernel)⟩
theorem kf_RX1_77 : gx_Fld RX1 77 0 10 := ⟨RX0, TX0, 11, rfl, inX0, by decide, gx_mem 158 (by decide +kernel) (by decide +kernel)⟩
theorem kk_RX2_3 : Cond.methodLink RX2 3 objectInit ∈ gx_tbl := gx_mem 358 (by decide +kernel) (by decide +kernel)
theorem kp_RX2_9 : gx_FldP RX2 9 2 0 true (.array .int) := ⟨RX2, TX2, 1, rfl, inX2, by decide, gx_mem 359 (by decide +kernel) (by decide +kernel), ⟨tyX2, tyX2_ok⟩, nmX2, rfl, by decide +kernel, fun _ => rfl⟩
theorem kf_RX2_41 : gx_Fld RX2 41 0 5 := ⟨RX0, TX0, 11, rfl, inX0, by decide, gx_mem 138 (by decide +kernel) (by decide +kernel)⟩
theorem kf_RX2_46 : gx_Fld RX2 46 0 6 := ⟨RX0, TX0, 11, rfl, inX0, by decide, gx_mem 143 (by decide +kernel) (by decide +kernel)⟩
theorem kf_RX2_49 : gx_Fld RX2 49 0 0 := ⟨RX0, TX0, 11, rfl, inX0, by decide, gx_mem 116 (by decide +kernel) (by decide +kernel)⟩
theorem kc_RX2_52 : gx_MS RX2 52 yX4_square cX4_square 6 (some .int) 6 := ⟨kt_X4_square, gx_mem 843 (by decide +kernel) (by decide +kernel), gx_mem 621 (by decide +kernel) (by decide +kernel)⟩
theorem kf_RX2_19 : gx_Fld RX2 19 5 0 := ⟨RX7, TX7, 5, rfl, inX7, by decide, gx_mem 239 (by decide +kernel) (by decide +kernel)⟩
theorem kf_RX2_25 : gx_Fld RX2 25 5 1 := ⟨RX7, TX7, 5, rfl, inX7, by decide, gx_mem 242 (by decide +kernel) (by decide +kernel)⟩
theorem kf_RX2_28 : gx_Fld RX2 28 5 4 := ⟨RX7, TX7, 5, rfl, inX7, by decide, gx_mem 248 (by decide +kernel) (by decide +kernel)⟩
theorem kf_RX2_31 : gx_Fld RX2 31 5 2 := ⟨RX7, TX7, 5, rfl, inX7, by decide, gx_mem 244 (by decide +kernel) (by decide +kernel)⟩
theorem kf_RX2_34 : gx_Fld RX2 34 5 3 := ⟨RX7, TX7, 5, rfl, inX7, by decide, gx_mem 246 (by decide +kernel) (by decide +kernel)⟩
theorem kt_X2_lead : gx_Mt yX2_lead cX2_lead 5 (some .int) 5 := ⟨gx_mem 842 (by decide +kernel) (by decide +kernel), gx_mem 87 (by decide +kernel) (by decide +kernel), by decide +kernel, by decide⟩
theorem kc_RX2_37 : gx_MS RX2 37 yX2_lead cX2_lead 5 (some .int) 5 := ⟨kt_X2_lead, gx_mem 840 (by decide +kernel) (by decide +kernel), gx_mem 841 (by decide +kernel) (by decide +kernel)⟩
theorem kt_X2_fitsNotes : gx_Mt yX2_fitsNotes cX2_fitsNotes 6 (some .boolean) 4 := ⟨gx_mem 839 (by decide +kernel) (by decide +kernel), gx_mem 87 (by decide +kernel) (by decide +kernel), by decide +kernel, by decide⟩
theorem kc_RX2_15 : gx_MV RX2 15 yX2_fitsNotes cX2_fitsNotes 6 (some .boolean) 4 := ⟨kt_X2_fitsNotes, gx_mem 836 (by decide +kernel) (by decide +kernel), gx_mem 838 (by decide +kernel) (by decide +kernel), gx_mem 25 (by decide +kernel) (by decide +kernel)⟩
theorem kf_RX2_9 : gx_Fld RX2 9 2 0 := ⟨RX2, TX2, 1, rfl, inX2, by decide, gx_mem 359 (by decide +kernel) (by decide +kernel)⟩
theorem kt_X2_alikeTo : gx_Mt yX2_alikeTo cX2_alikeTo 5 (some .int) 2 := ⟨gx_mem 860 (by decide +kernel) (by decide +kernel), gx_mem 87 (by decide +kernel) (by decide +kernel), by decide +kernel, by decide⟩
theorem kc_RX2_77 : gx_MV RX2 77 yX2_alikeTo cX2_alikeTo 5 (some .int) 2 := ⟨kt_X2_alikeTo, gx_mem 857 (by decide +kernel) (by decide +kernel), gx_mem 859 (by decide +kernel) (by decide +kernel), gx_mem 27 (by decide +kernel) (by decide +kernel)⟩
theorem kk_RX2_81 : Cond.methodLink RX2 81 Lib.Math.max.name ∈ gx_tbl := gx_mem 861 (by decide +kernel) (by decide +kernel)
theorem kt_X2_linkKinds : gx_Mt yX2_linkKinds cX2_linkKinds 6 (some .int) 3 := ⟨gx_mem 835 (by decide +kernel) (by decide +kernel), gx_mem 87 (by decide +kernel) (by decide +kernel), by decide +kernel, by decide⟩
theorem kc_RX2_58 : gx_MV RX2 58 yX2_linkKinds cX2_linkKinds 6 (some .int) 3 := ⟨kt_X2_linkKinds, gx_mem 852 (by decide +kernel) (by decide +kernel), gx_mem 833 (by decide +kernel) (by decide +kernel), gx_mem 834 (by decide +kernel) (by decide +kernel)⟩
theorem kt_X2_mostAlike : gx_Mt yX2_mostAlike cX2_mostAlike 4 (some .int) 1 := ⟨gx_mem 856 (by decide +kernel) (by decide +kernel), gx_mem 87 (by decide +kernel) (by decide +kernel), by decide +kernel, by decide⟩
theorem kc_RX2_62 : gx_MV RX2 62 yX2_mostAlike cX2_mostAlike 4 (some .int) 1 := ⟨kt_X2_mostAlike, gx_mem 853 (by decide +kernel) (by decide +kernel), gx_mem 855 (by decide +kernel) (by decide +kernel), gx_mem 26 (by decide +kernel) (by decide +kernel)⟩
theorem kc_RX2_69 : gx_MS RX2 69 yX6_square cX6_square 4 (some .int) 4 := ⟨kt_X6_square, gx_mem 873 (by decide +kernel) (by decide +kernel), gx_mem 600 (by decide +kernel) (by decide +kernel)⟩
theorem kt_X2_fitsMarks : gx_Mt yX2_fitsMarks cX2_fitsMarks 6 (some .boolean) 4 := ⟨gx_mem 872 (by decide +kernel) (by decide +kernel), gx_mem 87 (by decide +kernel) (by decide +kernel), by decide +kernel, by decide⟩
theorem kc_RX2_66 : gx_MS RX2 66 yX2_fitsMarks cX2_fitsMarks 6 (some .boolean) 4 := ⟨kt_X2_fitsMarks, gx_mem 870 (by decide +kernel) (by decide +kernel), gx_mem 871 (by decide +kernel) (by decide +kernel)⟩
theorem kt_X2_playerKinds : gx_Mt yX2_playerKinds cX2_playerKinds 6 (some .int) 3 := ⟨gx_mem 869 (by decide +kernel) (by decide +kernel), gx_mem 87 (by decide +kernel) (by decide +kernel), by decide +kernel, by decide⟩
theorem kc_RX2_74 : gx_MV RX2 74 yX2_playerKinds cX2_playerKinds 6 (some .int) 3 := ⟨kt_X2_playerKinds, gx_mem 882 (by decide +kernel) (by decide +kernel), gx_mem 867 (by decide +kernel) (by decide +kernel), gx_mem 868 (by decide +kernel) (by decide +kernel)⟩
theorem kt_X3_dropOldest : gx_Mt yX3_dropOldest cX3_dropOldest 3 none 0 := ⟨gx_mem 652 (by decide +kernel) (by decide +kernel), gx_mem 81 (by decide +kernel) (by decide +kernel), by decide +kernel, by decide⟩
theorem kc_RX3_32 : gx_MV RX3 32 yX3_dropOldest cX3_dropOldest 3 none 0 := ⟨kt_X3_dropOldest, gx_mem 649 (by decide +kernel) (by decide +kernel), gx_mem 651 (by decide +kernel) (by decide +kernel), gx_mem 18 (by decide +kernel) (by decide +kernel)⟩
theorem kt_X0_takeBack : gx_Mt yX0_takeBack cX0_takeBack 2 none 1 := ⟨gx_mem 670 (by decide +kernel) (by decide +kernel), gx_mem 80 (by decide +kernel) (by decide +kernel), by decide +kernel, by decide⟩
theorem kc_RX3_35 : gx_MV RX3 35 yX0_takeBack cX0_takeBack 2 none 1 := ⟨kt_X0_takeBack, gx_mem 667 (by decide +kernel) (by decide +kernel), gx_mem 668 (by decide +kernel) (by decide +kernel), gx_mem 669 (by decide +kernel) (by decide +kernel)⟩
theorem kk_RX5_3 : Cond.methodLink RX5 3 objectInit ∈ gx_tbl := gx_mem 322 (by decide +kernel) (by decide +kernel)
theorem kn_RX5_9 : gx_Cls RX5 9 0 11 [.int 0, .int 0, .int 0, .int 0, .null, .null, .null, .null, .null, .null, .null] := ⟨RX0, TX0, tyX0, rfl, inX0, tyX0_ok, gx_mem 323 (by decide +kernel) (by decide +kernel), gx_mem 110 (by decide +kernel) (by decide +kernel), gx_mem 80 (by decide +kernel) (by decide +kernel), by decide +kernel⟩
theorem kc_RX5_11 : gx_MIN RX5 11 yX0_init cX0_init 1 0 := ⟨kt_X0_init, by decide +kernel, gx_mem 112 (by decide +kernel) (by decide +kernel), rfl⟩
theorem kp_RX5_12 : gx_FldP RX5 12 4 0 true (.object "SnakeLadders$Board") := ⟨RX5, TX5, 8, rfl, inX5, by decide, gx_mem 326 (by decide +kernel) (by decide +kernel), ⟨tyX5, tyX5_ok⟩, nmX5, rfl, by decide +kernel, fun _ => rfl⟩
theorem kc_RX5_18 : gx_MS RX5 18 yX3_manySteps cX3_manySteps 3 (some (.array (.object "SnakeLadders$Step"))) 1 := ⟨kt_X3_manySteps, gx_mem 325 (by decide +kernel) (by decide +kernel), gx_mem 191 (by decide +kernel) (by decide +kernel)⟩
theorem kp_RX5_24 : gx_FldP RX5 24 4 1 true (.array (.object "SnakeLadders$Step")) := ⟨RX5, TX5, 8, rfl, inX5, by decide, gx_mem 327 (by decide +kernel) (by decide +kernel), ⟨tyX5, tyX5_ok⟩, nmX5, rfl, by decide +kernel, fun _ => rfl⟩
theorem kp_RX5_28 : gx_FldP RX5 28 4 2 true (.array .int) := ⟨RX5, TX5, 8, rfl, inX5, by decide, gx_mem 328 (by decide +kernel) (by decide +kernel), ⟨tyX5, tyX5_ok⟩, nmX5, rfl, by decide +kernel, fun _ => rfl⟩
theorem kp_RX5_32 : gx_FldP RX5 32 4 3 true (.array .int) := ⟨RX5, TX5, 8, rfl, inX5, by decide, gx_mem 329 (by decide +kernel) (by decide +kernel), ⟨tyX5, tyX5_ok⟩, nmX5, rfl, by decide +kernel, fun _ => rfl⟩
theorem kp_RX5_35 : gx_FldP RX5 35 4 4 true (.array .int) := ⟨RX5, TX5, 8, rfl, inX5, by decide, gx_mem 330 (by decide +kernel) (by decide +kernel), ⟨tyX5, tyX5_ok⟩, nmX5, rfl, by decide +kernel, fun _ => rfl⟩
theorem kp_RX5_38 : gx_FldP RX5 38 4 5 true (.array .int) := ⟨RX5, TX5, 8, rfl, inX5, by decide, gx_mem 331 (by decide +kernel) (by decide +kernel), ⟨tyX5, tyX5_ok⟩, nmX5, rfl, by decide +kernel, fun _ => rfl⟩
theorem kp_RX5_41 : gx_FldP RX5 41 4 6 false .int := ⟨RX5, TX5, 8, rfl, inX5, by decide, gx_mem 332 (by decide +kernel) (by decide +kernel), ⟨tyX5, tyX5_ok⟩, nmX5, rfl, by decide +kernel, fun q => by cases q⟩
theorem kp_RX5_45 : gx_FldP RX5 45 4 7 false .int := ⟨RX5, TX5, 8, rfl, inX5, by decide, gx_mem 334 (by decide +kernel) (by decide +kernel), ⟨tyX5, tyX5_ok⟩, nmX5, rfl, by decide +kernel, fun q => by cases q⟩
theorem kf_RX5_12 : gx_Fld RX5 12 4 0 := ⟨RX5, TX5, 8, rfl, inX5, by decide, gx_mem 326 (by decide +kernel) (by decide +kernel)⟩
theorem kc_RX5_60 : gx_MV RX5 60 yX0_isHome cX0_isHome 2 (some .boolean) 1 := ⟨kt_X0_isHome, gx_mem 712 (by decide +kernel) (by decide +kernel), gx_mem 588 (by decide +kernel) (by decide +kernel), gx_mem 589 (by decide +kernel) (by decide +kernel)⟩
theorem kf_RX5_64 : gx_Fld RX5 64 0 1 := ⟨RX0, TX0, 11, rfl, inX0, by decide, gx_mem 122 (by decide +kernel) (by decide +kernel)⟩
theorem kf_RX5_32 : gx_Fld RX5 32 4 3 := ⟨RX5, TX5, 8, rfl, inX5, by decide, gx_mem 329 (by decide +kernel) (by decide +kernel)⟩
theorem kf_RX5_24 : gx_Fld RX5 24 4 1 := ⟨RX5, TX5, 8, rfl, inX5, by decide, gx_mem 327 (by decide +kernel) (by decide +kernel)⟩
theorem kt_X0_move : gx_Mt yX0_move cX0_move 6 none 3 := ⟨gx_mem 594 (by decide +kernel) (by decide +kernel), gx_mem 80 (by decide +kernel) (by decide +kernel), by decide +kernel, by decide⟩
theorem kc_RX5_67 : gx_MV RX5 67 yX0_move cX0_move 6 none 3 := ⟨kt_X0_move, gx_mem 713 (by decide +kernel) (by decide +kernel), gx_mem 592 (by decide +kernel) (by decide +kernel), gx_mem 593 (by decide +kernel) (by decide +kernel)⟩
theorem kt_X5_findRow : gx_Mt yX5_findRow cX5_findRow 6 (some .boolean) 4 := ⟨gx_mem 711 (by decide +kernel) (by decide +kernel), gx_mem 86 (by decide +kernel) (by decide +kernel), by decide +kernel, by decide⟩
theorem kc_RX5_52 : gx_MS RX5 52 yX5_findRow cX5_findRow 6 (some .boolean) 4 := ⟨kt_X5_findRow, gx_mem 709 (by decide +kernel) (by decide +kernel), gx_mem 710 (by decide +kernel) (by decide +kernel)⟩
theorem kc_RX5_71 : gx_MV RX5 71 yX0_takeBack cX0_takeBack 2 none 1 := ⟨kt_X0_takeBack, gx_mem 714 (by decide +kernel) (by decide +kernel), gx_mem 668 (by decide +kernel) (by decide +kernel), gx_mem 669 (by decide +kernel) (by decide +kernel)⟩
theorem kc_RX5_48 : gx_MV RX5 48 yX0_copy cX0_copy 3 none 1 := ⟨kt_X0_copy, gx_mem 708 (by decide +kernel) (by decide +kernel), gx_mem 633 (by decide +kernel) (by decide +kernel), gx_mem 634 (by decide +kernel) (by decide +kernel)⟩
theorem kt_X10_within : gx_Mt yX10_within cX10_within 3 (some .boolean) 3 := ⟨gx_mem 403 (by decide +kernel) (by decide +kernel), gx_mem 78 (by decide +kernel) (by decide +kernel), by decide +kernel, by decide⟩
theorem kc_RX5_56 : gx_MSN RX5 56 yX10_within cX10_within 3 (some .boolean) 3 := ⟨kt_X10_within, by decide +kernel, gx_mem 402 (by decide +kernel) (by decide +kernel)⟩
theorem kf_RX5_28 : gx_Fld RX5 28 4 2 := ⟨RX5, TX5, 8, rfl, inX5, by decide, gx_mem 328 (by decide +kernel) (by decide +kernel)⟩
theorem kt_X10_power : gx_Mt yX10_power cX10_power 4 (some .int) 2 := ⟨gx_mem 738 (by decide +kernel) (by decide +kernel), gx_mem 78 (by decide +kernel) (by decide +kernel), by decide +kernel, by decide⟩
theorem kc_RX5_107 : gx_MSN RX5 107 yX10_power cX10_power 4 (some .int) 2 := ⟨kt_X10_power, by decide +kernel, gx_mem 737 (by decide +kernel) (by decide +kernel)⟩
theorem kt_X0_landing : gx_Mt yX0_landing cX0_landing 5 (some .int) 2 := ⟨gx_mem 695 (by decide +kernel) (by decide +kernel), gx_mem 80 (by decide +kernel) (by decide +kernel), by decide +kernel, by decide⟩
theorem kc_RX5_103 : gx_MV RX5 103 yX0_landing cX0_landing 5 (some .int) 2 := ⟨kt_X0_landing, gx_mem 742 (by decide +kernel) (by decide +kernel), gx_mem 693 (by decide +kernel) (by decide +kernel), gx_mem 694 (by decide +kernel) (by decide +kernel)⟩
theorem kf_RX5_82 : gx_Fld RX5 82 0 0 := ⟨RX0, TX0, 11, rfl, inX0, by decide, gx_mem 118 (by decide +kernel) (by decide +kernel)⟩
theorem kt_X5_spreadOn : gx_Mt yX5_spreadOn cX5_spreadOn 6 none 4 := ⟨gx_mem 741 (by decide +kernel) (by decide +kernel), gx_mem 86 (by decide +kernel) (by decide +kernel), by decide +kernel, by decide⟩
theorem kc_RX5_99 : gx_MS RX5 99 yX5_spreadOn cX5_spreadOn 6 none 4 := ⟨kt_X5_spreadOn, gx_mem 739 (by decide +kernel) (by decide +kernel), gx_mem 740 (by decide +kernel) (by decide +kernel)⟩
theorem kt_X5_addRows : gx_Mt yX5_addRows cX5_addRows 3 none 2 := ⟨gx_mem 735 (by decide +kernel) (by decide +kernel), gx_mem 86 (by decide +kernel) (by decide +kernel), by decide +kernel, by decide⟩
theorem kc_RX5_95 : gx_MV RX5 95 yX5_addRows cX5_addRows 3 none 2 := ⟨kt_X5_addRows, gx_mem 732 (by decide +kernel) (by decide +kernel), gx_mem 734 (by decide +kernel) (by decide +kernel), gx_mem 22 (by decide +kernel) (by decide +kernel)⟩
theorem kf_RX5_75 : gx_Fld RX5 75 0 9 := ⟨RX0, TX0, 11, rfl, inX0, by decide, gx_mem 154 (by decide +kernel) (by decide +kernel)⟩
theorem kt_X5_spreadFrom : gx_Mt yX5_spreadFrom cX5_spreadFrom 5 none 3 := ⟨gx_mem 731 (by decide +kernel) (by decide +kernel), gx_mem 86 (by decide +kernel) (by decide +kernel), by decide +kernel, by decide⟩
theorem kc_RX5_78 : gx_MV RX5 78 yX5_spreadFrom cX5_spreadFrom 5 none 3 := ⟨kt_X5_spreadFrom, gx_mem 728 (by decide +kernel) (by decide +kernel), gx_mem 730 (by decide +kernel) (by decide +kernel), gx_mem 21 (by decide +kernel) (by decide +kernel)⟩
theorem kt_X5_rowsHome : gx_Mt yX5_rowsHome cX5_rowsHome 1 (some .int) 0 := ⟨gx_mem 746 (by decide +kernel) (by decide +kernel), gx_mem 86 (by decide +kernel) (by decide +kernel), by decide +kernel, by decide⟩
theorem kc_RX5_85 : gx_MV RX5 85 yX5_rowsHome cX5_rowsHome 1 (some .int) 0 := ⟨kt_X5_rowsHome, gx_mem 786 (by decide +kernel) (by decide +kernel), gx_mem 744 (by decide +kernel) (by decide +kernel), gx_mem 745 (by decide +kernel) (by decide +kernel)⟩
theorem kf_RX5_45 : gx_Fld RX5 45 4 7 := ⟨RX5, TX5, 8, rfl, inX5, by decide, gx_mem 334 (by decide +kernel) (by decide +kernel)⟩
theorem kf_RX5_89 : gx_Fld RX5 89 0 2 := ⟨RX0, TX0, 11, rfl, inX0, by decide, gx_mem 128 (by decide +kernel) (by decide +kernel)⟩
theorem kf_RX5_92 : gx_Fld RX5 92 0 5 := ⟨RX0, TX0, 11, rfl, inX0, by decide, gx_mem 140 (by decide +kernel) (by decide +kernel)⟩
theorem kt_X5_rowsAheadOn : gx_Mt yX5_rowsAheadOn cX5_rowsAheadOn 8 (some .int) 5 := ⟨gx_mem 777 (by decide +kernel) (by decide +kernel), gx_mem 86 (by decide +kernel) (by decide +kernel), by decide +kernel, by decide⟩
theorem kc_RX5_110 : gx_MS RX5 110 yX5_rowsAheadOn cX5_rowsAheadOn 8 (some .int) 5 := ⟨kt_X5_rowsAheadOn, gx_mem 775 (by decide +kernel) (by decide +kernel), gx_mem 776 (by decide +kernel) (by decide +kernel)⟩
theorem kc_RX5_128 : gx_MV RX5 128 yX0_remember cX0_remember 3 none 2 := ⟨kt_X0_remember, gx_mem 895 (by decide +kernel) (by decide +kernel), gx_mem 596 (by decide +kernel) (by decide +kernel), gx_mem 597 (by decide +kernel) (by decide +kernel)⟩
theorem kt_X5_moveUnlessHome : gx_Mt yX5_moveUnlessHome cX5_moveUnlessHome 4 none 3 := ⟨gx_mem 894 (by decide +kernel) (by decide +kernel), gx_mem 86 (by decide +kernel) (by decide +kernel), by decide +kernel, by decide⟩
theorem kc_RX5_114 : gx_MV RX5 114 yX5_moveUnlessHome cX5_moveUnlessHome 4 none 3 := ⟨kt_X5_moveUnlessHome, gx_mem 891 (by decide +kernel) (by decide +kernel), gx_mem 893 (by decide +kernel) (by decide +kernel), gx_mem 28 (by decide +kernel) (by decide +kernel)⟩
theorem kf_RX5_35 : gx_Fld RX5 35 4 4 := ⟨RX5, TX5, 8, rfl, inX5, by decide, gx_mem 330 (by decide +kernel) (by decide +kernel)⟩
theorem kt_X5_pairAt : gx_Mt yX5_pairAt cX5_pairAt 3 (some .int) 2 := ⟨gx_mem 898 (by decide +kernel) (by decide +kernel), gx_mem 86 (by decide +kernel) (by decide +kernel), by decide +kernel, by decide⟩
theorem kc_RX5_117 : gx_MS RX5 117 yX5_pairAt cX5_pairAt 3 (some .int) 2 := ⟨kt_X5_pairAt, gx_mem 896 (by decide +kernel) (by decide +kernel), gx_mem 897 (by decide +kernel) (by decide +kernel)⟩
theorem kt_X5_gain : gx_Mt yX5_gain cX5_gain 5 (some .int) 3 := ⟨gx_mem 902 (by decide +kernel) (by decide +kernel), gx_mem 86 (by decide +kernel) (by decide +kernel), by decide +kernel, by decide⟩
theorem kc_RX5_120 : gx_MV RX5 120 yX5_gain cX5_gain 5 (some .int) 3 := ⟨kt_X5_gain, gx_mem 899 (by decide +kernel) (by decide +kernel), gx_mem 901 (by decide +kernel) (by decide +kernel), gx_mem 29 (by decide +kernel) (by decide +kernel)⟩
theorem kf_RX5_38 : gx_Fld RX5 38 4 5 := ⟨RX5, TX5, 8, rfl, inX5, by decide, gx_mem 331 (by decide +kernel) (by decide +kernel)⟩
theorem kt_X5_rests : gx_Mt yX5_rests cX5_rests 4 (some .boolean) 2 := ⟨gx_mem 910 (by decide +kernel) (by decide +kernel), gx_mem 86 (by decide +kernel) (by decide +kernel), by decide +kernel, by decide⟩
theorem kc_RX5_124 : gx_MV RX5 124 yX5_rests cX5_rests 4 (some .boolean) 2 := ⟨kt_X5_rests, gx_mem 907 (by decide +kernel) (by decide +kernel), gx_mem 909 (by decide +kernel) (by decide +kernel), gx_mem 30 (by decide +kernel) (by decide +kernel)⟩
theorem kt_X0_homes : gx_Mt yX0_homes cX0_homes 3 (some .int) 0 := ⟨gx_mem 674 (by decide +kernel) (by decide +kernel), gx_mem 80 (by decide +kernel) (by decide +kernel), by decide +kernel, by decide⟩
theorem kc_RX5_149 : gx_MV RX5 149 yX0_homes cX0_homes 3 (some .int) 0 := ⟨kt_X0_homes, gx_mem 932 (by decide +kernel) (by decide +kernel), gx_mem 672 (by decide +kernel) (by decide +kernel), gx_mem 673 (by decide +kernel) (by decide +kernel)⟩
theorem kk_RX5_132 : Cond.constantLong RX5 132 1103515245 ∈ gx_tbl := gx_mem 924 (by decide +kernel) (by decide +kernel)
theorem kk_RX5_134 : Cond.constantLong RX5 134 12345 ∈ gx_tbl := gx_mem 925 (by decide +kernel) (by decide +kernel)
theorem kk_RX5_136 : Cond.constantLong RX5 136 2147483648 ∈ gx_tbl := gx_mem 926 (by decide +kernel) (by decide +kernel)
theorem kk_RX5_138 : Cond.constantLong RX5 138 65536 ∈ gx_tbl := gx_mem 927 (by decide +kernel) (by decide +kernel)
theorem kt_X10_leftOver : gx_Mt yX10_leftOver cX10_leftOver 3 (some .int) 2 := ⟨gx_mem 930 (by decide +kernel) (by decide +kernel), gx_mem 78 (by decide +kernel) (by decide +kernel), by decide +kernel, by decide⟩
theorem kc_RX5_140 : gx_MSN RX5 140 yX10_leftOver cX10_leftOver 3 (some .int) 2 := ⟨kt_X10_leftOver, by decide +kernel, gx_mem 929 (by decide +kernel) (by decide +kernel)⟩
theorem kf_RX5_144 : gx_Fld RX5 144 0 3 := ⟨RX0, TX0, 11, rfl, inX0, by decide, gx_mem 133 (by decide +kernel) (by decide +kernel)⟩
theorem kk_RX5_147 : Cond.constantLong RX5 147 1048576 ∈ gx_tbl := gx_mem 931 (by decide +kernel) (by decide +kernel)
theorem kk_RX9_3 : Cond.methodLink RX9 3 objectInit ∈ gx_tbl := gx_mem 283 (by decide +kernel) (by decide +kernel)
theorem kp_RX9_9 : gx_FldP RX9 9 7 0 false .int := ⟨RX9, TX9, 8, rfl, inX9, by decide, gx_mem 288 (by decide +kernel) (by decide +kernel), ⟨tyX9, tyX9_ok⟩, nmX9, rfl, by decide +kernel, fun q => by cases q⟩
theorem kn_RX9_15 : gx_Cls RX9 15 0 11 [.int 0, .int 0, .int 0, .int 0, .null, .null, .null, .null, .null, .null, .null] := ⟨RX0, TX0, tyX0, rfl, inX0, tyX0_ok, gx_mem 284 (by decide +kernel) (by decide +kernel), gx_mem 110 (by decide +kernel) (by decide +kernel), gx_mem 80 (by decide +kernel) (by decide +kernel), by decide +kernel⟩
theorem kc_RX9_17 : gx_MIN RX9 17 yX0_init cX0_init 1 0 := ⟨kt_X0_init, by decide +kernel, gx_mem 112 (by decide +kernel) (by decide +kernel), rfl⟩
theorem kp_RX9_18 : gx_FldP RX9 18 7 1 true (.object "SnakeLadders$Board") := ⟨RX9, TX9, 8, rfl, inX9, by decide, gx_mem 290 (by decide +kernel) (by decide +kernel), ⟨tyX9, tyX9_ok⟩, nmX9, rfl, by decide +kernel, fun _ => rfl⟩
theorem ka_byte : Cond.arrayClass .byte ∈ gx_tbl := gx_mem 316 (by decide +kernel) (by decide +kernel)
theorem kp_RX9_22 : gx_FldP RX9 22 7 2 true (.array .byte) := ⟨RX9, TX9, 8, rfl, inX9, by decide, gx_mem 292 (by decide +kernel) (by decide +kernel), ⟨tyX9, tyX9_ok⟩, nmX9, rfl, by decide +kernel, fun _ => rfl⟩
theorem kn_RX9_26 : gx_Cls RX9 26 6 5 [.int 0, .int 0, .int 0, .int 0, .int 0] := ⟨RX8, TX8, tyX8, rfl, inX8, tyX8_ok, gx_mem 286 (by decide +kernel) (by decide +kernel), gx_mem 198 (by decide +kernel) (by decide +kernel), gx_mem 83 (by decide +kernel) (by decide +kernel), by decide +kernel⟩
theorem kc_RX9_28 : gx_MIN RX9 28 yX8_init cX8_init 1 0 := ⟨kt_X8_init, by decide +kernel, gx_mem 200 (by decide +kernel) (by decide +kernel), rfl⟩
theorem kp_RX9_29 : gx_FldP RX9 29 7 3 true (.object "SnakeLadders$Step") := ⟨RX9, TX9, 8, rfl, inX9, by decide, gx_mem 293 (by decide +kernel) (by decide +kernel), ⟨tyX9, tyX9_ok⟩, nmX9, rfl, by decide +kernel, fun _ => rfl⟩
theorem kp_RX9_33 : gx_FldP RX9 33 7 4 false .int := ⟨RX9, TX9, 8, rfl, inX9, by decide, gx_mem 294 (by decide +kernel) (by decide +kernel), ⟨tyX9, tyX9_ok⟩, nmX9, rfl, by decide +kernel, fun q => by cases q⟩
theorem kp_RX9_36 : gx_FldP RX9 36 7 5 false .int := ⟨RX9, TX9, 8, rfl, inX9, by decide, gx_mem 295 (by decide +kernel) (by decide +kernel), ⟨tyX9, tyX9_ok⟩, nmX9, rfl, by decide +kernel, fun q => by cases q⟩
theorem kp_RX9_39 : gx_FldP RX9 39 7 6 false .int := ⟨RX9, TX9, 8, rfl, inX9, by decide, gx_mem 296 (by decide +kernel) (by decide +kernel), ⟨tyX9, tyX9_ok⟩, nmX9, rfl, by decide +kernel, fun q => by cases q⟩
theorem kp_RX9_42 : gx_FldP RX9 42 7 7 false .int := ⟨RX9, TX9, 8, rfl, inX9, by decide, gx_mem 297 (by decide +kernel) (by decide +kernel), ⟨tyX9, tyX9_ok⟩, nmX9, rfl, by decide +kernel, fun q => by cases q⟩
theorem kf_RX9_9 : gx_Fld RX9 9 7 0 := ⟨RX9, TX9, 8, rfl, inX9, by decide, gx_mem 288 (by decide +kernel) (by decide +kernel)⟩
theorem kf_RX9_22 : gx_Fld RX9 22 7 2 := ⟨RX9, TX9, 8, rfl, inX9, by decide, gx_mem 292 (by decide +kernel) (by decide +kernel)⟩
theorem kf_RX9_36 : gx_Fld RX9 36 7 5 := ⟨RX9, TX9, 8, rfl, inX9, by decide, gx_mem 295 (by decide +kernel) (by decide +kernel)⟩
theorem kf_RX9_33 : gx_Fld RX9 33 7 4 := ⟨RX9, TX9, 8, rfl, inX9, by decide, gx_mem 294 (by decide +kernel) (by decide +kernel)⟩
theorem kf_RX9_42 : gx_Fld RX9 42 7 7 := ⟨RX9, TX9, 8, rfl, inX9, by decide, gx_mem 297 (by decide +kernel) (by decide +kernel)⟩
theorem kc_RX9_128 : gx_MSN RX9 128 yX10_within cX10_within 3 (some .boolean) 3 := ⟨kt_X10_within, by decide +kernel, gx_mem 402 (by decide +kernel) (by decide +kernel)⟩
theorem kt_X9_byteAt : gx_Mt yX9_byteAt cX9_byteAt 2 (some .int) 1 := ⟨gx_mem 484 (by decide +kernel) (by decide +kernel), gx_mem 85 (by decide +kernel) (by decide +kernel), by decide +kernel, by decide⟩
theorem kc_RX9_137 : gx_MV RX9 137 yX9_byteAt cX9_byteAt 2 (some .int) 1 := ⟨kt_X9_byteAt, gx_mem 481 (by decide +kernel) (by decide +kernel), gx_mem 483 (by decide +kernel) (by decide +kernel), gx_mem 3 (by decide +kernel) (by decide +kernel)⟩
theorem kf_RX9_39 : gx_Fld RX9 39 7 6 := ⟨RX9, TX9, 8, rfl, inX9, by decide, gx_mem 296 (by decide +kernel) (by decide +kernel)⟩
theorem kt_X9_runEnd : gx_Mt yX9_runEnd cX9_runEnd 5 (some .int) 3 := ⟨gx_mem 480 (by decide +kernel) (by decide +kernel), gx_mem 85 (by decide +kernel) (by decide +kernel), by decide +kernel, by decide⟩
theorem kc_RX9_144 : gx_MV RX9 144 yX9_runEnd cX9_runEnd 5 (some .int) 3 := ⟨kt_X9_runEnd, gx_mem 477 (by decide +kernel) (by decide +kernel), gx_mem 479 (by decide +kernel) (by decide +kernel), gx_mem 2 (by decide +kernel) (by decide +kernel)⟩
theorem kt_X9_valueOf : gx_Mt yX9_valueOf cX9_valueOf 3 (some .int) 1 := ⟨gx_mem 488 (by decide +kernel) (by decide +kernel), gx_mem 85 (by decide +kernel) (by decide +kernel), by decide +kernel, by decide⟩
theorem kc_RX9_147 : gx_MV RX9 147 yX9_valueOf cX9_valueOf 3 (some .int) 1 := ⟨kt_X9_valueOf, gx_mem 485 (by decide +kernel) (by decide +kernel), gx_mem 487 (by decide +kernel) (by decide +kernel), gx_mem 4 (by decide +kernel) (by decide +kernel)⟩
theorem kt_X9_nextToken : gx_Mt yX9_nextToken cX9_nextToken 3 none 0 := ⟨gx_mem 476 (by decide +kernel) (by decide +kernel), gx_mem 85 (by decide +kernel) (by decide +kernel), by decide +kernel, by decide⟩
theorem kc_RX9_45 : gx_MV RX9 45 yX9_nextToken cX9_nextToken 3 none 0 := ⟨kt_X9_nextToken, gx_mem 473 (by decide +kernel) (by decide +kernel), gx_mem 475 (by decide +kernel) (by decide +kernel), gx_mem 1 (by decide +kernel) (by decide +kernel)⟩
theorem kt_X9_isNumber : gx_Mt yX9_isNumber cX9_isNumber 3 (some .boolean) 2 := ⟨gx_mem 553 (by decide +kernel) (by decide +kernel), gx_mem 85 (by decide +kernel) (by decide +kernel), by decide +kernel, by decide⟩
theorem kc_RX9_117 : gx_MV RX9 117 yX9_isNumber cX9_isNumber 3 (some .boolean) 2 := ⟨kt_X9_isNumber, gx_mem 550 (by decide +kernel) (by decide +kernel), gx_mem 552 (by decide +kernel) (by decide +kernel), gx_mem 8 (by decide +kernel) (by decide +kernel)⟩
theorem kk_RJ0_38 : Cond.fieldLink RJ0 38 "java/lang/String" "COMPACT_STRINGS" "Z" ∈ gx_tbl := gx_mem 506 (by decide +kernel) (by decide +kernel)
theorem kk_RJ0_15 : Cond.fieldLink RJ0 15 "java/lang/String" "coder" "B" ∈ gx_tbl := gx_mem 1415 (by decide +kernel) (by decide +kernel)
theorem kk_RJ0_9 : Cond.fieldLink RJ0 9 "java/lang/String" "value" "[B" ∈ gx_tbl := gx_mem 1414 (by decide +kernel) (by decide +kernel)
theorem kt_J0_coder_7d493 : gx_Mt yJ0_coder_7d493 cJ0_coder_7d493 1 (some .byte) 0 := ⟨gx_mem 505 (by decide +kernel) (by decide +kernel), gx_mem 89 (by decide +kernel) (by decide +kernel), by decide +kernel, by decide⟩
theorem kc_RJ0_335 : gx_MV RJ0 335 yJ0_coder_7d493 cJ0_coder_7d493 1 (some .byte) 0 := ⟨kt_J0_coder_7d493, gx_mem 502 (by decide +kernel) (by decide +kernel), gx_mem 503 (by decide +kernel) (by decide +kernel), gx_mem 504 (by decide +kernel) (by decide +kernel)⟩
theorem kk_RJ0_1053 : Cond.fieldLink RJ0 1053 "jdk/internal/util/Preconditions" "SIOOBE_FORMATTER" "Ljava/util/function/BiFunction;" ∈ gx_tbl := gx_mem 522 (by decide +kernel) (by decide +kernel)
theorem kt_J3_checkIndex_8e157 : gx_Mt yJ3_checkIndex_8e157 cJ3_checkIndex_8e157 3 (some .int) 3 := ⟨gx_mem 526 (by decide +kernel) (by decide +kernel), gx_mem 91 (by decide +kernel) (by decide +kernel), by decide +kernel, by decide⟩
theorem kc_RJ0_1059 : gx_MS RJ0 1059 yJ3_checkIndex_8e157 cJ3_checkIndex_8e157 3 (some .int) 3 := ⟨kt_J3_checkIndex_8e157, gx_mem 524 (by decide +kernel) (by decide +kernel), gx_mem 525 (by decide +kernel) (by decide +kernel)⟩
theorem kt_J0_checkIndex_df160 : gx_Mt yJ0_checkIndex_df160 cJ0_checkIndex_df160 2 none 2 := ⟨gx_mem 521 (by decide +kernel) (by decide +kernel), gx_mem 89 (by decide +kernel) (by decide +kernel), by decide +kernel, by decide⟩
theorem kc_RJ1_9 : gx_MS RJ1 9 yJ0_checkIndex_df160 cJ0_checkIndex_df160 2 none 2 := ⟨kt_J0_checkIndex_df160, gx_mem 519 (by decide +kernel) (by decide +kernel), gx_mem 520 (by decide +kernel) (by decide +kernel)⟩
theorem kt_J0_isLatin1_aae02 : gx_Mt yJ0_isLatin1_aae02 cJ0_isLatin1_aae02 1 (some .boolean) 0 := ⟨gx_mem 515 (by decide +kernel) (by decide +kernel), gx_mem 89 (by decide +kernel) (by decide +kernel), by decide +kernel, by decide⟩
theorem kc_RJ0_492 : gx_MV RJ0 492 yJ0_isLatin1_aae02 cJ0_isLatin1_aae02 1 (some .boolean) 0 := ⟨kt_J0_isLatin1_aae02, gx_mem 512 (by decide +kernel) (by decide +kernel), gx_mem 513 (by decide +kernel) (by decide +kernel), gx_mem 514 (by decide +kernel) (by decide +kernel)⟩
theorem kt_J1_charAt_3b067 : gx_Mt yJ1_charAt_3b067 cJ1_charAt_3b067 2 (some .char) 2 := ⟨gx_mem 518 (by decide +kernel) (by decide +kernel), gx_mem 90 (by decide +kernel) (by decide +kernel), by decide +kernel, by decide⟩
theorem kc_RJ0_495 : gx_MS RJ0 495 yJ1_charAt_3b067 cJ1_charAt_3b067 2 (some .char) 2 := ⟨kt_J1_charAt_3b067, gx_mem 516 (by decide +kernel) (by decide +kernel), gx_mem 517 (by decide +kernel) (by decide +kernel)⟩
theorem kt_J0_length_8abf5 : gx_Mt yJ0_length_8abf5 cJ0_length_8abf5 1 (some .int) 0 := ⟨gx_mem 501 (by decide +kernel) (by decide +kernel), gx_mem 89 (by decide +kernel) (by decide +kernel), by decide +kernel, by decide⟩
theorem kc_RX9_132 : gx_MV RX9 132 yJ0_length_8abf5 cJ0_length_8abf5 1 (some .int) 0 := ⟨kt_J0_length_8abf5, gx_mem 498 (by decide +kernel) (by decide +kernel), gx_mem 499 (by decide +kernel) (by decide +kernel), gx_mem 500 (by decide +kernel) (by decide +kernel)⟩
theorem kt_J0_charAt_5068e : gx_Mt yJ0_charAt_5068e cJ0_charAt_5068e 2 (some .char) 1 := ⟨gx_mem 511 (by decide +kernel) (by decide +kernel), gx_mem 89 (by decide +kernel) (by decide +kernel), by decide +kernel, by decide⟩
theorem kc_RX9_140 : gx_MV RX9 140 yJ0_charAt_5068e cJ0_charAt_5068e 2 (some .char) 1 := ⟨kt_J0_charAt_5068e, gx_mem 508 (by decide +kernel) (by decide +kernel), gx_mem 509 (by decide +kernel) (by decide +kernel), gx_mem 510 (by decide +kernel) (by decide +kernel)⟩
theorem kt_X9_isWord : gx_Mt yX9_isWord cX9_isWord 3 (some .boolean) 1 := ⟨gx_mem 497 (by decide +kernel) (by decide +kernel), gx_mem 85 (by decide +kernel) (by decide +kernel), by decide +kernel, by decide⟩
theorem kc_RX9_57 : gx_MV RX9 57 yX9_isWord cX9_isWord 3 (some .boolean) 1 := ⟨kt_X9_isWord, gx_mem 494 (by decide +kernel) (by decide +kernel), gx_mem 496 (by decide +kernel) (by decide +kernel), gx_mem 6 (by decide +kernel) (by decide +kernel)⟩
theorem kt_X9_nextNumber : gx_Mt yX9_nextNumber cX9_nextNumber 3 (some .boolean) 2 := ⟨gx_mem 549 (by decide +kernel) (by decide +kernel), gx_mem 85 (by decide +kernel) (by decide +kernel), by decide +kernel, by decide⟩
theorem kc_RX9_61 : gx_MV RX9 61 yX9_nextNumber cX9_nextNumber 3 (some .boolean) 2 := ⟨kt_X9_nextNumber, gx_mem 546 (by decide +kernel) (by decide +kernel), gx_mem 548 (by decide +kernel) (by decide +kernel), gx_mem 7 (by decide +kernel) (by decide +kernel)⟩
theorem kf_RX9_18 : gx_Fld RX9 18 7 1 := ⟨RX9, TX9, 8, rfl, inX9, by decide, gx_mem 290 (by decide +kernel) (by decide +kernel)⟩
theorem kt_X0_start : gx_Mt yX0_start cX0_start 3 none 2 := ⟨gx_mem 423 (by decide +kernel) (by decide +kernel), gx_mem 80 (by decide +kernel) (by decide +kernel), by decide +kernel, by decide⟩
theorem kc_RX9_65 : gx_MV RX9 65 yX0_start cX0_start 3 none 2 := ⟨kt_X0_start, gx_mem 555 (by decide +kernel) (by decide +kernel), gx_mem 421 (by decide +kernel) (by decide +kernel), gx_mem 422 (by decide +kernel) (by decide +kernel)⟩
theorem kt_X9_nextSemicolon : gx_Mt yX9_nextSemicolon cX9_nextSemicolon 1 (some .boolean) 0 := ⟨gx_mem 559 (by decide +kernel) (by decide +kernel), gx_mem 85 (by decide +kernel) (by decide +kernel), by decide +kernel, by decide⟩
theorem kc_RX9_69 : gx_MV RX9 69 yX9_nextSemicolon cX9_nextSemicolon 1 (some .boolean) 0 := ⟨kt_X9_nextSemicolon, gx_mem 556 (by decide +kernel) (by decide +kernel), gx_mem 558 (by decide +kernel) (by decide +kernel), gx_mem 9 (by decide +kernel) (by decide +kernel)⟩
theorem kf_RX9_92 : gx_Fld RX9 92 0 2 := ⟨RX0, TX0, 11, rfl, inX0, by decide, gx_mem 127 (by decide +kernel) (by decide +kernel)⟩
theorem kf_RX9_95 : gx_Fld RX9 95 0 0 := ⟨RX0, TX0, 11, rfl, inX0, by decide, gx_mem 119 (by decide +kernel) (by decide +kernel)⟩
theorem kc_RX9_96 : gx_MV RX9 96 yX0_linkOn cX0_linkOn 3 (some .int) 1 := ⟨kt_X0_linkOn, gx_mem 569 (by decide +kernel) (by decide +kernel), gx_mem 434 (by decide +kernel) (by decide +kernel), gx_mem 435 (by decide +kernel) (by decide +kernel)⟩
theorem kt_X0_addLink : gx_Mt yX0_addLink cX0_addLink 5 (some .int) 3 := ⟨gx_mem 440 (by decide +kernel) (by decide +kernel), gx_mem 80 (by decide +kernel) (by decide +kernel), by decide +kernel, by decide⟩
theorem kc_RX9_100 : gx_MV RX9 100 yX0_addLink cX0_addLink 5 (some .int) 3 := ⟨kt_X0_addLink, gx_mem 570 (by decide +kernel) (by decide +kernel), gx_mem 438 (by decide +kernel) (by decide +kernel), gx_mem 439 (by decide +kernel) (by decide +kernel)⟩
theorem kf_RX9_104 : gx_Fld RX9 104 0 3 := ⟨RX0, TX0, 11, rfl, inX0, by decide, gx_mem 132 (by decide +kernel) (by decide +kernel)⟩
theorem kt_X0_addPlayer : gx_Mt yX0_addPlayer cX0_addPlayer 3 (some .int) 1 := ⟨gx_mem 448 (by decide +kernel) (by decide +kernel), gx_mem 80 (by decide +kernel) (by decide +kernel), by decide +kernel, by decide⟩
theorem kc_RX9_107 : gx_MV RX9 107 yX0_addPlayer cX0_addPlayer 3 (some .int) 1 := ⟨kt_X0_addPlayer, gx_mem 576 (by decide +kernel) (by decide +kernel), gx_mem 446 (by decide +kernel) (by decide +kernel), gx_mem 447 (by decide +kernel) (by decide +kernel)⟩
theorem kf_RX9_110 : gx_Fld RX9 110 0 9 := ⟨RX0, TX0, 11, rfl, inX0, by decide, gx_mem 156 (by decide +kernel) (by decide +kernel)⟩
theorem kf_RX9_114 : gx_Fld RX9 114 0 1 := ⟨RX0, TX0, 11, rfl, inX0, by decide, gx_mem 123 (by decide +kernel) (by decide +kernel)⟩
theorem kc_RX9_120 : gx_MV RX9 120 yX0_isHome cX0_isHome 2 (some .boolean) 1 := ⟨kt_X0_isHome, gx_mem 587 (by decide +kernel) (by decide +kernel), gx_mem 588 (by decide +kernel) (by decide +kernel), gx_mem 589 (by decide +kernel) (by decide +kernel)⟩
theorem kf_RX9_29 : gx_Fld RX9 29 7 3 := ⟨RX9, TX9, 8, rfl, inX9, by decide, gx_mem 293 (by decide +kernel) (by decide +kernel)⟩
theorem kc_RX9_124 : gx_MV RX9 124 yX0_move cX0_move 6 none 3 := ⟨kt_X0_move, gx_mem 591 (by decide +kernel) (by decide +kernel), gx_mem 592 (by decide +kernel) (by decide +kernel), gx_mem 593 (by decide +kernel) (by decide +kernel)⟩
theorem kt_X9_throwItem : gx_Mt yX9_throwItem cX9_throwItem 3 (some .boolean) 0 := ⟨gx_mem 586 (by decide +kernel) (by decide +kernel), gx_mem 85 (by decide +kernel) (by decide +kernel), by decide +kernel, by decide⟩
theorem kc_RX9_89 : gx_MV RX9 89 yX9_throwItem cX9_throwItem 3 (some .boolean) 0 := ⟨kt_X9_throwItem, gx_mem 583 (by decide +kernel) (by decide +kernel), gx_mem 585 (by decide +kernel) (by decide +kernel), gx_mem 14 (by decide +kernel) (by decide +kernel)⟩
theorem kt_X9_setItem : gx_Mt yX9_setItem cX9_setItem 2 (some .boolean) 0 := ⟨gx_mem 581 (by decide +kernel) (by decide +kernel), gx_mem 85 (by decide +kernel) (by decide +kernel), by decide +kernel, by decide⟩
theorem kc_RX9_84 : gx_MV RX9 84 yX9_setItem cX9_setItem 2 (some .boolean) 0 := ⟨kt_X9_setItem, gx_mem 578 (by decide +kernel) (by decide +kernel), gx_mem 580 (by decide +kernel) (by decide +kernel), gx_mem 13 (by decide +kernel) (by decide +kernel)⟩
theorem kt_X9_playerItem : gx_Mt yX9_playerItem cX9_playerItem 1 (some .boolean) 0 := ⟨gx_mem 575 (by decide +kernel) (by decide +kernel), gx_mem 85 (by decide +kernel) (by decide +kernel), by decide +kernel, by decide⟩
theorem kc_RX9_79 : gx_MV RX9 79 yX9_playerItem cX9_playerItem 1 (some .boolean) 0 := ⟨kt_X9_playerItem, gx_mem 572 (by decide +kernel) (by decide +kernel), gx_mem 574 (by decide +kernel) (by decide +kernel), gx_mem 12 (by decide +kernel) (by decide +kernel)⟩
theorem kt_X9_linkItem : gx_Mt yX9_linkItem cX9_linkItem 3 (some .boolean) 0 := ⟨gx_mem 568 (by decide +kernel) (by decide +kernel), gx_mem 85 (by decide +kernel) (by decide +kernel), by decide +kernel, by decide⟩
theorem kc_RX9_74 : gx_MV RX9 74 yX9_linkItem cX9_linkItem 3 (some .boolean) 0 := ⟨kt_X9_linkItem, gx_mem 565 (by decide +kernel) (by decide +kernel), gx_mem 567 (by decide +kernel) (by decide +kernel), gx_mem 11 (by decide +kernel) (by decide +kernel)⟩
theorem kt_X9_boardItem : gx_Mt yX9_boardItem cX9_boardItem 2 (some .boolean) 0 := ⟨gx_mem 492 (by decide +kernel) (by decide +kernel), gx_mem 85 (by decide +kernel) (by decide +kernel), by decide +kernel, by decide⟩
theorem kc_RX9_48 : gx_MV RX9 48 yX9_boardItem cX9_boardItem 2 (some .boolean) 0 := ⟨kt_X9_boardItem, gx_mem 489 (by decide +kernel) (by decide +kernel), gx_mem 491 (by decide +kernel) (by decide +kernel), gx_mem 5 (by decide +kernel) (by decide +kernel)⟩
theorem kt_X9_laterItem : gx_Mt yX9_laterItem cX9_laterItem 1 (some .boolean) 0 := ⟨gx_mem 563 (by decide +kernel) (by decide +kernel), gx_mem 85 (by decide +kernel) (by decide +kernel), by decide +kernel, by decide⟩
theorem kc_RX9_52 : gx_MV RX9 52 yX9_laterItem cX9_laterItem 1 (some .boolean) 0 := ⟨kt_X9_laterItem, gx_mem 560 (by decide +kernel) (by decide +kernel), gx_mem 562 (by decide +kernel) (by decide +kernel), gx_mem 10 (by decide +kernel) (by decide +kernel)⟩
theorem kk_RX10_1 : Cond.methodLink RX10 1 objectInit ∈ gx_tbl := gx_mem 100 (by decide +kernel) (by decide +kernel)
theorem kn_RX10_7 : gx_Cls RX10 7 1 4 [.null, .null, .null, .null] := ⟨RX1, TX1, tyX1, rfl, inX1, tyX1_ok, gx_mem 103 (by decide +kernel) (by decide +kernel), gx_mem 104 (by decide +kernel) (by decide +kernel), gx_mem 79 (by decide +kernel) (by decide +kernel), by decide +kernel⟩
theorem kt_X1_init : gx_Mt yX1_init cX1_init 1 none 0 := ⟨gx_mem 107 (by decide +kernel) (by decide +kernel), gx_mem 79 (by decide +kernel) (by decide +kernel), by decide +kernel, by decide⟩
theorem kc_RX10_9 : gx_MIN RX10 9 yX1_init cX1_init 1 0 := ⟨kt_X1_init, by decide +kernel, gx_mem 106 (by decide +kernel) (by decide +kernel), rfl⟩
theorem kp_RX10_10 : gx_FldP RX10 10 8 0 true (.object "SnakeLadders$Game") := ⟨RX10, TX10, 11, rfl, inX10, by decide, gx_mem 363 (by decide +kernel) (by decide +kernel), ⟨tyX10, tyX10_ok⟩, nmX10, rfl, by decide +kernel, fun _ => rfl⟩
theorem kk_RX10_7 : Cond.classLink RX10 7 RX1 ∈ gx_tbl := gx_mem 103 (by decide +kernel) (by decide +kernel)
theorem kp_RX10_16 : gx_FldP RX10 16 8 1 true (.array (.object "SnakeLadders$Game")) := ⟨RX10, TX10, 11, rfl, inX10, by decide, gx_mem 364 (by decide +kernel) (by decide +kernel), ⟨tyX10, tyX10_ok⟩, nmX10, rfl, by decide +kernel, fun _ => rfl⟩
theorem ka_boolean : Cond.arrayClass .boolean ∈ gx_tbl := gx_mem 315 (by decide +kernel) (by decide +kernel)
theorem kp_RX10_20 : gx_FldP RX10 20 8 2 true (.array .boolean) := ⟨RX10, TX10, 11, rfl, inX10, by decide, gx_mem 365 (by decide +kernel) (by decide +kernel), ⟨tyX10, tyX10_ok⟩, nmX10, rfl, by decide +kernel, fun _ => rfl⟩
theorem kn_RX10_24 : gx_Cls RX10 24 7 8 [.int 0, .null, .null, .null, .int 0, .int 0, .int 0, .int 0] := ⟨RX9, TX9, tyX9, rfl, inX9, tyX9_ok, gx_mem 278 (by decide +kernel) (by decide +kernel), gx_mem 279 (by decide +kernel) (by decide +kernel), gx_mem 85 (by decide +kernel) (by decide +kernel), by decide +kernel⟩
theorem kt_X9_init : gx_Mt yX9_init cX9_init 1 none 0 := ⟨gx_mem 282 (by decide +kernel) (by decide +kernel), gx_mem 85 (by decide +kernel) (by decide +kernel), by decide +kernel, by decide⟩
theorem kc_RX10_26 : gx_MIN RX10 26 yX9_init cX9_init 1 0 := ⟨kt_X9_init, by decide +kernel, gx_mem 281 (by decide +kernel) (by decide +kernel), rfl⟩
theorem kp_RX10_27 : gx_FldP RX10 27 8 3 true (.object "SnakeLadders$TextReader") := ⟨RX10, TX10, 11, rfl, inX10, by decide, gx_mem 366 (by decide +kernel) (by decide +kernel), ⟨tyX10, tyX10_ok⟩, nmX10, rfl, by decide +kernel, fun _ => rfl⟩
theorem kn_RX10_31 : gx_Cls RX10 31 4 8 [.null, .null, .null, .null, .null, .null, .int 0, .int 0] := ⟨RX5, TX5, tyX5, rfl, inX5, tyX5_ok, gx_mem 317 (by decide +kernel) (by decide +kernel), gx_mem 318 (by decide +kernel) (by decide +kernel), gx_mem 86 (by decide +kernel) (by decide +kernel), by decide +kernel⟩
theorem kt_X5_init : gx_Mt yX5_init cX5_init 1 none 0 := ⟨gx_mem 321 (by decide +kernel) (by decide +kernel), gx_mem 86 (by decide +kernel) (by decide +kernel), by decide +kernel, by decide⟩
theorem kc_RX10_33 : gx_MIN RX10 33 yX5_init cX5_init 1 0 := ⟨kt_X5_init, by decide +kernel, gx_mem 320 (by decide +kernel) (by decide +kernel), rfl⟩
theorem kp_RX10_34 : gx_FldP RX10 34 8 4 true (.object "SnakeLadders$Outlook") := ⟨RX10, TX10, 11, rfl, inX10, by decide, gx_mem 367 (by decide +kernel) (by decide +kernel), ⟨tyX10, tyX10_ok⟩, nmX10, rfl, by decide +kernel, fun _ => rfl⟩
theorem kn_RX10_38 : gx_Cls RX10 38 2 1 [.null] := ⟨RX2, TX2, tyX2, rfl, inX2, tyX2_ok, gx_mem 353 (by decide +kernel) (by decide +kernel), gx_mem 354 (by decide +kernel) (by decide +kernel), gx_mem 87 (by decide +kernel) (by decide +kernel), by decide +kernel⟩
theorem kt_X2_init : gx_Mt yX2_init cX2_init 1 none 0 := ⟨gx_mem 357 (by decide +kernel) (by decide +kernel), gx_mem 87 (by decide +kernel) (by decide +kernel), by decide +kernel, by decide⟩
theorem kc_RX10_40 : gx_MIN RX10 40 yX2_init cX2_init 1 0 := ⟨kt_X2_init, by decide +kernel, gx_mem 356 (by decide +kernel) (by decide +kernel), rfl⟩
theorem kp_RX10_41 : gx_FldP RX10 41 8 5 true (.object "SnakeLadders$Guess") := ⟨RX10, TX10, 11, rfl, inX10, by decide, gx_mem 368 (by decide +kernel) (by decide +kernel), ⟨tyX10, tyX10_ok⟩, nmX10, rfl, by decide +kernel, fun _ => rfl⟩
theorem kp_RX10_45 : gx_FldP RX10 45 8 6 false .long := ⟨RX10, TX10, 11, rfl, inX10, by decide, gx_mem 369 (by decide +kernel) (by decide +kernel), ⟨tyX10, tyX10_ok⟩, nmX10, rfl, by decide +kernel, fun q => by cases q⟩
theorem kp_RX10_49 : gx_FldP RX10 49 8 7 false .long := ⟨RX10, TX10, 11, rfl, inX10, by decide, gx_mem 370 (by decide +kernel) (by decide +kernel), ⟨tyX10, tyX10_ok⟩, nmX10, rfl, by decide +kernel, fun q => by cases q⟩
theorem kp_RX10_52 : gx_FldP RX10 52 8 8 false .int := ⟨RX10, TX10, 11, rfl, inX10, by decide, gx_mem 371 (by decide +kernel) (by decide +kernel), ⟨tyX10, tyX10_ok⟩, nmX10, rfl, by decide +kernel, fun q => by cases q⟩
theorem kp_RX10_56 : gx_FldP RX10 56 8 9 false .int := ⟨RX10, TX10, 11, rfl, inX10, by decide, gx_mem 372 (by decide +kernel) (by decide +kernel), ⟨tyX10, tyX10_ok⟩, nmX10, rfl, by decide +kernel, fun q => by cases q⟩
theorem kp_RX10_59 : gx_FldP RX10 59 8 10 false .int := ⟨RX10, TX10, 11, rfl, inX10, by decide, gx_mem 373 (by decide +kernel) (by decide +kernel), ⟨tyX10, tyX10_ok⟩, nmX10, rfl, by decide +kernel, fun q => by cases q⟩
theorem kf_RX10_52 : gx_Fld RX10 52 8 8 := ⟨RX10, TX10, 11, rfl, inX10, by decide, gx_mem 371 (by decide +kernel) (by decide +kernel)⟩
theorem kf_RX10_56 : gx_Fld RX10 56 8 9 := ⟨RX10, TX10, 11, rfl, inX10, by decide, gx_mem 372 (by decide +kernel) (by decide +kernel)⟩
theorem kf_RX10_59 : gx_Fld RX10 59 8 10 := ⟨RX10, TX10, 11, rfl, inX10, by decide, gx_mem 373 (by decide +kernel) (by decide +kernel)⟩
theorem kc_RX10_62 : gx_MS RX10 62 yX10_within cX10_within 3 (some .boolean) 3 := ⟨kt_X10_within, gx_mem 401 (by decide +kernel) (by decide +kernel), gx_mem 402 (by decide +kernel) (by decide +kernel)⟩
theorem kf_RX10_10 : gx_Fld RX10 10 8 0 := ⟨RX10, TX10, 11, rfl, inX10, by decide, gx_mem 363 (by decide +kernel) (by decide +kernel)⟩
theorem kf_RX10_70 : gx_Fld RX10 70 1 0 := ⟨RX1, TX1, 4, rfl, inX1, by decide, gx_mem 261 (by decide +kernel) (by decide +kernel)⟩
theorem kf_RX10_74 : gx_Fld RX10 74 0 3 := ⟨RX0, TX0, 11, rfl, inX0, by decide, gx_mem 130 (by decide +kernel) (by decide +kernel)⟩
theorem kt_X1_dropPast : gx_Mt yX1_dropPast cX1_dropPast 1 none 0 := ⟨gx_mem 411 (by decide +kernel) (by decide +kernel), gx_mem 79 (by decide +kernel) (by decide +kernel), by decide +kernel, by decide⟩
theorem kc_RX10_79 : gx_MV RX10 79 yX1_dropPast cX1_dropPast 1 none 0 := ⟨kt_X1_dropPast, gx_mem 408 (by decide +kernel) (by decide +kernel), gx_mem 409 (by decide +kernel) (by decide +kernel), gx_mem 410 (by decide +kernel) (by decide +kernel)⟩
theorem kc_RX10_82 : gx_MV RX10 82 yX0_start cX0_start 3 none 2 := ⟨kt_X0_start, gx_mem 420 (by decide +kernel) (by decide +kernel), gx_mem 421 (by decide +kernel) (by decide +kernel), gx_mem 422 (by decide +kernel) (by decide +kernel)⟩
theorem kt_X10_refuse : gx_Mt yX10_refuse cX10_refuse 2 (some .int) 1 := ⟨gx_mem 407 (by decide +kernel) (by decide +kernel), gx_mem 78 (by decide +kernel) (by decide +kernel), by decide +kernel, by decide⟩
theorem kc_RX10_66 : gx_MV RX10 66 yX10_refuse cX10_refuse 2 (some .int) 1 := ⟨kt_X10_refuse, gx_mem 404 (by decide +kernel) (by decide +kernel), gx_mem 406 (by decide +kernel) (by decide +kernel), gx_mem 0 (by decide +kernel) (by decide +kernel)⟩
theorem kf_RX10_86 : gx_Fld RX10 86 0 1 := ⟨RX0, TX0, 11, rfl, inX0, by decide, gx_mem 121 (by decide +kernel) (by decide +kernel)⟩
theorem kp_RX10_86 : gx_FldP RX10 86 0 1 false .int := ⟨RX0, TX0, 11, rfl, inX0, by decide, gx_mem 121 (by decide +kernel) (by decide +kernel), ⟨tyX0, tyX0_ok⟩, nmX0, rfl, by decide +kernel, fun q => by cases q⟩
theorem kf_RX10_89 : gx_Fld RX10 89 1 1 := ⟨RX1, TX1, 4, rfl, inX1, by decide, gx_mem 263 (by decide +kernel) (by decide +kernel)⟩
theorem kc_RX10_93 : gx_MV RX10 93 yX3_empty cX3_empty 1 none 0 := ⟨kt_X3_empty, gx_mem 428 (by decide +kernel) (by decide +kernel), gx_mem 413 (by decide +kernel) (by decide +kernel), gx_mem 414 (by decide +kernel) (by decide +kernel)⟩
theorem kf_RX10_98 : gx_Fld RX10 98 0 0 := ⟨RX0, TX0, 11, rfl, inX0, by decide, gx_mem 117 (by decide +kernel) (by decide +kernel)⟩
theorem kc_RX10_101 : gx_MV RX10 101 yX0_linkOn cX0_linkOn 3 (some .int) 1 := ⟨kt_X0_linkOn, gx_mem 433 (by decide +kernel) (by decide +kernel), gx_mem 434 (by decide +kernel) (by decide +kernel), gx_mem 435 (by decide +kernel) (by decide +kernel)⟩
theorem kf_RX10_104 : gx_Fld RX10 104 0 2 := ⟨RX0, TX0, 11, rfl, inX0, by decide, gx_mem 126 (by decide +kernel) (by decide +kernel)⟩
theorem kc_RX10_107 : gx_MV RX10 107 yX0_addLink cX0_addLink 5 (some .int) 3 := ⟨kt_X0_addLink, gx_mem 437 (by decide +kernel) (by decide +kernel), gx_mem 438 (by decide +kernel) (by decide +kernel), gx_mem 439 (by decide +kernel) (by decide +kernel)⟩
theorem kc_RX10_111 : gx_MV RX10 111 yX0_addPlayer cX0_addPlayer 3 (some .int) 1 := ⟨kt_X0_addPlayer, gx_mem 445 (by decide +kernel) (by decide +kernel), gx_mem 446 (by decide +kernel) (by decide +kernel), gx_mem 447 (by decide +kernel) (by decide +kernel)⟩
theorem kf_RX10_27 : gx_Fld RX10 27 8 3 := ⟨RX10, TX10, 11, rfl, inX10, by decide, gx_mem 366 (by decide +kernel) (by decide +kernel)⟩
theorem kf_RX10_114 : gx_Fld RX10 114 7 0 := ⟨RX9, TX9, 8, rfl, inX9, by decide, gx_mem 289 (by decide +kernel) (by decide +kernel)⟩
theorem kt_X9_append : gx_Mt yX9_append cX9_append 2 (some .int) 1 := ⟨gx_mem 456 (by decide +kernel) (by decide +kernel), gx_mem 85 (by decide +kernel) (by decide +kernel), by decide +kernel, by decide⟩
theorem kc_RX10_115 : gx_MV RX10 115 yX9_append cX9_append 2 (some .int) 1 := ⟨kt_X9_append, gx_mem 453 (by decide +kernel) (by decide +kernel), gx_mem 454 (by decide +kernel) (by decide +kernel), gx_mem 455 (by decide +kernel) (by decide +kernel)⟩
theorem kt_X9_empty : gx_Mt yX9_empty cX9_empty 2 (some .int) 0 := ⟨gx_mem 464 (by decide +kernel) (by decide +kernel), gx_mem 85 (by decide +kernel) (by decide +kernel), by decide +kernel, by decide⟩
theorem kc_RX10_118 : gx_MV RX10 118 yX9_empty cX9_empty 2 (some .int) 0 := ⟨kt_X9_empty, gx_mem 461 (by decide +kernel) (by decide +kernel), gx_mem 462 (by decide +kernel) (by decide +kernel), gx_mem 463 (by decide +kernel) (by decide +kernel)⟩
theorem kt_X9_readItems : gx_Mt yX9_readItems cX9_readItems 2 (some .int) 0 := ⟨gx_mem 472 (by decide +kernel) (by decide +kernel), gx_mem 85 (by decide +kernel) (by decide +kernel), by decide +kernel, by decide⟩
theorem kc_RX10_121 : gx_MV RX10 121 yX9_readItems cX9_readItems 2 (some .int) 0 := ⟨kt_X9_readItems, gx_mem 469 (by decide +kernel) (by decide +kernel), gx_mem 470 (by decide +kernel) (by decide +kernel), gx_mem 471 (by decide +kernel) (by decide +kernel)⟩
theorem kf_RX10_127 : gx_Fld RX10 127 7 1 := ⟨RX9, TX9, 8, rfl, inX9, by decide, gx_mem 291 (by decide +kernel) (by decide +kernel)⟩
theorem kc_RX10_130 : gx_MV RX10 130 yX0_copy cX0_copy 3 none 1 := ⟨kt_X0_copy, gx_mem 632 (by decide +kernel) (by decide +kernel), gx_mem 633 (by decide +kernel) (by decide +kernel), gx_mem 634 (by decide +kernel) (by decide +kernel)⟩
theorem kt_X9_fault : gx_Mt yX9_fault cX9_fault 1 (some .int) 0 := ⟨gx_mem 631 (by decide +kernel) (by decide +kernel), gx_mem 85 (by decide +kernel) (by decide +kernel), by decide +kernel, by decide⟩
theorem kc_RX10_124 : gx_MV RX10 124 yX9_fault cX9_fault 1 (some .int) 0 := ⟨kt_X9_fault, gx_mem 628 (by decide +kernel) (by decide +kernel), gx_mem 629 (by decide +kernel) (by decide +kernel), gx_mem 630 (by decide +kernel) (by decide +kernel)⟩
theorem kt_X10_isPlayer : gx_Mt yX10_isPlayer cX10_isPlayer 2 (some .boolean) 1 := ⟨gx_mem 643 (by decide +kernel) (by decide +kernel), gx_mem 78 (by decide +kernel) (by decide +kernel), by decide +kernel, by decide⟩
theorem kc_RX10_134 : gx_MV RX10 134 yX10_isPlayer cX10_isPlayer 2 (some .boolean) 1 := ⟨kt_X10_isPlayer, gx_mem 640 (by decide +kernel) (by decide +kernel), gx_mem 642 (by decide +kernel) (by decide +kernel), gx_mem 17 (by decide +kernel) (by decide +kernel)⟩
theorem kc_RX10_138 : gx_MV RX10 138 yX0_isHome cX0_isHome 2 (some .boolean) 1 := ⟨kt_X0_isHome, gx_mem 644 (by decide +kernel) (by decide +kernel), gx_mem 588 (by decide +kernel) (by decide +kernel), gx_mem 589 (by decide +kernel) (by decide +kernel)⟩
theorem kt_X3_nextStep : gx_Mt yX3_nextStep cX3_nextStep 2 (some (.object "SnakeLadders$Step")) 0 := ⟨gx_mem 648 (by decide +kernel) (by decide +kernel), gx_mem 81 (by decide +kernel) (by decide +kernel), by decide +kernel, by decide⟩
theorem kc_RX10_141 : gx_MV RX10 141 yX3_nextStep cX3_nextStep 2 (some (.object "SnakeLadders$Step")) 0 := ⟨kt_X3_nextStep, gx_mem 645 (by decide +kernel) (by decide +kernel), gx_mem 646 (by decide +kernel) (by decide +kernel), gx_mem 647 (by decide +kernel) (by decide +kernel)⟩
theorem kc_RX10_145 : gx_MV RX10 145 yX0_move cX0_move 6 none 3 := ⟨kt_X0_move, gx_mem 653 (by decide +kernel) (by decide +kernel), gx_mem 592 (by decide +kernel) (by decide +kernel), gx_mem 593 (by decide +kernel) (by decide +kernel)⟩
theorem kf_RX10_149 : gx_Fld RX10 149 0 9 := ⟨RX0, TX0, 11, rfl, inX0, by decide, gx_mem 155 (by decide +kernel) (by decide +kernel)⟩
theorem kc_RX10_153 : gx_MV RX10 153 yX0_remember cX0_remember 3 none 2 := ⟨kt_X0_remember, gx_mem 658 (by decide +kernel) (by decide +kernel), gx_mem 596 (by decide +kernel) (by decide +kernel), gx_mem 597 (by decide +kernel) (by decide +kernel)⟩
theorem kf_RX10_157 : gx_Fld RX10 157 3 0 := ⟨RX3, TX3, 2, rfl, inX3, by decide, gx_mem 225 (by decide +kernel) (by decide +kernel)⟩
theorem kt_X3_takeBack : gx_Mt yX3_takeBack cX3_takeBack 2 none 1 := ⟨gx_mem 666 (by decide +kernel) (by decide +kernel), gx_mem 81 (by decide +kernel) (by decide +kernel), by decide +kernel, by decide⟩
theorem kc_RX10_160 : gx_MV RX10 160 yX3_takeBack cX3_takeBack 2 none 1 := ⟨kt_X3_takeBack, gx_mem 663 (by decide +kernel) (by decide +kernel), gx_mem 664 (by decide +kernel) (by decide +kernel), gx_mem 665 (by decide +kernel) (by decide +kernel)⟩
theorem kc_RX10_163 : gx_MV RX10 163 yX0_homes cX0_homes 3 (some .int) 0 := ⟨kt_X0_homes, gx_mem 671 (by decide +kernel) (by decide +kernel), gx_mem 672 (by decide +kernel) (by decide +kernel), gx_mem 673 (by decide +kernel) (by decide +kernel)⟩
theorem kf_RX10_166 : gx_Fld RX10 166 0 8 := ⟨RX0, TX0, 11, rfl, inX0, by decide, gx_mem 151 (by decide +kernel) (by decide +kernel)⟩
theorem kf_RX10_169 : gx_Fld RX10 169 0 10 := ⟨RX0, TX0, 11, rfl, inX0, by decide, gx_mem 159 (by decide +kernel) (by decide +kernel)⟩
theorem kt_X10_isLink : gx_Mt yX10_isLink cX10_isLink 2 (some .boolean) 1 := ⟨gx_mem 687 (by decide +kernel) (by decide +kernel), gx_mem 78 (by decide +kernel) (by decide +kernel), by decide +kernel, by decide⟩
theorem kc_RX10_172 : gx_MV RX10 172 yX10_isLink cX10_isLink 2 (some .boolean) 1 := ⟨kt_X10_isLink, gx_mem 684 (by decide +kernel) (by decide +kernel), gx_mem 686 (by decide +kernel) (by decide +kernel), gx_mem 19 (by decide +kernel) (by decide +kernel)⟩
theorem kf_RX10_175 : gx_Fld RX10 175 0 4 := ⟨RX0, TX0, 11, rfl, inX0, by decide, gx_mem 136 (by decide +kernel) (by decide +kernel)⟩
theorem kf_RX10_178 : gx_Fld RX10 178 0 5 := ⟨RX0, TX0, 11, rfl, inX0, by decide, gx_mem 141 (by decide +kernel) (by decide +kernel)⟩
theorem kf_RX10_181 : gx_Fld RX10 181 0 6 := ⟨RX0, TX0, 11, rfl, inX0, by decide, gx_mem 145 (by decide +kernel) (by decide +kernel)⟩
theorem kf_RX10_184 : gx_Fld RX10 184 0 7 := ⟨RX0, TX0, 11, rfl, inX0, by decide, gx_mem 148 (by decide +kernel) (by decide +kernel)⟩
theorem kc_RX10_187 : gx_MV RX10 187 yX0_landing cX0_landing 5 (some .int) 2 := ⟨kt_X0_landing, gx_mem 692 (by decide +kernel) (by decide +kernel), gx_mem 693 (by decide +kernel) (by decide +kernel), gx_mem 694 (by decide +kernel) (by decide +kernel)⟩
theorem kf_RX10_34 : gx_Fld RX10 34 8 4 := ⟨RX10, TX10, 11, rfl, inX10, by decide, gx_mem 367 (by decide +kernel) (by decide +kernel)⟩
theorem kt_X5_fewest : gx_Mt yX5_fewest cX5_fewest 4 (some .int) 2 := ⟨gx_mem 707 (by decide +kernel) (by decide +kernel), gx_mem 86 (by decide +kernel) (by decide +kernel), by decide +kernel, by decide⟩
theorem kc_RX10_194 : gx_MV RX10 194 yX5_fewest cX5_fewest 4 (some .int) 2 := ⟨kt_X5_fewest, gx_mem 704 (by decide +kernel) (by decide +kernel), gx_mem 705 (by decide +kernel) (by decide +kernel), gx_mem 706 (by decide +kernel) (by decide +kernel)⟩
theorem kt_X5_rowAt : gx_Mt yX5_rowAt cX5_rowAt 2 (some .int) 1 := ⟨gx_mem 718 (by decide +kernel) (by decide +kernel), gx_mem 86 (by decide +kernel) (by decide +kernel), by decide +kernel, by decide⟩
theorem kc_RX10_198 : gx_MV RX10 198 yX5_rowAt cX5_rowAt 2 (some .int) 1 := ⟨kt_X5_rowAt, gx_mem 715 (by decide +kernel) (by decide +kernel), gx_mem 716 (by decide +kernel) (by decide +kernel), gx_mem 717 (by decide +kernel) (by decide +kernel)⟩
theorem kt_X10_refuseByTen : gx_Mt yX10_refuseByTen cX10_refuseByTen 1 (some .int) 0 := ⟨gx_mem 703 (by decide +kernel) (by decide +kernel), gx_mem 78 (by decide +kernel) (by decide +kernel), by decide +kernel, by decide⟩
theorem kc_RX10_191 : gx_MV RX10 191 yX10_refuseByTen cX10_refuseByTen 1 (some .int) 0 := ⟨kt_X10_refuseByTen, gx_mem 700 (by decide +kernel) (by decide +kernel), gx_mem 702 (by decide +kernel) (by decide +kernel), gx_mem 20 (by decide +kernel) (by decide +kernel)⟩
theorem kt_X10_commonDivisor : gx_Mt yX10_commonDivisor cX10_commonDivisor 11 (some .long) 2 := ⟨gx_mem 754 (by decide +kernel) (by decide +kernel), gx_mem 78 (by decide +kernel) (by decide +kernel), by decide +kernel, by decide⟩
theorem kc_RX10_310 : gx_MS RX10 310 yX10_commonDivisor cX10_commonDivisor 11 (some .long) 2 := ⟨kt_X10_commonDivisor, gx_mem 752 (by decide +kernel) (by decide +kernel), gx_mem 753 (by decide +kernel) (by decide +kernel)⟩
theorem kt_X5_spread : gx_Mt yX5_spread cX5_spread 4 none 3 := ⟨gx_mem 727 (by decide +kernel) (by decide +kernel), gx_mem 86 (by decide +kernel) (by decide +kernel), by decide +kernel, by decide⟩
theorem kc_RX10_201 : gx_MV RX10 201 yX5_spread cX5_spread 4 none 3 := ⟨kt_X5_spread, gx_mem 724 (by decide +kernel) (by decide +kernel), gx_mem 725 (by decide +kernel) (by decide +kernel), gx_mem 726 (by decide +kernel) (by decide +kernel)⟩
theorem kc_RX10_205 : gx_MV RX10 205 yX5_rowsHome cX5_rowsHome 1 (some .int) 0 := ⟨kt_X5_rowsHome, gx_mem 743 (by decide +kernel) (by decide +kernel), gx_mem 744 (by decide +kernel) (by decide +kernel), gx_mem 745 (by decide +kernel) (by decide +kernel)⟩
theorem kc_RX10_208 : gx_MS RX10 208 yX10_power cX10_power 4 (some .int) 2 := ⟨kt_X10_power, gx_mem 747 (by decide +kernel) (by decide +kernel), gx_mem 737 (by decide +kernel) (by decide +kernel)⟩
theorem kt_X10_keepFraction : gx_Mt yX10_keepFraction cX10_keepFraction 7 (some .int) 2 := ⟨gx_mem 751 (by decide +kernel) (by decide +kernel), gx_mem 78 (by decide +kernel) (by decide +kernel), by decide +kernel, by decide⟩
theorem kc_RX10_211 : gx_MV RX10 211 yX10_keepFraction cX10_keepFraction 7 (some .int) 2 := ⟨kt_X10_keepFraction, gx_mem 748 (by decide +kernel) (by decide +kernel), gx_mem 750 (by decide +kernel) (by decide +kernel), gx_mem 23 (by decide +kernel) (by decide +kernel)⟩
theorem kt_X5_sumOfSquares : gx_Mt yX5_sumOfSquares cX5_sumOfSquares 4 (some .long) 0 := ⟨gx_mem 762 (by decide +kernel) (by decide +kernel), gx_mem 86 (by decide +kernel) (by decide +kernel), by decide +kernel, by decide⟩
theorem kc_RX10_215 : gx_MV RX10 215 yX5_sumOfSquares cX5_sumOfSquares 4 (some .long) 0 := ⟨kt_X5_sumOfSquares, gx_mem 759 (by decide +kernel) (by decide +kernel), gx_mem 760 (by decide +kernel) (by decide +kernel), gx_mem 761 (by decide +kernel) (by decide +kernel)⟩
theorem kt_X10_areUnlikePlayers : gx_Mt yX10_areUnlikePlayers cX10_areUnlikePlayers 3 (some .boolean) 2 := ⟨gx_mem 770 (by decide +kernel) (by decide +kernel), gx_mem 78 (by decide +kernel) (by decide +kernel), by decide +kernel, by decide⟩
theorem kc_RX10_219 : gx_MV RX10 219 yX10_areUnlikePlayers cX10_areUnlikePlayers 3 (some .boolean) 2 := ⟨kt_X10_areUnlikePlayers, gx_mem 767 (by decide +kernel) (by decide +kernel), gx_mem 769 (by decide +kernel) (by decide +kernel), gx_mem 24 (by decide +kernel) (by decide +kernel)⟩
theorem kt_X5_rowsAhead : gx_Mt yX5_rowsAhead cX5_rowsAhead 5 (some .int) 4 := ⟨gx_mem 774 (by decide +kernel) (by decide +kernel), gx_mem 86 (by decide +kernel) (by decide +kernel), by decide +kernel, by decide⟩
theorem kc_RX10_223 : gx_MV RX10 223 yX5_rowsAhead cX5_rowsAhead 5 (some .int) 4 := ⟨kt_X5_rowsAhead, gx_mem 771 (by decide +kernel) (by decide +kernel), gx_mem 772 (by decide +kernel) (by decide +kernel), gx_mem 773 (by decide +kernel) (by decide +kernel)⟩
theorem kt_X5_findBestSquare : gx_Mt yX5_findBestSquare cX5_findBestSquare 5 none 3 := ⟨gx_mem 785 (by decide +kernel) (by decide +kernel), gx_mem 86 (by decide +kernel) (by decide +kernel), by decide +kernel, by decide⟩
theorem kc_RX10_227 : gx_MV RX10 227 yX5_findBestSquare cX5_findBestSquare 5 none 3 := ⟨kt_X5_findBestSquare, gx_mem 782 (by decide +kernel) (by decide +kernel), gx_mem 783 (by decide +kernel) (by decide +kernel), gx_mem 784 (by decide +kernel) (by decide +kernel)⟩
theorem kf_RX10_233 : gx_Fld RX10 233 4 7 := ⟨RX5, TX5, 8, rfl, inX5, by decide, gx_mem 335 (by decide +kernel) (by decide +kernel)⟩
theorem kf_RX10_230 : gx_Fld RX10 230 4 6 := ⟨RX5, TX5, 8, rfl, inX5, by decide, gx_mem 333 (by decide +kernel) (by decide +kernel)⟩
theorem kt_X5_findWorstLink : gx_Mt yX5_findWorstLink cX5_findWorstLink 6 none 3 := ⟨gx_mem 794 (by decide +kernel) (by decide +kernel), gx_mem 86 (by decide +kernel) (by decide +kernel), by decide +kernel, by decide⟩
theorem kc_RX10_236 : gx_MV RX10 236 yX5_findWorstLink cX5_findWorstLink 6 none 3 := ⟨kt_X5_findWorstLink, gx_mem 791 (by decide +kernel) (by decide +kernel), gx_mem 792 (by decide +kernel) (by decide +kernel), gx_mem 793 (by decide +kernel) (by decide +kernel)⟩
theorem kt_X5_unlikeSquares : gx_Mt yX5_unlikeSquares cX5_unlikeSquares 3 (some .int) 0 := ⟨gx_mem 802 (by decide +kernel) (by decide +kernel), gx_mem 86 (by decide +kernel) (by decide +kernel), by decide +kernel, by decide⟩
theorem kc_RX10_239 : gx_MV RX10 239 yX5_unlikeSquares cX5_unlikeSquares 3 (some .int) 0 := ⟨kt_X5_unlikeSquares, gx_mem 799 (by decide +kernel) (by decide +kernel), gx_mem 800 (by decide +kernel) (by decide +kernel), gx_mem 801 (by decide +kernel) (by decide +kernel)⟩
theorem kt_X5_leastSquare : gx_Mt yX5_leastSquare cX5_leastSquare 2 (some .int) 0 := ⟨gx_mem 806 (by decide +kernel) (by decide +kernel), gx_mem 86 (by decide +kernel) (by decide +kernel), by decide +kernel, by decide⟩
theorem kc_RX10_242 : gx_MV RX10 242 yX5_leastSquare cX5_leastSquare 2 (some .int) 0 := ⟨kt_X5_leastSquare, gx_mem 803 (by decide +kernel) (by decide +kernel), gx_mem 804 (by decide +kernel) (by decide +kernel), gx_mem 805 (by decide +kernel) (by decide +kernel)⟩
theorem kt_X5_greatestSquare : gx_Mt yX5_greatestSquare cX5_greatestSquare 2 (some .int) 0 := ⟨gx_mem 810 (by decide +kernel) (by decide +kernel), gx_mem 86 (by decide +kernel) (by decide +kernel), by decide +kernel, by decide⟩
theorem kc_RX10_245 : gx_MV RX10 245 yX5_greatestSquare cX5_greatestSquare 2 (some .int) 0 := ⟨kt_X5_greatestSquare, gx_mem 807 (by decide +kernel) (by decide +kernel), gx_mem 808 (by decide +kernel) (by decide +kernel), gx_mem 809 (by decide +kernel) (by decide +kernel)⟩
theorem kf_RX10_248 : gx_Fld RX10 248 1 2 := ⟨RX1, TX1, 4, rfl, inX1, by decide, gx_mem 265 (by decide +kernel) (by decide +kernel)⟩
theorem kf_RX10_252 : gx_Fld RX10 252 5 0 := ⟨RX7, TX7, 5, rfl, inX7, by decide, gx_mem 240 (by decide +kernel) (by decide +kernel)⟩
theorem kt_X7_add : gx_Mt yX7_add cX7_add 5 (some .int) 4 := ⟨gx_mem 818 (by decide +kernel) (by decide +kernel), gx_mem 84 (by decide +kernel) (by decide +kernel), by decide +kernel, by decide⟩
theorem kc_RX10_255 : gx_MV RX10 255 yX7_add cX7_add 5 (some .int) 4 := ⟨kt_X7_add, gx_mem 815 (by decide +kernel) (by decide +kernel), gx_mem 816 (by decide +kernel) (by decide +kernel), gx_mem 817 (by decide +kernel) (by decide +kernel)⟩
theorem kf_RX10_259 : gx_Fld RX10 259 1 3 := ⟨RX1, TX1, 4, rfl, inX1, by decide, gx_mem 267 (by decide +kernel) (by decide +kernel)⟩
theorem kc_RX10_262 : gx_MV RX10 262 yX7_empty cX7_empty 2 (some .int) 0 := ⟨kt_X7_empty, gx_mem 827 (by decide +kernel) (by decide +kernel), gx_mem 417 (by decide +kernel) (by decide +kernel), gx_mem 418 (by decide +kernel) (by decide +kernel)⟩
theorem kf_RX10_41 : gx_Fld RX10 41 8 5 := ⟨RX10, TX10, 11, rfl, inX10, by decide, gx_mem 368 (by decide +kernel) (by decide +kernel)⟩
theorem kc_RX10_263 : gx_MV RX10 263 yX2_linkKinds cX2_linkKinds 6 (some .int) 3 := ⟨kt_X2_linkKinds, gx_mem 832 (by decide +kernel) (by decide +kernel), gx_mem 833 (by decide +kernel) (by decide +kernel), gx_mem 834 (by decide +kernel) (by decide +kernel)⟩
theorem kt_X2_bestLook : gx_Mt yX2_bestLook cX2_bestLook 10 (some .int) 3 := ⟨gx_mem 851 (by decide +kernel) (by decide +kernel), gx_mem 87 (by decide +kernel) (by decide +kernel), by decide +kernel, by decide⟩
theorem kc_RX10_267 : gx_MV RX10 267 yX2_bestLook cX2_bestLook 10 (some .int) 3 := ⟨kt_X2_bestLook, gx_mem 848 (by decide +kernel) (by decide +kernel), gx_mem 849 (by decide +kernel) (by decide +kernel), gx_mem 850 (by decide +kernel) (by decide +kernel)⟩
theorem kc_RX10_270 : gx_MV RX10 270 yX2_playerKinds cX2_playerKinds 6 (some .int) 3 := ⟨kt_X2_playerKinds, gx_mem 866 (by decide +kernel) (by decide +kernel), gx_mem 867 (by decide +kernel) (by decide +kernel), gx_mem 868 (by decide +kernel) (by decide +kernel)⟩
theorem kt_X2_bestAsk : gx_Mt yX2_bestAsk cX2_bestAsk 10 (some .int) 3 := ⟨gx_mem 881 (by decide +kernel) (by decide +kernel), gx_mem 87 (by decide +kernel) (by decide +kernel), by decide +kernel, by decide⟩
theorem kc_RX10_273 : gx_MV RX10 273 yX2_bestAsk cX2_bestAsk 10 (some .int) 3 := ⟨kt_X2_bestAsk, gx_mem 878 (by decide +kernel) (by decide +kernel), gx_mem 879 (by decide +kernel) (by decide +kernel), gx_mem 880 (by decide +kernel) (by decide +kernel)⟩
theorem kt_X5_weighPairs : gx_Mt yX5_weighPairs cX5_weighPairs 6 none 3 := ⟨gx_mem 890 (by decide +kernel) (by decide +kernel), gx_mem 86 (by decide +kernel) (by decide +kernel), by decide +kernel, by decide⟩
theorem kc_RX10_276 : gx_MV RX10 276 yX5_weighPairs cX5_weighPairs 6 none 3 := ⟨kt_X5_weighPairs, gx_mem 887 (by decide +kernel) (by decide +kernel), gx_mem 888 (by decide +kernel) (by decide +kernel), gx_mem 889 (by decide +kernel) (by decide +kernel)⟩
theorem kt_X5_restingPair : gx_Mt yX5_restingPair cX5_restingPair 5 (some .int) 1 := ⟨gx_mem 914 (by decide +kernel) (by decide +kernel), gx_mem 86 (by decide +kernel) (by decide +kernel), by decide +kernel, by decide⟩
theorem kc_RX10_282 : gx_MV RX10 282 yX5_restingPair cX5_restingPair 5 (some .int) 1 := ⟨kt_X5_restingPair, gx_mem 911 (by decide +kernel) (by decide +kernel), gx_mem 912 (by decide +kernel) (by decide +kernel), gx_mem 913 (by decide +kernel) (by decide +kernel)⟩
theorem kt_X5_restingPairs : gx_Mt yX5_restingPairs cX5_restingPairs 4 (some .int) 0 := ⟨gx_mem 906 (by decide +kernel) (by decide +kernel), gx_mem 86 (by decide +kernel) (by decide +kernel), by decide +kernel, by decide⟩
theorem kc_RX10_279 : gx_MV RX10 279 yX5_restingPairs cX5_restingPairs 4 (some .int) 0 := ⟨kt_X5_restingPairs, gx_mem 903 (by decide +kernel) (by decide +kernel), gx_mem 904 (by decide +kernel) (by decide +kernel), gx_mem 905 (by decide +kernel) (by decide +kernel)⟩
theorem kk_RX10_285 : Cond.constant RX10 285 999999 ∈ gx_tbl := gx_mem 919 (by decide +kernel) (by decide +kernel)
theorem kt_X5_homesBySeed : gx_Mt yX5_homesBySeed cX5_homesBySeed 8 (some .int) 3 := ⟨gx_mem 923 (by decide +kernel) (by decide +kernel), gx_mem 86 (by decide +kernel) (by decide +kernel), by decide +kernel, by decide⟩
theorem kc_RX10_286 : gx_MV RX10 286 yX5_homesBySeed cX5_homesBySeed 8 (some .int) 3 := ⟨kt_X5_homesBySeed, gx_mem 920 (by decide +kernel) (by decide +kernel), gx_mem 921 (by decide +kernel) (by decide +kernel), gx_mem 922 (by decide +kernel) (by decide +kernel)⟩
theorem kf_RX10_49 : gx_Fld RX10 49 8 7 := ⟨RX10, TX10, 11, rfl, inX10, by decide, gx_mem 370 (by decide +kernel) (by decide +kernel)⟩
theorem kf_RX10_45 : gx_Fld RX10 45 8 6 := ⟨RX10, TX10, 11, rfl, inX10, by decide, gx_mem 369 (by decide +kernel) (by decide +kernel)⟩
theorem kf_RX10_16 : gx_Fld RX10 16 8 1 := ⟨RX10, TX10, 11, rfl, inX10, by decide, gx_mem 364 (by decide +kernel) (by decide +kernel)⟩
theorem kt_X1_copy : gx_Mt yX1_copy cX1_copy 2 none 1 := ⟨gx_mem 944 (by decide +kernel) (by decide +kernel), gx_mem 79 (by decide +kernel) (by decide +kernel), by decide +kernel, by decide⟩
theorem kc_RX10_290 : gx_MV RX10 290 yX1_copy cX1_copy 2 none 1 := ⟨kt_X1_copy, gx_mem 941 (by decide +kernel) (by decide +kernel), gx_mem 942 (by decide +kernel) (by decide +kernel), gx_mem 943 (by decide +kernel) (by decide +kernel)⟩
theorem kf_RX10_20 : gx_Fld RX10 20 8 2 := ⟨RX10, TX10, 11, rfl, inX10, by decide, gx_mem 365 (by decide +kernel) (by decide +kernel)⟩
theorem kt_X0_thrownByAll : gx_Mt yX0_thrownByAll cX0_thrownByAll 3 (some .int) 0 := ⟨gx_mem 977 (by decide +kernel) (by decide +kernel), gx_mem 80 (by decide +kernel) (by decide +kernel), by decide +kernel, by decide⟩
theorem kc_RX10_304 : gx_MV RX10 304 yX0_thrownByAll cX0_thrownByAll 3 (some .int) 0 := ⟨kt_X0_thrownByAll, gx_mem 974 (by decide +kernel) (by decide +kernel), gx_mem 975 (by decide +kernel) (by decide +kernel), gx_mem 976 (by decide +kernel) (by decide +kernel)⟩
theorem kt_X0_usedOfAll : gx_Mt yX0_usedOfAll cX0_usedOfAll 3 (some .int) 0 := ⟨gx_mem 981 (by decide +kernel) (by decide +kernel), gx_mem 80 (by decide +kernel) (by decide +kernel), by decide +kernel, by decide⟩
theorem kc_RX10_307 : gx_MV RX10 307 yX0_usedOfAll cX0_usedOfAll 3 (some .int) 0 := ⟨kt_X0_usedOfAll, gx_mem 978 (by decide +kernel) (by decide +kernel), gx_mem 979 (by decide +kernel) (by decide +kernel), gx_mem 980 (by decide +kernel) (by decide +kernel)⟩
theorem kt_X10_amount : gx_Mt yX10_amount cX10_amount 3 (some .int) 1 := ⟨gx_mem 973 (by decide +kernel) (by decide +kernel), gx_mem 78 (by decide +kernel) (by decide +kernel), by decide +kernel, by decide⟩
theorem kc_RX10_293 : gx_MV RX10 293 yX10_amount cX10_amount 3 (some .int) 1 := ⟨kt_X10_amount, gx_mem 970 (by decide +kernel) (by decide +kernel), gx_mem 972 (by decide +kernel) (by decide +kernel), gx_mem 31 (by decide +kernel) (by decide +kernel)⟩
theorem kk_RX10_296 : Cond.constantLong RX10 296 1831 ∈ gx_tbl := gx_mem 986 (by decide +kernel) (by decide +kernel)
theorem kt_X1_digestOn : gx_Mt yX1_digestOn cX1_digestOn 6 (some .long) 1 := ⟨gx_mem 991 (by decide +kernel) (by decide +kernel), gx_mem 79 (by decide +kernel) (by decide +kernel), by decide +kernel, by decide⟩
theorem kc_RX10_300 : gx_MV RX10 300 yX1_digestOn cX1_digestOn 6 (some .long) 1 := ⟨kt_X1_digestOn, gx_mem 988 (by decide +kernel) (by decide +kernel), gx_mem 989 (by decide +kernel) (by decide +kernel), gx_mem 990 (by decide +kernel) (by decide +kernel)⟩
theorem kk_RX10_298 : Cond.constantLong RX10 298 31 ∈ gx_tbl := gx_mem 987 (by decide +kernel) (by decide +kernel)
theorem kk_RX11_1 : Cond.methodLink RX11 1 objectInit ∈ gx_tbl := gx_mem 1003 (by decide +kernel) (by decide +kernel)
theorem kp_RX11_7 : gx_FldP RX11 7 9 0 true (.array .int) := ⟨RX11, TX11, 14, rfl, inX11, by decide, gx_mem 1004 (by decide +kernel) (by decide +kernel), ⟨tyX11, tyX11_ok⟩, nmX11, rfl, by decide +kernel, fun _ => rfl⟩
theorem kp_RX11_13 : gx_FldP RX11 13 9 1 true (.array .boolean) := ⟨RX11, TX11, 14, rfl, inX11, by decide, gx_mem 1005 (by decide +kernel) (by decide +kernel), ⟨tyX11, tyX11_ok⟩, nmX11, rfl, by decide +kernel, fun _ => rfl⟩
theorem kp_RX11_17 : gx_FldP RX11 17 9 2 true (.array .int) := ⟨RX11, TX11, 14, rfl, inX11, by decide, gx_mem 1006 (by decide +kernel) (by decide +kernel), ⟨tyX11, tyX11_ok⟩, nmX11, rfl, by decide +kernel, fun _ => rfl⟩
theorem kp_RX11_20 : gx_FldP RX11 20 9 4 false .long := ⟨RX11, TX11, 14, rfl, inX11, by decide, gx_mem 1008 (by decide +kernel) (by decide +kernel), ⟨tyX11, tyX11_ok⟩, nmX11, rfl, by decide +kernel, fun q => by cases q⟩
theorem kp_RX11_24 : gx_FldP RX11 24 9 5 false .long := ⟨RX11, TX11, 14, rfl, inX11, by decide, gx_mem 1009 (by decide +kernel) (by decide +kernel), ⟨tyX11, tyX11_ok⟩, nmX11, rfl, by decide +kernel, fun q => by cases q⟩
theorem kp_RX11_27 : gx_FldP RX11 27 9 6 true (.array .int) := ⟨RX11, TX11, 14, rfl, inX11, by decide, gx_mem 1010 (by decide +kernel) (by decide +kernel), ⟨tyX11, tyX11_ok⟩, nmX11, rfl, by decide +kernel, fun _ => rfl⟩
theorem kp_RX11_30 : gx_FldP RX11 30 9 10 true (.array .boolean) := ⟨RX11, TX11, 14, rfl, inX11, by decide, gx_mem 1014 (by decide +kernel) (by decide +kernel), ⟨tyX11, tyX11_ok⟩, nmX11, rfl, by decide +kernel, fun _ => rfl⟩
theorem kp_RX11_33 : gx_FldP RX11 33 9 11 true (.array .int) := ⟨RX11, TX11, 14, rfl, inX11, by decide, gx_mem 1015 (by decide +kernel) (by decide +kernel), ⟨tyX11, tyX11_ok⟩, nmX11, rfl, by decide +kernel, fun _ => rfl⟩
theorem kp_RX11_36 : gx_FldP RX11 36 9 12 true (.array .int) := ⟨RX11, TX11, 14, rfl, inX11, by decide, gx_mem 1016 (by decide +kernel) (by decide +kernel), ⟨tyX11, tyX11_ok⟩, nmX11, rfl, by decide +kernel, fun _ => rfl⟩
theorem kf_RX11_7 : gx_Fld RX11 7 9 0 := ⟨RX11, TX11, 14, rfl, inX11, by decide, gx_mem 1004 (by decide +kernel) (by decide +kernel)⟩
theorem kf_RX11_27 : gx_Fld RX11 27 9 6 := ⟨RX11, TX11, 14, rfl, inX11, by decide, gx_mem 1010 (by decide +kernel) (by decide +kernel)⟩
theorem kt_X11_in : gx_Mt yX11_in cX11_in 6 (some .boolean) 3 := ⟨gx_mem 1055 (by decide +kernel) (by decide +kernel), gx_mem 88 (by decide +kernel) (by decide +kernel), by decide +kernel, by decide⟩
theorem kc_RX11_39 : gx_MS RX11 39 yX11_in cX11_in 6 (some .boolean) 3 := ⟨kt_X11_in, gx_mem 1053 (by decide +kernel) (by decide +kernel), gx_mem 1054 (by decide +kernel) (by decide +kernel)⟩
theorem kt_X11_plain : gx_Mt yX11_plain cX11_plain 3 (some .int) 3 := ⟨gx_mem 1188 (by decide +kernel) (by decide +kernel), gx_mem 88 (by decide +kernel) (by decide +kernel), by decide +kernel, by decide⟩
theorem kc_RX11_43 : gx_MS RX11 43 yX11_plain cX11_plain 3 (some .int) 3 := ⟨kt_X11_plain, gx_mem 1186 (by decide +kernel) (by decide +kernel), gx_mem 1187 (by decide +kernel) (by decide +kernel)⟩
theorem kt_X11_timid : gx_Mt yX11_timid cX11_timid 3 (some .int) 3 := ⟨gx_mem 1185 (by decide +kernel) (by decide +kernel), gx_mem 88 (by decide +kernel) (by decide +kernel), by decide +kernel, by decide⟩
theorem kc_RX11_47 : gx_MS RX11 47 yX11_timid cX11_timid 3 (some .int) 3 := ⟨kt_X11_timid, gx_mem 1183 (by decide +kernel) (by decide +kernel), gx_mem 1184 (by decide +kernel) (by decide +kernel)⟩
theorem kt_X11_cheat : gx_Mt yX11_cheat cX11_cheat 3 (some .int) 3 := ⟨gx_mem 1191 (by decide +kernel) (by decide +kernel), gx_mem 88 (by decide +kernel) (by decide +kernel), by decide +kernel, by decide⟩
theorem kc_RX11_50 : gx_MS RX11 50 yX11_cheat cX11_cheat 3 (some .int) 3 := ⟨kt_X11_cheat, gx_mem 1189 (by decide +kernel) (by decide +kernel), gx_mem 1190 (by decide +kernel) (by decide +kernel)⟩
theorem kt_X11_greased : gx_Mt yX11_greased cX11_greased 1 (some .int) 1 := ⟨gx_mem 1197 (by decide +kernel) (by decide +kernel), gx_mem 88 (by decide +kernel) (by decide +kernel), by decide +kernel, by decide⟩
theorem kc_RX11_53 : gx_MS RX11 53 yX11_greased cX11_greased 1 (some .int) 1 := ⟨kt_X11_greased, gx_mem 1195 (by decide +kernel) (by decide +kernel), gx_mem 1196 (by decide +kernel) (by decide +kernel)⟩
theorem kt_X11_isHome : gx_Mt yX11_isHome cX11_isHome 3 (some .boolean) 2 := ⟨gx_mem 1175 (by decide +kernel) (by decide +kernel), gx_mem 88 (by decide +kernel) (by decide +kernel), by decide +kernel, by decide⟩
theorem kc_RX11_57 : gx_MV RX11 57 yX11_isHome cX11_isHome 3 (some .boolean) 2 := ⟨kt_X11_isHome, gx_mem 1172 (by decide +kernel) (by decide +kernel), gx_mem 1174 (by decide +kernel) (by decide +kernel), gx_mem 53 (by decide +kernel) (by decide +kernel)⟩
theorem kt_X11_goesBy : gx_Mt yX11_goesBy cX11_goesBy 4 (some .int) 4 := ⟨gx_mem 1182 (by decide +kernel) (by decide +kernel), gx_mem 88 (by decide +kernel) (by decide +kernel), by decide +kernel, by decide⟩
theorem kc_RX11_61 : gx_MS RX11 61 yX11_goesBy cX11_goesBy 4 (some .int) 4 := ⟨kt_X11_goesBy, gx_mem 1180 (by decide +kernel) (by decide +kernel), gx_mem 1181 (by decide +kernel) (by decide +kernel)⟩
theorem kt_X11_linkFrom : gx_Mt yX11_linkFrom cX11_linkFrom 4 (some .int) 2 := ⟨gx_mem 1082 (by decide +kernel) (by decide +kernel), gx_mem 88 (by decide +kernel) (by decide +kernel), by decide +kernel, by decide⟩
theorem kc_RX11_65 : gx_MV RX11 65 yX11_linkFrom cX11_linkFrom 4 (some .int) 2 := ⟨kt_X11_linkFrom, gx_mem 1079 (by decide +kernel) (by decide +kernel), gx_mem 1081 (by decide +kernel) (by decide +kernel), gx_mem 35 (by decide +kernel) (by decide +kernel)⟩
theorem kt_X11_leadsBy : gx_Mt yX11_leadsBy cX11_leadsBy 6 (some .int) 6 := ⟨gx_mem 1194 (by decide +kernel) (by decide +kernel), gx_mem 88 (by decide +kernel) (by decide +kernel), by decide +kernel, by decide⟩
theorem kc_RX11_69 : gx_MS RX11 69 yX11_leadsBy cX11_leadsBy 6 (some .int) 6 := ⟨kt_X11_leadsBy, gx_mem 1192 (by decide +kernel) (by decide +kernel), gx_mem 1193 (by decide +kernel) (by decide +kernel)⟩
theorem kk_RX11_73 : Cond.constantLong RX11 73 10 ∈ gx_tbl := gx_mem 1051 (by decide +kernel) (by decide +kernel)
theorem kk_RX11_75 : Cond.constantLong RX11 75 40 ∈ gx_tbl := gx_mem 1052 (by decide +kernel) (by decide +kernel)
theorem kk_RX11_77 : Cond.constantLong RX11 77 2 ∈ gx_tbl := gx_mem 1056 (by decide +kernel) (by decide +kernel)
theorem kk_RX11_79 : Cond.constantLong RX11 79 6 ∈ gx_tbl := gx_mem 1057 (by decide +kernel) (by decide +kernel)
theorem kt_X11_empties : gx_Mt yX11_empties cX11_empties 3 none 1 := ⟨gx_mem 1065 (by decide +kernel) (by decide +kernel), gx_mem 88 (by decide +kernel) (by decide +kernel), by decide +kernel, by decide⟩
theorem kc_RX11_84 : gx_MV RX11 84 yX11_empties cX11_empties 3 none 1 := ⟨kt_X11_empties, gx_mem 1062 (by decide +kernel) (by decide +kernel), gx_mem 1064 (by decide +kernel) (by decide +kernel), gx_mem 33 (by decide +kernel) (by decide +kernel)⟩
theorem kt_X11_bad : gx_Mt yX11_bad cX11_bad 2 (some .int) 1 := ⟨gx_mem 1061 (by decide +kernel) (by decide +kernel), gx_mem 88 (by decide +kernel) (by decide +kernel), by decide +kernel, by decide⟩
theorem kc_RX11_81 : gx_MV RX11 81 yX11_bad cX11_bad 2 (some .int) 1 := ⟨kt_X11_bad, gx_mem 1058 (by decide +kernel) (by decide +kernel), gx_mem 1060 (by decide +kernel) (by decide +kernel), gx_mem 32 (by decide +kernel) (by decide +kernel)⟩
theorem kk_RX11_88 : Cond.constantLong RX11 88 5 ∈ gx_tbl := gx_mem 1074 (by decide +kernel) (by decide +kernel)
theorem kt_X11_isSquare : gx_Mt yX11_isSquare cX11_isSquare 2 (some .boolean) 1 := ⟨gx_mem 1078 (by decide +kernel) (by decide +kernel), gx_mem 88 (by decide +kernel) (by decide +kernel), by decide +kernel, by decide⟩
theorem kc_RX11_90 : gx_MV RX11 90 yX11_isSquare cX11_isSquare 2 (some .boolean) 1 := ⟨kt_X11_isSquare, gx_mem 1075 (by decide +kernel) (by decide +kernel), gx_mem 1077 (by decide +kernel) (by decide +kernel), gx_mem 34 (by decide +kernel) (by decide +kernel)⟩
theorem kt_X11_addsLink : gx_Mt yX11_addsLink cX11_addsLink 6 none 4 := ⟨gx_mem 1094 (by decide +kernel) (by decide +kernel), gx_mem 88 (by decide +kernel) (by decide +kernel), by decide +kernel, by decide⟩
theorem kc_RX11_101 : gx_MV RX11 101 yX11_addsLink cX11_addsLink 6 none 4 := ⟨kt_X11_addsLink, gx_mem 1091 (by decide +kernel) (by decide +kernel), gx_mem 1093 (by decide +kernel) (by decide +kernel), gx_mem 38 (by decide +kernel) (by decide +kernel)⟩
theorem kt_X11_full : gx_Mt yX11_full cX11_full 1 (some .int) 0 := ⟨gx_mem 1090 (by decide +kernel) (by decide +kernel), gx_mem 88 (by decide +kernel) (by decide +kernel), by decide +kernel, by decide⟩
theorem kc_RX11_98 : gx_MV RX11 98 yX11_full cX11_full 1 (some .int) 0 := ⟨kt_X11_full, gx_mem 1087 (by decide +kernel) (by decide +kernel), gx_mem 1089 (by decide +kernel) (by decide +kernel), gx_mem 37 (by decide +kernel) (by decide +kernel)⟩
theorem kt_X11_no : gx_Mt yX11_no cX11_no 1 (some .int) 0 := ⟨gx_mem 1086 (by decide +kernel) (by decide +kernel), gx_mem 88 (by decide +kernel) (by decide +kernel), by decide +kernel, by decide⟩
theorem kc_RX11_94 : gx_MV RX11 94 yX11_no cX11_no 1 (some .int) 0 := ⟨kt_X11_no, gx_mem 1083 (by decide +kernel) (by decide +kernel), gx_mem 1085 (by decide +kernel) (by decide +kernel), gx_mem 36 (by decide +kernel) (by decide +kernel)⟩
theorem kt_X11_addsPlayer : gx_Mt yX11_addsPlayer cX11_addsPlayer 4 none 2 := ⟨gx_mem 1102 (by decide +kernel) (by decide +kernel), gx_mem 88 (by decide +kernel) (by decide +kernel), by decide +kernel, by decide⟩
theorem kc_RX11_105 : gx_MV RX11 105 yX11_addsPlayer cX11_addsPlayer 4 none 2 := ⟨kt_X11_addsPlayer, gx_mem 1099 (by decide +kernel) (by decide +kernel), gx_mem 1101 (by decide +kernel) (by decide +kernel), gx_mem 39 (by decide +kernel) (by decide +kernel)⟩
theorem kk_RX11_109 : Cond.constantLong RX11 109 127 ∈ gx_tbl := gx_mem 1107 (by decide +kernel) (by decide +kernel)
theorem kf_RX11_111 : gx_Fld RX11 111 9 3 := ⟨RX11, TX11, 14, rfl, inX11, by decide, gx_mem 1007 (by decide +kernel) (by decide +kernel)⟩
theorem kf_RX11_17 : gx_Fld RX11 17 9 2 := ⟨RX11, TX11, 14, rfl, inX11, by decide, gx_mem 1006 (by decide +kernel) (by decide +kernel)⟩
theorem kp_RX11_111 : gx_FldP RX11 111 9 3 false .int := ⟨RX11, TX11, 14, rfl, inX11, by decide, gx_mem 1007 (by decide +kernel) (by decide +kernel), ⟨tyX11, tyX11_ok⟩, nmX11, rfl, by decide +kernel, fun q => by cases q⟩
theorem kf_RX11_115 : gx_Fld RX11 115 9 7 := ⟨RX11, TX11, 14, rfl, inX11, by decide, gx_mem 1011 (by decide +kernel) (by decide +kernel)⟩
theorem kt_X11_byteAt : gx_Mt yX11_byteAt cX11_byteAt 2 (some .int) 1 := ⟨gx_mem 1123 (by decide +kernel) (by decide +kernel), gx_mem 88 (by decide +kernel) (by decide +kernel), by decide +kernel, by decide⟩
theorem kc_RX11_118 : gx_MV RX11 118 yX11_byteAt cX11_byteAt 2 (some .int) 1 := ⟨kt_X11_byteAt, gx_mem 1120 (by decide +kernel) (by decide +kernel), gx_mem 1122 (by decide +kernel) (by decide +kernel), gx_mem 41 (by decide +kernel) (by decide +kernel)⟩
theorem kp_RX11_121 : gx_FldP RX11 121 9 8 false .int := ⟨RX11, TX11, 14, rfl, inX11, by decide, gx_mem 1012 (by decide +kernel) (by decide +kernel), ⟨tyX11, tyX11_ok⟩, nmX11, rfl, by decide +kernel, fun q => by cases q⟩
theorem kp_RX11_115 : gx_FldP RX11 115 9 7 false .int := ⟨RX11, TX11, 14, rfl, inX11, by decide, gx_mem 1011 (by decide +kernel) (by decide +kernel), ⟨tyX11, tyX11_ok⟩, nmX11, rfl, by decide +kernel, fun q => by cases q⟩
theorem kt_X11_blanks : gx_Mt yX11_blanks cX11_blanks 1 none 0 := ⟨gx_mem 1119 (by decide +kernel) (by decide +kernel), gx_mem 88 (by decide +kernel) (by decide +kernel), by decide +kernel, by decide⟩
theorem kc_RX11_124 : gx_MV RX11 124 yX11_blanks cX11_blanks 1 none 0 := ⟨kt_X11_blanks, gx_mem 1116 (by decide +kernel) (by decide +kernel), gx_mem 1118 (by decide +kernel) (by decide +kernel), gx_mem 40 (by decide +kernel) (by decide +kernel)⟩
theorem kk_RX11_127 : Cond.constantLong RX11 127 97 ∈ gx_tbl := gx_mem 1132 (by decide +kernel) (by decide +kernel)
theorem kk_RX11_129 : Cond.constantLong RX11 129 122 ∈ gx_tbl := gx_mem 1133 (by decide +kernel) (by decide +kernel)
theorem kf_RX11_121 : gx_Fld RX11 121 9 8 := ⟨RX11, TX11, 14, rfl, inX11, by decide, gx_mem 1012 (by decide +kernel) (by decide +kernel)⟩
theorem kt_X11_isLetter : gx_Mt yX11_isLetter cX11_isLetter 4 (some .boolean) 3 := ⟨gx_mem 1145 (by decide +kernel) (by decide +kernel), gx_mem 88 (by decide +kernel) (by decide +kernel), by decide +kernel, by decide⟩
theorem kc_RX11_131 : gx_MV RX11 131 yX11_isLetter cX11_isLetter 4 (some .boolean) 3 := ⟨kt_X11_isLetter, gx_mem 1142 (by decide +kernel) (by decide +kernel), gx_mem 1144 (by decide +kernel) (by decide +kernel), gx_mem 46 (by decide +kernel) (by decide +kernel)⟩
theorem kt_X11_isWord : gx_Mt yX11_isWord cX11_isWord 8 (some .boolean) 6 := ⟨gx_mem 1141 (by decide +kernel) (by decide +kernel), gx_mem 88 (by decide +kernel) (by decide +kernel), by decide +kernel, by decide⟩
theorem kc_RX11_135 : gx_MV RX11 135 yX11_isWord cX11_isWord 8 (some .boolean) 6 := ⟨kt_X11_isWord, gx_mem 1138 (by decide +kernel) (by decide +kernel), gx_mem 1140 (by decide +kernel) (by decide +kernel), gx_mem 45 (by decide +kernel) (by decide +kernel)⟩
theorem kp_RX11_139 : gx_FldP RX11 139 9 9 false .int := ⟨RX11, TX11, 14, rfl, inX11, by decide, gx_mem 1013 (by decide +kernel) (by decide +kernel), ⟨tyX11, tyX11_ok⟩, nmX11, rfl, by decide +kernel, fun q => by cases q⟩
theorem kk_RX11_142 : Cond.constantLong RX11 142 48 ∈ gx_tbl := gx_mem 1154 (by decide +kernel) (by decide +kernel)
theorem kk_RX11_144 : Cond.constantLong RX11 144 57 ∈ gx_tbl := gx_mem 1155 (by decide +kernel) (by decide +kernel)
theorem kf_RX11_139 : gx_Fld RX11 139 9 9 := ⟨RX11, TX11, 14, rfl, inX11, by decide, gx_mem 1013 (by decide +kernel) (by decide +kernel)⟩
theorem kt_X11_takesNumber : gx_Mt yX11_takesNumber cX11_takesNumber 3 (some .boolean) 2 := ⟨gx_mem 1153 (by decide +kernel) (by decide +kernel), gx_mem 88 (by decide +kernel) (by decide +kernel), by decide +kernel, by decide⟩
theorem kc_RX11_146 : gx_MV RX11 146 yX11_takesNumber cX11_takesNumber 3 (some .boolean) 2 := ⟨kt_X11_takesNumber, gx_mem 1150 (by decide +kernel) (by decide +kernel), gx_mem 1152 (by decide +kernel) (by decide +kernel), gx_mem 48 (by decide +kernel) (by decide +kernel)⟩
theorem kt_X11_throwsOne : gx_Mt yX11_throwsOne cX11_throwsOne 8 none 3 := ⟨gx_mem 1179 (by decide +kernel) (by decide +kernel), gx_mem 88 (by decide +kernel) (by decide +kernel), by decide +kernel, by decide⟩
theorem kc_RX11_149 : gx_MV RX11 149 yX11_throwsOne cX11_throwsOne 8 none 3 := ⟨kt_X11_throwsOne, gx_mem 1176 (by decide +kernel) (by decide +kernel), gx_mem 1178 (by decide +kernel) (by decide +kernel), gx_mem 54 (by decide +kernel) (by decide +kernel)⟩
theorem kt_X11_takesWord : gx_Mt yX11_takesWord cX11_takesWord 1 none 0 := ⟨gx_mem 1131 (by decide +kernel) (by decide +kernel), gx_mem 88 (by decide +kernel) (by decide +kernel), by decide +kernel, by decide⟩
theorem kc_RX11_153 : gx_MV RX11 153 yX11_takesWord cX11_takesWord 1 none 0 := ⟨kt_X11_takesWord, gx_mem 1128 (by decide +kernel) (by decide +kernel), gx_mem 1130 (by decide +kernel) (by decide +kernel), gx_mem 43 (by decide +kernel) (by decide +kernel)⟩
theorem kt_X11_wordOf : gx_Mt yX11_wordOf cX11_wordOf 1 (some .int) 0 := ⟨gx_mem 1137 (by decide +kernel) (by decide +kernel), gx_mem 88 (by decide +kernel) (by decide +kernel), by decide +kernel, by decide⟩
theorem kc_RX11_156 : gx_MV RX11 156 yX11_wordOf cX11_wordOf 1 (some .int) 0 := ⟨kt_X11_wordOf, gx_mem 1134 (by decide +kernel) (by decide +kernel), gx_mem 1136 (by decide +kernel) (by decide +kernel), gx_mem 44 (by decide +kernel) (by decide +kernel)⟩
theorem kt_X11_readsThrows : gx_Mt yX11_readsThrows cX11_readsThrows 4 (some .boolean) 0 := ⟨gx_mem 1171 (by decide +kernel) (by decide +kernel), gx_mem 88 (by decide +kernel) (by decide +kernel), by decide +kernel, by decide⟩
theorem kc_RX11_172 : gx_MV RX11 172 yX11_readsThrows cX11_readsThrows 4 (some .boolean) 0 := ⟨kt_X11_readsThrows, gx_mem 1168 (by decide +kernel) (by decide +kernel), gx_mem 1170 (by decide +kernel) (by decide +kernel), gx_mem 52 (by decide +kernel) (by decide +kernel)⟩
theorem kt_X11_readsSet : gx_Mt yX11_readsSet cX11_readsSet 2 (some .boolean) 0 := ⟨gx_mem 1167 (by decide +kernel) (by decide +kernel), gx_mem 88 (by decide +kernel) (by decide +kernel), by decide +kernel, by decide⟩
theorem kc_RX11_169 : gx_MV RX11 169 yX11_readsSet cX11_readsSet 2 (some .boolean) 0 := ⟨kt_X11_readsSet, gx_mem 1164 (by decide +kernel) (by decide +kernel), gx_mem 1166 (by decide +kernel) (by decide +kernel), gx_mem 51 (by decide +kernel) (by decide +kernel)⟩
theorem kt_X11_readsPlayer : gx_Mt yX11_readsPlayer cX11_readsPlayer 1 (some .boolean) 0 := ⟨gx_mem 1163 (by decide +kernel) (by decide +kernel), gx_mem 88 (by decide +kernel) (by decide +kernel), by decide +kernel, by decide⟩
theorem kc_RX11_166 : gx_MV RX11 166 yX11_readsPlayer cX11_readsPlayer 1 (some .boolean) 0 := ⟨kt_X11_readsPlayer, gx_mem 1160 (by decide +kernel) (by decide +kernel), gx_mem 1162 (by decide +kernel) (by decide +kernel), gx_mem 50 (by decide +kernel) (by decide +kernel)⟩
theorem kt_X11_readsLink : gx_Mt yX11_readsLink cX11_readsLink 3 (some .boolean) 0 := ⟨gx_mem 1159 (by decide +kernel) (by decide +kernel), gx_mem 88 (by decide +kernel) (by decide +kernel), by decide +kernel, by decide⟩
theorem kc_RX11_163 : gx_MV RX11 163 yX11_readsLink cX11_readsLink 3 (some .boolean) 0 := ⟨kt_X11_readsLink, gx_mem 1156 (by decide +kernel) (by decide +kernel), gx_mem 1158 (by decide +kernel) (by decide +kernel), gx_mem 49 (by decide +kernel) (by decide +kernel)⟩
theorem kt_X11_readsBoard : gx_Mt yX11_readsBoard cX11_readsBoard 1 (some .boolean) 0 := ⟨gx_mem 1149 (by decide +kernel) (by decide +kernel), gx_mem 88 (by decide +kernel) (by decide +kernel), by decide +kernel, by decide⟩
theorem kc_RX11_159 : gx_MV RX11 159 yX11_readsBoard cX11_readsBoard 1 (some .boolean) 0 := ⟨kt_X11_readsBoard, gx_mem 1146 (by decide +kernel) (by decide +kernel), gx_mem 1148 (by decide +kernel) (by decide +kernel), gx_mem 47 (by decide +kernel) (by decide +kernel)⟩
theorem kt_X11_takesEnd : gx_Mt yX11_takesEnd cX11_takesEnd 1 (some .boolean) 0 := ⟨gx_mem 1201 (by decide +kernel) (by decide +kernel), gx_mem 88 (by decide +kernel) (by decide +kernel), by decide +kernel, by decide⟩
theorem kc_RX11_175 : gx_MV RX11 175 yX11_takesEnd cX11_takesEnd 1 (some .boolean) 0 := ⟨kt_X11_takesEnd, gx_mem 1198 (by decide +kernel) (by decide +kernel), gx_mem 1200 (by decide +kernel) (by decide +kernel), gx_mem 55 (by decide +kernel) (by decide +kernel)⟩
theorem kt_X11_copy : gx_Mt yX11_copy cX11_copy 4 none 2 := ⟨gx_mem 1205 (by decide +kernel) (by decide +kernel), gx_mem 88 (by decide +kernel) (by decide +kernel), by decide +kernel, by decide⟩
theorem kc_RX11_182 : gx_MV RX11 182 yX11_copy cX11_copy 4 none 2 := ⟨kt_X11_copy, gx_mem 1202 (by decide +kernel) (by decide +kernel), gx_mem 1204 (by decide +kernel) (by decide +kernel), gx_mem 56 (by decide +kernel) (by decide +kernel)⟩
theorem kt_X11_readsItem : gx_Mt yX11_readsItem cX11_readsItem 4 (some .boolean) 1 := ⟨gx_mem 1127 (by decide +kernel) (by decide +kernel), gx_mem 88 (by decide +kernel) (by decide +kernel), by decide +kernel, by decide⟩
theorem kc_RX11_178 : gx_MV RX11 178 yX11_readsItem cX11_readsItem 4 (some .boolean) 1 := ⟨kt_X11_readsItem, gx_mem 1124 (by decide +kernel) (by decide +kernel), gx_mem 1126 (by decide +kernel) (by decide +kernel), gx_mem 42 (by decide +kernel) (by decide +kernel)⟩
theorem kt_X11_isPlayer : gx_Mt yX11_isPlayer cX11_isPlayer 2 (some .boolean) 1 := ⟨gx_mem 1213 (by decide +kernel) (by decide +kernel), gx_mem 88 (by decide +kernel) (by decide +kernel), by decide +kernel, by decide⟩
theorem kc_RX11_185 : gx_MV RX11 185 yX11_isPlayer cX11_isPlayer 2 (some .boolean) 1 := ⟨kt_X11_isPlayer, gx_mem 1210 (by decide +kernel) (by decide +kernel), gx_mem 1212 (by decide +kernel) (by decide +kernel), gx_mem 57 (by decide +kernel) (by decide +kernel)⟩
theorem kt_X11_isSide : gx_Mt yX11_isSide cX11_isSide 2 (some .boolean) 1 := ⟨gx_mem 1217 (by decide +kernel) (by decide +kernel), gx_mem 88 (by decide +kernel) (by decide +kernel), by decide +kernel, by decide⟩
theorem kc_RX11_188 : gx_MV RX11 188 yX11_isSide cX11_isSide 2 (some .boolean) 1 := ⟨kt_X11_isSide, gx_mem 1214 (by decide +kernel) (by decide +kernel), gx_mem 1216 (by decide +kernel) (by decide +kernel), gx_mem 58 (by decide +kernel) (by decide +kernel)⟩
theorem kt_X11_minds : gx_Mt yX11_minds cX11_minds 3 none 0 := ⟨gx_mem 1221 (by decide +kernel) (by decide +kernel), gx_mem 88 (by decide +kernel) (by decide +kernel), by decide +kernel, by decide⟩
theorem kc_RX11_191 : gx_MV RX11 191 yX11_minds cX11_minds 3 none 0 := ⟨kt_X11_minds, gx_mem 1218 (by decide +kernel) (by decide +kernel), gx_mem 1220 (by decide +kernel) (by decide +kernel), gx_mem 59 (by decide +kernel) (by decide +kernel)⟩
theorem kt_X11_homes : gx_Mt yX11_homes cX11_homes 4 (some .int) 1 := ⟨gx_mem 1233 (by decide +kernel) (by decide +kernel), gx_mem 88 (by decide +kernel) (by decide +kernel), by decide +kernel, by decide⟩
theorem kc_RX11_194 : gx_MV RX11 194 yX11_homes cX11_homes 4 (some .int) 1 := ⟨kt_X11_homes, gx_mem 1230 (by decide +kernel) (by decide +kernel), gx_mem 1232 (by decide +kernel) (by decide +kernel), gx_mem 60 (by decide +kernel) (by decide +kernel)⟩
theorem kt_X11_isLink : gx_Mt yX11_isLink cX11_isLink 2 (some .boolean) 1 := ⟨gx_mem 1245 (by decide +kernel) (by decide +kernel), gx_mem 88 (by decide +kernel) (by decide +kernel), by decide +kernel, by decide⟩
theorem kc_RX11_197 : gx_MV RX11 197 yX11_isLink cX11_isLink 2 (some .boolean) 1 := ⟨kt_X11_isLink, gx_mem 1242 (by decide +kernel) (by decide +kernel), gx_mem 1244 (by decide +kernel) (by decide +kernel), gx_mem 61 (by decide +kernel) (by decide +kernel)⟩
theorem kk_RX11_200 : Cond.constantLong RX11 200 3 ∈ gx_tbl := gx_mem 1246 (by decide +kernel) (by decide +kernel)
theorem kt_X11_rowsOf : gx_Mt yX11_rowsOf cX11_rowsOf 4 (some .int) 1 := ⟨gx_mem 1266 (by decide +kernel) (by decide +kernel), gx_mem 88 (by decide +kernel) (by decide +kernel), by decide +kernel, by decide⟩
theorem kc_RX11_202 : gx_MV RX11 202 yX11_rowsOf cX11_rowsOf 4 (some .int) 1 := ⟨kt_X11_rowsOf, gx_mem 1263 (by decide +kernel) (by decide +kernel), gx_mem 1265 (by decide +kernel) (by decide +kernel), gx_mem 64 (by decide +kernel) (by decide +kernel)⟩
theorem kt_X11_rollsTried : gx_Mt yX11_rollsTried cX11_rollsTried 3 none 2 := ⟨gx_mem 1258 (by decide +kernel) (by decide +kernel), gx_mem 88 (by decide +kernel) (by decide +kernel), by decide +kernel, by decide⟩
theorem kc_RX11_205 : gx_MV RX11 205 yX11_rollsTried cX11_rollsTried 3 none 2 := ⟨kt_X11_rollsTried, gx_mem 1255 (by decide +kernel) (by decide +kernel), gx_mem 1257 (by decide +kernel) (by decide +kernel), gx_mem 63 (by decide +kernel) (by decide +kernel)⟩
theorem kt_X11_tries : gx_Mt yX11_tries cX11_tries 2 none 0 := ⟨gx_mem 1254 (by decide +kernel) (by decide +kernel), gx_mem 88 (by decide +kernel) (by decide +kernel), by decide +kernel, by decide⟩
theorem kc_RX11_208 : gx_MV RX11 208 yX11_tries cX11_tries 2 none 0 := ⟨kt_X11_tries, gx_mem 1251 (by decide +kernel) (by decide +kernel), gx_mem 1253 (by decide +kernel) (by decide +kernel), gx_mem 62 (by decide +kernel) (by decide +kernel)⟩
theorem kt_X11_plays : gx_Mt yX11_plays cX11_plays 6 none 3 := ⟨gx_mem 1270 (by decide +kernel) (by decide +kernel), gx_mem 88 (by decide +kernel) (by decide +kernel), by decide +kernel, by decide⟩
theorem kc_RX11_211 : gx_MV RX11 211 yX11_plays cX11_plays 6 none 3 := ⟨kt_X11_plays, gx_mem 1267 (by decide +kernel) (by decide +kernel), gx_mem 1269 (by decide +kernel) (by decide +kernel), gx_mem 65 (by decide +kernel) (by decide +kernel)⟩
theorem kt_X11_told : gx_Mt yX11_told cX11_told 11 (some .int) 2 := ⟨gx_mem 1278 (by decide +kernel) (by decide +kernel), gx_mem 88 (by decide +kernel) (by decide +kernel), by decide +kernel, by decide⟩
theorem kc_RX11_214 : gx_MV RX11 214 yX11_told cX11_told 11 (some .int) 2 := ⟨kt_X11_told, gx_mem 1275 (by decide +kernel) (by decide +kernel), gx_mem 1277 (by decide +kernel) (by decide +kernel), gx_mem 66 (by decide +kernel) (by decide +kernel)⟩
theorem kk_RX11_218 : Cond.constantLong RX11 218 4 ∈ gx_tbl := gx_mem 1291 (by decide +kernel) (by decide +kernel)
theorem kf_RX11_30 : gx_Fld RX11 30 9 10 := ⟨RX11, TX11, 14, rfl, inX11, by decide, gx_mem 1014 (by decide +kernel) (by decide +kernel)⟩
theorem kk_RX11_220 : Cond.constantLong RX11 220 9 ∈ gx_tbl := gx_mem 1304 (by decide +kernel) (by decide +kernel)
theorem kt_X11_keeps : gx_Mt yX11_keeps cX11_keeps 6 none 5 := ⟨gx_mem 1308 (by decide +kernel) (by decide +kernel), gx_mem 88 (by decide +kernel) (by decide +kernel), by decide +kernel, by decide⟩
theorem kc_RX11_222 : gx_MV RX11 222 yX11_keeps cX11_keeps 6 none 5 := ⟨kt_X11_keeps, gx_mem 1305 (by decide +kernel) (by decide +kernel), gx_mem 1307 (by decide +kernel) (by decide +kernel), gx_mem 67 (by decide +kernel) (by decide +kernel)⟩
theorem kt_X11_leads : gx_Mt yX11_leads cX11_leads 5 (some .int) 4 := ⟨gx_mem 1328 (by decide +kernel) (by decide +kernel), gx_mem 88 (by decide +kernel) (by decide +kernel), by decide +kernel, by decide⟩
theorem kc_RX11_226 : gx_MV RX11 226 yX11_leads cX11_leads 5 (some .int) 4 := ⟨kt_X11_leads, gx_mem 1325 (by decide +kernel) (by decide +kernel), gx_mem 1327 (by decide +kernel) (by decide +kernel), gx_mem 69 (by decide +kernel) (by decide +kernel)⟩
theorem kt_X11_isOf : gx_Mt yX11_isOf cX11_isOf 6 (some .int) 1 := ⟨gx_mem 1324 (by decide +kernel) (by decide +kernel), gx_mem 88 (by decide +kernel) (by decide +kernel), by decide +kernel, by decide⟩
theorem kc_RX11_229 : gx_MV RX11 229 yX11_isOf cX11_isOf 6 (some .int) 1 := ⟨kt_X11_isOf, gx_mem 1321 (by decide +kernel) (by decide +kernel), gx_mem 1323 (by decide +kernel) (by decide +kernel), gx_mem 68 (by decide +kernel) (by decide +kernel)⟩
theorem kk_RX11_232 : Cond.constant RX11 232 1000000 ∈ gx_tbl := gx_mem 1333 (by decide +kernel) (by decide +kernel)
theorem kt_X11_has : gx_Mt yX11_has cX11_has 2 (some .boolean) 2 := ⟨gx_mem 1336 (by decide +kernel) (by decide +kernel), gx_mem 88 (by decide +kernel) (by decide +kernel), by decide +kernel, by decide⟩
theorem kc_RX11_233 : gx_MS RX11 233 yX11_has cX11_has 2 (some .boolean) 2 := ⟨kt_X11_has, gx_mem 1334 (by decide +kernel) (by decide +kernel), gx_mem 1335 (by decide +kernel) (by decide +kernel)⟩
theorem kt_X11_whatOf : gx_Mt yX11_whatOf cX11_whatOf 6 (some .int) 1 := ⟨gx_mem 1344 (by decide +kernel) (by decide +kernel), gx_mem 88 (by decide +kernel) (by decide +kernel), by decide +kernel, by decide⟩
theorem kc_RX11_236 : gx_MV RX11 236 yX11_whatOf cX11_whatOf 6 (some .int) 1 := ⟨kt_X11_whatOf, gx_mem 1341 (by decide +kernel) (by decide +kernel), gx_mem 1343 (by decide +kernel) (by decide +kernel), gx_mem 70 (by decide +kernel) (by decide +kernel)⟩
theorem kf_RX11_33 : gx_Fld RX11 33 9 11 := ⟨RX11, TX11, 14, rfl, inX11, by decide, gx_mem 1015 (by decide +kernel) (by decide +kernel)⟩
theorem kf_RX11_36 : gx_Fld RX11 36 9 12 := ⟨RX11, TX11, 14, rfl, inX11, by decide, gx_mem 1016 (by decide +kernel) (by decide +kernel)⟩
theorem kt_X11_gains : gx_Mt yX11_gains cX11_gains 8 none 2 := ⟨gx_mem 1356 (by decide +kernel) (by decide +kernel), gx_mem 88 (by decide +kernel) (by decide +kernel), by decide +kernel, by decide⟩
theorem kc_RX11_239 : gx_MV RX11 239 yX11_gains cX11_gains 8 none 2 := ⟨kt_X11_gains, gx_mem 1353 (by decide +kernel) (by decide +kernel), gx_mem 1355 (by decide +kernel) (by decide +kernel), gx_mem 71 (by decide +kernel) (by decide +kernel)⟩
theorem kt_X11_rests : gx_Mt yX11_rests cX11_rests 5 (some .boolean) 2 := ⟨gx_mem 1360 (by decide +kernel) (by decide +kernel), gx_mem 88 (by decide +kernel) (by decide +kernel), by decide +kernel, by decide⟩
theorem kc_RX11_242 : gx_MV RX11 242 yX11_rests cX11_rests 5 (some .boolean) 2 := ⟨kt_X11_rests, gx_mem 1357 (by decide +kernel) (by decide +kernel), gx_mem 1359 (by decide +kernel) (by decide +kernel), gx_mem 72 (by decide +kernel) (by decide +kernel)⟩
theorem kk_RX11_245 : Cond.constantLong RX11 245 999999 ∈ gx_tbl := gx_mem 1365 (by decide +kernel) (by decide +kernel)
theorem kk_RX11_247 : Cond.constantLong RX11 247 60 ∈ gx_tbl := gx_mem 1366 (by decide +kernel) (by decide +kernel)
theorem kk_RX11_249 : Cond.constantLong RX11 249 1103515245 ∈ gx_tbl := gx_mem 1367 (by decide +kernel) (by decide +kernel)
theorem kk_RX11_251 : Cond.constantLong RX11 251 12345 ∈ gx_tbl := gx_mem 1368 (by decide +kernel) (by decide +kernel)
theorem kk_RX11_253 : Cond.constantLong RX11 253 2147483648 ∈ gx_tbl := gx_mem 1369 (by decide +kernel) (by decide +kernel)
theorem kk_RX11_255 : Cond.constantLong RX11 255 65536 ∈ gx_tbl := gx_mem 1370 (by decide +kernel) (by decide +kernel)
theorem kk_RX11_257 : Cond.constantLong RX11 257 1048576 ∈ gx_tbl := gx_mem 1371 (by decide +kernel) (by decide +kernel)
theorem kf_RX11_24 : gx_Fld RX11 24 9 5 := ⟨RX11, TX11, 14, rfl, inX11, by decide, gx_mem 1009 (by decide +kernel) (by decide +kernel)⟩
theorem kf_RX11_20 : gx_Fld RX11 20 9 4 := ⟨RX11, TX11, 14, rfl, inX11, by decide, gx_mem 1008 (by decide +kernel) (by decide +kernel)⟩
theorem kf_RX11_13 : gx_Fld RX11 13 9 1 := ⟨RX11, TX11, 14, rfl, inX11, by decide, gx_mem 1005 (by decide +kernel) (by decide +kernel)⟩
theorem kt_X11_sumOf : gx_Mt yX11_sumOf cX11_sumOf 5 (some .int) 2 := ⟨gx_mem 1399 (by decide +kernel) (by decide +kernel), gx_mem 88 (by decide +kernel) (by decide +kernel), by decide +kernel, by decide⟩
theorem kc_RX11_259 : gx_MV RX11 259 yX11_sumOf cX11_sumOf 5 (some .int) 2 := ⟨kt_X11_sumOf, gx_mem 1396 (by decide +kernel) (by decide +kernel), gx_mem 1398 (by decide +kernel) (by decide +kernel), gx_mem 74 (by decide +kernel) (by decide +kernel)⟩
theorem kt_X11_countOf : gx_Mt yX11_countOf cX11_countOf 2 (some .int) 1 := ⟨gx_mem 1395 (by decide +kernel) (by decide +kernel), gx_mem 88 (by decide +kernel) (by decide +kernel), by decide +kernel, by decide⟩
theorem kc_RX11_262 : gx_MV RX11 262 yX11_countOf cX11_countOf 2 (some .int) 1 := ⟨kt_X11_countOf, gx_mem 1392 (by decide +kernel) (by decide +kernel), gx_mem 1394 (by decide +kernel) (by decide +kernel), gx_mem 73 (by decide +kernel) (by decide +kernel)⟩
theorem kk_RX11_265 : Cond.constantLong RX11 265 31 ∈ gx_tbl := gx_mem 1409 (by decide +kernel) (by decide +kernel)
theorem kf_RX11_267 : gx_Fld RX11 267 9 13 := ⟨RX11, TX11, 14, rfl, inX11, by decide, gx_mem 1017 (by decide +kernel) (by decide +kernel)⟩
theorem kp_RX11_267 : gx_FldP RX11 267 9 13 false .long := ⟨RX11, TX11, 14, rfl, inX11, by decide, gx_mem 1017 (by decide +kernel) (by decide +kernel), ⟨tyX11, tyX11_ok⟩, nmX11, rfl, by decide +kernel, fun q => by cases q⟩
theorem kt_X11_mix : gx_Mt yX11_mix cX11_mix 3 none 1 := ⟨gx_mem 1408 (by decide +kernel) (by decide +kernel), gx_mem 88 (by decide +kernel) (by decide +kernel), by decide +kernel, by decide⟩
theorem kc_RX11_270 : gx_MV RX11 270 yX11_mix cX11_mix 3 none 1 := ⟨kt_X11_mix, gx_mem 1405 (by decide +kernel) (by decide +kernel), gx_mem 1407 (by decide +kernel) (by decide +kernel), gx_mem 75 (by decide +kernel) (by decide +kernel)⟩
theorem kk_RX11_274 : Cond.constantLong RX11 274 1831 ∈ gx_tbl := gx_mem 1404 (by decide +kernel) (by decide +kernel)
theorem kt_X11_mixes : gx_Mt yX11_mixes cX11_mixes 4 none 2 := ⟨gx_mem 1413 (by decide +kernel) (by decide +kernel), gx_mem 88 (by decide +kernel) (by decide +kernel), by decide +kernel, by decide⟩
theorem kc_RX11_276 : gx_MV RX11 276 yX11_mixes cX11_mixes 4 none 2 := ⟨kt_X11_mixes, gx_mem 1410 (by decide +kernel) (by decide +kernel), gx_mem 1412 (by decide +kernel) (by decide +kernel), gx_mem 76 (by decide +kernel) (by decide +kernel)⟩
theorem kn_RL_7 : gx_Cls RL 7 8 11 [.null, .null, .null, .null, .null, .null, .long 0, .long 0, .int 0, .int 0, .int 0] := ⟨RX10, TX10, tyX10, rfl, inX10, tyX10_ok, gx_mem 95 (by decide +kernel) (by decide +kernel), gx_mem 96 (by decide +kernel) (by decide +kernel), gx_mem 78 (by decide +kernel) (by decide +kernel), by decide +kernel⟩
theorem kt_X10_init : gx_Mt yX10_init cX10_init 1 none 0 := ⟨gx_mem 99 (by decide +kernel) (by decide +kernel), gx_mem 78 (by decide +kernel) (by decide +kernel), by decide +kernel, by decide⟩
theorem kc_RL_9 : gx_MI RL 9 yX10_init cX10_init 1 0 := ⟨kt_X10_init, gx_mem 97 (by decide +kernel) (by decide +kernel), gx_mem 98 (by decide +kernel) (by decide +kernel), rfl⟩
theorem kn_RL_10 : gx_Cls RL 10 9 14 [.null, .null, .null, .int 0, .long 0, .long 0, .null, .int 0, .int 0, .int 0, .null, .null, .null, .long 0] := ⟨RX11, TX11, tyX11, rfl, inX11, tyX11_ok, gx_mem 998 (by decide +kernel) (by decide +kernel), gx_mem 999 (by decide +kernel) (by decide +kernel), gx_mem 88 (by decide +kernel) (by decide +kernel), by decide +kernel⟩
theorem kt_X11_init : gx_Mt yX11_init cX11_init 1 none 0 := ⟨gx_mem 1002 (by decide +kernel) (by decide +kernel), gx_mem 88 (by decide +kernel) (by decide +kernel), by decide +kernel, by decide⟩
theorem kc_RL_12 : gx_MI RL 12 yX11_init cX11_init 1 0 := ⟨kt_X11_init, gx_mem 1000 (by decide +kernel) (by decide +kernel), gx_mem 1001 (by decide +kernel) (by decide +kernel), rfl⟩
theorem kt_X10_board : gx_Mt yX10_board cX10_board 4 (some .int) 2 := ⟨gx_mem 400 (by decide +kernel) (by decide +kernel), gx_mem 78 (by decide +kernel) (by decide +kernel), by decide +kernel, by decide⟩
theorem kc_RL_13 : gx_MV RL 13 yX10_board cX10_board 4 (some .int) 2 := ⟨kt_X10_board, gx_mem 397 (by decide +kernel) (by decide +kernel), gx_mem 398 (by decide +kernel) (by decide +kernel), gx_mem 399 (by decide +kernel) (by decide +kernel)⟩
theorem kt_X11_board : gx_Mt yX11_board cX11_board 4 (some .int) 2 := ⟨gx_mem 1050 (by decide +kernel) (by decide +kernel), gx_mem 88 (by decide +kernel) (by decide +kernel), by decide +kernel, by decide⟩
theorem kc_RL_17 : gx_MV RL 17 yX11_board cX11_board 4 (some .int) 2 := ⟨kt_X11_board, gx_mem 1047 (by decide +kernel) (by decide +kernel), gx_mem 1048 (by decide +kernel) (by decide +kernel), gx_mem 1049 (by decide +kernel) (by decide +kernel)⟩
theorem kt_X10_die : gx_Mt yX10_die cX10_die 3 (some .int) 1 := ⟨gx_mem 427 (by decide +kernel) (by decide +kernel), gx_mem 78 (by decide +kernel) (by decide +kernel), by decide +kernel, by decide⟩
theorem kc_RL_18 : gx_MV RL 18 yX10_die cX10_die 3 (some .int) 1 := ⟨kt_X10_die, gx_mem 424 (by decide +kernel) (by decide +kernel), gx_mem 425 (by decide +kernel) (by decide +kernel), gx_mem 426 (by decide +kernel) (by decide +kernel)⟩
theorem kt_X11_die : gx_Mt yX11_die cX11_die 3 (some .int) 1 := ⟨gx_mem 1069 (by decide +kernel) (by decide +kernel), gx_mem 88 (by decide +kernel) (by decide +kernel), by decide +kernel, by decide⟩
theorem kc_RL_22 : gx_MV RL 22 yX11_die cX11_die 3 (some .int) 1 := ⟨kt_X11_die, gx_mem 1066 (by decide +kernel) (by decide +kernel), gx_mem 1067 (by decide +kernel) (by decide +kernel), gx_mem 1068 (by decide +kernel) (by decide +kernel)⟩
theorem kt_X10_link : gx_Mt yX10_link cX10_link 6 (some .int) 3 := ⟨gx_mem 432 (by decide +kernel) (by decide +kernel), gx_mem 78 (by decide +kernel) (by decide +kernel), by decide +kernel, by decide⟩
theorem kc_RL_23 : gx_MV RL 23 yX10_link cX10_link 6 (some .int) 3 := ⟨kt_X10_link, gx_mem 429 (by decide +kernel) (by decide +kernel), gx_mem 430 (by decide +kernel) (by decide +kernel), gx_mem 431 (by decide +kernel) (by decide +kernel)⟩
theorem kt_X11_link : gx_Mt yX11_link cX11_link 4 (some .int) 3 := ⟨gx_mem 1073 (by decide +kernel) (by decide +kernel), gx_mem 88 (by decide +kernel) (by decide +kernel), by decide +kernel, by decide⟩
theorem kc_RL_27 : gx_MV RL 27 yX11_link cX11_link 4 (some .int) 3 := ⟨kt_X11_link, gx_mem 1070 (by decide +kernel) (by decide +kernel), gx_mem 1071 (by decide +kernel) (by decide +kernel), gx_mem 1072 (by decide +kernel) (by decide +kernel)⟩
theorem kt_X10_player : gx_Mt yX10_player cX10_player 2 (some .int) 1 := ⟨gx_mem 444 (by decide +kernel) (by decide +kernel), gx_mem 78 (by decide +kernel) (by decide +kernel), by decide +kernel, by decide⟩
theorem kc_RL_28 : gx_MV RL 28 yX10_player cX10_player 2 (some .int) 1 := ⟨kt_X10_player, gx_mem 441 (by decide +kernel) (by decide +kernel), gx_mem 442 (by decide +kernel) (by decide +kernel), gx_mem 443 (by decide +kernel) (by decide +kernel)⟩
theorem kt_X11_player : gx_Mt yX11_player cX11_player 2 (some .int) 1 := ⟨gx_mem 1098 (by decide +kernel) (by decide +kernel), gx_mem 88 (by decide +kernel) (by decide +kernel), by decide +kernel, by decide⟩
theorem kc_RL_31 : gx_MV RL 31 yX11_player cX11_player 2 (some .int) 1 := ⟨kt_X11_player, gx_mem 1095 (by decide +kernel) (by decide +kernel), gx_mem 1096 (by decide +kernel) (by decide +kernel), gx_mem 1097 (by decide +kernel) (by decide +kernel)⟩
theorem kt_X10_type : gx_Mt yX10_type cX10_type 2 (some .int) 1 := ⟨gx_mem 452 (by decide +kernel) (by decide +kernel), gx_mem 78 (by decide +kernel) (by decide +kernel), by decide +kernel, by decide⟩
theorem kc_RL_32 : gx_MV RL 32 yX10_type cX10_type 2 (some .int) 1 := ⟨kt_X10_type, gx_mem 449 (by decide +kernel) (by decide +kernel), gx_mem 450 (by decide +kernel) (by decide +kernel), gx_mem 451 (by decide +kernel) (by decide +kernel)⟩
theorem kt_X11_type : gx_Mt yX11_type cX11_type 2 (some .int) 1 := ⟨gx_mem 1106 (by decide +kernel) (by decide +kernel), gx_mem 88 (by decide +kernel) (by decide +kernel), by decide +kernel, by decide⟩
theorem kc_RL_35 : gx_MV RL 35 yX11_type cX11_type 2 (some .int) 1 := ⟨kt_X11_type, gx_mem 1103 (by decide +kernel) (by decide +kernel), gx_mem 1104 (by decide +kernel) (by decide +kernel), gx_mem 1105 (by decide +kernel) (by decide +kernel)⟩
theorem kt_X10_clear : gx_Mt yX10_clear cX10_clear 1 (some .int) 0 := ⟨gx_mem 460 (by decide +kernel) (by decide +kernel), gx_mem 78 (by decide +kernel) (by decide +kernel), by decide +kernel, by decide⟩
theorem kc_RL_36 : gx_MV RL 36 yX10_clear cX10_clear 1 (some .int) 0 := ⟨kt_X10_clear, gx_mem 457 (by decide +kernel) (by decide +kernel), gx_mem 458 (by decide +kernel) (by decide +kernel), gx_mem 459 (by decide +kernel) (by decide +kernel)⟩
theorem kt_X11_clear : gx_Mt yX11_clear cX11_clear 2 (some .int) 0 := ⟨gx_mem 1111 (by decide +kernel) (by decide +kernel), gx_mem 88 (by decide +kernel) (by decide +kernel), by decide +kernel, by decide⟩
theorem kc_RL_40 : gx_MV RL 40 yX11_clear cX11_clear 2 (some .int) 0 := ⟨kt_X11_clear, gx_mem 1108 (by decide +kernel) (by decide +kernel), gx_mem 1109 (by decide +kernel) (by decide +kernel), gx_mem 1110 (by decide +kernel) (by decide +kernel)⟩
theorem kt_X10_read : gx_Mt yX10_read cX10_read 2 (some .int) 0 := ⟨gx_mem 468 (by decide +kernel) (by decide +kernel), gx_mem 78 (by decide +kernel) (by decide +kernel), by decide +kernel, by decide⟩
theorem kc_RL_41 : gx_MV RL 41 yX10_read cX10_read 2 (some .int) 0 := ⟨kt_X10_read, gx_mem 465 (by decide +kernel) (by decide +kernel), gx_mem 466 (by decide +kernel) (by decide +kernel), gx_mem 467 (by decide +kernel) (by decide +kernel)⟩
theorem kt_X11_read : gx_Mt yX11_read cX11_read 3 (some .int) 0 := ⟨gx_mem 1115 (by decide +kernel) (by decide +kernel), gx_mem 88 (by decide +kernel) (by decide +kernel), by decide +kernel, by decide⟩
theorem kc_RL_44 : gx_MV RL 44 yX11_read cX11_read 3 (some .int) 0 := ⟨kt_X11_read, gx_mem 1112 (by decide +kernel) (by decide +kernel), gx_mem 1113 (by decide +kernel) (by decide +kernel), gx_mem 1114 (by decide +kernel) (by decide +kernel)⟩
theorem kt_X10_rolls : gx_Mt yX10_rolls cX10_rolls 3 (some .int) 2 := ⟨gx_mem 639 (by decide +kernel) (by decide +kernel), gx_mem 78 (by decide +kernel) (by decide +kernel), by decide +kernel, by decide⟩
theorem kc_RL_45 : gx_MV RL 45 yX10_rolls cX10_rolls 3 (some .int) 2 := ⟨kt_X10_rolls, gx_mem 636 (by decide +kernel) (by decide +kernel), gx_mem 637 (by decide +kernel) (by decide +kernel), gx_mem 638 (by decide +kernel) (by decide +kernel)⟩
theorem kt_X11_rolls : gx_Mt yX11_rolls cX11_rolls 3 (some .int) 2 := ⟨gx_mem 1209 (by decide +kernel) (by decide +kernel), gx_mem 88 (by decide +kernel) (by decide +kernel), by decide +kernel, by decide⟩
theorem kc_RL_48 : gx_MV RL 48 yX11_rolls cX11_rolls 3 (some .int) 2 := ⟨kt_X11_rolls, gx_mem 1206 (by decide +kernel) (by decide +kernel), gx_mem 1207 (by decide +kernel) (by decide +kernel), gx_mem 1208 (by decide +kernel) (by decide +kernel)⟩
theorem kt_X10_sets : gx_Mt yX10_sets cX10_sets 4 (some .int) 2 := ⟨gx_mem 657 (by decide +kernel) (by decide +kernel), gx_mem 78 (by decide +kernel) (by decide +kernel), by decide +kernel, by decide⟩
theorem kc_RL_49 : gx_MV RL 49 yX10_sets cX10_sets 4 (some .int) 2 := ⟨kt_X10_sets, gx_mem 654 (by decide +kernel) (by decide +kernel), gx_mem 655 (by decide +kernel) (by decide +kernel), gx_mem 656 (by decide +kernel) (by decide +kernel)⟩
theorem kt_X11_sets : gx_Mt yX11_sets cX11_sets 4 (some .int) 2 := ⟨gx_mem 1225 (by decide +kernel) (by decide +kernel), gx_mem 88 (by decide +kernel) (by decide +kernel), by decide +kernel, by decide⟩
theorem kc_RL_52 : gx_MV RL 52 yX11_sets cX11_sets 4 (some .int) 2 := ⟨kt_X11_sets, gx_mem 1222 (by decide +kernel) (by decide +kernel), gx_mem 1223 (by decide +kernel) (by decide +kernel), gx_mem 1224 (by decide +kernel) (by decide +kernel)⟩
theorem kt_X10_undo : gx_Mt yX10_undo cX10_undo 1 (some .int) 0 := ⟨gx_mem 662 (by decide +kernel) (by decide +kernel), gx_mem 78 (by decide +kernel) (by decide +kernel), by decide +kernel, by decide⟩
theorem kc_RL_53 : gx_MV RL 53 yX10_undo cX10_undo 1 (some .int) 0 := ⟨kt_X10_undo, gx_mem 659 (by decide +kernel) (by decide +kernel), gx_mem 660 (by decide +kernel) (by decide +kernel), gx_mem 661 (by decide +kernel) (by decide +kernel)⟩
theorem kt_X11_undo : gx_Mt yX11_undo cX11_undo 3 (some .int) 0 := ⟨gx_mem 1229 (by decide +kernel) (by decide +kernel), gx_mem 88 (by decide +kernel) (by decide +kernel), by decide +kernel, by decide⟩
theorem kc_RL_56 : gx_MV RL 56 yX11_undo cX11_undo 3 (some .int) 0 := ⟨kt_X11_undo, gx_mem 1226 (by decide +kernel) (by decide +kernel), gx_mem 1227 (by decide +kernel) (by decide +kernel), gx_mem 1228 (by decide +kernel) (by decide +kernel)⟩
theorem kt_X10_of : gx_Mt yX10_of cX10_of 3 (some .int) 2 := ⟨gx_mem 679 (by decide +kernel) (by decide +kernel), gx_mem 78 (by decide +kernel) (by decide +kernel), by decide +kernel, by decide⟩
theorem kc_RL_57 : gx_MV RL 57 yX10_of cX10_of 3 (some .int) 2 := ⟨kt_X10_of, gx_mem 676 (by decide +kernel) (by decide +kernel), gx_mem 677 (by decide +kernel) (by decide +kernel), gx_mem 678 (by decide +kernel) (by decide +kernel)⟩
theorem kt_X11_of : gx_Mt yX11_of cX11_of 3 (some .int) 2 := ⟨gx_mem 1237 (by decide +kernel) (by decide +kernel), gx_mem 88 (by decide +kernel) (by decide +kernel), by decide +kernel, by decide⟩
theorem kc_RL_60 : gx_MV RL 60 yX11_of cX11_of 3 (some .int) 2 := ⟨kt_X11_of, gx_mem 1234 (by decide +kernel) (by decide +kernel), gx_mem 1235 (by decide +kernel) (by decide +kernel), gx_mem 1236 (by decide +kernel) (by decide +kernel)⟩
theorem kt_X10_about : gx_Mt yX10_about cX10_about 3 (some .int) 2 := ⟨gx_mem 683 (by decide +kernel) (by decide +kernel), gx_mem 78 (by decide +kernel) (by decide +kernel), by decide +kernel, by decide⟩
theorem kc_RL_61 : gx_MV RL 61 yX10_about cX10_about 3 (some .int) 2 := ⟨kt_X10_about, gx_mem 680 (by decide +kernel) (by decide +kernel), gx_mem 681 (by decide +kernel) (by decide +kernel), gx_mem 682 (by decide +kernel) (by decide +kernel)⟩
theorem kt_X11_about : gx_Mt yX11_about cX11_about 3 (some .int) 2 := ⟨gx_mem 1241 (by decide +kernel) (by decide +kernel), gx_mem 88 (by decide +kernel) (by decide +kernel), by decide +kernel, by decide⟩
theorem kc_RL_64 : gx_MV RL 64 yX11_about cX11_about 3 (some .int) 2 := ⟨kt_X11_about, gx_mem 1238 (by decide +kernel) (by decide +kernel), gx_mem 1239 (by decide +kernel) (by decide +kernel), gx_mem 1240 (by decide +kernel) (by decide +kernel)⟩
theorem kt_X10_goes : gx_Mt yX10_goes cX10_goes 3 (some .int) 2 := ⟨gx_mem 691 (by decide +kernel) (by decide +kernel), gx_mem 78 (by decide +kernel) (by decide +kernel), by decide +kernel, by decide⟩
theorem kc_RL_65 : gx_MV RL 65 yX10_goes cX10_goes 3 (some .int) 2 := ⟨kt_X10_goes, gx_mem 688 (by decide +kernel) (by decide +kernel), gx_mem 689 (by decide +kernel) (by decide +kernel), gx_mem 690 (by decide +kernel) (by decide +kernel)⟩
theorem kt_X11_goes : gx_Mt yX11_goes cX11_goes 3 (some .int) 2 := ⟨gx_mem 1250 (by decide +kernel) (by decide +kernel), gx_mem 88 (by decide +kernel) (by decide +kernel), by decide +kernel, by decide⟩
theorem kc_RL_68 : gx_MV RL 68 yX11_goes cX11_goes 3 (some .int) 2 := ⟨kt_X11_goes, gx_mem 1247 (by decide +kernel) (by decide +kernel), gx_mem 1248 (by decide +kernel) (by decide +kernel), gx_mem 1249 (by decide +kernel) (by decide +kernel)⟩
theorem kt_X10_few : gx_Mt yX10_few cX10_few 4 (some .int) 2 := ⟨gx_mem 699 (by decide +kernel) (by decide +kernel), gx_mem 78 (by decide +kernel) (by decide +kernel), by decide +kernel, by decide⟩
theorem kc_RL_69 : gx_MV RL 69 yX10_few cX10_few 4 (some .int) 2 := ⟨kt_X10_few, gx_mem 696 (by decide +kernel) (by decide +kernel), gx_mem 697 (by decide +kernel) (by decide +kernel), gx_mem 698 (by decide +kernel) (by decide +kernel)⟩
theorem kt_X11_few : gx_Mt yX11_few cX11_few 6 (some .int) 2 := ⟨gx_mem 1262 (by decide +kernel) (by decide +kernel), gx_mem 88 (by decide +kernel) (by decide +kernel), by decide +kernel, by decide⟩
theorem kc_RL_72 : gx_MV RL 72 yX11_few cX11_few 6 (some .int) 2 := ⟨kt_X11_few, gx_mem 1259 (by decide +kernel) (by decide +kernel), gx_mem 1260 (by decide +kernel) (by decide +kernel), gx_mem 1261 (by decide +kernel) (by decide +kernel)⟩
theorem kt_X10_home : gx_Mt yX10_home cX10_home 3 (some .int) 2 := ⟨gx_mem 723 (by decide +kernel) (by decide +kernel), gx_mem 78 (by decide +kernel) (by decide +kernel), by decide +kernel, by decide⟩
theorem kc_RL_73 : gx_MV RL 73 yX10_home cX10_home 3 (some .int) 2 := ⟨kt_X10_home, gx_mem 720 (by decide +kernel) (by decide +kernel), gx_mem 721 (by decide +kernel) (by decide +kernel), gx_mem 722 (by decide +kernel) (by decide +kernel)⟩
theorem kt_X11_home : gx_Mt yX11_home cX11_home 6 (some .int) 2 := ⟨gx_mem 1274 (by decide +kernel) (by decide +kernel), gx_mem 88 (by decide +kernel) (by decide +kernel), by decide +kernel, by decide⟩
theorem kc_RL_76 : gx_MV RL 76 yX11_home cX11_home 6 (some .int) 2 := ⟨kt_X11_home, gx_mem 1271 (by decide +kernel) (by decide +kernel), gx_mem 1272 (by decide +kernel) (by decide +kernel), gx_mem 1273 (by decide +kernel) (by decide +kernel)⟩
theorem kt_X10_mean : gx_Mt yX10_mean cX10_mean 3 (some .int) 2 := ⟨gx_mem 758 (by decide +kernel) (by decide +kernel), gx_mem 78 (by decide +kernel) (by decide +kernel), by decide +kernel, by decide⟩
theorem kc_RL_77 : gx_MV RL 77 yX10_mean cX10_mean 3 (some .int) 2 := ⟨kt_X10_mean, gx_mem 755 (by decide +kernel) (by decide +kernel), gx_mem 756 (by decide +kernel) (by decide +kernel), gx_mem 757 (by decide +kernel) (by decide +kernel)⟩
theorem kt_X11_mean : gx_Mt yX11_mean cX11_mean 6 (some .int) 2 := ⟨gx_mem 1282 (by decide +kernel) (by decide +kernel), gx_mem 88 (by decide +kernel) (by decide +kernel), by decide +kernel, by decide⟩
theorem kc_RL_80 : gx_MV RL 80 yX11_mean cX11_mean 6 (some .int) 2 := ⟨kt_X11_mean, gx_mem 1279 (by decide +kernel) (by decide +kernel), gx_mem 1280 (by decide +kernel) (by decide +kernel), gx_mem 1281 (by decide +kernel) (by decide +kernel)⟩
theorem kt_X10_ahead : gx_Mt yX10_ahead cX10_ahead 5 (some .int) 3 := ⟨gx_mem 766 (by decide +kernel) (by decide +kernel), gx_mem 78 (by decide +kernel) (by decide +kernel), by decide +kernel, by decide⟩
theorem kc_RL_81 : gx_MV RL 81 yX10_ahead cX10_ahead 5 (some .int) 3 := ⟨kt_X10_ahead, gx_mem 763 (by decide +kernel) (by decide +kernel), gx_mem 764 (by decide +kernel) (by decide +kernel), gx_mem 765 (by decide +kernel) (by decide +kernel)⟩
theorem kt_X11_ahead : gx_Mt yX11_ahead cX11_ahead 9 (some .int) 3 := ⟨gx_mem 1286 (by decide +kernel) (by decide +kernel), gx_mem 88 (by decide +kernel) (by decide +kernel), by decide +kernel, by decide⟩
theorem kc_RL_84 : gx_MV RL 84 yX11_ahead cX11_ahead 9 (some .int) 3 := ⟨kt_X11_ahead, gx_mem 1283 (by decide +kernel) (by decide +kernel), gx_mem 1284 (by decide +kernel) (by decide +kernel), gx_mem 1285 (by decide +kernel) (by decide +kernel)⟩
theorem kt_X10_rather : gx_Mt yX10_rather cX10_rather 4 (some .int) 3 := ⟨gx_mem 781 (by decide +kernel) (by decide +kernel), gx_mem 78 (by decide +kernel) (by decide +kernel), by decide +kernel, by decide⟩
theorem kc_RL_85 : gx_MV RL 85 yX10_rather cX10_rather 4 (some .int) 3 := ⟨kt_X10_rather, gx_mem 778 (by decide +kernel) (by decide +kernel), gx_mem 779 (by decide +kernel) (by decide +kernel), gx_mem 780 (by decide +kernel) (by decide +kernel)⟩
theorem kt_X11_rather : gx_Mt yX11_rather cX11_rather 10 (some .int) 3 := ⟨gx_mem 1290 (by decide +kernel) (by decide +kernel), gx_mem 88 (by decide +kernel) (by decide +kernel), by decide +kernel, by decide⟩
theorem kc_RL_88 : gx_MV RL 88 yX11_rather cX11_rather 10 (some .int) 3 := ⟨kt_X11_rather, gx_mem 1287 (by decide +kernel) (by decide +kernel), gx_mem 1288 (by decide +kernel) (by decide +kernel), gx_mem 1289 (by decide +kernel) (by decide +kernel)⟩
theorem kt_X10_without : gx_Mt yX10_without cX10_without 4 (some .int) 3 := ⟨gx_mem 790 (by decide +kernel) (by decide +kernel), gx_mem 78 (by decide +kernel) (by decide +kernel), by decide +kernel, by decide⟩
theorem kc_RL_89 : gx_MV RL 89 yX10_without cX10_without 4 (some .int) 3 := ⟨kt_X10_without, gx_mem 787 (by decide +kernel) (by decide +kernel), gx_mem 788 (by decide +kernel) (by decide +kernel), gx_mem 789 (by decide +kernel) (by decide +kernel)⟩
theorem kt_X11_without : gx_Mt yX11_without cX11_without 10 (some .int) 3 := ⟨gx_mem 1295 (by decide +kernel) (by decide +kernel), gx_mem 88 (by decide +kernel) (by decide +kernel), by decide +kernel, by decide⟩
theorem kc_RL_92 : gx_MV RL 92 yX11_without cX11_without 10 (some .int) 3 := ⟨kt_X11_without, gx_mem 1292 (by decide +kernel) (by decide +kernel), gx_mem 1293 (by decide +kernel) (by decide +kernel), gx_mem 1294 (by decide +kernel) (by decide +kernel)⟩
theorem kt_X10_span : gx_Mt yX10_span cX10_span 4 (some .int) 3 := ⟨gx_mem 798 (by decide +kernel) (by decide +kernel), gx_mem 78 (by decide +kernel) (by decide +kernel), by decide +kernel, by decide⟩
theorem kc_RL_93 : gx_MV RL 93 yX10_span cX10_span 4 (some .int) 3 := ⟨kt_X10_span, gx_mem 795 (by decide +kernel) (by decide +kernel), gx_mem 796 (by decide +kernel) (by decide +kernel), gx_mem 797 (by decide +kernel) (by decide +kernel)⟩
theorem kt_X11_span : gx_Mt yX11_span cX11_span 9 (some .int) 3 := ⟨gx_mem 1299 (by decide +kernel) (by decide +kernel), gx_mem 88 (by decide +kernel) (by decide +kernel), by decide +kernel, by decide⟩
theorem kc_RL_96 : gx_MV RL 96 yX11_span cX11_span 9 (some .int) 3 := ⟨kt_X11_span, gx_mem 1296 (by decide +kernel) (by decide +kernel), gx_mem 1297 (by decide +kernel) (by decide +kernel), gx_mem 1298 (by decide +kernel) (by decide +kernel)⟩
theorem kt_X10_note : gx_Mt yX10_note cX10_note 5 (some .int) 4 := ⟨gx_mem 814 (by decide +kernel) (by decide +kernel), gx_mem 78 (by decide +kernel) (by decide +kernel), by decide +kernel, by decide⟩
theorem kc_RL_97 : gx_MV RL 97 yX10_note cX10_note 5 (some .int) 4 := ⟨kt_X10_note, gx_mem 811 (by decide +kernel) (by decide +kernel), gx_mem 812 (by decide +kernel) (by decide +kernel), gx_mem 813 (by decide +kernel) (by decide +kernel)⟩
theorem kt_X11_note : gx_Mt yX11_note cX11_note 5 (some .int) 4 := ⟨gx_mem 1303 (by decide +kernel) (by decide +kernel), gx_mem 88 (by decide +kernel) (by decide +kernel), by decide +kernel, by decide⟩
theorem kc_RL_101 : gx_MV RL 101 yX11_note cX11_note 5 (some .int) 4 := ⟨kt_X11_note, gx_mem 1300 (by decide +kernel) (by decide +kernel), gx_mem 1301 (by decide +kernel) (by decide +kernel), gx_mem 1302 (by decide +kernel) (by decide +kernel)⟩
theorem kt_X10_mark : gx_Mt yX10_mark cX10_mark 5 (some .int) 4 := ⟨gx_mem 822 (by decide +kernel) (by decide +kernel), gx_mem 78 (by decide +kernel) (by decide +kernel), by decide +kernel, by decide⟩
theorem kc_RL_102 : gx_MV RL 102 yX10_mark cX10_mark 5 (some .int) 4 := ⟨kt_X10_mark, gx_mem 819 (by decide +kernel) (by decide +kernel), gx_mem 820 (by decide +kernel) (by decide +kernel), gx_mem 821 (by decide +kernel) (by decide +kernel)⟩
theorem kt_X11_mark : gx_Mt yX11_mark cX11_mark 5 (some .int) 4 := ⟨gx_mem 1312 (by decide +kernel) (by decide +kernel), gx_mem 88 (by decide +kernel) (by decide +kernel), by decide +kernel, by decide⟩
theorem kc_RL_105 : gx_MV RL 105 yX11_mark cX11_mark 5 (some .int) 4 := ⟨kt_X11_mark, gx_mem 1309 (by decide +kernel) (by decide +kernel), gx_mem 1310 (by decide +kernel) (by decide +kernel), gx_mem 1311 (by decide +kernel) (by decide +kernel)⟩
theorem kt_X10_forget : gx_Mt yX10_forget cX10_forget 2 (some .int) 1 := ⟨gx_mem 826 (by decide +kernel) (by decide +kernel), gx_mem 78 (by decide +kernel) (by decide +kernel), by decide +kernel, by decide⟩
theorem kc_RL_106 : gx_MV RL 106 yX10_forget cX10_forget 2 (some .int) 1 := ⟨kt_X10_forget, gx_mem 823 (by decide +kernel) (by decide +kernel), gx_mem 824 (by decide +kernel) (by decide +kernel), gx_mem 825 (by decide +kernel) (by decide +kernel)⟩
theorem kt_X11_forget : gx_Mt yX11_forget cX11_forget 4 (some .int) 1 := ⟨gx_mem 1316 (by decide +kernel) (by decide +kernel), gx_mem 88 (by decide +kernel) (by decide +kernel), by decide +kernel, by decide⟩
theorem kc_RL_109 : gx_MV RL 109 yX11_forget cX11_forget 4 (some .int) 1 := ⟨kt_X11_forget, gx_mem 1313 (by decide +kernel) (by decide +kernel), gx_mem 1314 (by decide +kernel) (by decide +kernel), gx_mem 1315 (by decide +kernel) (by decide +kernel)⟩
theorem kt_X10_is : gx_Mt yX10_is cX10_is 2 (some .int) 1 := ⟨gx_mem 831 (by decide +kernel) (by decide +kernel), gx_mem 78 (by decide +kernel) (by decide +kernel), by decide +kernel, by decide⟩
theorem kc_RL_110 : gx_MV RL 110 yX10_is cX10_is 2 (some .int) 1 := ⟨kt_X10_is, gx_mem 828 (by decide +kernel) (by decide +kernel), gx_mem 829 (by decide +kernel) (by decide +kernel), gx_mem 830 (by decide +kernel) (by decide +kernel)⟩
theorem kt_X11_is : gx_Mt yX11_is cX11_is 2 (some .int) 1 := ⟨gx_mem 1320 (by decide +kernel) (by decide +kernel), gx_mem 88 (by decide +kernel) (by decide +kernel), by decide +kernel, by decide⟩
theorem kc_RL_113 : gx_MV RL 113 yX11_is cX11_is 2 (some .int) 1 := ⟨kt_X11_is, gx_mem 1317 (by decide +kernel) (by decide +kernel), gx_mem 1318 (by decide +kernel) (by decide +kernel), gx_mem 1319 (by decide +kernel) (by decide +kernel)⟩
theorem kt_X10_look : gx_Mt yX10_look cX10_look 2 (some .int) 1 := ⟨gx_mem 847 (by decide +kernel) (by decide +kernel), gx_mem 78 (by decide +kernel) (by decide +kernel), by decide +kernel, by decide⟩
theorem kc_RL_114 : gx_MV RL 114 yX10_look cX10_look 2 (some .int) 1 := ⟨kt_X10_look, gx_mem 844 (by decide +kernel) (by decide +kernel), gx_mem 845 (by decide +kernel) (by decide +kernel), gx_mem 846 (by decide +kernel) (by decide +kernel)⟩
theorem kt_X11_look : gx_Mt yX11_look cX11_look 11 (some .int) 1 := ⟨gx_mem 1332 (by decide +kernel) (by decide +kernel), gx_mem 88 (by decide +kernel) (by decide +kernel), by decide +kernel, by decide⟩
theorem kc_RL_117 : gx_MV RL 117 yX11_look cX11_look 11 (some .int) 1 := ⟨kt_X11_look, gx_mem 1329 (by decide +kernel) (by decide +kernel), gx_mem 1330 (by decide +kernel) (by decide +kernel), gx_mem 1331 (by decide +kernel) (by decide +kernel)⟩
theorem kt_X10_kinds : gx_Mt yX10_kinds cX10_kinds 2 (some .int) 1 := ⟨gx_mem 865 (by decide +kernel) (by decide +kernel), gx_mem 78 (by decide +kernel) (by decide +kernel), by decide +kernel, by decide⟩
theorem kc_RL_118 : gx_MV RL 118 yX10_kinds cX10_kinds 2 (some .int) 1 := ⟨kt_X10_kinds, gx_mem 862 (by decide +kernel) (by decide +kernel), gx_mem 863 (by decide +kernel) (by decide +kernel), gx_mem 864 (by decide +kernel) (by decide +kernel)⟩
theorem kt_X11_kinds : gx_Mt yX11_kinds cX11_kinds 2 (some .int) 1 := ⟨gx_mem 1340 (by decide +kernel) (by decide +kernel), gx_mem 88 (by decide +kernel) (by decide +kernel), by decide +kernel, by decide⟩
theorem kc_RL_121 : gx_MV RL 121 yX11_kinds cX11_kinds 2 (some .int) 1 := ⟨kt_X11_kinds, gx_mem 1337 (by decide +kernel) (by decide +kernel), gx_mem 1338 (by decide +kernel) (by decide +kernel), gx_mem 1339 (by decide +kernel) (by decide +kernel)⟩
theorem kt_X10_ask : gx_Mt yX10_ask cX10_ask 2 (some .int) 1 := ⟨gx_mem 877 (by decide +kernel) (by decide +kernel), gx_mem 78 (by decide +kernel) (by decide +kernel), by decide +kernel, by decide⟩
theorem kc_RL_122 : gx_MV RL 122 yX10_ask cX10_ask 2 (some .int) 1 := ⟨kt_X10_ask, gx_mem 874 (by decide +kernel) (by decide +kernel), gx_mem 875 (by decide +kernel) (by decide +kernel), gx_mem 876 (by decide +kernel) (by decide +kernel)⟩
theorem kt_X11_ask : gx_Mt yX11_ask cX11_ask 11 (some .int) 1 := ⟨gx_mem 1348 (by decide +kernel) (by decide +kernel), gx_mem 88 (by decide +kernel) (by decide +kernel), by decide +kernel, by decide⟩
theorem kc_RL_125 : gx_MV RL 125 yX11_ask cX11_ask 11 (some .int) 1 := ⟨kt_X11_ask, gx_mem 1345 (by decide +kernel) (by decide +kernel), gx_mem 1346 (by decide +kernel) (by decide +kernel), gx_mem 1347 (by decide +kernel) (by decide +kernel)⟩
theorem kt_X10_choice : gx_Mt yX10_choice cX10_choice 5 (some .int) 3 := ⟨gx_mem 886 (by decide +kernel) (by decide +kernel), gx_mem 78 (by decide +kernel) (by decide +kernel), by decide +kernel, by decide⟩
theorem kc_RL_126 : gx_MV RL 126 yX10_choice cX10_choice 5 (some .int) 3 := ⟨kt_X10_choice, gx_mem 883 (by decide +kernel) (by decide +kernel), gx_mem 884 (by decide +kernel) (by decide +kernel), gx_mem 885 (by decide +kernel) (by decide +kernel)⟩
theorem kt_X11_choice : gx_Mt yX11_choice cX11_choice 7 (some .int) 3 := ⟨gx_mem 1352 (by decide +kernel) (by decide +kernel), gx_mem 88 (by decide +kernel) (by decide +kernel), by decide +kernel, by decide⟩
theorem kc_RL_129 : gx_MV RL 129 yX11_choice cX11_choice 7 (some .int) 3 := ⟨kt_X11_choice, gx_mem 1349 (by decide +kernel) (by decide +kernel), gx_mem 1350 (by decide +kernel) (by decide +kernel), gx_mem 1351 (by decide +kernel) (by decide +kernel)⟩
theorem kt_X10_evenings : gx_Mt yX10_evenings cX10_evenings 3 (some .int) 2 := ⟨gx_mem 918 (by decide +kernel) (by decide +kernel), gx_mem 78 (by decide +kernel) (by decide +kernel), by decide +kernel, by decide⟩
theorem kc_RL_130 : gx_MV RL 130 yX10_evenings cX10_evenings 3 (some .int) 2 := ⟨kt_X10_evenings, gx_mem 915 (by decide +kernel) (by decide +kernel), gx_mem 916 (by decide +kernel) (by decide +kernel), gx_mem 917 (by decide +kernel) (by decide +kernel)⟩
theorem kt_X11_evenings : gx_Mt yX11_evenings cX11_evenings 7 (some .int) 2 := ⟨gx_mem 1364 (by decide +kernel) (by decide +kernel), gx_mem 88 (by decide +kernel) (by decide +kernel), by decide +kernel, by decide⟩
theorem kc_RL_133 : gx_MV RL 133 yX11_evenings cX11_evenings 7 (some .int) 2 := ⟨kt_X11_evenings, gx_mem 1361 (by decide +kernel) (by decide +kernel), gx_mem 1362 (by decide +kernel) (by decide +kernel), gx_mem 1363 (by decide +kernel) (by decide +kernel)⟩
theorem kt_X10_part : gx_Mt yX10_part cX10_part 2 (some .long) 1 := ⟨gx_mem 936 (by decide +kernel) (by decide +kernel), gx_mem 78 (by decide +kernel) (by decide +kernel), by decide +kernel, by decide⟩
theorem kc_RL_134 : gx_MV RL 134 yX10_part cX10_part 2 (some .long) 1 := ⟨kt_X10_part, gx_mem 933 (by decide +kernel) (by decide +kernel), gx_mem 934 (by decide +kernel) (by decide +kernel), gx_mem 935 (by decide +kernel) (by decide +kernel)⟩
theorem kt_X11_part : gx_Mt yX11_part cX11_part 2 (some .long) 1 := ⟨gx_mem 1375 (by decide +kernel) (by decide +kernel), gx_mem 88 (by decide +kernel) (by decide +kernel), by decide +kernel, by decide⟩
theorem kc_RL_138 : gx_MV RL 138 yX11_part cX11_part 2 (some .long) 1 := ⟨kt_X11_part, gx_mem 1372 (by decide +kernel) (by decide +kernel), gx_mem 1373 (by decide +kernel) (by decide +kernel), gx_mem 1374 (by decide +kernel) (by decide +kernel)⟩
theorem kt_X10_image : gx_Mt yX10_image cX10_image 2 (some .int) 1 := ⟨gx_mem 940 (by decide +kernel) (by decide +kernel), gx_mem 78 (by decide +kernel) (by decide +kernel), by decide +kernel, by decide⟩
theorem kc_RL_139 : gx_MV RL 139 yX10_image cX10_image 2 (some .int) 1 := ⟨kt_X10_image, gx_mem 937 (by decide +kernel) (by decide +kernel), gx_mem 938 (by decide +kernel) (by decide +kernel), gx_mem 939 (by decide +kernel) (by decide +kernel)⟩
theorem kt_X11_image : gx_Mt yX11_image cX11_image 2 (some .int) 1 := ⟨gx_mem 1379 (by decide +kernel) (by decide +kernel), gx_mem 88 (by decide +kernel) (by decide +kernel), by decide +kernel, by decide⟩
theorem kc_RL_142 : gx_MV RL 142 yX11_image cX11_image 2 (some .int) 1 := ⟨kt_X11_image, gx_mem 1376 (by decide +kernel) (by decide +kernel), gx_mem 1377 (by decide +kernel) (by decide +kernel), gx_mem 1378 (by decide +kernel) (by decide +kernel)⟩
theorem kt_X10_from : gx_Mt yX10_from cX10_from 2 (some .int) 1 := ⟨gx_mem 961 (by decide +kernel) (by decide +kernel), gx_mem 78 (by decide +kernel) (by decide +kernel), by decide +kernel, by decide⟩
theorem kc_RL_143 : gx_MV RL 143 yX10_from cX10_from 2 (some .int) 1 := ⟨kt_X10_from, gx_mem 958 (by decide +kernel) (by decide +kernel), gx_mem 959 (by decide +kernel) (by decide +kernel), gx_mem 960 (by decide +kernel) (by decide +kernel)⟩
theorem kt_X11_from : gx_Mt yX11_from cX11_from 2 (some .int) 1 := ⟨gx_mem 1383 (by decide +kernel) (by decide +kernel), gx_mem 88 (by decide +kernel) (by decide +kernel), by decide +kernel, by decide⟩
theorem kc_RL_146 : gx_MV RL 146 yX11_from cX11_from 2 (some .int) 1 := ⟨kt_X11_from, gx_mem 1380 (by decide +kernel) (by decide +kernel), gx_mem 1381 (by decide +kernel) (by decide +kernel), gx_mem 1382 (by decide +kernel) (by decide +kernel)⟩
theorem kt_X10_status : gx_Mt yX10_status cX10_status 2 (some .int) 1 := ⟨gx_mem 965 (by decide +kernel) (by decide +kernel), gx_mem 78 (by decide +kernel) (by decide +kernel), by decide +kernel, by decide⟩
theorem kc_RL_147 : gx_MV RL 147 yX10_status cX10_status 2 (some .int) 1 := ⟨kt_X10_status, gx_mem 962 (by decide +kernel) (by decide +kernel), gx_mem 963 (by decide +kernel) (by decide +kernel), gx_mem 964 (by decide +kernel) (by decide +kernel)⟩
theorem kt_X11_status : gx_Mt yX11_status cX11_status 2 (some .int) 1 := ⟨gx_mem 1387 (by decide +kernel) (by decide +kernel), gx_mem 88 (by decide +kernel) (by decide +kernel), by decide +kernel, by decide⟩
theorem kc_RL_150 : gx_MV RL 150 yX11_status cX11_status 2 (some .int) 1 := ⟨kt_X11_status, gx_mem 1384 (by decide +kernel) (by decide +kernel), gx_mem 1385 (by decide +kernel) (by decide +kernel), gx_mem 1386 (by decide +kernel) (by decide +kernel)⟩
theorem kt_X10_count : gx_Mt yX10_count cX10_count 2 (some .int) 1 := ⟨gx_mem 969 (by decide +kernel) (by decide +kernel), gx_mem 78 (by decide +kernel) (by decide +kernel), by decide +kernel, by decide⟩
theorem kc_RL_151 : gx_MV RL 151 yX10_count cX10_count 2 (some .int) 1 := ⟨kt_X10_count, gx_mem 966 (by decide +kernel) (by decide +kernel), gx_mem 967 (by decide +kernel) (by decide +kernel), gx_mem 968 (by decide +kernel) (by decide +kernel)⟩
theorem kt_X11_count : gx_Mt yX11_count cX11_count 2 (some .int) 1 := ⟨gx_mem 1391 (by decide +kernel) (by decide +kernel), gx_mem 88 (by decide +kernel) (by decide +kernel), by decide +kernel, by decide⟩
theorem kc_RL_154 : gx_MV RL 154 yX11_count cX11_count 2 (some .int) 1 := ⟨kt_X11_count, gx_mem 1388 (by decide +kernel) (by decide +kernel), gx_mem 1389 (by decide +kernel) (by decide +kernel), gx_mem 1390 (by decide +kernel) (by decide +kernel)⟩
theorem kt_X10_digest : gx_Mt yX10_digest cX10_digest 4 (some .long) 0 := ⟨gx_mem 985 (by decide +kernel) (by decide +kernel), gx_mem 78 (by decide +kernel) (by decide +kernel), by decide +kernel, by decide⟩
theorem kc_RL_155 : gx_MV RL 155 yX10_digest cX10_digest 4 (some .long) 0 := ⟨kt_X10_digest, gx_mem 982 (by decide +kernel) (by decide +kernel), gx_mem 983 (by decide +kernel) (by decide +kernel), gx_mem 984 (by decide +kernel) (by decide +kernel)⟩
theorem kt_X11_digest : gx_Mt yX11_digest cX11_digest 2 (some .long) 0 := ⟨gx_mem 1403 (by decide +kernel) (by decide +kernel), gx_mem 88 (by decide +kernel) (by decide +kernel), by decide +kernel, by decide⟩
theorem kc_RL_159 : gx_MV RL 159 yX11_digest cX11_digest 2 (some .long) 0 := ⟨kt_X11_digest, gx_mem 1400 (by decide +kernel) (by decide +kernel), gx_mem 1401 (by decide +kernel) (by decide +kernel), gx_mem 1402 (by decide +kernel) (by decide +kernel)⟩
