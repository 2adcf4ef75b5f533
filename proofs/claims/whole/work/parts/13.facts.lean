/-! ===== words: classes, fields, links, constants ===== -/
theorem in_t1 : ∀ w ∈ tables_1_1, w ∈ lw_tbl := fun w h => List.mem_append_right _ (List.mem_append_left _ h)
theorem in_t2 : ∀ w ∈ tables_1_2, w ∈ lw_tbl := fun w h => List.mem_append_right _ (List.mem_append_right _ (List.mem_append_left _ h))
theorem in_t3 : ∀ w ∈ tables_1_3, w ∈ lw_tbl := fun w h => List.mem_append_right _ (List.mem_append_right _ (List.mem_append_right _ (List.mem_append_left _ h)))
theorem in_t4 : ∀ w ∈ tables_1_4, w ∈ lw_tbl := fun w h => List.mem_append_right _ (List.mem_append_right _ (List.mem_append_right _ (List.mem_append_right _ (List.mem_append_left _ h))))
theorem in_t5 : ∀ w ∈ tables_1_5, w ∈ lw_tbl := fun w h => List.mem_append_right _ (List.mem_append_right _ (List.mem_append_right _ (List.mem_append_right _ (List.mem_append_right _ (List.mem_append_left _ h)))))
theorem in_t6 : ∀ w ∈ tables_1_6, w ∈ lw_tbl := fun w h => List.mem_append_right _ (List.mem_append_right _ (List.mem_append_right _ (List.mem_append_right _ (List.mem_append_right _ (List.mem_append_right _ (List.mem_append_left _ h))))))
theorem in_t7 : ∀ w ∈ tables_1_7, w ∈ lw_tbl := fun w h => List.mem_append_right _ (List.mem_append_right _ (List.mem_append_right _ (List.mem_append_right _ (List.mem_append_right _ (List.mem_append_right _ (List.mem_append_right _ (List.mem_append_left _ h)))))))
theorem in_t8 : ∀ w ∈ tables_1_8, w ∈ lw_tbl := fun w h => List.mem_append_right _ (List.mem_append_right _ (List.mem_append_right _ (List.mem_append_right _ (List.mem_append_right _ (List.mem_append_right _ (List.mem_append_right _ (List.mem_append_right _ (List.mem_append_left _ h))))))))
theorem in_t9 : ∀ w ∈ tables_1_9, w ∈ lw_tbl := fun w h => List.mem_append_right _ (List.mem_append_right _ (List.mem_append_right _ (List.mem_append_right _ (List.mem_append_right _ (List.mem_append_right _ (List.mem_append_right _ (List.mem_append_right _ (List.mem_append_right _ (h)))))))))
theorem in_p1 : ∀ q ∈ lw_privs_1, Cond.selects q.1.cls q.1 q.1 ∈ lw_tbl := fun q h => List.mem_append_left _ (List.mem_map.mpr ⟨q, List.mem_append_left _ h, rfl⟩)
theorem in_p2 : ∀ q ∈ lw_privs_2, Cond.selects q.1.cls q.1 q.1 ∈ lw_tbl := fun q h => List.mem_append_left _ (List.mem_map.mpr ⟨q, List.mem_append_right _ (List.mem_append_left _ h), rfl⟩)
theorem in_p3 : ∀ q ∈ lw_privs_3, Cond.selects q.1.cls q.1 q.1 ∈ lw_tbl := fun q h => List.mem_append_left _ (List.mem_map.mpr ⟨q, List.mem_append_right _ (List.mem_append_right _ (List.mem_append_left _ h)), rfl⟩)
theorem in_p4 : ∀ q ∈ lw_privs_4, Cond.selects q.1.cls q.1 q.1 ∈ lw_tbl := fun q h => List.mem_append_left _ (List.mem_map.mpr ⟨q, List.mem_append_right _ (List.mem_append_right _ (List.mem_append_right _ (List.mem_append_left _ h))), rfl⟩)
theorem in_p5 : ∀ q ∈ lw_privs_5, Cond.selects q.1.cls q.1 q.1 ∈ lw_tbl := fun q h => List.mem_append_left _ (List.mem_map.mpr ⟨q, List.mem_append_right _ (List.mem_append_right _ (List.mem_append_right _ (List.mem_append_right _ (List.mem_append_left _ h)))), rfl⟩)
theorem in_p6 : ∀ q ∈ lw_privs_6, Cond.selects q.1.cls q.1 q.1 ∈ lw_tbl := fun q h => List.mem_append_left _ (List.mem_map.mpr ⟨q, List.mem_append_right _ (List.mem_append_right _ (List.mem_append_right _ (List.mem_append_right _ (List.mem_append_right _ (h))))), rfl⟩)
set_option maxRecDepth 100000 in
theorem kw_0 : ∀ w ∈ u_ws RX0 TX0 9, w ∈ xm_tb := by decide +kernel
theorem kl_0 : xm_Kl 0 RX0 TX0 9 := ⟨by decide, rfl, kw_0, rfl, fun k hk => tyX0_ok k hk, nmX0⟩
set_option maxRecDepth 100000 in
theorem kw_1 : ∀ w ∈ u_ws RX1 TX1 10, w ∈ xm_tb := by decide +kernel
theorem kl_1 : xm_Kl 1 RX1 TX1 10 := ⟨by decide, rfl, kw_1, rfl, fun k hk => tyX1_ok k hk, nmX1⟩
set_option maxRecDepth 100000 in
theorem kw_2 : ∀ w ∈ u_ws RX2 TX2 11, w ∈ xm_tb := by decide +kernel
theorem kl_2 : xm_Kl 2 RX2 TX2 11 := ⟨by decide, rfl, kw_2, rfl, fun k hk => tyX2_ok k hk, nmX2⟩
set_option maxRecDepth 100000 in
theorem kw_3 : ∀ w ∈ u_ws RX3 TX3 4, w ∈ xm_tb := by decide +kernel
theorem kl_3 : xm_Kl 3 RX3 TX3 4 := ⟨by decide, rfl, kw_3, rfl, fun k hk => tyX3_ok k hk, nmX3⟩
set_option maxRecDepth 100000 in
theorem kw_4 : ∀ w ∈ u_ws RX4 TX4 8, w ∈ xm_tb := by decide +kernel
theorem kl_4 : xm_Kl 4 RX4 TX4 8 := ⟨by decide, rfl, kw_4, rfl, fun k hk => tyX4_ok k hk, nmX4⟩
set_option maxRecDepth 100000 in
theorem kw_5 : ∀ w ∈ u_ws RX5 TX5 7, w ∈ xm_tb := by decide +kernel
theorem kl_5 : xm_Kl 5 RX5 TX5 7 := ⟨by decide, rfl, kw_5, rfl, fun k hk => tyX5_ok k hk, nmX5⟩
set_option maxRecDepth 100000 in
theorem kw_6 : ∀ w ∈ u_ws RX6 TX6 14, w ∈ xm_tb := by decide +kernel
theorem kl_6 : xm_Kl 6 RX6 TX6 14 := ⟨by decide, rfl, kw_6, rfl, fun k hk => tyX6_ok k hk, nmX6⟩
set_option maxRecDepth 100000 in
theorem kw_7 : ∀ w ∈ u_ws RX7 TX7 16, w ∈ xm_tb := by decide +kernel
theorem kl_7 : xm_Kl 7 RX7 TX7 16 := ⟨by decide, rfl, kw_7, rfl, fun k hk => tyX7_ok k hk, nmX7⟩
set_option maxRecDepth 100000 in
theorem kw_8 : ∀ w ∈ u_ws RX8 TX8 6, w ∈ xm_tb := by decide +kernel
theorem kl_8 : xm_Kl 8 RX8 TX8 6 := ⟨by decide, rfl, kw_8, rfl, fun k hk => tyX8_ok k hk, nmX8⟩
set_option maxRecDepth 100000 in
theorem kw_9 : ∀ w ∈ u_ws RX9 TX9 11, w ∈ xm_tb := by decide +kernel
theorem kl_9 : xm_Kl 9 RX9 TX9 11 := ⟨by decide, rfl, kw_9, rfl, fun k hk => tyX9_ok k hk, nmX9⟩
set_option maxRecDepth 100000 in
theorem kw_10 : ∀ w ∈ u_ws RX10 TX10 3, w ∈ xm_tb := by decide +kernel
theorem kl_10 : xm_Kl 10 RX10 TX10 3 := ⟨by decide, rfl, kw_10, rfl, fun k hk => tyX10_ok k hk, nmX10⟩
set_option maxRecDepth 100000 in
theorem kw_11 : ∀ w ∈ u_ws RX11 TX11 10, w ∈ xm_tb := by decide +kernel
theorem kl_11 : xm_Kl 11 RX11 TX11 10 := ⟨by decide, rfl, kw_11, rfl, fun k hk => tyX11_ok k hk, nmX11⟩
set_option maxRecDepth 100000 in
theorem kw_12 : ∀ w ∈ u_ws RX12 TX12 78, w ∈ xm_tb := by decide +kernel
theorem kl_12 : xm_Kl 12 RX12 TX12 78 := ⟨by decide, rfl, kw_12, rfl, fun k hk => tyX12_ok k hk, nmX12⟩
theorem fl_D_10 : xm_Fl RX11 10 11 0 (.object "DrawLabels$Points") true := ⟨RX11, TX11, 10, kl_11, by decide, xm_tb_in (in_t2 _ (List.mem_of_getElem? (i := 167) rfl)) rfl, rfl, rfl, rfl⟩
theorem fl_D_21 : xm_Fl RX11 21 11 1 (.object "DrawLabels$Figures") true := ⟨RX11, TX11, 10, kl_11, by decide, xm_tb_in (in_t2 _ (List.mem_of_getElem? (i := 168) rfl)) rfl, rfl, rfl, rfl⟩
theorem fl_D_28 : xm_Fl RX11 28 11 2 (.object "DrawLabels$Frame") true := ⟨RX11, TX11, 10, kl_11, by decide, xm_tb_in (in_t2 _ (List.mem_of_getElem? (i := 169) rfl)) rfl, rfl, rfl, rfl⟩
theorem fl_D_35 : xm_Fl RX11 35 11 3 (.object "DrawLabels$Solids") true := ⟨RX11, TX11, 10, kl_11, by decide, xm_tb_in (in_t2 _ (List.mem_of_getElem? (i := 170) rfl)) rfl, rfl, rfl, rfl⟩
theorem fl_D_42 : xm_Fl RX11 42 11 4 (.object "DrawLabels$Marks") true := ⟨RX11, TX11, 10, kl_11, by decide, xm_tb_in (in_t2 _ (List.mem_of_getElem? (i := 171) rfl)) rfl, rfl, rfl, rfl⟩
theorem fl_D_49 : xm_Fl RX11 49 11 5 (.object "DrawLabels$Labels") true := ⟨RX11, TX11, 10, kl_11, by decide, xm_tb_in (in_t2 _ (List.mem_of_getElem? (i := 172) rfl)) rfl, rfl, rfl, rfl⟩
theorem fl_D_56 : xm_Fl RX11 56 11 6 (.object "DrawLabels$Groups") true := ⟨RX11, TX11, 10, kl_11, by decide, xm_tb_in (in_t2 _ (List.mem_of_getElem? (i := 173) rfl)) rfl, rfl, rfl, rfl⟩
theorem fl_D_65 : xm_Fl RX11 65 11 7 (.object "DrawLabels$Painter") true := ⟨RX11, TX11, 10, kl_11, by decide, xm_tb_in (in_t2 _ (List.mem_of_getElem? (i := 174) rfl)) rfl, rfl, rfl, rfl⟩
theorem fl_D_74 : xm_Fl RX11 74 11 8 (.object "DrawLabels$Placer") true := ⟨RX11, TX11, 10, kl_11, by decide, xm_tb_in (in_t2 _ (List.mem_of_getElem? (i := 175) rfl)) rfl, rfl, rfl, rfl⟩
theorem fl_D_78 : xm_Fl RX11 78 11 9 (.int) false := ⟨RX11, TX11, 10, kl_11, by decide, xm_tb_in (in_t2 _ (List.mem_of_getElem? (i := 176) rfl)) rfl, rfl, rfl, rfl⟩
theorem fl_D_105 : xm_Fl RX11 105 8 5 (.int) false := ⟨RX8, TX8, 6, kl_8, by decide, xm_tb_in (in_t1 _ (List.mem_of_getElem? (i := 37) rfl)) rfl, rfl, rfl, rfl⟩
theorem fl_D_125 : xm_Fl RX11 125 1 8 (.int) false := ⟨RX1, TX1, 10, kl_1, by decide, xm_tb_in (in_t1 _ (List.mem_of_getElem? (i := 68) rfl)) rfl, rfl, rfl, rfl⟩
theorem fl_D_166 : xm_Fl RX11 166 1 9 (.int) false := ⟨RX1, TX1, 10, kl_1, by decide, xm_tb_in (in_t1 _ (List.mem_of_getElem? (i := 71) rfl)) rfl, rfl, rfl, rfl⟩
theorem fl_D_186 : xm_Fl RX11 186 2 0 (.int) false := ⟨RX2, TX2, 11, kl_2, by decide, xm_tb_in (in_t1 _ (List.mem_of_getElem? (i := 103) rfl)) rfl, rfl, rfl, rfl⟩
theorem fl_D_189 : xm_Fl RX11 189 2 1 (.int) false := ⟨RX2, TX2, 11, kl_2, by decide, xm_tb_in (in_t1 _ (List.mem_of_getElem? (i := 107) rfl)) rfl, rfl, rfl, rfl⟩
theorem fl_D_192 : xm_Fl RX11 192 2 2 (.int) false := ⟨RX2, TX2, 11, kl_2, by decide, xm_tb_in (in_t1 _ (List.mem_of_getElem? (i := 111) rfl)) rfl, rfl, rfl, rfl⟩
theorem fl_D_195 : xm_Fl RX11 195 2 3 (.int) false := ⟨RX2, TX2, 11, kl_2, by decide, xm_tb_in (in_t1 _ (List.mem_of_getElem? (i := 115) rfl)) rfl, rfl, rfl, rfl⟩
theorem fl_D_201 : xm_Fl RX11 201 2 7 (.int) false := ⟨RX2, TX2, 11, kl_2, by decide, xm_tb_in (in_t1 _ (List.mem_of_getElem? (i := 125) rfl)) rfl, rfl, rfl, rfl⟩
theorem fl_D_204 : xm_Fl RX11 204 2 8 (.int) false := ⟨RX2, TX2, 11, kl_2, by decide, xm_tb_in (in_t1 _ (List.mem_of_getElem? (i := 128) rfl)) rfl, rfl, rfl, rfl⟩
theorem fl_D_213 : xm_Fl RX11 213 2 9 (.int) false := ⟨RX2, TX2, 11, kl_2, by decide, xm_tb_in (in_t1 _ (List.mem_of_getElem? (i := 130) rfl)) rfl, rfl, rfl, rfl⟩
theorem fl_D_216 : xm_Fl RX11 216 2 10 (.int) false := ⟨RX2, TX2, 11, kl_2, by decide, xm_tb_in (in_t1 _ (List.mem_of_getElem? (i := 132) rfl)) rfl, rfl, rfl, rfl⟩
theorem fl_D_266 : xm_Fl RX11 266 10 2 (.int) false := ⟨RX10, TX10, 3, kl_10, by decide, xm_tb_in (in_t1 _ (List.mem_of_getElem? (i := 168) rfl)) rfl, rfl, rfl, rfl⟩
theorem fl_D_314 : xm_Fl RX11 314 5 4 (.int) false := ⟨RX5, TX5, 7, kl_5, by decide, xm_tb_in (in_t1 _ (List.mem_of_getElem? (i := 190) rfl)) rfl, rfl, rfl, rfl⟩
theorem fl_D_326 : xm_Fl RX11 326 5 6 (.int) false := ⟨RX5, TX5, 7, kl_5, by decide, xm_tb_in (in_t1 _ (List.mem_of_getElem? (i := 194) rfl)) rfl, rfl, rfl, rfl⟩
theorem fl_D_329 : xm_Fl RX11 329 8 4 (.int) false := ⟨RX8, TX8, 6, kl_8, by decide, xm_tb_in (in_t1 _ (List.mem_of_getElem? (i := 36) rfl)) rfl, rfl, rfl, rfl⟩
theorem fl_D_330 : xm_Fl RX11 330 10 1 (.int) false := ⟨RX10, TX10, 3, kl_10, by decide, xm_tb_in (in_t1 _ (List.mem_of_getElem? (i := 167) rfl)) rfl, rfl, rfl, rfl⟩
theorem fl_D_331 : xm_Fl RX11 331 4 3 (.int) false := ⟨RX4, TX4, 8, kl_4, by decide, xm_tb_in (in_t1 _ (List.mem_of_getElem? (i := 221) rfl)) rfl, rfl, rfl, rfl⟩
theorem fl_D_332 : xm_Fl RX11 332 5 5 (.int) false := ⟨RX5, TX5, 7, kl_5, by decide, xm_tb_in (in_t1 _ (List.mem_of_getElem? (i := 192) rfl)) rfl, rfl, rfl, rfl⟩
theorem fl_D_338 : xm_Fl RX11 338 4 5 (.int) false := ⟨RX4, TX4, 8, kl_4, by decide, xm_tb_in (in_t1 _ (List.mem_of_getElem? (i := 224) rfl)) rfl, rfl, rfl, rfl⟩
theorem fl_D_341 : xm_Fl RX11 341 4 6 (.int) false := ⟨RX4, TX4, 8, kl_4, by decide, xm_tb_in (in_t1 _ (List.mem_of_getElem? (i := 226) rfl)) rfl, rfl, rfl, rfl⟩
theorem fl_D_344 : xm_Fl RX11 344 4 7 (.int) false := ⟨RX4, TX4, 8, kl_4, by decide, xm_tb_in (in_t1 _ (List.mem_of_getElem? (i := 229) rfl)) rfl, rfl, rfl, rfl⟩
theorem fl_Cu_7 : xm_Fl RX0 7 0 0 (.object "DrawLabels$Frame") true := ⟨RX0, TX0, 9, kl_0, by decide, xm_tb_in (in_t2 _ (List.mem_of_getElem? (i := 38) rfl)) rfl, rfl, rfl, rfl⟩
theorem fl_Cu_13 : xm_Fl RX0 13 0 1 (.int) false := ⟨RX0, TX0, 9, kl_0, by decide, xm_tb_in (in_t2 _ (List.mem_of_getElem? (i := 39) rfl)) rfl, rfl, rfl, rfl⟩
theorem fl_Cu_17 : xm_Fl RX0 17 0 2 (.int) false := ⟨RX0, TX0, 9, kl_0, by decide, xm_tb_in (in_t2 _ (List.mem_of_getElem? (i := 40) rfl)) rfl, rfl, rfl, rfl⟩
theorem fl_Cu_20 : xm_Fl RX0 20 0 3 (.int) false := ⟨RX0, TX0, 9, kl_0, by decide, xm_tb_in (in_t2 _ (List.mem_of_getElem? (i := 41) rfl)) rfl, rfl, rfl, rfl⟩
theorem fl_Cu_23 : xm_Fl RX0 23 0 4 (.int) false := ⟨RX0, TX0, 9, kl_0, by decide, xm_tb_in (in_t2 _ (List.mem_of_getElem? (i := 43) rfl)) rfl, rfl, rfl, rfl⟩
theorem fl_Cu_30 : xm_Fl RX0 30 0 5 (.long) false := ⟨RX0, TX0, 9, kl_0, by decide, xm_tb_in (in_t2 _ (List.mem_of_getElem? (i := 45) rfl)) rfl, rfl, rfl, rfl⟩
theorem fl_Cu_34 : xm_Fl RX0 34 0 6 (.long) false := ⟨RX0, TX0, 9, kl_0, by decide, xm_tb_in (in_t2 _ (List.mem_of_getElem? (i := 46) rfl)) rfl, rfl, rfl, rfl⟩
theorem fl_Cu_39 : xm_Fl RX0 39 0 7 (.long) false := ⟨RX0, TX0, 9, kl_0, by decide, xm_tb_in (in_t2 _ (List.mem_of_getElem? (i := 47) rfl)) rfl, rfl, rfl, rfl⟩
theorem fl_Cu_42 : xm_Fl RX0 42 0 8 (.long) false := ⟨RX0, TX0, 9, kl_0, by decide, xm_tb_in (in_t2 _ (List.mem_of_getElem? (i := 48) rfl)) rfl, rfl, rfl, rfl⟩
theorem fl_Cu_45 : xm_Fl RX0 45 2 0 (.int) false := ⟨RX2, TX2, 11, kl_2, by decide, xm_tb_in (in_t1 _ (List.mem_of_getElem? (i := 101) rfl)) rfl, rfl, rfl, rfl⟩
theorem fl_Cu_50 : xm_Fl RX0 50 2 1 (.int) false := ⟨RX2, TX2, 11, kl_2, by decide, xm_tb_in (in_t1 _ (List.mem_of_getElem? (i := 105) rfl)) rfl, rfl, rfl, rfl⟩
theorem fl_Cu_57 : xm_Fl RX0 57 2 2 (.int) false := ⟨RX2, TX2, 11, kl_2, by decide, xm_tb_in (in_t1 _ (List.mem_of_getElem? (i := 109) rfl)) rfl, rfl, rfl, rfl⟩
theorem fl_Cu_60 : xm_Fl RX0 60 2 3 (.int) false := ⟨RX2, TX2, 11, kl_2, by decide, xm_tb_in (in_t1 _ (List.mem_of_getElem? (i := 113) rfl)) rfl, rfl, rfl, rfl⟩
theorem fl_Fg_11 : xm_Fl RX1 11 1 1 (.array .int) true := ⟨RX1, TX1, 10, kl_1, by decide, xm_tb_in (in_t1 _ (List.mem_of_getElem? (i := 60) rfl)) rfl, rfl, rfl, rfl⟩
theorem fl_Fg_15 : xm_Fl RX1 15 1 2 (.array .int) true := ⟨RX1, TX1, 10, kl_1, by decide, xm_tb_in (in_t1 _ (List.mem_of_getElem? (i := 61) rfl)) rfl, rfl, rfl, rfl⟩
theorem fl_Fg_18 : xm_Fl RX1 18 1 3 (.array .int) true := ⟨RX1, TX1, 10, kl_1, by decide, xm_tb_in (in_t1 _ (List.mem_of_getElem? (i := 62) rfl)) rfl, rfl, rfl, rfl⟩
theorem fl_Fg_21 : xm_Fl RX1 21 1 4 (.array .int) true := ⟨RX1, TX1, 10, kl_1, by decide, xm_tb_in (in_t1 _ (List.mem_of_getElem? (i := 63) rfl)) rfl, rfl, rfl, rfl⟩
theorem fl_Fg_24 : xm_Fl RX1 24 1 5 (.array .int) true := ⟨RX1, TX1, 10, kl_1, by decide, xm_tb_in (in_t1 _ (List.mem_of_getElem? (i := 64) rfl)) rfl, rfl, rfl, rfl⟩
theorem fl_Fg_27 : xm_Fl RX1 27 1 6 (.array .boolean) true := ⟨RX1, TX1, 10, kl_1, by decide, xm_tb_in (in_t1 _ (List.mem_of_getElem? (i := 65) rfl)) rfl, rfl, rfl, rfl⟩
theorem fl_Fg_31 : xm_Fl RX1 31 1 7 (.array .int) true := ⟨RX1, TX1, 10, kl_1, by decide, xm_tb_in (in_t1 _ (List.mem_of_getElem? (i := 66) rfl)) rfl, rfl, rfl, rfl⟩
theorem fl_Fg_34 : xm_Fl RX1 34 1 0 (.object "DrawLabels$Points") true := ⟨RX1, TX1, 10, kl_1, by decide, xm_tb_in (in_t1 _ (List.mem_of_getElem? (i := 59) rfl)) rfl, rfl, rfl, rfl⟩
theorem fl_Fg_38 : xm_Fl RX1 38 1 9 (.int) false := ⟨RX1, TX1, 10, kl_1, by decide, xm_tb_in (in_t1 _ (List.mem_of_getElem? (i := 69) rfl)) rfl, rfl, rfl, rfl⟩
theorem fl_Fg_42 : xm_Fl RX1 42 1 8 (.int) false := ⟨RX1, TX1, 10, kl_1, by decide, xm_tb_in (in_t1 _ (List.mem_of_getElem? (i := 67) rfl)) rfl, rfl, rfl, rfl⟩
theorem fl_Fr_7 : xm_Fl RX2 7 2 0 (.int) false := ⟨RX2, TX2, 11, kl_2, by decide, xm_tb_in (in_t1 _ (List.mem_of_getElem? (i := 100) rfl)) rfl, rfl, rfl, rfl⟩
theorem fl_Fr_13 : xm_Fl RX2 13 2 1 (.int) false := ⟨RX2, TX2, 11, kl_2, by decide, xm_tb_in (in_t1 _ (List.mem_of_getElem? (i := 104) rfl)) rfl, rfl, rfl, rfl⟩
theorem fl_Fr_16 : xm_Fl RX2 16 2 2 (.int) false := ⟨RX2, TX2, 11, kl_2, by decide, xm_tb_in (in_t1 _ (List.mem_of_getElem? (i := 108) rfl)) rfl, rfl, rfl, rfl⟩
theorem fl_Fr_19 : xm_Fl RX2 19 2 3 (.int) false := ⟨RX2, TX2, 11, kl_2, by decide, xm_tb_in (in_t1 _ (List.mem_of_getElem? (i := 112) rfl)) rfl, rfl, rfl, rfl⟩
theorem fl_Fr_22 : xm_Fl RX2 22 2 4 (.int) false := ⟨RX2, TX2, 11, kl_2, by decide, xm_tb_in (in_t1 _ (List.mem_of_getElem? (i := 116) rfl)) rfl, rfl, rfl, rfl⟩
theorem fl_Fr_25 : xm_Fl RX2 25 2 5 (.int) false := ⟨RX2, TX2, 11, kl_2, by decide, xm_tb_in (in_t1 _ (List.mem_of_getElem? (i := 119) rfl)) rfl, rfl, rfl, rfl⟩
theorem fl_Fr_28 : xm_Fl RX2 28 2 6 (.int) false := ⟨RX2, TX2, 11, kl_2, by decide, xm_tb_in (in_t1 _ (List.mem_of_getElem? (i := 122) rfl)) rfl, rfl, rfl, rfl⟩
theorem fl_Fr_31 : xm_Fl RX2 31 2 7 (.int) false := ⟨RX2, TX2, 11, kl_2, by decide, xm_tb_in (in_t1 _ (List.mem_of_getElem? (i := 123) rfl)) rfl, rfl, rfl, rfl⟩
theorem fl_Fr_34 : xm_Fl RX2 34 2 8 (.int) false := ⟨RX2, TX2, 11, kl_2, by decide, xm_tb_in (in_t1 _ (List.mem_of_getElem? (i := 126) rfl)) rfl, rfl, rfl, rfl⟩
theorem fl_Fr_37 : xm_Fl RX2 37 2 9 (.int) false := ⟨RX2, TX2, 11, kl_2, by decide, xm_tb_in (in_t1 _ (List.mem_of_getElem? (i := 129) rfl)) rfl, rfl, rfl, rfl⟩
theorem fl_Fr_40 : xm_Fl RX2 40 2 10 (.int) false := ⟨RX2, TX2, 11, kl_2, by decide, xm_tb_in (in_t1 _ (List.mem_of_getElem? (i := 131) rfl)) rfl, rfl, rfl, rfl⟩
theorem fl_Gr_11 : xm_Fl RX3 11 3 0 (.array .boolean) true := ⟨RX3, TX3, 4, kl_3, by decide, xm_tb_in (in_t2 _ (List.mem_of_getElem? (i := 13) rfl)) rfl, rfl, rfl, rfl⟩
theorem fl_Gr_15 : xm_Fl RX3 15 3 1 (.array .int) true := ⟨RX3, TX3, 4, kl_3, by decide, xm_tb_in (in_t2 _ (List.mem_of_getElem? (i := 14) rfl)) rfl, rfl, rfl, rfl⟩
theorem fl_Gr_19 : xm_Fl RX3 19 3 2 (.array .int) true := ⟨RX3, TX3, 4, kl_3, by decide, xm_tb_in (in_t2 _ (List.mem_of_getElem? (i := 15) rfl)) rfl, rfl, rfl, rfl⟩
theorem fl_Gr_22 : xm_Fl RX3 22 3 3 (.array .int) true := ⟨RX3, TX3, 4, kl_3, by decide, xm_tb_in (in_t2 _ (List.mem_of_getElem? (i := 16) rfl)) rfl, rfl, rfl, rfl⟩
theorem fl_Lb_11 : xm_Fl RX4 11 4 0 (.array .int) true := ⟨RX4, TX4, 8, kl_4, by decide, xm_tb_in (in_t1 _ (List.mem_of_getElem? (i := 216) rfl)) rfl, rfl, rfl, rfl⟩
theorem fl_Lb_15 : xm_Fl RX4 15 4 1 (.array .int) true := ⟨RX4, TX4, 8, kl_4, by decide, xm_tb_in (in_t1 _ (List.mem_of_getElem? (i := 217) rfl)) rfl, rfl, rfl, rfl⟩
theorem fl_Lb_18 : xm_Fl RX4 18 4 2 (.array .int) true := ⟨RX4, TX4, 8, kl_4, by decide, xm_tb_in (in_t1 _ (List.mem_of_getElem? (i := 218) rfl)) rfl, rfl, rfl, rfl⟩
theorem fl_Lb_21 : xm_Fl RX4 21 4 3 (.int) false := ⟨RX4, TX4, 8, kl_4, by decide, xm_tb_in (in_t1 _ (List.mem_of_getElem? (i := 219) rfl)) rfl, rfl, rfl, rfl⟩
theorem fl_Lb_34 : xm_Fl RX4 34 4 4 (.int) false := ⟨RX4, TX4, 8, kl_4, by decide, xm_tb_in (in_t1 _ (List.mem_of_getElem? (i := 222) rfl)) rfl, rfl, rfl, rfl⟩
theorem fl_Lb_37 : xm_Fl RX4 37 4 5 (.int) false := ⟨RX4, TX4, 8, kl_4, by decide, xm_tb_in (in_t1 _ (List.mem_of_getElem? (i := 223) rfl)) rfl, rfl, rfl, rfl⟩
theorem fl_Lb_40 : xm_Fl RX4 40 4 6 (.int) false := ⟨RX4, TX4, 8, kl_4, by decide, xm_tb_in (in_t1 _ (List.mem_of_getElem? (i := 225) rfl)) rfl, rfl, rfl, rfl⟩
theorem fl_Lb_43 : xm_Fl RX4 43 4 7 (.int) false := ⟨RX4, TX4, 8, kl_4, by decide, xm_tb_in (in_t1 _ (List.mem_of_getElem? (i := 228) rfl)) rfl, rfl, rfl, rfl⟩
theorem fl_Mk_11 : xm_Fl RX5 11 5 0 (.array .int) true := ⟨RX5, TX5, 7, kl_5, by decide, xm_tb_in (in_t1 _ (List.mem_of_getElem? (i := 183) rfl)) rfl, rfl, rfl, rfl⟩
theorem fl_Mk_15 : xm_Fl RX5 15 5 1 (.array .int) true := ⟨RX5, TX5, 7, kl_5, by decide, xm_tb_in (in_t1 _ (List.mem_of_getElem? (i := 184) rfl)) rfl, rfl, rfl, rfl⟩
theorem fl_Mk_18 : xm_Fl RX5 18 5 2 (.array .int) true := ⟨RX5, TX5, 7, kl_5, by decide, xm_tb_in (in_t1 _ (List.mem_of_getElem? (i := 185) rfl)) rfl, rfl, rfl, rfl⟩
theorem fl_Mk_21 : xm_Fl RX5 21 5 6 (.int) false := ⟨RX5, TX5, 7, kl_5, by decide, xm_tb_in (in_t1 _ (List.mem_of_getElem? (i := 193) rfl)) rfl, rfl, rfl, rfl⟩
theorem fl_Mk_25 : xm_Fl RX5 25 5 4 (.int) false := ⟨RX5, TX5, 7, kl_5, by decide, xm_tb_in (in_t1 _ (List.mem_of_getElem? (i := 187) rfl)) rfl, rfl, rfl, rfl⟩
theorem fl_Mk_28 : xm_Fl RX5 28 5 5 (.int) false := ⟨RX5, TX5, 7, kl_5, by decide, xm_tb_in (in_t1 _ (List.mem_of_getElem? (i := 191) rfl)) rfl, rfl, rfl, rfl⟩
theorem fl_Mk_46 : xm_Fl RX5 46 5 3 (.int) false := ⟨RX5, TX5, 7, kl_5, by decide, xm_tb_in (in_t1 _ (List.mem_of_getElem? (i := 186) rfl)) rfl, rfl, rfl, rfl⟩
theorem fl_Pn_9 : xm_Fl RX6 9 6 5 (.array .boolean) true := ⟨RX6, TX6, 14, kl_6, by decide, xm_tb_in (in_t2 _ (List.mem_of_getElem? (i := 74) rfl)) rfl, rfl, rfl, rfl⟩
theorem fl_Pn_15 : xm_Fl RX6 15 6 6 (.array .int) true := ⟨RX6, TX6, 14, kl_6, by decide, xm_tb_in (in_t2 _ (List.mem_of_getElem? (i := 75) rfl)) rfl, rfl, rfl, rfl⟩
theorem fl_Pn_19 : xm_Fl RX6 19 6 7 (.array .int) true := ⟨RX6, TX6, 14, kl_6, by decide, xm_tb_in (in_t2 _ (List.mem_of_getElem? (i := 76) rfl)) rfl, rfl, rfl, rfl⟩
theorem fl_Pn_22 : xm_Fl RX6 22 6 8 (.array .int) true := ⟨RX6, TX6, 14, kl_6, by decide, xm_tb_in (in_t2 _ (List.mem_of_getElem? (i := 77) rfl)) rfl, rfl, rfl, rfl⟩
theorem fl_Pn_25 : xm_Fl RX6 25 6 9 (.array .int) true := ⟨RX6, TX6, 14, kl_6, by decide, xm_tb_in (in_t2 _ (List.mem_of_getElem? (i := 78) rfl)) rfl, rfl, rfl, rfl⟩
theorem fl_Pn_28 : xm_Fl RX6 28 6 10 (.array .long) true := ⟨RX6, TX6, 14, kl_6, by decide, xm_tb_in (in_t2 _ (List.mem_of_getElem? (i := 79) rfl)) rfl, rfl, rfl, rfl⟩
theorem fl_Pn_32 : xm_Fl RX6 32 6 11 (.array .long) true := ⟨RX6, TX6, 14, kl_6, by decide, xm_tb_in (in_t2 _ (List.mem_of_getElem? (i := 80) rfl)) rfl, rfl, rfl, rfl⟩
theorem fl_Pn_35 : xm_Fl RX6 35 6 0 (.object "DrawLabels$Figures") true := ⟨RX6, TX6, 14, kl_6, by decide, xm_tb_in (in_t2 _ (List.mem_of_getElem? (i := 69) rfl)) rfl, rfl, rfl, rfl⟩
theorem fl_Pn_39 : xm_Fl RX6 39 6 1 (.object "DrawLabels$Points") true := ⟨RX6, TX6, 14, kl_6, by decide, xm_tb_in (in_t2 _ (List.mem_of_getElem? (i := 70) rfl)) rfl, rfl, rfl, rfl⟩
theorem fl_Pn_43 : xm_Fl RX6 43 6 2 (.object "DrawLabels$Frame") true := ⟨RX6, TX6, 14, kl_6, by decide, xm_tb_in (in_t2 _ (List.mem_of_getElem? (i := 71) rfl)) rfl, rfl, rfl, rfl⟩
theorem fl_Pn_47 : xm_Fl RX6 47 6 3 (.object "DrawLabels$Marks") true := ⟨RX6, TX6, 14, kl_6, by decide, xm_tb_in (in_t2 _ (List.mem_of_getElem? (i := 72) rfl)) rfl, rfl, rfl, rfl⟩
theorem fl_Pn_56 : xm_Fl RX6 56 6 4 (.object "DrawLabels$Cutter") true := ⟨RX6, TX6, 14, kl_6, by decide, xm_tb_in (in_t2 _ (List.mem_of_getElem? (i := 73) rfl)) rfl, rfl, rfl, rfl⟩
theorem fl_Pn_65 : xm_Fl RX6 65 2 4 (.int) false := ⟨RX2, TX2, 11, kl_2, by decide, xm_tb_in (in_t1 _ (List.mem_of_getElem? (i := 117) rfl)) rfl, rfl, rfl, rfl⟩
theorem fl_Pn_71 : xm_Fl RX6 71 2 5 (.int) false := ⟨RX2, TX2, 11, kl_2, by decide, xm_tb_in (in_t1 _ (List.mem_of_getElem? (i := 120) rfl)) rfl, rfl, rfl, rfl⟩
theorem fl_Pn_82 : xm_Fl RX6 82 2 7 (.int) false := ⟨RX2, TX2, 11, kl_2, by decide, xm_tb_in (in_t1 _ (List.mem_of_getElem? (i := 124) rfl)) rfl, rfl, rfl, rfl⟩
theorem fl_Pn_85 : xm_Fl RX6 85 2 0 (.int) false := ⟨RX2, TX2, 11, kl_2, by decide, xm_tb_in (in_t1 _ (List.mem_of_getElem? (i := 102) rfl)) rfl, rfl, rfl, rfl⟩
theorem fl_Pn_88 : xm_Fl RX6 88 2 1 (.int) false := ⟨RX2, TX2, 11, kl_2, by decide, xm_tb_in (in_t1 _ (List.mem_of_getElem? (i := 106) rfl)) rfl, rfl, rfl, rfl⟩
theorem fl_Pn_95 : xm_Fl RX6 95 2 2 (.int) false := ⟨RX2, TX2, 11, kl_2, by decide, xm_tb_in (in_t1 _ (List.mem_of_getElem? (i := 110) rfl)) rfl, rfl, rfl, rfl⟩
theorem fl_Pn_98 : xm_Fl RX6 98 2 3 (.int) false := ⟨RX2, TX2, 11, kl_2, by decide, xm_tb_in (in_t1 _ (List.mem_of_getElem? (i := 114) rfl)) rfl, rfl, rfl, rfl⟩
theorem fl_Pn_111 : xm_Fl RX6 111 5 4 (.int) false := ⟨RX5, TX5, 7, kl_5, by decide, xm_tb_in (in_t1 _ (List.mem_of_getElem? (i := 189) rfl)) rfl, rfl, rfl, rfl⟩
theorem fl_Pn_134 : xm_Fl RX6 134 1 9 (.int) false := ⟨RX1, TX1, 10, kl_1, by decide, xm_tb_in (in_t1 _ (List.mem_of_getElem? (i := 70) rfl)) rfl, rfl, rfl, rfl⟩
theorem fl_Pn_151 : xm_Fl RX6 151 6 12 (.int) false := ⟨RX6, TX6, 14, kl_6, by decide, xm_tb_in (in_t2 _ (List.mem_of_getElem? (i := 81) rfl)) rfl, rfl, rfl, rfl⟩
theorem fl_Pn_161 : xm_Fl RX6 161 2 8 (.int) false := ⟨RX2, TX2, 11, kl_2, by decide, xm_tb_in (in_t1 _ (List.mem_of_getElem? (i := 127) rfl)) rfl, rfl, rfl, rfl⟩
theorem fl_Pn_194 : xm_Fl RX6 194 6 13 (.int) false := ⟨RX6, TX6, 14, kl_6, by decide, xm_tb_in (in_t2 _ (List.mem_of_getElem? (i := 82) rfl)) rfl, rfl, rfl, rfl⟩
theorem fl_Pn_275 : xm_Fl RX6 275 10 1 (.int) false := ⟨RX10, TX10, 3, kl_10, by decide, xm_tb_in (in_t1 _ (List.mem_of_getElem? (i := 166) rfl)) rfl, rfl, rfl, rfl⟩
theorem fl_Pn_282 : xm_Fl RX6 282 10 2 (.int) false := ⟨RX10, TX10, 3, kl_10, by decide, xm_tb_in (in_t1 _ (List.mem_of_getElem? (i := 169) rfl)) rfl, rfl, rfl, rfl⟩
theorem fl_Pn_305 : xm_Fl RX6 305 9 0 (.int) true := ⟨RX9, TX9, 11, kl_9, by decide, xm_tb_in (in_t3 _ (List.mem_of_getElem? (i := 227) rfl)) rfl, rfl, rfl, rfl⟩
theorem fl_Pn_328 : xm_Fl RX6 328 0 3 (.int) false := ⟨RX0, TX0, 9, kl_0, by decide, xm_tb_in (in_t2 _ (List.mem_of_getElem? (i := 42) rfl)) rfl, rfl, rfl, rfl⟩
theorem fl_Pn_331 : xm_Fl RX6 331 0 4 (.int) false := ⟨RX0, TX0, 9, kl_0, by decide, xm_tb_in (in_t2 _ (List.mem_of_getElem? (i := 44) rfl)) rfl, rfl, rfl, rfl⟩
theorem fl_Pl_11 : xm_Fl RX7 11 7 4 (.array .int) true := ⟨RX7, TX7, 16, kl_7, by decide, xm_tb_in (in_t2 _ (List.mem_of_getElem? (i := 122) rfl)) rfl, rfl, rfl, rfl⟩
theorem fl_Pl_15 : xm_Fl RX7 15 7 5 (.array .int) true := ⟨RX7, TX7, 16, kl_7, by decide, xm_tb_in (in_t2 _ (List.mem_of_getElem? (i := 123) rfl)) rfl, rfl, rfl, rfl⟩
theorem fl_Pl_18 : xm_Fl RX7 18 7 6 (.array .int) true := ⟨RX7, TX7, 16, kl_7, by decide, xm_tb_in (in_t2 _ (List.mem_of_getElem? (i := 124) rfl)) rfl, rfl, rfl, rfl⟩
theorem fl_Pl_21 : xm_Fl RX7 21 7 7 (.array .int) true := ⟨RX7, TX7, 16, kl_7, by decide, xm_tb_in (in_t2 _ (List.mem_of_getElem? (i := 125) rfl)) rfl, rfl, rfl, rfl⟩
theorem fl_Pl_24 : xm_Fl RX7 24 7 8 (.array .int) true := ⟨RX7, TX7, 16, kl_7, by decide, xm_tb_in (in_t2 _ (List.mem_of_getElem? (i := 126) rfl)) rfl, rfl, rfl, rfl⟩
theorem fl_Pl_27 : xm_Fl RX7 27 7 9 (.array .int) true := ⟨RX7, TX7, 16, kl_7, by decide, xm_tb_in (in_t2 _ (List.mem_of_getElem? (i := 127) rfl)) rfl, rfl, rfl, rfl⟩
theorem fl_Pl_30 : xm_Fl RX7 30 7 10 (.array .int) true := ⟨RX7, TX7, 16, kl_7, by decide, xm_tb_in (in_t2 _ (List.mem_of_getElem? (i := 128) rfl)) rfl, rfl, rfl, rfl⟩
theorem fl_Pl_33 : xm_Fl RX7 33 7 11 (.array .int) true := ⟨RX7, TX7, 16, kl_7, by decide, xm_tb_in (in_t2 _ (List.mem_of_getElem? (i := 129) rfl)) rfl, rfl, rfl, rfl⟩
theorem fl_Pl_36 : xm_Fl RX7 36 7 12 (.array .int) true := ⟨RX7, TX7, 16, kl_7, by decide, xm_tb_in (in_t2 _ (List.mem_of_getElem? (i := 130) rfl)) rfl, rfl, rfl, rfl⟩
theorem fl_Pl_39 : xm_Fl RX7 39 7 0 (.object "DrawLabels$Labels") true := ⟨RX7, TX7, 16, kl_7, by decide, xm_tb_in (in_t2 _ (List.mem_of_getElem? (i := 118) rfl)) rfl, rfl, rfl, rfl⟩
theorem fl_Pl_43 : xm_Fl RX7 43 7 1 (.object "DrawLabels$Painter") true := ⟨RX7, TX7, 16, kl_7, by decide, xm_tb_in (in_t2 _ (List.mem_of_getElem? (i := 119) rfl)) rfl, rfl, rfl, rfl⟩
theorem fl_Pl_47 : xm_Fl RX7 47 7 2 (.object "DrawLabels$Marks") true := ⟨RX7, TX7, 16, kl_7, by decide, xm_tb_in (in_t2 _ (List.mem_of_getElem? (i := 120) rfl)) rfl, rfl, rfl, rfl⟩
theorem fl_Pl_51 : xm_Fl RX7 51 7 3 (.object "DrawLabels$Frame") true := ⟨RX7, TX7, 16, kl_7, by decide, xm_tb_in (in_t2 _ (List.mem_of_getElem? (i := 121) rfl)) rfl, rfl, rfl, rfl⟩
theorem fl_Pl_61 : xm_Fl RX7 61 7 13 (.int) false := ⟨RX7, TX7, 16, kl_7, by decide, xm_tb_in (in_t2 _ (List.mem_of_getElem? (i := 131) rfl)) rfl, rfl, rfl, rfl⟩
theorem fl_Pl_79 : xm_Fl RX7 79 4 7 (.int) false := ⟨RX4, TX4, 8, kl_4, by decide, xm_tb_in (in_t1 _ (List.mem_of_getElem? (i := 227) rfl)) rfl, rfl, rfl, rfl⟩
theorem fl_Pl_85 : xm_Fl RX7 85 4 3 (.int) false := ⟨RX4, TX4, 8, kl_4, by decide, xm_tb_in (in_t1 _ (List.mem_of_getElem? (i := 220) rfl)) rfl, rfl, rfl, rfl⟩
theorem fl_Pl_112 : xm_Fl RX7 112 2 4 (.int) false := ⟨RX2, TX2, 11, kl_2, by decide, xm_tb_in (in_t1 _ (List.mem_of_getElem? (i := 118) rfl)) rfl, rfl, rfl, rfl⟩
theorem fl_Pl_116 : xm_Fl RX7 116 2 5 (.int) false := ⟨RX2, TX2, 11, kl_2, by decide, xm_tb_in (in_t1 _ (List.mem_of_getElem? (i := 121) rfl)) rfl, rfl, rfl, rfl⟩
theorem fl_Pl_119 : xm_Fl RX7 119 5 4 (.int) false := ⟨RX5, TX5, 7, kl_5, by decide, xm_tb_in (in_t1 _ (List.mem_of_getElem? (i := 188) rfl)) rfl, rfl, rfl, rfl⟩
theorem fl_Pl_158 : xm_Fl RX7 158 7 14 (.int) false := ⟨RX7, TX7, 16, kl_7, by decide, xm_tb_in (in_t2 _ (List.mem_of_getElem? (i := 132) rfl)) rfl, rfl, rfl, rfl⟩
theorem fl_Pl_161 : xm_Fl RX7 161 7 15 (.int) false := ⟨RX7, TX7, 16, kl_7, by decide, xm_tb_in (in_t2 _ (List.mem_of_getElem? (i := 133) rfl)) rfl, rfl, rfl, rfl⟩
theorem fl_Pt_11 : xm_Fl RX8 11 8 0 (.array .int) true := ⟨RX8, TX8, 6, kl_8, by decide, xm_tb_in (in_t1 _ (List.mem_of_getElem? (i := 31) rfl)) rfl, rfl, rfl, rfl⟩
theorem fl_Pt_15 : xm_Fl RX8 15 8 1 (.array .int) true := ⟨RX8, TX8, 6, kl_8, by decide, xm_tb_in (in_t1 _ (List.mem_of_getElem? (i := 32) rfl)) rfl, rfl, rfl, rfl⟩
theorem fl_Pt_18 : xm_Fl RX8 18 8 2 (.array .int) true := ⟨RX8, TX8, 6, kl_8, by decide, xm_tb_in (in_t1 _ (List.mem_of_getElem? (i := 33) rfl)) rfl, rfl, rfl, rfl⟩
theorem fl_Pt_21 : xm_Fl RX8 21 8 3 (.array .int) true := ⟨RX8, TX8, 6, kl_8, by decide, xm_tb_in (in_t1 _ (List.mem_of_getElem? (i := 34) rfl)) rfl, rfl, rfl, rfl⟩
theorem fl_Pt_24 : xm_Fl RX8 24 8 4 (.int) false := ⟨RX8, TX8, 6, kl_8, by decide, xm_tb_in (in_t1 _ (List.mem_of_getElem? (i := 35) rfl)) rfl, rfl, rfl, rfl⟩
theorem fl_Pt_37 : xm_Fl RX8 37 8 5 (.int) false := ⟨RX8, TX8, 6, kl_8, by decide, xm_tb_in (in_t1 _ (List.mem_of_getElem? (i := 38) rfl)) rfl, rfl, rfl, rfl⟩
theorem fl_So_11 : xm_Fl RX9 11 9 2 (.array .int) true := ⟨RX9, TX9, 11, kl_9, by decide, xm_tb_in (in_t3 _ (List.mem_of_getElem? (i := 229) rfl)) rfl, rfl, rfl, rfl⟩
theorem fl_So_15 : xm_Fl RX9 15 9 3 (.array .int) true := ⟨RX9, TX9, 11, kl_9, by decide, xm_tb_in (in_t3 _ (List.mem_of_getElem? (i := 230) rfl)) rfl, rfl, rfl, rfl⟩
theorem fl_So_18 : xm_Fl RX9 18 9 4 (.array .int) true := ⟨RX9, TX9, 11, kl_9, by decide, xm_tb_in (in_t3 _ (List.mem_of_getElem? (i := 231) rfl)) rfl, rfl, rfl, rfl⟩
theorem fl_So_21 : xm_Fl RX9 21 9 5 (.array .int) true := ⟨RX9, TX9, 11, kl_9, by decide, xm_tb_in (in_t3 _ (List.mem_of_getElem? (i := 232) rfl)) rfl, rfl, rfl, rfl⟩
theorem fl_So_24 : xm_Fl RX9 24 9 6 (.array .int) true := ⟨RX9, TX9, 11, kl_9, by decide, xm_tb_in (in_t3 _ (List.mem_of_getElem? (i := 233) rfl)) rfl, rfl, rfl, rfl⟩
theorem fl_So_27 : xm_Fl RX9 27 9 7 (.array .int) true := ⟨RX9, TX9, 11, kl_9, by decide, xm_tb_in (in_t3 _ (List.mem_of_getElem? (i := 234) rfl)) rfl, rfl, rfl, rfl⟩
theorem fl_So_30 : xm_Fl RX9 30 9 8 (.array .int) true := ⟨RX9, TX9, 11, kl_9, by decide, xm_tb_in (in_t3 _ (List.mem_of_getElem? (i := 235) rfl)) rfl, rfl, rfl, rfl⟩
theorem fl_So_33 : xm_Fl RX9 33 9 0 (.int) true := ⟨RX9, TX9, 11, kl_9, by decide, xm_tb_in (in_t3 _ (List.mem_of_getElem? (i := 226) rfl)) rfl, rfl, rfl, rfl⟩
theorem fl_So_37 : xm_Fl RX9 37 9 1 (.int) true := ⟨RX9, TX9, 11, kl_9, by decide, xm_tb_in (in_t3 _ (List.mem_of_getElem? (i := 228) rfl)) rfl, rfl, rfl, rfl⟩
theorem fl_So_40 : xm_Fl RX9 40 9 9 (.int) false := ⟨RX9, TX9, 11, kl_9, by decide, xm_tb_in (in_t3 _ (List.mem_of_getElem? (i := 236) rfl)) rfl, rfl, rfl, rfl⟩
theorem fl_So_43 : xm_Fl RX9 43 9 10 (.int) false := ⟨RX9, TX9, 11, kl_9, by decide, xm_tb_in (in_t3 _ (List.mem_of_getElem? (i := 237) rfl)) rfl, rfl, rfl, rfl⟩
theorem fl_Ss_13 : xm_Fl RX10 13 10 0 (.array (.object "DrawLabels$Solid")) true := ⟨RX10, TX10, 3, kl_10, by decide, xm_tb_in (in_t1 _ (List.mem_of_getElem? (i := 164) rfl)) rfl, rfl, rfl, rfl⟩
theorem fl_Ss_17 : xm_Fl RX10 17 10 1 (.int) false := ⟨RX10, TX10, 3, kl_10, by decide, xm_tb_in (in_t1 _ (List.mem_of_getElem? (i := 165) rfl)) rfl, rfl, rfl, rfl⟩
theorem fl_M_7 : xm_Fl RX12 7 12 0 (.array .int) true := ⟨RX12, TX12, 78, kl_12, by decide, xm_tb_in (in_t6 _ (List.mem_of_getElem? (i := 149) rfl)) rfl, rfl, rfl, rfl⟩
theorem fl_M_13 : xm_Fl RX12 13 12 1 (.array .int) true := ⟨RX12, TX12, 78, kl_12, by decide, xm_tb_in (in_t6 _ (List.mem_of_getElem? (i := 150) rfl)) rfl, rfl, rfl, rfl⟩
theorem fl_M_16 : xm_Fl RX12 16 12 2 (.array .int) true := ⟨RX12, TX12, 78, kl_12, by decide, xm_tb_in (in_t6 _ (List.mem_of_getElem? (i := 151) rfl)) rfl, rfl, rfl, rfl⟩
theorem fl_M_19 : xm_Fl RX12 19 12 3 (.array .int) true := ⟨RX12, TX12, 78, kl_12, by decide, xm_tb_in (in_t6 _ (List.mem_of_getElem? (i := 152) rfl)) rfl, rfl, rfl, rfl⟩
theorem fl_M_22 : xm_Fl RX12 22 12 6 (.array .int) true := ⟨RX12, TX12, 78, kl_12, by decide, xm_tb_in (in_t6 _ (List.mem_of_getElem? (i := 155) rfl)) rfl, rfl, rfl, rfl⟩
theorem fl_M_25 : xm_Fl RX12 25 12 7 (.array .int) true := ⟨RX12, TX12, 78, kl_12, by decide, xm_tb_in (in_t6 _ (List.mem_of_getElem? (i := 156) rfl)) rfl, rfl, rfl, rfl⟩
theorem fl_M_28 : xm_Fl RX12 28 12 8 (.array .int) true := ⟨RX12, TX12, 78, kl_12, by decide, xm_tb_in (in_t6 _ (List.mem_of_getElem? (i := 157) rfl)) rfl, rfl, rfl, rfl⟩
theorem fl_M_31 : xm_Fl RX12 31 12 9 (.array .int) true := ⟨RX12, TX12, 78, kl_12, by decide, xm_tb_in (in_t6 _ (List.mem_of_getElem? (i := 158) rfl)) rfl, rfl, rfl, rfl⟩
theorem fl_M_34 : xm_Fl RX12 34 12 10 (.array .int) true := ⟨RX12, TX12, 78, kl_12, by decide, xm_tb_in (in_t6 _ (List.mem_of_getElem? (i := 159) rfl)) rfl, rfl, rfl, rfl⟩
theorem fl_M_37 : xm_Fl RX12 37 12 12 (.array .int) true := ⟨RX12, TX12, 78, kl_12, by decide, xm_tb_in (in_t6 _ (List.mem_of_getElem? (i := 161) rfl)) rfl, rfl, rfl, rfl⟩
theorem fl_M_40 : xm_Fl RX12 40 12 14 (.array .boolean) true := ⟨RX12, TX12, 78, kl_12, by decide, xm_tb_in (in_t6 _ (List.mem_of_getElem? (i := 163) rfl)) rfl, rfl, rfl, rfl⟩
theorem fl_M_44 : xm_Fl RX12 44 12 16 (.int) false := ⟨RX12, TX12, 78, kl_12, by decide, xm_tb_in (in_t6 _ (List.mem_of_getElem? (i := 165) rfl)) rfl, rfl, rfl, rfl⟩
theorem fl_M_48 : xm_Fl RX12 48 12 18 (.int) false := ⟨RX12, TX12, 78, kl_12, by decide, xm_tb_in (in_t6 _ (List.mem_of_getElem? (i := 167) rfl)) rfl, rfl, rfl, rfl⟩
theorem fl_M_51 : xm_Fl RX12 51 12 19 (.int) false := ⟨RX12, TX12, 78, kl_12, by decide, xm_tb_in (in_t6 _ (List.mem_of_getElem? (i := 168) rfl)) rfl, rfl, rfl, rfl⟩
theorem fl_M_54 : xm_Fl RX12 54 12 20 (.int) false := ⟨RX12, TX12, 78, kl_12, by decide, xm_tb_in (in_t6 _ (List.mem_of_getElem? (i := 169) rfl)) rfl, rfl, rfl, rfl⟩
theorem fl_M_57 : xm_Fl RX12 57 12 23 (.int) false := ⟨RX12, TX12, 78, kl_12, by decide, xm_tb_in (in_t6 _ (List.mem_of_getElem? (i := 172) rfl)) rfl, rfl, rfl, rfl⟩
theorem fl_M_60 : xm_Fl RX12 60 12 24 (.array .int) true := ⟨RX12, TX12, 78, kl_12, by decide, xm_tb_in (in_t6 _ (List.mem_of_getElem? (i := 173) rfl)) rfl, rfl, rfl, rfl⟩
theorem fl_M_63 : xm_Fl RX12 63 12 25 (.array .int) true := ⟨RX12, TX12, 78, kl_12, by decide, xm_tb_in (in_t6 _ (List.mem_of_getElem? (i := 174) rfl)) rfl, rfl, rfl, rfl⟩
theorem fl_M_66 : xm_Fl RX12 66 12 26 (.array .int) true := ⟨RX12, TX12, 78, kl_12, by decide, xm_tb_in (in_t6 _ (List.mem_of_getElem? (i := 175) rfl)) rfl, rfl, rfl, rfl⟩
theorem fl_M_69 : xm_Fl RX12 69 12 27 (.array .int) true := ⟨RX12, TX12, 78, kl_12, by decide, xm_tb_in (in_t6 _ (List.mem_of_getElem? (i := 176) rfl)) rfl, rfl, rfl, rfl⟩
theorem fl_M_72 : xm_Fl RX12 72 12 28 (.array .int) true := ⟨RX12, TX12, 78, kl_12, by decide, xm_tb_in (in_t6 _ (List.mem_of_getElem? (i := 177) rfl)) rfl, rfl, rfl, rfl⟩
theorem fl_M_75 : xm_Fl RX12 75 12 29 (.array .int) true := ⟨RX12, TX12, 78, kl_12, by decide, xm_tb_in (in_t6 _ (List.mem_of_getElem? (i := 178) rfl)) rfl, rfl, rfl, rfl⟩
theorem fl_M_78 : xm_Fl RX12 78 12 30 (.array .int) true := ⟨RX12, TX12, 78, kl_12, by decide, xm_tb_in (in_t6 _ (List.mem_of_getElem? (i := 179) rfl)) rfl, rfl, rfl, rfl⟩
theorem fl_M_81 : xm_Fl RX12 81 12 33 (.array .int) true := ⟨RX12, TX12, 78, kl_12, by decide, xm_tb_in (in_t6 _ (List.mem_of_getElem? (i := 182) rfl)) rfl, rfl, rfl, rfl⟩
theorem fl_M_84 : xm_Fl RX12 84 12 35 (.array .int) true := ⟨RX12, TX12, 78, kl_12, by decide, xm_tb_in (in_t6 _ (List.mem_of_getElem? (i := 184) rfl)) rfl, rfl, rfl, rfl⟩
theorem fl_M_87 : xm_Fl RX12 87 12 36 (.array .int) true := ⟨RX12, TX12, 78, kl_12, by decide, xm_tb_in (in_t6 _ (List.mem_of_getElem? (i := 185) rfl)) rfl, rfl, rfl, rfl⟩
theorem fl_M_90 : xm_Fl RX12 90 12 48 (.array .int) true := ⟨RX12, TX12, 78, kl_12, by decide, xm_tb_in (in_t6 _ (List.mem_of_getElem? (i := 197) rfl)) rfl, rfl, rfl, rfl⟩
theorem fl_M_94 : xm_Fl RX12 94 12 51 (.array .int) true := ⟨RX12, TX12, 78, kl_12, by decide, xm_tb_in (in_t6 _ (List.mem_of_getElem? (i := 200) rfl)) rfl, rfl, rfl, rfl⟩
theorem fl_M_97 : xm_Fl RX12 97 12 53 (.array .boolean) true := ⟨RX12, TX12, 78, kl_12, by decide, xm_tb_in (in_t6 _ (List.mem_of_getElem? (i := 202) rfl)) rfl, rfl, rfl, rfl⟩
theorem fl_M_100 : xm_Fl RX12 100 12 54 (.array .int) true := ⟨RX12, TX12, 78, kl_12, by decide, xm_tb_in (in_t6 _ (List.mem_of_getElem? (i := 203) rfl)) rfl, rfl, rfl, rfl⟩
theorem fl_M_103 : xm_Fl RX12 103 12 55 (.array .int) true := ⟨RX12, TX12, 78, kl_12, by decide, xm_tb_in (in_t6 _ (List.mem_of_getElem? (i := 204) rfl)) rfl, rfl, rfl, rfl⟩
theorem fl_M_106 : xm_Fl RX12 106 12 57 (.array .int) true := ⟨RX12, TX12, 78, kl_12, by decide, xm_tb_in (in_t6 _ (List.mem_of_getElem? (i := 206) rfl)) rfl, rfl, rfl, rfl⟩
theorem fl_M_109 : xm_Fl RX12 109 12 65 (.array .long) true := ⟨RX12, TX12, 78, kl_12, by decide, xm_tb_in (in_t6 _ (List.mem_of_getElem? (i := 214) rfl)) rfl, rfl, rfl, rfl⟩
theorem fl_M_113 : xm_Fl RX12 113 12 66 (.array .long) true := ⟨RX12, TX12, 78, kl_12, by decide, xm_tb_in (in_t6 _ (List.mem_of_getElem? (i := 215) rfl)) rfl, rfl, rfl, rfl⟩
theorem fl_M_116 : xm_Fl RX12 116 12 68 (.array .int) true := ⟨RX12, TX12, 78, kl_12, by decide, xm_tb_in (in_t6 _ (List.mem_of_getElem? (i := 217) rfl)) rfl, rfl, rfl, rfl⟩
theorem fl_M_119 : xm_Fl RX12 119 12 69 (.array .int) true := ⟨RX12, TX12, 78, kl_12, by decide, xm_tb_in (in_t6 _ (List.mem_of_getElem? (i := 218) rfl)) rfl, rfl, rfl, rfl⟩
theorem fl_M_122 : xm_Fl RX12 122 12 71 (.array .int) true := ⟨RX12, TX12, 78, kl_12, by decide, xm_tb_in (in_t6 _ (List.mem_of_getElem? (i := 220) rfl)) rfl, rfl, rfl, rfl⟩
theorem fl_M_125 : xm_Fl RX12 125 12 72 (.array .int) true := ⟨RX12, TX12, 78, kl_12, by decide, xm_tb_in (in_t6 _ (List.mem_of_getElem? (i := 221) rfl)) rfl, rfl, rfl, rfl⟩
theorem fl_M_128 : xm_Fl RX12 128 12 75 (.array .int) true := ⟨RX12, TX12, 78, kl_12, by decide, xm_tb_in (in_t6 _ (List.mem_of_getElem? (i := 224) rfl)) rfl, rfl, rfl, rfl⟩
theorem fl_M_131 : xm_Fl RX12 131 12 76 (.array .int) true := ⟨RX12, TX12, 78, kl_12, by decide, xm_tb_in (in_t6 _ (List.mem_of_getElem? (i := 225) rfl)) rfl, rfl, rfl, rfl⟩
theorem fl_M_134 : xm_Fl RX12 134 12 77 (.array .int) true := ⟨RX12, TX12, 78, kl_12, by decide, xm_tb_in (in_t6 _ (List.mem_of_getElem? (i := 226) rfl)) rfl, rfl, rfl, rfl⟩
theorem fl_M_137 : xm_Fl RX12 137 12 4 (.int) false := ⟨RX12, TX12, 78, kl_12, by decide, xm_tb_in (in_t6 _ (List.mem_of_getElem? (i := 153) rfl)) rfl, rfl, rfl, rfl⟩
theorem fl_M_140 : xm_Fl RX12 140 12 11 (.int) false := ⟨RX12, TX12, 78, kl_12, by decide, xm_tb_in (in_t6 _ (List.mem_of_getElem? (i := 160) rfl)) rfl, rfl, rfl, rfl⟩
theorem fl_M_143 : xm_Fl RX12 143 12 31 (.int) false := ⟨RX12, TX12, 78, kl_12, by decide, xm_tb_in (in_t6 _ (List.mem_of_getElem? (i := 180) rfl)) rfl, rfl, rfl, rfl⟩
theorem fl_M_165 : xm_Fl RX12 165 12 5 (.int) false := ⟨RX12, TX12, 78, kl_12, by decide, xm_tb_in (in_t6 _ (List.mem_of_getElem? (i := 154) rfl)) rfl, rfl, rfl, rfl⟩
theorem fl_M_182 : xm_Fl RX12 182 12 13 (.int) false := ⟨RX12, TX12, 78, kl_12, by decide, xm_tb_in (in_t6 _ (List.mem_of_getElem? (i := 162) rfl)) rfl, rfl, rfl, rfl⟩
theorem fl_M_218 : xm_Fl RX12 218 12 15 (.int) false := ⟨RX12, TX12, 78, kl_12, by decide, xm_tb_in (in_t6 _ (List.mem_of_getElem? (i := 164) rfl)) rfl, rfl, rfl, rfl⟩
theorem fl_M_221 : xm_Fl RX12 221 12 17 (.int) false := ⟨RX12, TX12, 78, kl_12, by decide, xm_tb_in (in_t6 _ (List.mem_of_getElem? (i := 166) rfl)) rfl, rfl, rfl, rfl⟩
theorem fl_M_230 : xm_Fl RX12 230 12 21 (.int) false := ⟨RX12, TX12, 78, kl_12, by decide, xm_tb_in (in_t6 _ (List.mem_of_getElem? (i := 170) rfl)) rfl, rfl, rfl, rfl⟩
theorem fl_M_235 : xm_Fl RX12 235 12 22 (.int) false := ⟨RX12, TX12, 78, kl_12, by decide, xm_tb_in (in_t6 _ (List.mem_of_getElem? (i := 171) rfl)) rfl, rfl, rfl, rfl⟩
theorem fl_M_246 : xm_Fl RX12 246 12 39 (.long) false := ⟨RX12, TX12, 78, kl_12, by decide, xm_tb_in (in_t6 _ (List.mem_of_getElem? (i := 188) rfl)) rfl, rfl, rfl, rfl⟩
theorem fl_M_250 : xm_Fl RX12 250 12 40 (.long) false := ⟨RX12, TX12, 78, kl_12, by decide, xm_tb_in (in_t6 _ (List.mem_of_getElem? (i := 189) rfl)) rfl, rfl, rfl, rfl⟩
theorem fl_M_257 : xm_Fl RX12 257 12 38 (.int) false := ⟨RX12, TX12, 78, kl_12, by decide, xm_tb_in (in_t6 _ (List.mem_of_getElem? (i := 187) rfl)) rfl, rfl, rfl, rfl⟩
theorem fl_M_276 : xm_Fl RX12 276 12 32 (.int) false := ⟨RX12, TX12, 78, kl_12, by decide, xm_tb_in (in_t6 _ (List.mem_of_getElem? (i := 181) rfl)) rfl, rfl, rfl, rfl⟩
theorem fl_M_283 : xm_Fl RX12 283 12 34 (.int) false := ⟨RX12, TX12, 78, kl_12, by decide, xm_tb_in (in_t6 _ (List.mem_of_getElem? (i := 183) rfl)) rfl, rfl, rfl, rfl⟩
theorem fl_M_294 : xm_Fl RX12 294 12 41 (.boolean) false := ⟨RX12, TX12, 78, kl_12, by decide, xm_tb_in (in_t6 _ (List.mem_of_getElem? (i := 190) rfl)) rfl, rfl, rfl, rfl⟩
theorem fl_M_298 : xm_Fl RX12 298 12 44 (.long) false := ⟨RX12, TX12, 78, kl_12, by decide, xm_tb_in (in_t6 _ (List.mem_of_getElem? (i := 193) rfl)) rfl, rfl, rfl, rfl⟩
theorem fl_M_301 : xm_Fl RX12 301 12 43 (.long) false := ⟨RX12, TX12, 78, kl_12, by decide, xm_tb_in (in_t6 _ (List.mem_of_getElem? (i := 192) rfl)) rfl, rfl, rfl, rfl⟩
theorem fl_M_304 : xm_Fl RX12 304 12 42 (.boolean) false := ⟨RX12, TX12, 78, kl_12, by decide, xm_tb_in (in_t6 _ (List.mem_of_getElem? (i := 191) rfl)) rfl, rfl, rfl, rfl⟩
theorem fl_M_307 : xm_Fl RX12 307 12 46 (.long) false := ⟨RX12, TX12, 78, kl_12, by decide, xm_tb_in (in_t6 _ (List.mem_of_getElem? (i := 195) rfl)) rfl, rfl, rfl, rfl⟩
theorem fl_M_310 : xm_Fl RX12 310 12 45 (.long) false := ⟨RX12, TX12, 78, kl_12, by decide, xm_tb_in (in_t6 _ (List.mem_of_getElem? (i := 194) rfl)) rfl, rfl, rfl, rfl⟩
theorem fl_M_321 : xm_Fl RX12 321 12 49 (.int) false := ⟨RX12, TX12, 78, kl_12, by decide, xm_tb_in (in_t6 _ (List.mem_of_getElem? (i := 198) rfl)) rfl, rfl, rfl, rfl⟩
theorem fl_M_324 : xm_Fl RX12 324 12 50 (.int) false := ⟨RX12, TX12, 78, kl_12, by decide, xm_tb_in (in_t6 _ (List.mem_of_getElem? (i := 199) rfl)) rfl, rfl, rfl, rfl⟩
theorem fl_M_331 : xm_Fl RX12 331 12 61 (.int) false := ⟨RX12, TX12, 78, kl_12, by decide, xm_tb_in (in_t6 _ (List.mem_of_getElem? (i := 210) rfl)) rfl, rfl, rfl, rfl⟩
theorem fl_M_334 : xm_Fl RX12 334 12 62 (.int) false := ⟨RX12, TX12, 78, kl_12, by decide, xm_tb_in (in_t6 _ (List.mem_of_getElem? (i := 211) rfl)) rfl, rfl, rfl, rfl⟩
theorem fl_M_337 : xm_Fl RX12 337 12 63 (.int) false := ⟨RX12, TX12, 78, kl_12, by decide, xm_tb_in (in_t6 _ (List.mem_of_getElem? (i := 212) rfl)) rfl, rfl, rfl, rfl⟩
theorem fl_M_340 : xm_Fl RX12 340 12 64 (.int) false := ⟨RX12, TX12, 78, kl_12, by decide, xm_tb_in (in_t6 _ (List.mem_of_getElem? (i := 213) rfl)) rfl, rfl, rfl, rfl⟩
theorem fl_M_358 : xm_Fl RX12 358 12 67 (.int) false := ⟨RX12, TX12, 78, kl_12, by decide, xm_tb_in (in_t6 _ (List.mem_of_getElem? (i := 216) rfl)) rfl, rfl, rfl, rfl⟩
theorem fl_M_410 : xm_Fl RX12 410 12 47 (.boolean) false := ⟨RX12, TX12, 78, kl_12, by decide, xm_tb_in (in_t6 _ (List.mem_of_getElem? (i := 196) rfl)) rfl, rfl, rfl, rfl⟩
theorem fl_M_413 : xm_Fl RX12 413 12 58 (.int) false := ⟨RX12, TX12, 78, kl_12, by decide, xm_tb_in (in_t6 _ (List.mem_of_getElem? (i := 207) rfl)) rfl, rfl, rfl, rfl⟩
theorem fl_M_416 : xm_Fl RX12 416 12 59 (.int) false := ⟨RX12, TX12, 78, kl_12, by decide, xm_tb_in (in_t6 _ (List.mem_of_getElem? (i := 208) rfl)) rfl, rfl, rfl, rfl⟩
theorem fl_M_419 : xm_Fl RX12 419 12 60 (.int) false := ⟨RX12, TX12, 78, kl_12, by decide, xm_tb_in (in_t6 _ (List.mem_of_getElem? (i := 209) rfl)) rfl, rfl, rfl, rfl⟩
theorem fl_M_422 : xm_Fl RX12 422 12 37 (.int) false := ⟨RX12, TX12, 78, kl_12, by decide, xm_tb_in (in_t6 _ (List.mem_of_getElem? (i := 186) rfl)) rfl, rfl, rfl, rfl⟩
theorem fl_M_425 : xm_Fl RX12 425 12 56 (.int) false := ⟨RX12, TX12, 78, kl_12, by decide, xm_tb_in (in_t6 _ (List.mem_of_getElem? (i := 205) rfl)) rfl, rfl, rfl, rfl⟩
theorem fl_M_455 : xm_Fl RX12 455 12 70 (.int) false := ⟨RX12, TX12, 78, kl_12, by decide, xm_tb_in (in_t6 _ (List.mem_of_getElem? (i := 219) rfl)) rfl, rfl, rfl, rfl⟩
theorem fl_M_475 : xm_Fl RX12 475 12 73 (.int) false := ⟨RX12, TX12, 78, kl_12, by decide, xm_tb_in (in_t6 _ (List.mem_of_getElem? (i := 222) rfl)) rfl, rfl, rfl, rfl⟩
theorem fl_M_478 : xm_Fl RX12 478 12 74 (.int) false := ⟨RX12, TX12, 78, kl_12, by decide, xm_tb_in (in_t6 _ (List.mem_of_getElem? (i := 223) rfl)) rfl, rfl, rfl, rfl⟩
theorem fl_M_501 : xm_Fl RX12 501 12 52 (.int) false := ⟨RX12, TX12, 78, kl_12, by decide, xm_tb_in (in_t6 _ (List.mem_of_getElem? (i := 201) rfl)) rfl, rfl, rfl, rfl⟩
theorem lk_D_9 : Cond.methodLinkNest RX11 9 mt_Pt_init.1 "DrawLabels" ∈ xm_tb := xm_tb_in (in_t1 _ (List.mem_of_getElem? (i := 27) rfl)) rfl
theorem lk_D_18 : Cond.methodLink RX11 18 mt_Fg_init.1 ∈ xm_tb := xm_tb_in (in_t1 _ (List.mem_of_getElem? (i := 55) rfl)) rfl
theorem lk_D_27 : Cond.methodLinkNest RX11 27 mt_Fr_init.1 "DrawLabels" ∈ xm_tb := xm_tb_in (in_t1 _ (List.mem_of_getElem? (i := 96) rfl)) rfl
theorem lk_D_34 : Cond.methodLinkNest RX11 34 mt_Ss_init.1 "DrawLabels" ∈ xm_tb := xm_tb_in (in_t1 _ (List.mem_of_getElem? (i := 158) rfl)) rfl
theorem lk_D_41 : Cond.methodLinkNest RX11 41 mt_Mk_init.1 "DrawLabels" ∈ xm_tb := xm_tb_in (in_t1 _ (List.mem_of_getElem? (i := 179) rfl)) rfl
theorem lk_D_48 : Cond.methodLinkNest RX11 48 mt_Lb_init.1 "DrawLabels" ∈ xm_tb := xm_tb_in (in_t1 _ (List.mem_of_getElem? (i := 212) rfl)) rfl
theorem lk_D_55 : Cond.methodLinkNest RX11 55 mt_Gr_init.1 "DrawLabels" ∈ xm_tb := xm_tb_in (in_t2 _ (List.mem_of_getElem? (i := 9) rfl)) rfl
theorem lk_D_62 : Cond.methodLink RX11 62 mt_Pn_init.1 ∈ xm_tb := xm_tb_in (in_t2 _ (List.mem_of_getElem? (i := 28) rfl)) rfl
theorem lk_D_71 : Cond.methodLink RX11 71 mt_Pl_init.1 ∈ xm_tb := xm_tb_in (in_t2 _ (List.mem_of_getElem? (i := 114) rfl)) rfl
theorem lk_D_82 : Cond.methodLink RX11 82 mt_D_isWithin.1 ∈ xm_tb := xm_tb_in (in_t2 _ (List.mem_of_getElem? (i := 202) rfl)) rfl
theorem lk_D_87 : Cond.methodLink RX11 87 mt_Pt_isFull.1 ∈ xm_tb := xm_tb_in (in_t2 _ (List.mem_of_getElem? (i := 206) rfl)) rfl
theorem lk_D_92 : Cond.methodLink RX11 92 mt_Pt_add.1 ∈ xm_tb := xm_tb_in (in_t2 _ (List.mem_of_getElem? (i := 211) rfl)) rfl
theorem lk_D_96 : Cond.methodLink RX11 96 mt_Pt_has.1 ∈ xm_tb := xm_tb_in (in_t2 _ (List.mem_of_getElem? (i := 221) rfl)) rfl
theorem lk_D_101 : Cond.methodLink RX11 101 mt_Pt_goBy.1 ∈ xm_tb := xm_tb_in (in_t2 _ (List.mem_of_getElem? (i := 226) rfl)) rfl
theorem lk_D_108 : Cond.methodLink RX11 108 mt_Pt_xNow.1 ∈ xm_tb := xm_tb_in (in_t2 _ (List.mem_of_getElem? (i := 239) rfl)) rfl
theorem lk_D_112 : Cond.methodLink RX11 112 mt_Pt_yNow.1 ∈ xm_tb := xm_tb_in (in_t3 _ (List.mem_of_getElem? (i := 3) rfl)) rfl
theorem lk_D_115 : Cond.methodLink RX11 115 mt_Fg_isFull.1 ∈ xm_tb := xm_tb_in (in_t3 _ (List.mem_of_getElem? (i := 11) rfl)) rfl
theorem lk_D_116 : Cond.methodLink RX11 116 mt_Fg_add.1 ∈ xm_tb := xm_tb_in (in_t3 _ (List.mem_of_getElem? (i := 15) rfl)) rfl
theorem lk_D_119 : Cond.methodLink RX11 119 mt_Fg_chainIsFull.1 ∈ xm_tb := xm_tb_in (in_t3 _ (List.mem_of_getElem? (i := 25) rfl)) rfl
theorem lk_D_122 : Cond.methodLink RX11 122 mt_Fg_lengthenChain.1 ∈ xm_tb := xm_tb_in (in_t3 _ (List.mem_of_getElem? (i := 29) rfl)) rfl
theorem lk_D_129 : Cond.methodLink RX11 129 mt_Fg_addArea.1 ∈ xm_tb := xm_tb_in (in_t3 _ (List.mem_of_getElem? (i := 39) rfl)) rfl
theorem lk_D_133 : Cond.methodLink RX11 133 mt_Fg_has.1 ∈ xm_tb := xm_tb_in (in_t3 _ (List.mem_of_getElem? (i := 50) rfl)) rfl
theorem lk_D_134 : Cond.methodLink RX11 134 mt_Fg_styleOf.1 ∈ xm_tb := xm_tb_in (in_t3 _ (List.mem_of_getElem? (i := 54) rfl)) rfl
theorem lk_D_137 : Cond.methodLink RX11 137 mt_Fg_setStyle.1 ∈ xm_tb := xm_tb_in (in_t3 _ (List.mem_of_getElem? (i := 59) rfl)) rfl
theorem lk_D_141 : Cond.methodLink RX11 141 mt_Fg_isHidden.1 ∈ xm_tb := xm_tb_in (in_t3 _ (List.mem_of_getElem? (i := 67) rfl)) rfl
theorem lk_D_144 : Cond.methodLink RX11 144 mt_Fg_setHidden.1 ∈ xm_tb := xm_tb_in (in_t3 _ (List.mem_of_getElem? (i := 71) rfl)) rfl
theorem lk_D_148 : Cond.methodLink RX11 148 mt_Fg_hasFallen.1 ∈ xm_tb := xm_tb_in (in_t3 _ (List.mem_of_getElem? (i := 79) rfl)) rfl
theorem lk_D_153 : Cond.methodLink RX11 153 mt_Fg_kindOf.1 ∈ xm_tb := xm_tb_in (in_t3 _ (List.mem_of_getElem? (i := 114) rfl)) rfl
theorem lk_D_156 : Cond.methodLink RX11 156 mt_Fg_turnOf.1 ∈ xm_tb := xm_tb_in (in_t3 _ (List.mem_of_getElem? (i := 115) rfl)) rfl
theorem lk_D_161 : Cond.methodLink RX11 161 mt_Fr_setWindow.1 ∈ xm_tb := xm_tb_in (in_t3 _ (List.mem_of_getElem? (i := 121) rfl)) rfl
theorem lk_D_169 : Cond.methodLink RX11 169 mt_Fg_cornersOf.1 ∈ xm_tb := xm_tb_in (in_t3 _ (List.mem_of_getElem? (i := 140) rfl)) rfl
theorem lk_D_172 : Cond.methodLink RX11 172 mt_Fg_xOf.1 ∈ xm_tb := xm_tb_in (in_t3 _ (List.mem_of_getElem? (i := 141) rfl)) rfl
theorem lk_D_175 : Cond.methodLink RX11 175 mt_Jm_min_I.1 ∈ xm_tb := xm_tb_in (in_t3 _ (List.mem_of_getElem? (i := 142) rfl)) rfl
theorem lk_D_180 : Cond.methodLink RX11 180 mt_Jm_max_I.1 ∈ xm_tb := xm_tb_in (in_t3 _ (List.mem_of_getElem? (i := 145) rfl)) rfl
theorem lk_D_183 : Cond.methodLink RX11 183 mt_Fg_yOf.1 ∈ xm_tb := xm_tb_in (in_t3 _ (List.mem_of_getElem? (i := 148) rfl)) rfl
theorem lk_D_198 : Cond.methodLink RX11 198 mt_Fr_setSheet.1 ∈ xm_tb := xm_tb_in (in_t3 _ (List.mem_of_getElem? (i := 157) rfl)) rfl
theorem lk_D_207 : Cond.methodLink RX11 207 mt_Fr_hasScale.1 ∈ xm_tb := xm_tb_in (in_t3 _ (List.mem_of_getElem? (i := 173) rfl)) rfl
theorem lk_D_210 : Cond.methodLink RX11 210 mt_D_endWith.1 ∈ xm_tb := xm_tb_in (in_t3 _ (List.mem_of_getElem? (i := 177) rfl)) rfl
theorem lk_D_221 : Cond.methodLink RX11 221 mt_Pt_squareFromBefore.1 ∈ xm_tb := xm_tb_in (in_t3 _ (List.mem_of_getElem? (i := 187) rfl)) rfl
theorem lk_D_224 : Cond.methodLink RX11 224 mt_Fr_aboveX.1 ∈ xm_tb := xm_tb_in (in_t3 _ (List.mem_of_getElem? (i := 193) rfl)) rfl
theorem lk_D_228 : Cond.methodLink RX11 228 mt_Fr_aboveY.1 ∈ xm_tb := xm_tb_in (in_t3 _ (List.mem_of_getElem? (i := 198) rfl)) rfl
theorem lk_D_231 : Cond.methodLink RX11 231 mt_Fr_below.1 ∈ xm_tb := xm_tb_in (in_t3 _ (List.mem_of_getElem? (i := 202) rfl)) rfl
theorem lk_D_235 : Cond.methodLink RX11 235 mt_D_commonDivisor.1 ∈ xm_tb := xm_tb_in (in_t3 _ (List.mem_of_getElem? (i := 206) rfl)) rfl
theorem lk_D_240 : Cond.methodLink RX11 240 mt_Ss_isFull.1 ∈ xm_tb := xm_tb_in (in_t3 _ (List.mem_of_getElem? (i := 211) rfl)) rfl
theorem lk_D_241 : Cond.methodLink RX11 241 mt_Ss_add.1 ∈ xm_tb := xm_tb_in (in_t3 _ (List.mem_of_getElem? (i := 215) rfl)) rfl
theorem lk_D_242 : Cond.methodLink RX11 242 mt_Ss_find.1 ∈ xm_tb := xm_tb_in (in_t4 _ (List.mem_of_getElem? (i := 25) rfl)) rfl
theorem lk_D_246 : Cond.methodLink RX11 246 mt_So_verticesAreFull.1 ∈ xm_tb := xm_tb_in (in_t4 _ (List.mem_of_getElem? (i := 29) rfl)) rfl
theorem lk_D_249 : Cond.methodLink RX11 249 mt_So_addVertex.1 ∈ xm_tb := xm_tb_in (in_t4 _ (List.mem_of_getElem? (i := 33) rfl)) rfl
theorem lk_D_253 : Cond.methodLink RX11 253 mt_So_hasVertices.1 ∈ xm_tb := xm_tb_in (in_t4 _ (List.mem_of_getElem? (i := 43) rfl)) rfl
theorem lk_D_257 : Cond.methodLink RX11 257 mt_So_hasOneTwice.1 ∈ xm_tb := xm_tb_in (in_t4 _ (List.mem_of_getElem? (i := 50) rfl)) rfl
theorem lk_D_260 : Cond.methodLink RX11 260 mt_So_facesAreFull.1 ∈ xm_tb := xm_tb_in (in_t4 _ (List.mem_of_getElem? (i := 59) rfl)) rfl
theorem lk_D_263 : Cond.methodLink RX11 263 mt_So_addFace.1 ∈ xm_tb := xm_tb_in (in_t4 _ (List.mem_of_getElem? (i := 63) rfl)) rfl
theorem lk_D_269 : Cond.methodLink RX11 269 mt_So_edgeCount.1 ∈ xm_tb := xm_tb_in (in_t4 _ (List.mem_of_getElem? (i := 83) rfl)) rfl
theorem lk_D_272 : Cond.methodLink RX11 272 mt_So_edgeNumbered.1 ∈ xm_tb := xm_tb_in (in_t4 _ (List.mem_of_getElem? (i := 91) rfl)) rfl
theorem lk_D_275 : Cond.methodLink RX11 275 mt_So_lesserOf.1 ∈ xm_tb := xm_tb_in (in_t4 _ (List.mem_of_getElem? (i := 95) rfl)) rfl
theorem lk_D_278 : Cond.methodLink RX11 278 mt_So_greaterOf.1 ∈ xm_tb := xm_tb_in (in_t4 _ (List.mem_of_getElem? (i := 98) rfl)) rfl
theorem lk_D_281 : Cond.methodLink RX11 281 mt_So_facesSeen.1 ∈ xm_tb := xm_tb_in (in_t4 _ (List.mem_of_getElem? (i := 101) rfl)) rfl
theorem lk_D_284 : Cond.methodLink RX11 284 mt_So_isBehind.1 ∈ xm_tb := xm_tb_in (in_t4 _ (List.mem_of_getElem? (i := 109) rfl)) rfl
theorem lk_D_287 : Cond.methodLink RX11 287 mt_So_facesWith.1 ∈ xm_tb := xm_tb_in (in_t4 _ (List.mem_of_getElem? (i := 113) rfl)) rfl
theorem lk_D_290 : Cond.methodLink RX11 290 mt_Lb_isFull.1 ∈ xm_tb := xm_tb_in (in_t4 _ (List.mem_of_getElem? (i := 121) rfl)) rfl
theorem lk_D_291 : Cond.methodLink RX11 291 mt_Lb_add.1 ∈ xm_tb := xm_tb_in (in_t4 _ (List.mem_of_getElem? (i := 125) rfl)) rfl
theorem lk_D_292 : Cond.methodLink RX11 292 mt_Pn_begin.1 ∈ xm_tb := xm_tb_in (in_t4 _ (List.mem_of_getElem? (i := 135) rfl)) rfl
theorem lk_D_295 : Cond.methodLink RX11 295 mt_Pn_paintGrid.1 ∈ xm_tb := xm_tb_in (in_t4 _ (List.mem_of_getElem? (i := 155) rfl)) rfl
theorem lk_D_298 : Cond.methodLink RX11 298 mt_Pn_paintAreas.1 ∈ xm_tb := xm_tb_in (in_t4 _ (List.mem_of_getElem? (i := 197) rfl)) rfl
theorem lk_D_301 : Cond.methodLink RX11 301 mt_Pn_paintOthers.1 ∈ xm_tb := xm_tb_in (in_t5 _ (List.mem_of_getElem? (i := 10) rfl)) rfl
theorem lk_D_304 : Cond.methodLink RX11 304 mt_Pn_paintSolids.1 ∈ xm_tb := xm_tb_in (in_t5 _ (List.mem_of_getElem? (i := 118) rfl)) rfl
theorem lk_D_308 : Cond.methodLink RX11 308 mt_Pl_placeAll.1 ∈ xm_tb := xm_tb_in (in_t5 _ (List.mem_of_getElem? (i := 147) rfl)) rfl
theorem lk_D_311 : Cond.methodLink RX11 311 mt_Mk_seal.1 ∈ xm_tb := xm_tb_in (in_t6 _ (List.mem_of_getElem? (i := 24) rfl)) rfl
theorem lk_D_315 : Cond.methodLink RX11 315 mt_Mk_has.1 ∈ xm_tb := xm_tb_in (in_t6 _ (List.mem_of_getElem? (i := 50) rfl)) rfl
theorem lk_D_316 : Cond.methodLink RX11 316 mt_Mk_valueAt.1 ∈ xm_tb := xm_tb_in (in_t6 _ (List.mem_of_getElem? (i := 51) rfl)) rfl
theorem lk_D_319 : Cond.methodLink RX11 319 mt_Lb_has.1 ∈ xm_tb := xm_tb_in (in_t6 _ (List.mem_of_getElem? (i := 56) rfl)) rfl
theorem lk_D_320 : Cond.methodLink RX11 320 mt_Lb_drawnPlaceOf.1 ∈ xm_tb := xm_tb_in (in_t6 _ (List.mem_of_getElem? (i := 57) rfl)) rfl
theorem lk_D_323 : Cond.methodLink RX11 323 mt_Mk_octetAt.1 ∈ xm_tb := xm_tb_in (in_t6 _ (List.mem_of_getElem? (i := 65) rfl)) rfl
theorem lk_D_335 : Cond.methodLink RX11 335 mt_Mk_octetCount.1 ∈ xm_tb := xm_tb_in (in_t6 _ (List.mem_of_getElem? (i := 81) rfl)) rfl
theorem lk_D_347 : Cond.methodLink RX11 347 mt_Gr_isNumber.1 ∈ xm_tb := xm_tb_in (in_t6 _ (List.mem_of_getElem? (i := 90) rfl)) rfl
theorem lk_D_350 : Cond.methodLink RX11 350 mt_Gr_make.1 ∈ xm_tb := xm_tb_in (in_t6 _ (List.mem_of_getElem? (i := 93) rfl)) rfl
theorem lk_D_353 : Cond.methodLink RX11 353 mt_Gr_isMade.1 ∈ xm_tb := xm_tb_in (in_t6 _ (List.mem_of_getElem? (i := 102) rfl)) rfl
theorem lk_D_356 : Cond.methodLink RX11 356 mt_Gr_hasPlace.1 ∈ xm_tb := xm_tb_in (in_t6 _ (List.mem_of_getElem? (i := 106) rfl)) rfl
theorem lk_D_359 : Cond.methodLink RX11 359 mt_Gr_takes.1 ∈ xm_tb := xm_tb_in (in_t6 _ (List.mem_of_getElem? (i := 115) rfl)) rfl
theorem lk_D_362 : Cond.methodLink RX11 362 mt_Gr_setMember.1 ∈ xm_tb := xm_tb_in (in_t6 _ (List.mem_of_getElem? (i := 119) rfl)) rfl
theorem lk_D_365 : Cond.methodLink RX11 365 mt_Gr_memberAt.1 ∈ xm_tb := xm_tb_in (in_t6 _ (List.mem_of_getElem? (i := 128) rfl)) rfl
theorem lk_D_368 : Cond.methodLink RX11 368 mt_Gr_placesOf.1 ∈ xm_tb := xm_tb_in (in_t6 _ (List.mem_of_getElem? (i := 136) rfl)) rfl
theorem lk_D_371 : Cond.methodLink RX11 371 mt_Fg_squareOfSpan.1 ∈ xm_tb := xm_tb_in (in_t6 _ (List.mem_of_getElem? (i := 141) rfl)) rfl
theorem lk_D_376 : Cond.methodLink RX11 376 mt_Jm_floorDiv_J.1 ∈ xm_tb := xm_tb_in (in_t4 _ (List.mem_of_getElem? (i := 188) rfl)) rfl
theorem lk_D_379 : Cond.methodLink RX11 379 mt_Jm_abs_J.1 ∈ xm_tb := xm_tb_in (in_t3 _ (List.mem_of_getElem? (i := 132) rfl)) rfl
theorem lk_D_382 : Cond.methodLink RX11 382 mt_Jm_floorDiv_I.1 ∈ xm_tb := xm_tb_in (in_t4 _ (List.mem_of_getElem? (i := 166) rfl)) rfl
theorem lk_D_384 : Cond.methodLink RX11 384 mt_D_multipleFrom.1 ∈ xm_tb := xm_tb_in (in_t4 _ (List.mem_of_getElem? (i := 172) rfl)) rfl
theorem lk_Cu_53 : Cond.methodLink RX0 53 mt_Cu_cutAxis.1 ∈ xm_tb := xm_tb_in (in_t5 _ (List.mem_of_getElem? (i := 40) rfl)) rfl
theorem lk_Cu_63 : Cond.methodLink RX0 63 mt_Cu_startNotBefore.1 ∈ xm_tb := xm_tb_in (in_t5 _ (List.mem_of_getElem? (i := 44) rfl)) rfl
theorem lk_Cu_67 : Cond.methodLink RX0 67 mt_Cu_endNotBehind.1 ∈ xm_tb := xm_tb_in (in_t5 _ (List.mem_of_getElem? (i := 48) rfl)) rfl
theorem lk_Cu_70 : Cond.methodLink RX0 70 mt_Fr_sheetX.1 ∈ xm_tb := xm_tb_in (in_t5 _ (List.mem_of_getElem? (i := 56) rfl)) rfl
theorem lk_Cu_74 : Cond.methodLink RX0 74 mt_Fr_sheetY.1 ∈ xm_tb := xm_tb_in (in_t5 _ (List.mem_of_getElem? (i := 61) rfl)) rfl
theorem lk_Fg_45 : Cond.methodLink RX1 45 mt_Fg_chainIsFull.1 ∈ xm_tb := xm_tb_in (in_t3 _ (List.mem_of_getElem? (i := 33) rfl)) rfl
theorem lk_Fg_49 : Cond.methodLink RX1 49 mt_Fg_isFull.1 ∈ xm_tb := xm_tb_in (in_t3 _ (List.mem_of_getElem? (i := 19) rfl)) rfl
theorem lk_Fg_59 : Cond.methodLink RX1 59 mt_Fg_has.1 ∈ xm_tb := xm_tb_in (in_t3 _ (List.mem_of_getElem? (i := 58) rfl)) rfl
theorem lk_Fg_63 : Cond.methodLink RX1 63 mt_Fg_cornersOf.1 ∈ xm_tb := xm_tb_in (in_t3 _ (List.mem_of_getElem? (i := 95) rfl)) rfl
theorem lk_Fg_67 : Cond.methodLink RX1 67 mt_Pt_xNow.1 ∈ xm_tb := xm_tb_in (in_t3 _ (List.mem_of_getElem? (i := 99) rfl)) rfl
theorem lk_Fg_72 : Cond.methodLink RX1 72 mt_Pt_yNow.1 ∈ xm_tb := xm_tb_in (in_t3 _ (List.mem_of_getElem? (i := 104) rfl)) rfl
theorem lk_Fg_75 : Cond.methodLink RX1 75 mt_Fg_kindOf.1 ∈ xm_tb := xm_tb_in (in_t3 _ (List.mem_of_getElem? (i := 83) rfl)) rfl
theorem lk_Fg_78 : Cond.methodLink RX1 78 mt_Fg_isAtOnePlace.1 ∈ xm_tb := xm_tb_in (in_t3 _ (List.mem_of_getElem? (i := 87) rfl)) rfl
theorem lk_Fg_82 : Cond.methodLink RX1 82 mt_Fg_turnOf.1 ∈ xm_tb := xm_tb_in (in_t3 _ (List.mem_of_getElem? (i := 105) rfl)) rfl
theorem lk_Fg_86 : Cond.methodLink RX1 86 mt_Fg_isHidden.1 ∈ xm_tb := xm_tb_in (in_t4 _ (List.mem_of_getElem? (i := 206) rfl)) rfl
theorem lk_Fg_89 : Cond.methodLink RX1 89 mt_Fg_hasFallen.1 ∈ xm_tb := xm_tb_in (in_t4 _ (List.mem_of_getElem? (i := 207) rfl)) rfl
theorem lk_Fg_92 : Cond.methodLink RX1 92 mt_Fg_xOf.1 ∈ xm_tb := xm_tb_in (in_t3 _ (List.mem_of_getElem? (i := 91) rfl)) rfl
theorem lk_Fg_96 : Cond.methodLink RX1 96 mt_Fg_yOf.1 ∈ xm_tb := xm_tb_in (in_t3 _ (List.mem_of_getElem? (i := 100) rfl)) rfl
theorem lk_Fr_43 : Cond.methodLink RX2 43 mt_Fr_rescale.1 ∈ xm_tb := xm_tb_in (in_t3 _ (List.mem_of_getElem? (i := 125) rfl)) rfl
theorem lk_Fr_46 : Cond.methodLinkNest RX2 46 mt_D_commonDivisor.1 "DrawLabels" ∈ xm_tb := xm_tb_in (in_t3 _ (List.mem_of_getElem? (i := 129) rfl)) rfl
theorem lk_Fr_54 : Cond.methodLink RX2 54 mt_Fr_aboveX.1 ∈ xm_tb := xm_tb_in (in_t4 _ (List.mem_of_getElem? (i := 182) rfl)) rfl
theorem lk_Fr_57 : Cond.methodLink RX2 57 mt_Fr_below.1 ∈ xm_tb := xm_tb_in (in_t4 _ (List.mem_of_getElem? (i := 183) rfl)) rfl
theorem lk_Fr_61 : Cond.methodLinkNest RX2 61 mt_D_rounded.1 "DrawLabels" ∈ xm_tb := xm_tb_in (in_t4 _ (List.mem_of_getElem? (i := 184) rfl)) rfl
theorem lk_Fr_65 : Cond.methodLink RX2 65 mt_Fr_aboveY.1 ∈ xm_tb := xm_tb_in (in_t4 _ (List.mem_of_getElem? (i := 195) rfl)) rfl
theorem lk_Fr_70 : Cond.methodLinkNest RX2 70 mt_D_squareRoot.1 "DrawLabels" ∈ xm_tb := xm_tb_in (in_t5 _ (List.mem_of_getElem? (i := 92) rfl)) rfl
theorem lk_Fr_73 : Cond.methodLink RX2 73 mt_Jm_max_I.1 ∈ xm_tb := xm_tb_in (in_t5 _ (List.mem_of_getElem? (i := 83) rfl)) rfl
theorem lk_Fr_79 : Cond.methodLink RX2 79 mt_Jm_abs_I.1 ∈ xm_tb := xm_tb_in (in_t5 _ (List.mem_of_getElem? (i := 84) rfl)) rfl
theorem lk_Fr_83 : Cond.methodLink RX2 83 mt_Jm_min_I.1 ∈ xm_tb := xm_tb_in (in_t5 _ (List.mem_of_getElem? (i := 99) rfl)) rfl
theorem lk_Gr_25 : Cond.methodLink RX3 25 mt_Gr_isNumber.1 ∈ xm_tb := xm_tb_in (in_t6 _ (List.mem_of_getElem? (i := 97) rfl)) rfl
theorem lk_Gr_29 : Cond.methodLink RX3 29 mt_Gr_isMade.1 ∈ xm_tb := xm_tb_in (in_t6 _ (List.mem_of_getElem? (i := 114) rfl)) rfl
theorem lk_Gr_32 : Cond.methodLink RX3 32 mt_Gr_placesOf.1 ∈ xm_tb := xm_tb_in (in_t6 _ (List.mem_of_getElem? (i := 110) rfl)) rfl
theorem lk_Gr_36 : Cond.methodLink RX3 36 mt_Gr_hasPlace.1 ∈ xm_tb := xm_tb_in (in_t6 _ (List.mem_of_getElem? (i := 123) rfl)) rfl
theorem lk_Lb_25 : Cond.methodLink RX4 25 mt_Lb_isFull.1 ∈ xm_tb := xm_tb_in (in_t4 _ (List.mem_of_getElem? (i := 129) rfl)) rfl
theorem lk_Lb_30 : Cond.methodLink RX4 30 mt_Lb_has.1 ∈ xm_tb := xm_tb_in (in_t5 _ (List.mem_of_getElem? (i := 163) rfl)) rfl
theorem lk_Mk_31 : Cond.methodLink RX5 31 mt_Mk_isFull.1 ∈ xm_tb := xm_tb_in (in_t4 _ (List.mem_of_getElem? (i := 147) rfl)) rfl
theorem lk_Mk_35 : Cond.methodLink RX5 35 mt_Mk_lose.1 ∈ xm_tb := xm_tb_in (in_t4 _ (List.mem_of_getElem? (i := 151) rfl)) rfl
theorem lk_Mk_39 : Cond.methodLink RX5 39 mt_Mk_has.1 ∈ xm_tb := xm_tb_in (in_t5 _ (List.mem_of_getElem? (i := 201) rfl)) rfl
theorem lk_Mk_43 : Cond.methodLink RX5 43 mt_Mk_write.1 ∈ xm_tb := xm_tb_in (in_t6 _ (List.mem_of_getElem? (i := 28) rfl)) rfl
theorem lk_Mk_49 : Cond.methodLink RX5 49 mt_Mk_octetCount.1 ∈ xm_tb := xm_tb_in (in_t6 _ (List.mem_of_getElem? (i := 69) rfl)) rfl
theorem lk_Mk_53 : Cond.methodLink RX5 53 mt_Mk_valueAt.1 ∈ xm_tb := xm_tb_in (in_t6 _ (List.mem_of_getElem? (i := 32) rfl)) rfl
theorem lk_Mk_57 : Cond.methodLink RX5 57 mt_Mk_numbersOf.1 ∈ xm_tb := xm_tb_in (in_t6 _ (List.mem_of_getElem? (i := 33) rfl)) rfl
theorem lk_Mk_61 : Cond.methodLink RX5 61 mt_Mk_writeOctet.1 ∈ xm_tb := xm_tb_in (in_t6 _ (List.mem_of_getElem? (i := 36) rfl)) rfl
theorem lk_Mk_64 : Cond.methodLink RX5 64 mt_Mk_writeNumber.1 ∈ xm_tb := xm_tb_in (in_t6 _ (List.mem_of_getElem? (i := 40) rfl)) rfl
theorem lk_Mk_67 : Cond.methodLink RX5 67 mt_Jm_abs_J.1 ∈ xm_tb := xm_tb_in (in_t6 _ (List.mem_of_getElem? (i := 44) rfl)) rfl
theorem lk_Pn_53 : Cond.methodLink RX6 53 mt_Cu_init.1 ∈ xm_tb := xm_tb_in (in_t2 _ (List.mem_of_getElem? (i := 34) rfl)) rfl
theorem lk_Pn_60 : Cond.methodLink RX6 60 mt_Mk_clear.1 ∈ xm_tb := xm_tb_in (in_t4 _ (List.mem_of_getElem? (i := 139) rfl)) rfl
theorem lk_Pn_74 : Cond.methodLink RX6 74 mt_Mk_add.1 ∈ xm_tb := xm_tb_in (in_t4 _ (List.mem_of_getElem? (i := 143) rfl)) rfl
theorem lk_Pn_78 : Cond.methodLink RX6 78 mt_Pn_hasDrawn.1 ∈ xm_tb := xm_tb_in (in_t5 _ (List.mem_of_getElem? (i := 183) rfl)) rfl
theorem lk_Pn_91 : Cond.methodLink RX6 91 mt_Pn_paintGridWay.1 ∈ xm_tb := xm_tb_in (in_t4 _ (List.mem_of_getElem? (i := 159) rfl)) rfl
theorem lk_Pn_101 : Cond.methodLinkNest RX6 101 mt_D_multipleFrom.1 "DrawLabels" ∈ xm_tb := xm_tb_in (in_t4 _ (List.mem_of_getElem? (i := 163) rfl)) rfl
theorem lk_Pn_107 : Cond.methodLinkNest RX6 107 mt_D_multiplesWithin.1 "DrawLabels" ∈ xm_tb := xm_tb_in (in_t4 _ (List.mem_of_getElem? (i := 169) rfl)) rfl
theorem lk_Pn_114 : Cond.methodLink RX6 114 mt_Jm_min_I.1 ∈ xm_tb := xm_tb_in (in_t4 _ (List.mem_of_getElem? (i := 173) rfl)) rfl
theorem lk_Pn_119 : Cond.methodLink RX6 119 mt_Pn_paintGridStroke.1 ∈ xm_tb := xm_tb_in (in_t4 _ (List.mem_of_getElem? (i := 174) rfl)) rfl
theorem lk_Pn_123 : Cond.methodLink RX6 123 mt_Mk_lose.1 ∈ xm_tb := xm_tb_in (in_t4 _ (List.mem_of_getElem? (i := 196) rfl)) rfl
theorem lk_Pn_127 : Cond.methodLink RX6 127 mt_Fr_sheetX.1 ∈ xm_tb := xm_tb_in (in_t4 _ (List.mem_of_getElem? (i := 178) rfl)) rfl
theorem lk_Pn_131 : Cond.methodLink RX6 131 mt_Fr_sheetY.1 ∈ xm_tb := xm_tb_in (in_t4 _ (List.mem_of_getElem? (i := 191) rfl)) rfl
theorem lk_Pn_135 : Cond.methodLink RX6 135 mt_Fg_kindOf.1 ∈ xm_tb := xm_tb_in (in_t4 _ (List.mem_of_getElem? (i := 201) rfl)) rfl
theorem lk_Pn_139 : Cond.methodLink RX6 139 mt_Fg_isDrawn.1 ∈ xm_tb := xm_tb_in (in_t4 _ (List.mem_of_getElem? (i := 202) rfl)) rfl
theorem lk_Pn_142 : Cond.methodLink RX6 142 mt_Pn_paintArea.1 ∈ xm_tb := xm_tb_in (in_t4 _ (List.mem_of_getElem? (i := 208) rfl)) rfl
theorem lk_Pn_145 : Cond.methodLink RX6 145 mt_Pn_takeCorners.1 ∈ xm_tb := xm_tb_in (in_t4 _ (List.mem_of_getElem? (i := 212) rfl)) rfl
theorem lk_Pn_148 : Cond.methodLink RX6 148 mt_Pn_anchorArea.1 ∈ xm_tb := xm_tb_in (in_t4 _ (List.mem_of_getElem? (i := 219) rfl)) rfl
theorem lk_Pn_154 : Cond.methodLink RX6 154 mt_Jm_max_I.1 ∈ xm_tb := xm_tb_in (in_t4 _ (List.mem_of_getElem? (i := 230) rfl)) rfl
theorem lk_Pn_157 : Cond.methodLinkNest RX6 157 mt_D_isWithin.1 "DrawLabels" ∈ xm_tb := xm_tb_in (in_t4 _ (List.mem_of_getElem? (i := 231) rfl)) rfl
theorem lk_Pn_164 : Cond.methodLink RX6 164 mt_Mk_isFull.1 ∈ xm_tb := xm_tb_in (in_t4 _ (List.mem_of_getElem? (i := 232) rfl)) rfl
theorem lk_Pn_168 : Cond.methodLink RX6 168 mt_Pn_hatchStrokes.1 ∈ xm_tb := xm_tb_in (in_t4 _ (List.mem_of_getElem? (i := 233) rfl)) rfl
theorem lk_Pn_171 : Cond.methodLink RX6 171 mt_Fg_styleOf.1 ∈ xm_tb := xm_tb_in (in_t4 _ (List.mem_of_getElem? (i := 237) rfl)) rfl
theorem lk_Pn_174 : Cond.methodLink RX6 174 mt_Pn_paintHatch.1 ∈ xm_tb := xm_tb_in (in_t4 _ (List.mem_of_getElem? (i := 238) rfl)) rfl
theorem lk_Pn_178 : Cond.methodLinkNest RX6 178 mt_D_roundedDown.1 "DrawLabels" ∈ xm_tb := xm_tb_in (in_t4 _ (List.mem_of_getElem? (i := 223) rfl)) rfl
theorem lk_Pn_181 : Cond.methodLink RX6 181 mt_Pn_anchor.1 ∈ xm_tb := xm_tb_in (in_t4 _ (List.mem_of_getElem? (i := 226) rfl)) rfl
theorem lk_Pn_185 : Cond.methodLink RX6 185 mt_Fg_cornersOf.1 ∈ xm_tb := xm_tb_in (in_t4 _ (List.mem_of_getElem? (i := 216) rfl)) rfl
theorem lk_Pn_188 : Cond.methodLink RX6 188 mt_Fg_xOf.1 ∈ xm_tb := xm_tb_in (in_t4 _ (List.mem_of_getElem? (i := 217) rfl)) rfl
theorem lk_Pn_191 : Cond.methodLink RX6 191 mt_Fg_yOf.1 ∈ xm_tb := xm_tb_in (in_t4 _ (List.mem_of_getElem? (i := 218) rfl)) rfl
theorem lk_Pn_197 : Cond.methodLink RX6 197 mt_Pn_meetSide.1 ∈ xm_tb := xm_tb_in (in_t5 _ (List.mem_of_getElem? (i := 2) rfl)) rfl
theorem lk_Pn_200 : Cond.methodLink RX6 200 mt_Pn_paintHatchStroke.1 ∈ xm_tb := xm_tb_in (in_t5 _ (List.mem_of_getElem? (i := 6) rfl)) rfl
theorem lk_Pn_203 : Cond.methodLink RX6 203 mt_Pn_paintOther.1 ∈ xm_tb := xm_tb_in (in_t5 _ (List.mem_of_getElem? (i := 14) rfl)) rfl
theorem lk_Pn_206 : Cond.methodLink RX6 206 mt_Pn_paintDot.1 ∈ xm_tb := xm_tb_in (in_t5 _ (List.mem_of_getElem? (i := 18) rfl)) rfl
theorem lk_Pn_209 : Cond.methodLink RX6 209 mt_Pn_paintStraight.1 ∈ xm_tb := xm_tb_in (in_t5 _ (List.mem_of_getElem? (i := 26) rfl)) rfl
theorem lk_Pn_212 : Cond.methodLink RX6 212 mt_Pn_paintCircle.1 ∈ xm_tb := xm_tb_in (in_t5 _ (List.mem_of_getElem? (i := 71) rfl)) rfl
theorem lk_Pn_215 : Cond.methodLink RX6 215 mt_Pn_paintAngle.1 ∈ xm_tb := xm_tb_in (in_t5 _ (List.mem_of_getElem? (i := 100) rfl)) rfl
theorem lk_Pn_218 : Cond.methodLink RX6 218 mt_Pn_paintTicks.1 ∈ xm_tb := xm_tb_in (in_t5 _ (List.mem_of_getElem? (i := 110) rfl)) rfl
theorem lk_Pn_221 : Cond.methodLink RX6 221 mt_Fr_holds.1 ∈ xm_tb := xm_tb_in (in_t5 _ (List.mem_of_getElem? (i := 22) rfl)) rfl
theorem lk_Pn_225 : Cond.methodLink RX6 225 mt_Cu_setWay.1 ∈ xm_tb := xm_tb_in (in_t5 _ (List.mem_of_getElem? (i := 30) rfl)) rfl
theorem lk_Pn_229 : Cond.methodLink RX6 229 mt_Cu_cut.1 ∈ xm_tb := xm_tb_in (in_t5 _ (List.mem_of_getElem? (i := 34) rfl)) rfl
theorem lk_Pn_232 : Cond.methodLink RX6 232 mt_Cu_firstX.1 ∈ xm_tb := xm_tb_in (in_t5 _ (List.mem_of_getElem? (i := 52) rfl)) rfl
theorem lk_Pn_236 : Cond.methodLink RX6 236 mt_Cu_firstY.1 ∈ xm_tb := xm_tb_in (in_t5 _ (List.mem_of_getElem? (i := 57) rfl)) rfl
theorem lk_Pn_239 : Cond.methodLink RX6 239 mt_Cu_lastX.1 ∈ xm_tb := xm_tb_in (in_t5 _ (List.mem_of_getElem? (i := 62) rfl)) rfl
theorem lk_Pn_242 : Cond.methodLink RX6 242 mt_Cu_lastY.1 ∈ xm_tb := xm_tb_in (in_t5 _ (List.mem_of_getElem? (i := 66) rfl)) rfl
theorem lk_Pn_247 : Cond.methodLink RX6 247 mt_Fg_squareOfSpan.1 ∈ xm_tb := xm_tb_in (in_t5 _ (List.mem_of_getElem? (i := 75) rfl)) rfl
theorem lk_Pn_251 : Cond.methodLink RX6 251 mt_Fr_meetsCircle.1 ∈ xm_tb := xm_tb_in (in_t5 _ (List.mem_of_getElem? (i := 79) rfl)) rfl
theorem lk_Pn_255 : Cond.methodLink RX6 255 mt_Fr_sheetLength.1 ∈ xm_tb := xm_tb_in (in_t5 _ (List.mem_of_getElem? (i := 87) rfl)) rfl
theorem lk_Pn_259 : Cond.methodLink RX6 259 mt_Fr_holdsCircle.1 ∈ xm_tb := xm_tb_in (in_t5 _ (List.mem_of_getElem? (i := 95) rfl)) rfl
theorem lk_Pn_262 : Cond.methodLink RX6 262 mt_Pn_openingOf.1 ∈ xm_tb := xm_tb_in (in_t5 _ (List.mem_of_getElem? (i := 104) rfl)) rfl
theorem lk_Pn_266 : Cond.methodLinkNest RX6 266 mt_D_octant.1 "DrawLabels" ∈ xm_tb := xm_tb_in (in_t5 _ (List.mem_of_getElem? (i := 107) rfl)) rfl
theorem lk_Pn_269 : Cond.methodLink RX6 269 mt_Fg_strokesOf.1 ∈ xm_tb := xm_tb_in (in_t5 _ (List.mem_of_getElem? (i := 114) rfl)) rfl
theorem lk_Pn_272 : Cond.methodLink RX6 272 mt_Fg_isHidden.1 ∈ xm_tb := xm_tb_in (in_t5 _ (List.mem_of_getElem? (i := 122) rfl)) rfl
theorem lk_Pn_278 : Cond.methodLink RX6 278 mt_Ss_find.1 ∈ xm_tb := xm_tb_in (in_t5 _ (List.mem_of_getElem? (i := 123) rfl)) rfl
theorem lk_Pn_285 : Cond.methodLink RX6 285 mt_Pn_paintSolid.1 ∈ xm_tb := xm_tb_in (in_t5 _ (List.mem_of_getElem? (i := 124) rfl)) rfl
theorem lk_Pn_289 : Cond.methodLink RX6 289 mt_So_facesSeen.1 ∈ xm_tb := xm_tb_in (in_t5 _ (List.mem_of_getElem? (i := 128) rfl)) rfl
theorem lk_Pn_294 : Cond.methodLink RX6 294 mt_So_isEdge.1 ∈ xm_tb := xm_tb_in (in_t5 _ (List.mem_of_getElem? (i := 129) rfl)) rfl
theorem lk_Pn_297 : Cond.methodLink RX6 297 mt_So_isBehind.1 ∈ xm_tb := xm_tb_in (in_t5 _ (List.mem_of_getElem? (i := 130) rfl)) rfl
theorem lk_Pn_301 : Cond.methodLink RX6 301 mt_Pn_paintEdge.1 ∈ xm_tb := xm_tb_in (in_t5 _ (List.mem_of_getElem? (i := 131) rfl)) rfl
theorem lk_Pn_308 : Cond.methodLink RX6 308 mt_Pt_xNow.1 ∈ xm_tb := xm_tb_in (in_t5 _ (List.mem_of_getElem? (i := 135) rfl)) rfl
theorem lk_Pn_313 : Cond.methodLink RX6 313 mt_Pt_yNow.1 ∈ xm_tb := xm_tb_in (in_t5 _ (List.mem_of_getElem? (i := 136) rfl)) rfl
theorem lk_Pn_316 : Cond.methodLink RX6 316 mt_So_lesserOf.1 ∈ xm_tb := xm_tb_in (in_t5 _ (List.mem_of_getElem? (i := 137) rfl)) rfl
theorem lk_Pn_319 : Cond.methodLink RX6 319 mt_So_greaterOf.1 ∈ xm_tb := xm_tb_in (in_t5 _ (List.mem_of_getElem? (i := 138) rfl)) rfl
theorem lk_Pn_322 : Cond.methodLink RX6 322 mt_So_acrossOf.1 ∈ xm_tb := xm_tb_in (in_t5 _ (List.mem_of_getElem? (i := 139) rfl)) rfl
theorem lk_Pn_325 : Cond.methodLink RX6 325 mt_So_risingOf.1 ∈ xm_tb := xm_tb_in (in_t5 _ (List.mem_of_getElem? (i := 143) rfl)) rfl
theorem lk_Pl_55 : Cond.methodLink RX7 55 mt_Lb_beginDrawing.1 ∈ xm_tb := xm_tb_in (in_t5 _ (List.mem_of_getElem? (i := 151) rfl)) rfl
theorem lk_Pl_58 : Cond.methodLink RX7 58 mt_Pl_gatherGuests.1 ∈ xm_tb := xm_tb_in (in_t5 _ (List.mem_of_getElem? (i := 155) rfl)) rfl
theorem lk_Pl_65 : Cond.methodLink RX7 65 mt_Pl_setBoxes.1 ∈ xm_tb := xm_tb_in (in_t5 _ (List.mem_of_getElem? (i := 175) rfl)) rfl
theorem lk_Pl_69 : Cond.methodLink RX7 69 mt_Pl_addCostsOfMarks.1 ∈ xm_tb := xm_tb_in (in_t5 _ (List.mem_of_getElem? (i := 193) rfl)) rfl
theorem lk_Pl_72 : Cond.methodLink RX7 72 mt_Pl_findBest.1 ∈ xm_tb := xm_tb_in (in_t5 _ (List.mem_of_getElem? (i := 215) rfl)) rfl
theorem lk_Pl_75 : Cond.methodLink RX7 75 mt_Pl_goRounds.1 ∈ xm_tb := xm_tb_in (in_t5 _ (List.mem_of_getElem? (i := 231) rfl)) rfl
theorem lk_Pl_82 : Cond.methodLink RX7 82 mt_Pl_markGuest.1 ∈ xm_tb := xm_tb_in (in_t6 _ (List.mem_of_getElem? (i := 15) rfl)) rfl
theorem lk_Pl_86 : Cond.methodLink RX7 86 mt_Lb_objectOf.1 ∈ xm_tb := xm_tb_in (in_t5 _ (List.mem_of_getElem? (i := 159) rfl)) rfl
theorem lk_Pl_90 : Cond.methodLink RX7 90 mt_Pn_hasDrawn.1 ∈ xm_tb := xm_tb_in (in_t5 _ (List.mem_of_getElem? (i := 167) rfl)) rfl
theorem lk_Pl_96 : Cond.methodLink RX7 96 mt_Lb_lettersOf.1 ∈ xm_tb := xm_tb_in (in_t5 _ (List.mem_of_getElem? (i := 171) rfl)) rfl
theorem lk_Pl_99 : Cond.methodLink RX7 99 mt_Pn_anchorXOf.1 ∈ xm_tb := xm_tb_in (in_t5 _ (List.mem_of_getElem? (i := 179) rfl)) rfl
theorem lk_Pl_102 : Cond.methodLink RX7 102 mt_Pn_anchorYOf.1 ∈ xm_tb := xm_tb_in (in_t5 _ (List.mem_of_getElem? (i := 184) rfl)) rfl
theorem lk_Pl_105 : Cond.methodLink RX7 105 mt_Pl_leftFromAnchor.1 ∈ xm_tb := xm_tb_in (in_t5 _ (List.mem_of_getElem? (i := 188) rfl)) rfl
theorem lk_Pl_122 : Cond.methodLink RX7 122 mt_Mk_valueAt.1 ∈ xm_tb := xm_tb_in (in_t5 _ (List.mem_of_getElem? (i := 197) rfl)) rfl
theorem lk_Pl_125 : Cond.methodLink RX7 125 mt_Pl_addCostOfStroke.1 ∈ xm_tb := xm_tb_in (in_t5 _ (List.mem_of_getElem? (i := 205) rfl)) rfl
theorem lk_Pl_129 : Cond.methodLink RX7 129 mt_Jm_min_I.1 ∈ xm_tb := xm_tb_in (in_t5 _ (List.mem_of_getElem? (i := 209) rfl)) rfl
theorem lk_Pl_134 : Cond.methodLink RX7 134 mt_Jm_max_I.1 ∈ xm_tb := xm_tb_in (in_t5 _ (List.mem_of_getElem? (i := 210) rfl)) rfl
theorem lk_Pl_137 : Cond.methodLink RX7 137 mt_Pl_isAside.1 ∈ xm_tb := xm_tb_in (in_t5 _ (List.mem_of_getElem? (i := 211) rfl)) rfl
theorem lk_Pl_141 : Cond.methodLink RX7 141 mt_Pl_costOf.1 ∈ xm_tb := xm_tb_in (in_t5 _ (List.mem_of_getElem? (i := 223) rfl)) rfl
theorem lk_Pl_144 : Cond.methodLink RX7 144 mt_Pl_meet.1 ∈ xm_tb := xm_tb_in (in_t6 _ (List.mem_of_getElem? (i := 3) rfl)) rfl
theorem lk_Pl_148 : Cond.methodLink RX7 148 mt_Pl_leastCostOf.1 ∈ xm_tb := xm_tb_in (in_t5 _ (List.mem_of_getElem? (i := 219) rfl)) rfl
theorem lk_Pl_151 : Cond.methodLink RX7 151 mt_Pl_boundByRounds.1 ∈ xm_tb := xm_tb_in (in_t5 _ (List.mem_of_getElem? (i := 227) rfl)) rfl
theorem lk_Pl_154 : Cond.methodLink RX7 154 mt_Pl_search.1 ∈ xm_tb := xm_tb_in (in_t6 _ (List.mem_of_getElem? (i := 7) rfl)) rfl
theorem lk_Pl_164 : Cond.methodLink RX7 164 mt_Pl_keepAsBest.1 ∈ xm_tb := xm_tb_in (in_t6 _ (List.mem_of_getElem? (i := 11) rfl)) rfl
theorem lk_Pl_168 : Cond.methodLink RX7 168 mt_Pl_isFree.1 ∈ xm_tb := xm_tb_in (in_t5 _ (List.mem_of_getElem? (i := 239) rfl)) rfl
theorem lk_Pl_171 : Cond.methodLink RX7 171 mt_Pl_cheapestFree.1 ∈ xm_tb := xm_tb_in (in_t5 _ (List.mem_of_getElem? (i := 235) rfl)) rfl
theorem lk_Pl_174 : Cond.methodLink RX7 174 mt_Lb_place.1 ∈ xm_tb := xm_tb_in (in_t6 _ (List.mem_of_getElem? (i := 19) rfl)) rfl
theorem lk_Pl_177 : Cond.methodLink RX7 177 mt_Mk_add.1 ∈ xm_tb := xm_tb_in (in_t6 _ (List.mem_of_getElem? (i := 23) rfl)) rfl
theorem lk_Pt_28 : Cond.methodLink RX8 28 mt_Pt_isFull.1 ∈ xm_tb := xm_tb_in (in_t2 _ (List.mem_of_getElem? (i := 215) rfl)) rfl
theorem lk_Pt_33 : Cond.methodLink RX8 33 mt_Pt_has.1 ∈ xm_tb := xm_tb_in (in_t2 _ (List.mem_of_getElem? (i := 230) rfl)) rfl
theorem lk_Pt_40 : Cond.methodLink RX8 40 mt_Pt_xNow.1 ∈ xm_tb := xm_tb_in (in_t3 _ (List.mem_of_getElem? (i := 191) rfl)) rfl
theorem lk_Pt_44 : Cond.methodLink RX8 44 mt_Pt_yNow.1 ∈ xm_tb := xm_tb_in (in_t3 _ (List.mem_of_getElem? (i := 192) rfl)) rfl
theorem lk_So_46 : Cond.methodLink RX9 46 mt_So_verticesAreFull.1 ∈ xm_tb := xm_tb_in (in_t4 _ (List.mem_of_getElem? (i := 37) rfl)) rfl
theorem lk_So_51 : Cond.methodLink RX9 51 mt_So_vertexIn.1 ∈ xm_tb := xm_tb_in (in_t4 _ (List.mem_of_getElem? (i := 47) rfl)) rfl
theorem lk_So_55 : Cond.methodLink RX9 55 mt_Ji_bitCount_I.1 ∈ xm_tb := xm_tb_in (in_t4 _ (List.mem_of_getElem? (i := 53) rfl)) rfl
theorem lk_So_61 : Cond.methodLink RX9 61 mt_So_facesAreFull.1 ∈ xm_tb := xm_tb_in (in_t4 _ (List.mem_of_getElem? (i := 67) rfl)) rfl
theorem lk_So_64 : Cond.methodLink RX9 64 mt_So_hasVertices.1 ∈ xm_tb := xm_tb_in (in_t4 _ (List.mem_of_getElem? (i := 68) rfl)) rfl
theorem lk_So_68 : Cond.methodLink RX9 68 mt_So_setNormal.1 ∈ xm_tb := xm_tb_in (in_t4 _ (List.mem_of_getElem? (i := 69) rfl)) rfl
theorem lk_So_72 : Cond.methodLink RX9 72 mt_Jm_min_I.1 ∈ xm_tb := xm_tb_in (in_t4 _ (List.mem_of_getElem? (i := 73) rfl)) rfl
theorem lk_So_77 : Cond.methodLink RX9 77 mt_Jm_max_I.1 ∈ xm_tb := xm_tb_in (in_t4 _ (List.mem_of_getElem? (i := 74) rfl)) rfl
theorem lk_So_80 : Cond.methodLink RX9 80 mt_So_towardsEye.1 ∈ xm_tb := xm_tb_in (in_t4 _ (List.mem_of_getElem? (i := 105) rfl)) rfl
theorem lk_So_83 : Cond.methodLink RX9 83 mt_So_isEdge.1 ∈ xm_tb := xm_tb_in (in_t4 _ (List.mem_of_getElem? (i := 87) rfl)) rfl
theorem lk_Ss_21 : Cond.methodLink RX10 21 mt_Ss_isFull.1 ∈ xm_tb := xm_tb_in (in_t3 _ (List.mem_of_getElem? (i := 219) rfl)) rfl
theorem lk_Ss_26 : Cond.methodLink RX10 26 mt_So_init.1 ∈ xm_tb := xm_tb_in (in_t3 _ (List.mem_of_getElem? (i := 222) rfl)) rfl
theorem lk_M_150 : Cond.methodLink RX12 150 mt_M_in.1 ∈ xm_tb := xm_tb_in (in_t7 _ (List.mem_of_getElem? (i := 150) rfl)) rfl
theorem lk_M_156 : Cond.methodLink RX12 156 mt_M_isPoint.1 ∈ xm_tb := xm_tb_in (in_t7 _ (List.mem_of_getElem? (i := 159) rfl)) rfl
theorem lk_M_168 : Cond.methodLink RX12 168 mt_M_nowX.1 ∈ xm_tb := xm_tb_in (in_t7 _ (List.mem_of_getElem? (i := 174) rfl)) rfl
theorem lk_M_172 : Cond.methodLink RX12 172 mt_M_nowY.1 ∈ xm_tb := xm_tb_in (in_t7 _ (List.mem_of_getElem? (i := 178) rfl)) rfl
theorem lk_M_177 : Cond.methodLink RX12 177 mt_M_wanted.1 ∈ xm_tb := xm_tb_in (in_t7 _ (List.mem_of_getElem? (i := 186) rfl)) rfl
theorem lk_M_186 : Cond.methodLink RX12 186 mt_M_isObject.1 ∈ xm_tb := xm_tb_in (in_t7 _ (List.mem_of_getElem? (i := 204) rfl)) rfl
theorem lk_M_193 : Cond.methodLink RX12 193 mt_M_cornerX.1 ∈ xm_tb := xm_tb_in (in_t7 _ (List.mem_of_getElem? (i := 226) rfl)) rfl
theorem lk_M_197 : Cond.methodLink RX12 197 mt_M_cornerY.1 ∈ xm_tb := xm_tb_in (in_t7 _ (List.mem_of_getElem? (i := 230) rfl)) rfl
theorem lk_M_200 : Cond.methodLink RX12 200 mt_M_isSame.1 ∈ xm_tb := xm_tb_in (in_t7 _ (List.mem_of_getElem? (i := 222) rfl)) rfl
theorem lk_M_204 : Cond.methodLink RX12 204 mt_M_measured.1 ∈ xm_tb := xm_tb_in (in_t7 _ (List.mem_of_getElem? (i := 234) rfl)) rfl
theorem lk_M_208 : Cond.methodLink RX12 208 mt_M_isFallen.1 ∈ xm_tb := xm_tb_in (in_t7 _ (List.mem_of_getElem? (i := 218) rfl)) rfl
theorem lk_M_215 : Cond.methodLink RX12 215 mt_M_isSide.1 ∈ xm_tb := xm_tb_in (in_t8 _ (List.mem_of_getElem? (i := 7) rfl)) rfl
theorem lk_M_242 : Cond.methodLink RX12 242 mt_M_common.1 ∈ xm_tb := xm_tb_in (in_t8 _ (List.mem_of_getElem? (i := 46) rfl)) rfl
theorem lk_M_253 : Cond.methodLink RX12 253 mt_M_hasScale.1 ∈ xm_tb := xm_tb_in (in_t8 _ (List.mem_of_getElem? (i := 42) rfl)) rfl
theorem lk_M_260 : Cond.methodLink RX12 260 mt_M_topOn.1 ∈ xm_tb := xm_tb_in (in_t8 _ (List.mem_of_getElem? (i := 55) rfl)) rfl
theorem lk_M_264 : Cond.methodLink RX12 264 mt_M_floor.1 ∈ xm_tb := xm_tb_in (in_t8 _ (List.mem_of_getElem? (i := 124) rfl)) rfl
theorem lk_M_271 : Cond.methodLink RX12 271 mt_M_isSolid.1 ∈ xm_tb := xm_tb_in (in_t8 _ (List.mem_of_getElem? (i := 68) rfl)) rfl
theorem lk_M_279 : Cond.methodLink RX12 279 mt_M_less.1 ∈ xm_tb := xm_tb_in (in_t8 _ (List.mem_of_getElem? (i := 93) rfl)) rfl
theorem lk_M_286 : Cond.methodLink RX12 286 mt_M_isSeen.1 ∈ xm_tb := xm_tb_in (in_t8 _ (List.mem_of_getElem? (i := 89) rfl)) rfl
theorem lk_M_290 : Cond.methodLink RX12 290 mt_M_gather.1 ∈ xm_tb := xm_tb_in (in_t8 _ (List.mem_of_getElem? (i := 85) rfl)) rfl
theorem lk_M_313 : Cond.methodLink RX12 313 mt_M_narrow.1 ∈ xm_tb := xm_tb_in (in_t8 _ (List.mem_of_getElem? (i := 200) rfl)) rfl
theorem lk_M_317 : Cond.methodLink RX12 317 mt_M_along.1 ∈ xm_tb := xm_tb_in (in_t8 _ (List.mem_of_getElem? (i := 196) rfl)) rfl
theorem lk_M_327 : Cond.methodLink RX12 327 mt_M_on.1 ∈ xm_tb := xm_tb_in (in_t8 _ (List.mem_of_getElem? (i := 131) rfl)) rfl
theorem lk_M_343 : Cond.methodLink RX12 343 mt_M_add.1 ∈ xm_tb := xm_tb_in (in_t8 _ (List.mem_of_getElem? (i := 101) rfl)) rfl
theorem lk_M_347 : Cond.methodLink RX12 347 mt_M_clips.1 ∈ xm_tb := xm_tb_in (in_t8 _ (List.mem_of_getElem? (i := 192) rfl)) rfl
theorem lk_M_351 : Cond.methodLink RX12 351 mt_M_stroke.1 ∈ xm_tb := xm_tb_in (in_t8 _ (List.mem_of_getElem? (i := 127) rfl)) rfl
theorem lk_M_355 : Cond.methodLink RX12 355 mt_M_ceiling.1 ∈ xm_tb := xm_tb_in (in_t8 _ (List.mem_of_getElem? (i := 121) rfl)) rfl
theorem lk_M_361 : Cond.methodLink RX12 361 mt_M_cross.1 ∈ xm_tb := xm_tb_in (in_t8 _ (List.mem_of_getElem? (i := 143) rfl)) rfl
theorem lk_M_365 : Cond.methodLink RX12 365 mt_M_show.1 ∈ xm_tb := xm_tb_in (in_t8 _ (List.mem_of_getElem? (i := 147) rfl)) rfl
theorem lk_M_371 : Cond.methodLink RX12 371 mt_M_squareOf.1 ∈ xm_tb := xm_tb_in (in_t8 _ (List.mem_of_getElem? (i := 163) rfl)) rfl
theorem lk_M_374 : Cond.methodLink RX12 374 mt_M_near.1 ∈ xm_tb := xm_tb_in (in_t8 _ (List.mem_of_getElem? (i := 167) rfl)) rfl
theorem lk_M_378 : Cond.methodLink RX12 378 mt_M_far.1 ∈ xm_tb := xm_tb_in (in_t8 _ (List.mem_of_getElem? (i := 170) rfl)) rfl
theorem lk_M_381 : Cond.methodLink RX12 381 mt_M_root.1 ∈ xm_tb := xm_tb_in (in_t8 _ (List.mem_of_getElem? (i := 173) rfl)) rfl
theorem lk_M_385 : Cond.methodLink RX12 385 mt_M_has.1 ∈ xm_tb := xm_tb_in (in_t8 _ (List.mem_of_getElem? (i := 155) rfl)) rfl
theorem lk_M_388 : Cond.methodLink RX12 388 mt_M_octant.1 ∈ xm_tb := xm_tb_in (in_t8 _ (List.mem_of_getElem? (i := 181) rfl)) rfl
theorem lk_M_391 : Cond.methodLink RX12 391 mt_M_drawCircle.1 ∈ xm_tb := xm_tb_in (in_t8 _ (List.mem_of_getElem? (i := 159) rfl)) rfl
theorem lk_M_394 : Cond.methodLink RX12 394 mt_M_drawAngle.1 ∈ xm_tb := xm_tb_in (in_t8 _ (List.mem_of_getElem? (i := 177) rfl)) rfl
theorem lk_M_397 : Cond.methodLink RX12 397 mt_M_drawTicks.1 ∈ xm_tb := xm_tb_in (in_t8 _ (List.mem_of_getElem? (i := 184) rfl)) rfl
theorem lk_M_400 : Cond.methodLink RX12 400 mt_M_way.1 ∈ xm_tb := xm_tb_in (in_t8 _ (List.mem_of_getElem? (i := 188) rfl)) rfl
theorem lk_M_404 : Cond.methodLink RX12 404 mt_M_flatX.1 ∈ xm_tb := xm_tb_in (in_t8 _ (List.mem_of_getElem? (i := 208) rfl)) rfl
theorem lk_M_407 : Cond.methodLink RX12 407 mt_M_flatY.1 ∈ xm_tb := xm_tb_in (in_t8 _ (List.mem_of_getElem? (i := 212) rfl)) rfl
theorem lk_M_428 : Cond.methodLink RX12 428 mt_M_lay.1 ∈ xm_tb := xm_tb_in (in_t8 _ (List.mem_of_getElem? (i := 105) rfl)) rfl
theorem lk_M_431 : Cond.methodLink RX12 431 mt_M_drawGrid.1 ∈ xm_tb := xm_tb_in (in_t8 _ (List.mem_of_getElem? (i := 117) rfl)) rfl
theorem lk_M_434 : Cond.methodLink RX12 434 mt_M_isDrawable.1 ∈ xm_tb := xm_tb_in (in_t8 _ (List.mem_of_getElem? (i := 135) rfl)) rfl
theorem lk_M_437 : Cond.methodLink RX12 437 mt_M_drawArea.1 ∈ xm_tb := xm_tb_in (in_t8 _ (List.mem_of_getElem? (i := 139) rfl)) rfl
theorem lk_M_440 : Cond.methodLink RX12 440 mt_M_drawObject.1 ∈ xm_tb := xm_tb_in (in_t8 _ (List.mem_of_getElem? (i := 151) rfl)) rfl
theorem lk_M_443 : Cond.methodLink RX12 443 mt_M_drawSolid.1 ∈ xm_tb := xm_tb_in (in_t8 _ (List.mem_of_getElem? (i := 204) rfl)) rfl
theorem lk_M_446 : Cond.methodLink RX12 446 mt_M_place.1 ∈ xm_tb := xm_tb_in (in_t8 _ (List.mem_of_getElem? (i := 216) rfl)) rfl
theorem lk_M_449 : Cond.methodLink RX12 449 mt_M_boxLeft.1 ∈ xm_tb := xm_tb_in (in_t8 _ (List.mem_of_getElem? (i := 224) rfl)) rfl
theorem lk_M_452 : Cond.methodLink RX12 452 mt_M_boxTop.1 ∈ xm_tb := xm_tb_in (in_t8 _ (List.mem_of_getElem? (i := 228) rfl)) rfl
theorem lk_M_458 : Cond.methodLink RX12 458 mt_M_isOpen.1 ∈ xm_tb := xm_tb_in (in_t8 _ (List.mem_of_getElem? (i := 220) rfl)) rfl
theorem lk_M_461 : Cond.methodLink RX12 461 mt_M_cost.1 ∈ xm_tb := xm_tb_in (in_t8 _ (List.mem_of_getElem? (i := 232) rfl)) rfl
theorem lk_M_465 : Cond.methodLink RX12 465 mt_M_findBest.1 ∈ xm_tb := xm_tb_in (in_t8 _ (List.mem_of_getElem? (i := 236) rfl)) rfl
theorem lk_M_468 : Cond.methodLink RX12 468 mt_M_goRound.1 ∈ xm_tb := xm_tb_in (in_t9 _ (List.mem_of_getElem? (i := 24) rfl)) rfl
theorem lk_M_471 : Cond.methodLink RX12 471 mt_M_meet.1 ∈ xm_tb := xm_tb_in (in_t9 _ (List.mem_of_getElem? (i := 16) rfl)) rfl
theorem lk_M_481 : Cond.methodLink RX12 481 mt_M_reached.1 ∈ xm_tb := xm_tb_in (in_t9 _ (List.mem_of_getElem? (i := 0) rfl)) rfl
theorem lk_M_484 : Cond.methodLink RX12 484 mt_M_isFine.1 ∈ xm_tb := xm_tb_in (in_t9 _ (List.mem_of_getElem? (i := 12) rfl)) rfl
theorem lk_M_487 : Cond.methodLink RX12 487 mt_M_isBetter.1 ∈ xm_tb := xm_tb_in (in_t9 _ (List.mem_of_getElem? (i := 20) rfl)) rfl
theorem lk_M_490 : Cond.methodLink RX12 490 mt_M_outsOf.1 ∈ xm_tb := xm_tb_in (in_t9 _ (List.mem_of_getElem? (i := 4) rfl)) rfl
theorem lk_M_493 : Cond.methodLink RX12 493 mt_M_costsOf.1 ∈ xm_tb := xm_tb_in (in_t9 _ (List.mem_of_getElem? (i := 8) rfl)) rfl
theorem lk_M_496 : Cond.methodLink RX12 496 mt_M_taken.1 ∈ xm_tb := xm_tb_in (in_t9 _ (List.mem_of_getElem? (i := 28) rfl)) rfl
theorem lk_M_504 : Cond.methodLink RX12 504 mt_M_octet0.1 ∈ xm_tb := xm_tb_in (in_t8 _ (List.mem_of_getElem? (i := 109) rfl)) rfl
theorem lk_M_507 : Cond.methodLink RX12 507 mt_M_numbersOf.1 ∈ xm_tb := xm_tb_in (in_t8 _ (List.mem_of_getElem? (i := 113) rfl)) rfl
theorem ok_D_init : xm_ok mt_D_init 0 := ⟨xm_tb_in (in_t1 _ (List.mem_of_getElem? (i := 21) rfl)) rfl, xm_tb_in (in_t1 _ (List.mem_of_getElem? (i := 1) rfl)) rfl, ⟨by decide, by decide⟩, by decide +kernel, by decide⟩
theorem im_D_init : Cond.instanceMethod mt_D_init.1 ∈ xm_tb := xm_tb_in (in_t1 _ (List.mem_of_getElem? (i := 20) rfl)) rfl
theorem ok_D_point : xm_ok mt_D_point 2 := ⟨xm_tb_in (in_t2 _ (List.mem_of_getElem? (i := 201) rfl)) rfl, xm_tb_in (in_t1 _ (List.mem_of_getElem? (i := 1) rfl)) rfl, ⟨by decide, by decide⟩, by decide +kernel, by decide⟩
theorem vm_D_point : xm_Vm mt_D_point 2 11 := ⟨ok_D_point, by decide, _, rfl, xm_tb_in (in_t2 _ (List.mem_of_getElem? (i := 199) rfl)) rfl, xm_tb_in (in_t2 _ (List.mem_of_getElem? (i := 200) rfl)) rfl⟩
theorem ok_D_move : xm_ok mt_D_move 3 := ⟨xm_tb_in (in_t2 _ (List.mem_of_getElem? (i := 220) rfl)) rfl, xm_tb_in (in_t1 _ (List.mem_of_getElem? (i := 1) rfl)) rfl, ⟨by decide, by decide⟩, by decide +kernel, by decide⟩
theorem vm_D_move : xm_Vm mt_D_move 3 11 := ⟨ok_D_move, by decide, _, rfl, xm_tb_in (in_t2 _ (List.mem_of_getElem? (i := 218) rfl)) rfl, xm_tb_in (in_t2 _ (List.mem_of_getElem? (i := 219) rfl)) rfl⟩
theorem ok_D_tick : xm_ok mt_D_tick 1 := ⟨xm_tb_in (in_t2 _ (List.mem_of_getElem? (i := 234) rfl)) rfl, xm_tb_in (in_t1 _ (List.mem_of_getElem? (i := 1) rfl)) rfl, ⟨by decide, by decide⟩, by decide +kernel, by decide⟩
theorem vm_D_tick : xm_Vm mt_D_tick 1 11 := ⟨ok_D_tick, by decide, _, rfl, xm_tb_in (in_t2 _ (List.mem_of_getElem? (i := 232) rfl)) rfl, xm_tb_in (in_t2 _ (List.mem_of_getElem? (i := 233) rfl)) rfl⟩
theorem ok_D_at : xm_ok mt_D_at 2 := ⟨xm_tb_in (in_t2 _ (List.mem_of_getElem? (i := 238) rfl)) rfl, xm_tb_in (in_t1 _ (List.mem_of_getElem? (i := 1) rfl)) rfl, ⟨by decide, by decide⟩, by decide +kernel, by decide⟩
theorem vm_D_at : xm_Vm mt_D_at 2 11 := ⟨ok_D_at, by decide, _, rfl, xm_tb_in (in_t2 _ (List.mem_of_getElem? (i := 236) rfl)) rfl, xm_tb_in (in_t2 _ (List.mem_of_getElem? (i := 237) rfl)) rfl⟩
theorem ok_D_object : xm_ok mt_D_object 4 := ⟨xm_tb_in (in_t3 _ (List.mem_of_getElem? (i := 10) rfl)) rfl, xm_tb_in (in_t1 _ (List.mem_of_getElem? (i := 1) rfl)) rfl, ⟨by decide, by decide⟩, by decide +kernel, by decide⟩
theorem vm_D_object : xm_Vm mt_D_object 4 11 := ⟨ok_D_object, by decide, _, rfl, xm_tb_in (in_t3 _ (List.mem_of_getElem? (i := 8) rfl)) rfl, xm_tb_in (in_t3 _ (List.mem_of_getElem? (i := 9) rfl)) rfl⟩
theorem ok_D_corner : xm_ok mt_D_corner 1 := ⟨xm_tb_in (in_t3 _ (List.mem_of_getElem? (i := 24) rfl)) rfl, xm_tb_in (in_t1 _ (List.mem_of_getElem? (i := 1) rfl)) rfl, ⟨by decide, by decide⟩, by decide +kernel, by decide⟩
theorem vm_D_corner : xm_Vm mt_D_corner 1 11 := ⟨ok_D_corner, by decide, _, rfl, xm_tb_in (in_t3 _ (List.mem_of_getElem? (i := 22) rfl)) rfl, xm_tb_in (in_t3 _ (List.mem_of_getElem? (i := 23) rfl)) rfl⟩
theorem ok_D_area : xm_ok mt_D_area 0 := ⟨xm_tb_in (in_t3 _ (List.mem_of_getElem? (i := 37) rfl)) rfl, xm_tb_in (in_t1 _ (List.mem_of_getElem? (i := 1) rfl)) rfl, ⟨by decide, by decide⟩, by decide +kernel, by decide⟩
theorem vm_D_area : xm_Vm mt_D_area 0 11 := ⟨ok_D_area, by decide, _, rfl, xm_tb_in (in_t3 _ (List.mem_of_getElem? (i := 35) rfl)) rfl, xm_tb_in (in_t3 _ (List.mem_of_getElem? (i := 36) rfl)) rfl⟩
theorem ok_D_style : xm_ok mt_D_style 2 := ⟨xm_tb_in (in_t3 _ (List.mem_of_getElem? (i := 49) rfl)) rfl, xm_tb_in (in_t1 _ (List.mem_of_getElem? (i := 1) rfl)) rfl, ⟨by decide, by decide⟩, by decide +kernel, by decide⟩
theorem vm_D_style : xm_Vm mt_D_style 2 11 := ⟨ok_D_style, by decide, _, rfl, xm_tb_in (in_t3 _ (List.mem_of_getElem? (i := 47) rfl)) rfl, xm_tb_in (in_t3 _ (List.mem_of_getElem? (i := 48) rfl)) rfl⟩
theorem ok_D_hide : xm_ok mt_D_hide 2 := ⟨xm_tb_in (in_t3 _ (List.mem_of_getElem? (i := 66) rfl)) rfl, xm_tb_in (in_t1 _ (List.mem_of_getElem? (i := 1) rfl)) rfl, ⟨by decide, by decide⟩, by decide +kernel, by decide⟩
theorem vm_D_hide : xm_Vm mt_D_hide 2 11 := ⟨ok_D_hide, by decide, _, rfl, xm_tb_in (in_t3 _ (List.mem_of_getElem? (i := 64) rfl)) rfl, xm_tb_in (in_t3 _ (List.mem_of_getElem? (i := 65) rfl)) rfl⟩
theorem ok_D_fallen : xm_ok mt_D_fallen 1 := ⟨xm_tb_in (in_t3 _ (List.mem_of_getElem? (i := 78) rfl)) rfl, xm_tb_in (in_t1 _ (List.mem_of_getElem? (i := 1) rfl)) rfl, ⟨by decide, by decide⟩, by decide +kernel, by decide⟩
theorem vm_D_fallen : xm_Vm mt_D_fallen 1 11 := ⟨ok_D_fallen, by decide, _, rfl, xm_tb_in (in_t3 _ (List.mem_of_getElem? (i := 76) rfl)) rfl, xm_tb_in (in_t3 _ (List.mem_of_getElem? (i := 77) rfl)) rfl⟩
theorem ok_D_measure : xm_ok mt_D_measure 1 := ⟨xm_tb_in (in_t3 _ (List.mem_of_getElem? (i := 112) rfl)) rfl, xm_tb_in (in_t1 _ (List.mem_of_getElem? (i := 1) rfl)) rfl, ⟨by decide, by decide⟩, by decide +kernel, by decide⟩
theorem vm_D_measure : xm_Vm mt_D_measure 1 11 := ⟨ok_D_measure, by decide, _, rfl, xm_tb_in (in_t3 _ (List.mem_of_getElem? (i := 110) rfl)) rfl, xm_tb_in (in_t3 _ (List.mem_of_getElem? (i := 111) rfl)) rfl⟩
theorem ok_D_window : xm_ok mt_D_window 4 := ⟨xm_tb_in (in_t3 _ (List.mem_of_getElem? (i := 119) rfl)) rfl, xm_tb_in (in_t1 _ (List.mem_of_getElem? (i := 1) rfl)) rfl, ⟨by decide, by decide⟩, by decide +kernel, by decide⟩
theorem vm_D_window : xm_Vm mt_D_window 4 11 := ⟨ok_D_window, by decide, _, rfl, xm_tb_in (in_t3 _ (List.mem_of_getElem? (i := 117) rfl)) rfl, xm_tb_in (in_t3 _ (List.mem_of_getElem? (i := 118) rfl)) rfl⟩
theorem ok_D_fit : xm_ok mt_D_fit 0 := ⟨xm_tb_in (in_t3 _ (List.mem_of_getElem? (i := 138) rfl)) rfl, xm_tb_in (in_t1 _ (List.mem_of_getElem? (i := 1) rfl)) rfl, ⟨by decide, by decide⟩, by decide +kernel, by decide⟩
theorem vm_D_fit : xm_Vm mt_D_fit 0 11 := ⟨ok_D_fit, by decide, _, rfl, xm_tb_in (in_t3 _ (List.mem_of_getElem? (i := 136) rfl)) rfl, xm_tb_in (in_t3 _ (List.mem_of_getElem? (i := 137) rfl)) rfl⟩
theorem ok_D_side : xm_ok mt_D_side 1 := ⟨xm_tb_in (in_t3 _ (List.mem_of_getElem? (i := 152) rfl)) rfl, xm_tb_in (in_t1 _ (List.mem_of_getElem? (i := 1) rfl)) rfl, ⟨by decide, by decide⟩, by decide +kernel, by decide⟩
theorem vm_D_side : xm_Vm mt_D_side 1 11 := ⟨ok_D_side, by decide, _, rfl, xm_tb_in (in_t3 _ (List.mem_of_getElem? (i := 150) rfl)) rfl, xm_tb_in (in_t3 _ (List.mem_of_getElem? (i := 151) rfl)) rfl⟩
theorem ok_D_sheet : xm_ok mt_D_sheet 3 := ⟨xm_tb_in (in_t3 _ (List.mem_of_getElem? (i := 156) rfl)) rfl, xm_tb_in (in_t1 _ (List.mem_of_getElem? (i := 1) rfl)) rfl, ⟨by decide, by decide⟩, by decide +kernel, by decide⟩
theorem vm_D_sheet : xm_Vm mt_D_sheet 3 11 := ⟨ok_D_sheet, by decide, _, rfl, xm_tb_in (in_t3 _ (List.mem_of_getElem? (i := 154) rfl)) rfl, xm_tb_in (in_t3 _ (List.mem_of_getElem? (i := 155) rfl)) rfl⟩
theorem ok_D_grid : xm_ok mt_D_grid 1 := ⟨xm_tb_in (in_t3 _ (List.mem_of_getElem? (i := 164) rfl)) rfl, xm_tb_in (in_t1 _ (List.mem_of_getElem? (i := 1) rfl)) rfl, ⟨by decide, by decide⟩, by decide +kernel, by decide⟩
theorem vm_D_grid : xm_Vm mt_D_grid 1 11 := ⟨ok_D_grid, by decide, _, rfl, xm_tb_in (in_t3 _ (List.mem_of_getElem? (i := 162) rfl)) rfl, xm_tb_in (in_t3 _ (List.mem_of_getElem? (i := 163) rfl)) rfl⟩
theorem ok_D_hatch : xm_ok mt_D_hatch 1 := ⟨xm_tb_in (in_t3 _ (List.mem_of_getElem? (i := 168) rfl)) rfl, xm_tb_in (in_t1 _ (List.mem_of_getElem? (i := 1) rfl)) rfl, ⟨by decide, by decide⟩, by decide +kernel, by decide⟩
theorem vm_D_hatch : xm_Vm mt_D_hatch 1 11 := ⟨ok_D_hatch, by decide, _, rfl, xm_tb_in (in_t3 _ (List.mem_of_getElem? (i := 166) rfl)) rfl, xm_tb_in (in_t3 _ (List.mem_of_getElem? (i := 167) rfl)) rfl⟩
theorem ok_D_scale : xm_ok mt_D_scale 1 := ⟨xm_tb_in (in_t3 _ (List.mem_of_getElem? (i := 172) rfl)) rfl, xm_tb_in (in_t1 _ (List.mem_of_getElem? (i := 1) rfl)) rfl, ⟨by decide, by decide⟩, by decide +kernel, by decide⟩
theorem vm_D_scale : xm_Vm mt_D_scale 1 11 := ⟨ok_D_scale, by decide, _, rfl, xm_tb_in (in_t3 _ (List.mem_of_getElem? (i := 170) rfl)) rfl, xm_tb_in (in_t3 _ (List.mem_of_getElem? (i := 171) rfl)) rfl⟩
theorem ok_D_single : xm_ok mt_D_single 2 := ⟨xm_tb_in (in_t3 _ (List.mem_of_getElem? (i := 184) rfl)) rfl, xm_tb_in (in_t1 _ (List.mem_of_getElem? (i := 1) rfl)) rfl, ⟨by decide, by decide⟩, by decide +kernel, by decide⟩
theorem vm_D_single : xm_Vm mt_D_single 2 11 := ⟨ok_D_single, by decide, _, rfl, xm_tb_in (in_t3 _ (List.mem_of_getElem? (i := 182) rfl)) rfl, xm_tb_in (in_t3 _ (List.mem_of_getElem? (i := 183) rfl)) rfl⟩
theorem ok_D_solid : xm_ok mt_D_solid 2 := ⟨xm_tb_in (in_t3 _ (List.mem_of_getElem? (i := 210) rfl)) rfl, xm_tb_in (in_t1 _ (List.mem_of_getElem? (i := 1) rfl)) rfl, ⟨by decide, by decide⟩, by decide +kernel, by decide⟩
theorem vm_D_solid : xm_Vm mt_D_solid 2 11 := ⟨ok_D_solid, by decide, _, rfl, xm_tb_in (in_t3 _ (List.mem_of_getElem? (i := 208) rfl)) rfl, xm_tb_in (in_t3 _ (List.mem_of_getElem? (i := 209) rfl)) rfl⟩
theorem ok_D_vertex : xm_ok mt_D_vertex 4 := ⟨xm_tb_in (in_t4 _ (List.mem_of_getElem? (i := 24) rfl)) rfl, xm_tb_in (in_t1 _ (List.mem_of_getElem? (i := 1) rfl)) rfl, ⟨by decide, by decide⟩, by decide +kernel, by decide⟩
theorem vm_D_vertex : xm_Vm mt_D_vertex 4 11 := ⟨ok_D_vertex, by decide, _, rfl, xm_tb_in (in_t4 _ (List.mem_of_getElem? (i := 22) rfl)) rfl, xm_tb_in (in_t4 _ (List.mem_of_getElem? (i := 23) rfl)) rfl⟩
theorem ok_D_face : xm_ok mt_D_face 3 := ⟨xm_tb_in (in_t4 _ (List.mem_of_getElem? (i := 42) rfl)) rfl, xm_tb_in (in_t1 _ (List.mem_of_getElem? (i := 1) rfl)) rfl, ⟨by decide, by decide⟩, by decide +kernel, by decide⟩
theorem vm_D_face : xm_Vm mt_D_face 3 11 := ⟨ok_D_face, by decide, _, rfl, xm_tb_in (in_t4 _ (List.mem_of_getElem? (i := 40) rfl)) rfl, xm_tb_in (in_t4 _ (List.mem_of_getElem? (i := 41) rfl)) rfl⟩
theorem ok_D_view : xm_ok mt_D_view 1 := ⟨xm_tb_in (in_t4 _ (List.mem_of_getElem? (i := 78) rfl)) rfl, xm_tb_in (in_t1 _ (List.mem_of_getElem? (i := 1) rfl)) rfl, ⟨by decide, by decide⟩, by decide +kernel, by decide⟩
theorem vm_D_view : xm_Vm mt_D_view 1 11 := ⟨ok_D_view, by decide, _, rfl, xm_tb_in (in_t4 _ (List.mem_of_getElem? (i := 76) rfl)) rfl, xm_tb_in (in_t4 _ (List.mem_of_getElem? (i := 77) rfl)) rfl⟩
theorem ok_D_edge : xm_ok mt_D_edge 3 := ⟨xm_tb_in (in_t4 _ (List.mem_of_getElem? (i := 82) rfl)) rfl, xm_tb_in (in_t1 _ (List.mem_of_getElem? (i := 1) rfl)) rfl, ⟨by decide, by decide⟩, by decide +kernel, by decide⟩
theorem vm_D_edge : xm_Vm mt_D_edge 3 11 := ⟨ok_D_edge, by decide, _, rfl, xm_tb_in (in_t4 _ (List.mem_of_getElem? (i := 80) rfl)) rfl, xm_tb_in (in_t4 _ (List.mem_of_getElem? (i := 81) rfl)) rfl⟩
theorem ok_D_label : xm_ok mt_D_label 2 := ⟨xm_tb_in (in_t4 _ (List.mem_of_getElem? (i := 120) rfl)) rfl, xm_tb_in (in_t1 _ (List.mem_of_getElem? (i := 1) rfl)) rfl, ⟨by decide, by decide⟩, by decide +kernel, by decide⟩
theorem vm_D_label : xm_Vm mt_D_label 2 11 := ⟨ok_D_label, by decide, _, rfl, xm_tb_in (in_t4 _ (List.mem_of_getElem? (i := 118) rfl)) rfl, xm_tb_in (in_t4 _ (List.mem_of_getElem? (i := 119) rfl)) rfl⟩
theorem ok_D_draw : xm_ok mt_D_draw 0 := ⟨xm_tb_in (in_t4 _ (List.mem_of_getElem? (i := 134) rfl)) rfl, xm_tb_in (in_t1 _ (List.mem_of_getElem? (i := 1) rfl)) rfl, ⟨by decide, by decide⟩, by decide +kernel, by decide⟩
theorem vm_D_draw : xm_Vm mt_D_draw 0 11 := ⟨ok_D_draw, by decide, _, rfl, xm_tb_in (in_t4 _ (List.mem_of_getElem? (i := 132) rfl)) rfl, xm_tb_in (in_t4 _ (List.mem_of_getElem? (i := 133) rfl)) rfl⟩
theorem ok_D_mark : xm_ok mt_D_mark 2 := ⟨xm_tb_in (in_t6 _ (List.mem_of_getElem? (i := 49) rfl)) rfl, xm_tb_in (in_t1 _ (List.mem_of_getElem? (i := 1) rfl)) rfl, ⟨by decide, by decide⟩, by decide +kernel, by decide⟩
theorem vm_D_mark : xm_Vm mt_D_mark 2 11 := ⟨ok_D_mark, by decide, _, rfl, xm_tb_in (in_t6 _ (List.mem_of_getElem? (i := 47) rfl)) rfl, xm_tb_in (in_t6 _ (List.mem_of_getElem? (i := 48) rfl)) rfl⟩
theorem ok_D_placed : xm_ok mt_D_placed 1 := ⟨xm_tb_in (in_t6 _ (List.mem_of_getElem? (i := 55) rfl)) rfl, xm_tb_in (in_t1 _ (List.mem_of_getElem? (i := 1) rfl)) rfl, ⟨by decide, by decide⟩, by decide +kernel, by decide⟩
theorem vm_D_placed : xm_Vm mt_D_placed 1 11 := ⟨ok_D_placed, by decide, _, rfl, xm_tb_in (in_t6 _ (List.mem_of_getElem? (i := 53) rfl)) rfl, xm_tb_in (in_t6 _ (List.mem_of_getElem? (i := 54) rfl)) rfl⟩
theorem ok_D_octet : xm_ok mt_D_octet 1 := ⟨xm_tb_in (in_t6 _ (List.mem_of_getElem? (i := 64) rfl)) rfl, xm_tb_in (in_t1 _ (List.mem_of_getElem? (i := 1) rfl)) rfl, ⟨by decide, by decide⟩, by decide +kernel, by decide⟩
theorem vm_D_octet : xm_Vm mt_D_octet 1 11 := ⟨ok_D_octet, by decide, _, rfl, xm_tb_in (in_t6 _ (List.mem_of_getElem? (i := 62) rfl)) rfl, xm_tb_in (in_t6 _ (List.mem_of_getElem? (i := 63) rfl)) rfl⟩
theorem ok_D_digest : xm_ok mt_D_digest 0 := ⟨xm_tb_in (in_t6 _ (List.mem_of_getElem? (i := 76) rfl)) rfl, xm_tb_in (in_t1 _ (List.mem_of_getElem? (i := 1) rfl)) rfl, ⟨by decide, by decide⟩, by decide +kernel, by decide⟩
theorem vm_D_digest : xm_Vm mt_D_digest 0 11 := ⟨ok_D_digest, by decide, _, rfl, xm_tb_in (in_t6 _ (List.mem_of_getElem? (i := 74) rfl)) rfl, xm_tb_in (in_t6 _ (List.mem_of_getElem? (i := 75) rfl)) rfl⟩
theorem ok_D_count : xm_ok mt_D_count 1 := ⟨xm_tb_in (in_t6 _ (List.mem_of_getElem? (i := 80) rfl)) rfl, xm_tb_in (in_t1 _ (List.mem_of_getElem? (i := 1) rfl)) rfl, ⟨by decide, by decide⟩, by decide +kernel, by decide⟩
theorem vm_D_count : xm_Vm mt_D_count 1 11 := ⟨ok_D_count, by decide, _, rfl, xm_tb_in (in_t6 _ (List.mem_of_getElem? (i := 78) rfl)) rfl, xm_tb_in (in_t6 _ (List.mem_of_getElem? (i := 79) rfl)) rfl⟩
theorem ok_D_code : xm_ok mt_D_code 0 := ⟨xm_tb_in (in_t6 _ (List.mem_of_getElem? (i := 85) rfl)) rfl, xm_tb_in (in_t1 _ (List.mem_of_getElem? (i := 1) rfl)) rfl, ⟨by decide, by decide⟩, by decide +kernel, by decide⟩
theorem vm_D_code : xm_Vm mt_D_code 0 11 := ⟨ok_D_code, by decide, _, rfl, xm_tb_in (in_t6 _ (List.mem_of_getElem? (i := 83) rfl)) rfl, xm_tb_in (in_t6 _ (List.mem_of_getElem? (i := 84) rfl)) rfl⟩
theorem ok_D_group : xm_ok mt_D_group 3 := ⟨xm_tb_in (in_t6 _ (List.mem_of_getElem? (i := 89) rfl)) rfl, xm_tb_in (in_t1 _ (List.mem_of_getElem? (i := 1) rfl)) rfl, ⟨by decide, by decide⟩, by decide +kernel, by decide⟩
theorem vm_D_group : xm_Vm mt_D_group 3 11 := ⟨ok_D_group, by decide, _, rfl, xm_tb_in (in_t6 _ (List.mem_of_getElem? (i := 87) rfl)) rfl, xm_tb_in (in_t6 _ (List.mem_of_getElem? (i := 88) rfl)) rfl⟩
theorem ok_D_put : xm_ok mt_D_put 3 := ⟨xm_tb_in (in_t6 _ (List.mem_of_getElem? (i := 101) rfl)) rfl, xm_tb_in (in_t1 _ (List.mem_of_getElem? (i := 1) rfl)) rfl, ⟨by decide, by decide⟩, by decide +kernel, by decide⟩
theorem vm_D_put : xm_Vm mt_D_put 3 11 := ⟨ok_D_put, by decide, _, rfl, xm_tb_in (in_t6 _ (List.mem_of_getElem? (i := 99) rfl)) rfl, xm_tb_in (in_t6 _ (List.mem_of_getElem? (i := 100) rfl)) rfl⟩
theorem ok_D_member : xm_ok mt_D_member 2 := ⟨xm_tb_in (in_t6 _ (List.mem_of_getElem? (i := 127) rfl)) rfl, xm_tb_in (in_t1 _ (List.mem_of_getElem? (i := 1) rfl)) rfl, ⟨by decide, by decide⟩, by decide +kernel, by decide⟩
theorem vm_D_member : xm_Vm mt_D_member 2 11 := ⟨ok_D_member, by decide, _, rfl, xm_tb_in (in_t6 _ (List.mem_of_getElem? (i := 125) rfl)) rfl, xm_tb_in (in_t6 _ (List.mem_of_getElem? (i := 126) rfl)) rfl⟩
theorem ok_D_paint : xm_ok mt_D_paint 2 := ⟨xm_tb_in (in_t6 _ (List.mem_of_getElem? (i := 135) rfl)) rfl, xm_tb_in (in_t1 _ (List.mem_of_getElem? (i := 1) rfl)) rfl, ⟨by decide, by decide⟩, by decide +kernel, by decide⟩
theorem vm_D_paint : xm_Vm mt_D_paint 2 11 := ⟨ok_D_paint, by decide, _, rfl, xm_tb_in (in_t6 _ (List.mem_of_getElem? (i := 133) rfl)) rfl, xm_tb_in (in_t6 _ (List.mem_of_getElem? (i := 134) rfl)) rfl⟩
theorem ok_D_reach : xm_ok mt_D_reach 1 := ⟨xm_tb_in (in_t6 _ (List.mem_of_getElem? (i := 140) rfl)) rfl, xm_tb_in (in_t1 _ (List.mem_of_getElem? (i := 1) rfl)) rfl, ⟨by decide, by decide⟩, by decide +kernel, by decide⟩
theorem vm_D_reach : xm_Vm mt_D_reach 1 11 := ⟨ok_D_reach, by decide, _, rfl, xm_tb_in (in_t6 _ (List.mem_of_getElem? (i := 138) rfl)) rfl, xm_tb_in (in_t6 _ (List.mem_of_getElem? (i := 139) rfl)) rfl⟩
theorem ok_D_endWith : xm_ok mt_D_endWith 1 := ⟨xm_tb_in (in_t3 _ (List.mem_of_getElem? (i := 180) rfl)) rfl, xm_tb_in (in_t1 _ (List.mem_of_getElem? (i := 1) rfl)) rfl, ⟨by decide, by decide⟩, by decide +kernel, by decide⟩
theorem vm_D_endWith : xm_Vm mt_D_endWith 1 11 := ⟨ok_D_endWith, by decide, _, rfl, xm_tb_in (in_t3 _ (List.mem_of_getElem? (i := 179) rfl)) rfl, xm_tb_in (in_p1 (⟨"DrawLabels", "endWith", "(I)I"⟩, _) (List.mem_of_getElem? (i := 1) rfl)) rfl⟩
theorem ok_D_isWithin : xm_ok mt_D_isWithin 3 := ⟨xm_tb_in (in_t2 _ (List.mem_of_getElem? (i := 204) rfl)) rfl, xm_tb_in (in_t1 _ (List.mem_of_getElem? (i := 1) rfl)) rfl, ⟨by decide, by decide⟩, by decide +kernel, by decide⟩
theorem sm_D_isWithin : xm_Sm mt_D_isWithin 3 := ⟨ok_D_isWithin, xm_tb_in (in_t2 _ (List.mem_of_getElem? (i := 203) rfl)) rfl⟩
theorem ok_D_rounded : xm_ok mt_D_rounded 2 := ⟨xm_tb_in (in_t4 _ (List.mem_of_getElem? (i := 186) rfl)) rfl, xm_tb_in (in_t1 _ (List.mem_of_getElem? (i := 1) rfl)) rfl, ⟨by decide, by decide⟩, by decide +kernel, by decide⟩
theorem sm_D_rounded : xm_Sm mt_D_rounded 2 := ⟨ok_D_rounded, xm_tb_in (in_t4 _ (List.mem_of_getElem? (i := 185) rfl)) rfl⟩
theorem ok_D_roundedDown : xm_ok mt_D_roundedDown 2 := ⟨xm_tb_in (in_t4 _ (List.mem_of_getElem? (i := 225) rfl)) rfl, xm_tb_in (in_t1 _ (List.mem_of_getElem? (i := 1) rfl)) rfl, ⟨by decide, by decide⟩, by decide +kernel, by decide⟩
theorem sm_D_roundedDown : xm_Sm mt_D_roundedDown 2 := ⟨ok_D_roundedDown, xm_tb_in (in_t4 _ (List.mem_of_getElem? (i := 224) rfl)) rfl⟩
theorem ok_D_commonDivisor : xm_ok mt_D_commonDivisor 2 := ⟨xm_tb_in (in_t3 _ (List.mem_of_getElem? (i := 131) rfl)) rfl, xm_tb_in (in_t1 _ (List.mem_of_getElem? (i := 1) rfl)) rfl, ⟨by decide, by decide⟩, by decide +kernel, by decide⟩
theorem sm_D_commonDivisor : xm_Sm mt_D_commonDivisor 2 := ⟨ok_D_commonDivisor, xm_tb_in (in_t3 _ (List.mem_of_getElem? (i := 130) rfl)) rfl⟩
theorem ok_D_squareRoot : xm_ok mt_D_squareRoot 1 := ⟨xm_tb_in (in_t5 _ (List.mem_of_getElem? (i := 94) rfl)) rfl, xm_tb_in (in_t1 _ (List.mem_of_getElem? (i := 1) rfl)) rfl, ⟨by decide, by decide⟩, by decide +kernel, by decide⟩
theorem sm_D_squareRoot : xm_Sm mt_D_squareRoot 1 := ⟨ok_D_squareRoot, xm_tb_in (in_t5 _ (List.mem_of_getElem? (i := 93) rfl)) rfl⟩
theorem ok_D_multipleFrom : xm_ok mt_D_multipleFrom 2 := ⟨xm_tb_in (in_t4 _ (List.mem_of_getElem? (i := 165) rfl)) rfl, xm_tb_in (in_t1 _ (List.mem_of_getElem? (i := 1) rfl)) rfl, ⟨by decide, by decide⟩, by decide +kernel, by decide⟩
theorem sm_D_multipleFrom : xm_Sm mt_D_multipleFrom 2 := ⟨ok_D_multipleFrom, xm_tb_in (in_t4 _ (List.mem_of_getElem? (i := 164) rfl)) rfl⟩
theorem ok_D_multiplesWithin : xm_ok mt_D_multiplesWithin 3 := ⟨xm_tb_in (in_t4 _ (List.mem_of_getElem? (i := 171) rfl)) rfl, xm_tb_in (in_t1 _ (List.mem_of_getElem? (i := 1) rfl)) rfl, ⟨by decide, by decide⟩, by decide +kernel, by decide⟩
theorem sm_D_multiplesWithin : xm_Sm mt_D_multiplesWithin 3 := ⟨ok_D_multiplesWithin, xm_tb_in (in_t4 _ (List.mem_of_getElem? (i := 170) rfl)) rfl⟩
theorem ok_D_octant : xm_ok mt_D_octant 2 := ⟨xm_tb_in (in_t5 _ (List.mem_of_getElem? (i := 109) rfl)) rfl, xm_tb_in (in_t1 _ (List.mem_of_getElem? (i := 1) rfl)) rfl, ⟨by decide, by decide⟩, by decide +kernel, by decide⟩
theorem sm_D_octant : xm_Sm mt_D_octant 2 := ⟨ok_D_octant, xm_tb_in (in_t5 _ (List.mem_of_getElem? (i := 108) rfl)) rfl⟩
theorem ok_M_init : xm_ok mt_M_init 0 := ⟨xm_tb_in (in_t6 _ (List.mem_of_getElem? (i := 146) rfl)) rfl, xm_tb_in (in_t1 _ (List.mem_of_getElem? (i := 12) rfl)) rfl, ⟨by decide, by decide⟩, by decide +kernel, by decide⟩
theorem im_M_init : Cond.instanceMethod mt_M_init.1 ∈ xm_tb := xm_tb_in (in_t6 _ (List.mem_of_getElem? (i := 145) rfl)) rfl
theorem ok_M_in : xm_ok mt_M_in 3 := ⟨xm_tb_in (in_t7 _ (List.mem_of_getElem? (i := 152) rfl)) rfl, xm_tb_in (in_t1 _ (List.mem_of_getElem? (i := 12) rfl)) rfl, ⟨by decide, by decide⟩, by decide +kernel, by decide⟩
theorem sm_M_in : xm_Sm mt_M_in 3 := ⟨ok_M_in, xm_tb_in (in_t7 _ (List.mem_of_getElem? (i := 151) rfl)) rfl⟩
theorem ok_M_isPoint : xm_ok mt_M_isPoint 1 := ⟨xm_tb_in (in_t7 _ (List.mem_of_getElem? (i := 162) rfl)) rfl, xm_tb_in (in_t1 _ (List.mem_of_getElem? (i := 12) rfl)) rfl, ⟨by decide, by decide⟩, by decide +kernel, by decide⟩
theorem vm_M_isPoint : xm_Vm mt_M_isPoint 1 12 := ⟨ok_M_isPoint, by decide, _, rfl, xm_tb_in (in_t7 _ (List.mem_of_getElem? (i := 161) rfl)) rfl, xm_tb_in (in_p3 (⟨"DrawLabelsModel", "isPoint", "(I)Z"⟩, _) (List.mem_of_getElem? (i := 12) rfl)) rfl⟩
theorem ok_M_isObject : xm_ok mt_M_isObject 1 := ⟨xm_tb_in (in_t7 _ (List.mem_of_getElem? (i := 207) rfl)) rfl, xm_tb_in (in_t1 _ (List.mem_of_getElem? (i := 12) rfl)) rfl, ⟨by decide, by decide⟩, by decide +kernel, by decide⟩
theorem vm_M_isObject : xm_Vm mt_M_isObject 1 12 := ⟨ok_M_isObject, by decide, _, rfl, xm_tb_in (in_t7 _ (List.mem_of_getElem? (i := 206) rfl)) rfl, xm_tb_in (in_p3 (⟨"DrawLabelsModel", "isObject", "(I)Z"⟩, _) (List.mem_of_getElem? (i := 15) rfl)) rfl⟩
theorem ok_M_isSolid : xm_ok mt_M_isSolid 1 := ⟨xm_tb_in (in_t8 _ (List.mem_of_getElem? (i := 71) rfl)) rfl, xm_tb_in (in_t1 _ (List.mem_of_getElem? (i := 12) rfl)) rfl, ⟨by decide, by decide⟩, by decide +kernel, by decide⟩
theorem vm_M_isSolid : xm_Vm mt_M_isSolid 1 12 := ⟨ok_M_isSolid, by decide, _, rfl, xm_tb_in (in_t8 _ (List.mem_of_getElem? (i := 70) rfl)) rfl, xm_tb_in (in_p4 (⟨"DrawLabelsModel", "isSolid", "(I)Z"⟩, _) (List.mem_of_getElem? (i := 7) rfl)) rfl⟩
theorem ok_M_point : xm_ok mt_M_point 2 := ⟨xm_tb_in (in_t7 _ (List.mem_of_getElem? (i := 147) rfl)) rfl, xm_tb_in (in_t1 _ (List.mem_of_getElem? (i := 12) rfl)) rfl, ⟨by decide, by decide⟩, by decide +kernel, by decide⟩
theorem vm_M_point : xm_Vm mt_M_point 2 12 := ⟨ok_M_point, by decide, _, rfl, xm_tb_in (in_t7 _ (List.mem_of_getElem? (i := 145) rfl)) rfl, xm_tb_in (in_t7 _ (List.mem_of_getElem? (i := 146) rfl)) rfl⟩
theorem ok_M_move : xm_ok mt_M_move 3 := ⟨xm_tb_in (in_t7 _ (List.mem_of_getElem? (i := 158) rfl)) rfl, xm_tb_in (in_t1 _ (List.mem_of_getElem? (i := 12) rfl)) rfl, ⟨by decide, by decide⟩, by decide +kernel, by decide⟩
theorem vm_M_move : xm_Vm mt_M_move 3 12 := ⟨ok_M_move, by decide, _, rfl, xm_tb_in (in_t7 _ (List.mem_of_getElem? (i := 156) rfl)) rfl, xm_tb_in (in_t7 _ (List.mem_of_getElem? (i := 157) rfl)) rfl⟩
theorem ok_M_tick : xm_ok mt_M_tick 1 := ⟨xm_tb_in (in_t7 _ (List.mem_of_getElem? (i := 169) rfl)) rfl, xm_tb_in (in_t1 _ (List.mem_of_getElem? (i := 12) rfl)) rfl, ⟨by decide, by decide⟩, by decide +kernel, by decide⟩
theorem vm_M_tick : xm_Vm mt_M_tick 1 12 := ⟨ok_M_tick, by decide, _, rfl, xm_tb_in (in_t7 _ (List.mem_of_getElem? (i := 167) rfl)) rfl, xm_tb_in (in_t7 _ (List.mem_of_getElem? (i := 168) rfl)) rfl⟩
theorem ok_M_nowX : xm_ok mt_M_nowX 1 := ⟨xm_tb_in (in_t7 _ (List.mem_of_getElem? (i := 177) rfl)) rfl, xm_tb_in (in_t1 _ (List.mem_of_getElem? (i := 12) rfl)) rfl, ⟨by decide, by decide⟩, by decide +kernel, by decide⟩
theorem vm_M_nowX : xm_Vm mt_M_nowX 1 12 := ⟨ok_M_nowX, by decide, _, rfl, xm_tb_in (in_t7 _ (List.mem_of_getElem? (i := 176) rfl)) rfl, xm_tb_in (in_p3 (⟨"DrawLabelsModel", "nowX", "(I)I"⟩, _) (List.mem_of_getElem? (i := 13) rfl)) rfl⟩
theorem ok_M_nowY : xm_ok mt_M_nowY 1 := ⟨xm_tb_in (in_t7 _ (List.mem_of_getElem? (i := 181) rfl)) rfl, xm_tb_in (in_t1 _ (List.mem_of_getElem? (i := 12) rfl)) rfl, ⟨by decide, by decide⟩, by decide +kernel, by decide⟩
theorem vm_M_nowY : xm_Vm mt_M_nowY 1 12 := ⟨ok_M_nowY, by decide, _, rfl, xm_tb_in (in_t7 _ (List.mem_of_getElem? (i := 180) rfl)) rfl, xm_tb_in (in_p3 (⟨"DrawLabelsModel", "nowY", "(I)I"⟩, _) (List.mem_of_getElem? (i := 14) rfl)) rfl⟩
theorem ok_M_at : xm_ok mt_M_at 2 := ⟨xm_tb_in (in_t7 _ (List.mem_of_getElem? (i := 173) rfl)) rfl, xm_tb_in (in_t1 _ (List.mem_of_getElem? (i := 12) rfl)) rfl, ⟨by decide, by decide⟩, by decide +kernel, by decide⟩
theorem vm_M_at : xm_Vm mt_M_at 2 12 := ⟨ok_M_at, by decide, _, rfl, xm_tb_in (in_t7 _ (List.mem_of_getElem? (i := 171) rfl)) rfl, xm_tb_in (in_t7 _ (List.mem_of_getElem? (i := 172) rfl)) rfl⟩
theorem ok_M_wanted : xm_ok mt_M_wanted 1 := ⟨xm_tb_in (in_t7 _ (List.mem_of_getElem? (i := 188) rfl)) rfl, xm_tb_in (in_t1 _ (List.mem_of_getElem? (i := 12) rfl)) rfl, ⟨by decide, by decide⟩, by decide +kernel, by decide⟩
theorem sm_M_wanted : xm_Sm mt_M_wanted 1 := ⟨ok_M_wanted, xm_tb_in (in_t7 _ (List.mem_of_getElem? (i := 187) rfl)) rfl⟩
theorem ok_M_object : xm_ok mt_M_object 4 := ⟨xm_tb_in (in_t7 _ (List.mem_of_getElem? (i := 185) rfl)) rfl, xm_tb_in (in_t1 _ (List.mem_of_getElem? (i := 12) rfl)) rfl, ⟨by decide, by decide⟩, by decide +kernel, by decide⟩
theorem vm_M_object : xm_Vm mt_M_object 4 12 := ⟨ok_M_object, by decide, _, rfl, xm_tb_in (in_t7 _ (List.mem_of_getElem? (i := 183) rfl)) rfl, xm_tb_in (in_t7 _ (List.mem_of_getElem? (i := 184) rfl)) rfl⟩
theorem ok_M_corner : xm_ok mt_M_corner 1 := ⟨xm_tb_in (in_t7 _ (List.mem_of_getElem? (i := 194) rfl)) rfl, xm_tb_in (in_t1 _ (List.mem_of_getElem? (i := 12) rfl)) rfl, ⟨by decide, by decide⟩, by decide +kernel, by decide⟩
theorem vm_M_corner : xm_Vm mt_M_corner 1 12 := ⟨ok_M_corner, by decide, _, rfl, xm_tb_in (in_t7 _ (List.mem_of_getElem? (i := 192) rfl)) rfl, xm_tb_in (in_t7 _ (List.mem_of_getElem? (i := 193) rfl)) rfl⟩
theorem ok_M_area : xm_ok mt_M_area 0 := ⟨xm_tb_in (in_t7 _ (List.mem_of_getElem? (i := 198) rfl)) rfl, xm_tb_in (in_t1 _ (List.mem_of_getElem? (i := 12) rfl)) rfl, ⟨by decide, by decide⟩, by decide +kernel, by decide⟩
theorem vm_M_area : xm_Vm mt_M_area 0 12 := ⟨ok_M_area, by decide, _, rfl, xm_tb_in (in_t7 _ (List.mem_of_getElem? (i := 196) rfl)) rfl, xm_tb_in (in_t7 _ (List.mem_of_getElem? (i := 197) rfl)) rfl⟩
theorem ok_M_style : xm_ok mt_M_style 2 := ⟨xm_tb_in (in_t7 _ (List.mem_of_getElem? (i := 203) rfl)) rfl, xm_tb_in (in_t1 _ (List.mem_of_getElem? (i := 12) rfl)) rfl, ⟨by decide, by decide⟩, by decide +kernel, by decide⟩
theorem vm_M_style : xm_Vm mt_M_style 2 12 := ⟨ok_M_style, by decide, _, rfl, xm_tb_in (in_t7 _ (List.mem_of_getElem? (i := 201) rfl)) rfl, xm_tb_in (in_t7 _ (List.mem_of_getElem? (i := 202) rfl)) rfl⟩
theorem ok_M_hide : xm_ok mt_M_hide 2 := ⟨xm_tb_in (in_t7 _ (List.mem_of_getElem? (i := 212) rfl)) rfl, xm_tb_in (in_t1 _ (List.mem_of_getElem? (i := 12) rfl)) rfl, ⟨by decide, by decide⟩, by decide +kernel, by decide⟩
theorem vm_M_hide : xm_Vm mt_M_hide 2 12 := ⟨ok_M_hide, by decide, _, rfl, xm_tb_in (in_t7 _ (List.mem_of_getElem? (i := 210) rfl)) rfl, xm_tb_in (in_t7 _ (List.mem_of_getElem? (i := 211) rfl)) rfl⟩
theorem ok_M_cornerX : xm_ok mt_M_cornerX 2 := ⟨xm_tb_in (in_t7 _ (List.mem_of_getElem? (i := 229) rfl)) rfl, xm_tb_in (in_t1 _ (List.mem_of_getElem? (i := 12) rfl)) rfl, ⟨by decide, by decide⟩, by decide +kernel, by decide⟩
theorem vm_M_cornerX : xm_Vm mt_M_cornerX 2 12 := ⟨ok_M_cornerX, by decide, _, rfl, xm_tb_in (in_t7 _ (List.mem_of_getElem? (i := 228) rfl)) rfl, xm_tb_in (in_p4 (⟨"DrawLabelsModel", "cornerX", "(II)I"⟩, _) (List.mem_of_getElem? (i := 2) rfl)) rfl⟩
theorem ok_M_cornerY : xm_ok mt_M_cornerY 2 := ⟨xm_tb_in (in_t7 _ (List.mem_of_getElem? (i := 233) rfl)) rfl, xm_tb_in (in_t1 _ (List.mem_of_getElem? (i := 12) rfl)) rfl, ⟨by decide, by decide⟩, by decide +kernel, by decide⟩
theorem vm_M_cornerY : xm_Vm mt_M_cornerY 2 12 := ⟨ok_M_cornerY, by decide, _, rfl, xm_tb_in (in_t7 _ (List.mem_of_getElem? (i := 232) rfl)) rfl, xm_tb_in (in_p4 (⟨"DrawLabelsModel", "cornerY", "(II)I"⟩, _) (List.mem_of_getElem? (i := 3) rfl)) rfl⟩
theorem ok_M_measured : xm_ok mt_M_measured 1 := ⟨xm_tb_in (in_t7 _ (List.mem_of_getElem? (i := 237) rfl)) rfl, xm_tb_in (in_t1 _ (List.mem_of_getElem? (i := 12) rfl)) rfl, ⟨by decide, by decide⟩, by decide +kernel, by decide⟩
theorem vm_M_measured : xm_Vm mt_M_measured 1 12 := ⟨ok_M_measured, by decide, _, rfl, xm_tb_in (in_t7 _ (List.mem_of_getElem? (i := 236) rfl)) rfl, xm_tb_in (in_p4 (⟨"DrawLabelsModel", "measured", "(I)J"⟩, _) (List.mem_of_getElem? (i := 4) rfl)) rfl⟩
theorem ok_M_isSame : xm_ok mt_M_isSame 3 := ⟨xm_tb_in (in_t7 _ (List.mem_of_getElem? (i := 225) rfl)) rfl, xm_tb_in (in_t1 _ (List.mem_of_getElem? (i := 12) rfl)) rfl, ⟨by decide, by decide⟩, by decide +kernel, by decide⟩
theorem vm_M_isSame : xm_Vm mt_M_isSame 3 12 := ⟨ok_M_isSame, by decide, _, rfl, xm_tb_in (in_t7 _ (List.mem_of_getElem? (i := 224) rfl)) rfl, xm_tb_in (in_p4 (⟨"DrawLabelsModel", "isSame", "(III)Z"⟩, _) (List.mem_of_getElem? (i := 1) rfl)) rfl⟩
theorem ok_M_isFallen : xm_ok mt_M_isFallen 1 := ⟨xm_tb_in (in_t7 _ (List.mem_of_getElem? (i := 221) rfl)) rfl, xm_tb_in (in_t1 _ (List.mem_of_getElem? (i := 12) rfl)) rfl, ⟨by decide, by decide⟩, by decide +kernel, by decide⟩
theorem vm_M_isFallen : xm_Vm mt_M_isFallen 1 12 := ⟨ok_M_isFallen, by decide, _, rfl, xm_tb_in (in_t7 _ (List.mem_of_getElem? (i := 220) rfl)) rfl, xm_tb_in (in_p4 (⟨"DrawLabelsModel", "isFallen", "(I)Z"⟩, _) (List.mem_of_getElem? (i := 0) rfl)) rfl⟩
theorem ok_M_fallen : xm_ok mt_M_fallen 1 := ⟨xm_tb_in (in_t7 _ (List.mem_of_getElem? (i := 217) rfl)) rfl, xm_tb_in (in_t1 _ (List.mem_of_getElem? (i := 12) rfl)) rfl, ⟨by decide, by decide⟩, by decide +kernel, by decide⟩
theorem vm_M_fallen : xm_Vm mt_M_fallen 1 12 := ⟨ok_M_fallen, by decide, _, rfl, xm_tb_in (in_t7 _ (List.mem_of_getElem? (i := 215) rfl)) rfl, xm_tb_in (in_t7 _ (List.mem_of_getElem? (i := 216) rfl)) rfl⟩
theorem ok_M_measure : xm_ok mt_M_measure 1 := ⟨xm_tb_in (in_t8 _ (List.mem_of_getElem? (i := 1) rfl)) rfl, xm_tb_in (in_t1 _ (List.mem_of_getElem? (i := 12) rfl)) rfl, ⟨by decide, by decide⟩, by decide +kernel, by decide⟩
theorem vm_M_measure : xm_Vm mt_M_measure 1 12 := ⟨ok_M_measure, by decide, _, rfl, xm_tb_in (in_t7 _ (List.mem_of_getElem? (i := 239) rfl)) rfl, xm_tb_in (in_t8 _ (List.mem_of_getElem? (i := 0) rfl)) rfl⟩
theorem ok_M_isSide : xm_ok mt_M_isSide 1 := ⟨xm_tb_in (in_t8 _ (List.mem_of_getElem? (i := 9) rfl)) rfl, xm_tb_in (in_t1 _ (List.mem_of_getElem? (i := 12) rfl)) rfl, ⟨by decide, by decide⟩, by decide +kernel, by decide⟩
theorem sm_M_isSide : xm_Sm mt_M_isSide 1 := ⟨ok_M_isSide, xm_tb_in (in_t8 _ (List.mem_of_getElem? (i := 8) rfl)) rfl⟩
theorem ok_M_window : xm_ok mt_M_window 4 := ⟨xm_tb_in (in_t8 _ (List.mem_of_getElem? (i := 6) rfl)) rfl, xm_tb_in (in_t1 _ (List.mem_of_getElem? (i := 12) rfl)) rfl, ⟨by decide, by decide⟩, by decide +kernel, by decide⟩
theorem vm_M_window : xm_Vm mt_M_window 4 12 := ⟨ok_M_window, by decide, _, rfl, xm_tb_in (in_t8 _ (List.mem_of_getElem? (i := 4) rfl)) rfl, xm_tb_in (in_t8 _ (List.mem_of_getElem? (i := 5) rfl)) rfl⟩
theorem ok_M_fit : xm_ok mt_M_fit 0 := ⟨xm_tb_in (in_t8 _ (List.mem_of_getElem? (i := 15) rfl)) rfl, xm_tb_in (in_t1 _ (List.mem_of_getElem? (i := 12) rfl)) rfl, ⟨by decide, by decide⟩, by decide +kernel, by decide⟩
theorem vm_M_fit : xm_Vm mt_M_fit 0 12 := ⟨ok_M_fit, by decide, _, rfl, xm_tb_in (in_t8 _ (List.mem_of_getElem? (i := 13) rfl)) rfl, xm_tb_in (in_t8 _ (List.mem_of_getElem? (i := 14) rfl)) rfl⟩
theorem ok_M_side : xm_ok mt_M_side 1 := ⟨xm_tb_in (in_t8 _ (List.mem_of_getElem? (i := 19) rfl)) rfl, xm_tb_in (in_t1 _ (List.mem_of_getElem? (i := 12) rfl)) rfl, ⟨by decide, by decide⟩, by decide +kernel, by decide⟩
theorem vm_M_side : xm_Vm mt_M_side 1 12 := ⟨ok_M_side, by decide, _, rfl, xm_tb_in (in_t8 _ (List.mem_of_getElem? (i := 17) rfl)) rfl, xm_tb_in (in_t8 _ (List.mem_of_getElem? (i := 18) rfl)) rfl⟩
theorem ok_M_sheet : xm_ok mt_M_sheet 3 := ⟨xm_tb_in (in_t8 _ (List.mem_of_getElem? (i := 23) rfl)) rfl, xm_tb_in (in_t1 _ (List.mem_of_getElem? (i := 12) rfl)) rfl, ⟨by decide, by decide⟩, by decide +kernel, by decide⟩
theorem vm_M_sheet : xm_Vm mt_M_sheet 3 12 := ⟨ok_M_sheet, by decide, _, rfl, xm_tb_in (in_t8 _ (List.mem_of_getElem? (i := 21) rfl)) rfl, xm_tb_in (in_t8 _ (List.mem_of_getElem? (i := 22) rfl)) rfl⟩
theorem ok_M_grid : xm_ok mt_M_grid 1 := ⟨xm_tb_in (in_t8 _ (List.mem_of_getElem? (i := 30) rfl)) rfl, xm_tb_in (in_t1 _ (List.mem_of_getElem? (i := 12) rfl)) rfl, ⟨by decide, by decide⟩, by decide +kernel, by decide⟩
theorem vm_M_grid : xm_Vm mt_M_grid 1 12 := ⟨ok_M_grid, by decide, _, rfl, xm_tb_in (in_t8 _ (List.mem_of_getElem? (i := 28) rfl)) rfl, xm_tb_in (in_t8 _ (List.mem_of_getElem? (i := 29) rfl)) rfl⟩
theorem ok_M_hatch : xm_ok mt_M_hatch 1 := ⟨xm_tb_in (in_t8 _ (List.mem_of_getElem? (i := 35) rfl)) rfl, xm_tb_in (in_t1 _ (List.mem_of_getElem? (i := 12) rfl)) rfl, ⟨by decide, by decide⟩, by decide +kernel, by decide⟩
theorem vm_M_hatch : xm_Vm mt_M_hatch 1 12 := ⟨ok_M_hatch, by decide, _, rfl, xm_tb_in (in_t8 _ (List.mem_of_getElem? (i := 33) rfl)) rfl, xm_tb_in (in_t8 _ (List.mem_of_getElem? (i := 34) rfl)) rfl⟩
theorem ok_M_common : xm_ok mt_M_common 2 := ⟨xm_tb_in (in_t8 _ (List.mem_of_getElem? (i := 48) rfl)) rfl, xm_tb_in (in_t1 _ (List.mem_of_getElem? (i := 12) rfl)) rfl, ⟨by decide, by decide⟩, by decide +kernel, by decide⟩
theorem sm_M_common : xm_Sm mt_M_common 2 := ⟨ok_M_common, xm_tb_in (in_t8 _ (List.mem_of_getElem? (i := 47) rfl)) rfl⟩
theorem ok_M_hasScale : xm_ok mt_M_hasScale 0 := ⟨xm_tb_in (in_t8 _ (List.mem_of_getElem? (i := 45) rfl)) rfl, xm_tb_in (in_t1 _ (List.mem_of_getElem? (i := 12) rfl)) rfl, ⟨by decide, by decide⟩, by decide +kernel, by decide⟩
theorem vm_M_hasScale : xm_Vm mt_M_hasScale 0 12 := ⟨ok_M_hasScale, by decide, _, rfl, xm_tb_in (in_t8 _ (List.mem_of_getElem? (i := 44) rfl)) rfl, xm_tb_in (in_p4 (⟨"DrawLabelsModel", "hasScale", "()Z"⟩, _) (List.mem_of_getElem? (i := 5) rfl)) rfl⟩
theorem ok_M_scale : xm_ok mt_M_scale 1 := ⟨xm_tb_in (in_t8 _ (List.mem_of_getElem? (i := 41) rfl)) rfl, xm_tb_in (in_t1 _ (List.mem_of_getElem? (i := 12) rfl)) rfl, ⟨by decide, by decide⟩, by decide +kernel, by decide⟩
theorem vm_M_scale : xm_Vm mt_M_scale 1 12 := ⟨ok_M_scale, by decide, _, rfl, xm_tb_in (in_t8 _ (List.mem_of_getElem? (i := 39) rfl)) rfl, xm_tb_in (in_t8 _ (List.mem_of_getElem? (i := 40) rfl)) rfl⟩
theorem ok_M_floor : xm_ok mt_M_floor 2 := ⟨xm_tb_in (in_t8 _ (List.mem_of_getElem? (i := 126) rfl)) rfl, xm_tb_in (in_t1 _ (List.mem_of_getElem? (i := 12) rfl)) rfl, ⟨by decide, by decide⟩, by decide +kernel, by decide⟩
theorem sm_M_floor : xm_Sm mt_M_floor 2 := ⟨ok_M_floor, xm_tb_in (in_t8 _ (List.mem_of_getElem? (i := 125) rfl)) rfl⟩
theorem ok_M_topOn : xm_ok mt_M_topOn 3 := ⟨xm_tb_in (in_t8 _ (List.mem_of_getElem? (i := 58) rfl)) rfl, xm_tb_in (in_t1 _ (List.mem_of_getElem? (i := 12) rfl)) rfl, ⟨by decide, by decide⟩, by decide +kernel, by decide⟩
theorem vm_M_topOn : xm_Vm mt_M_topOn 3 12 := ⟨ok_M_topOn, by decide, _, rfl, xm_tb_in (in_t8 _ (List.mem_of_getElem? (i := 57) rfl)) rfl, xm_tb_in (in_p4 (⟨"DrawLabelsModel", "topOn", "(JJZ)J"⟩, _) (List.mem_of_getElem? (i := 6) rfl)) rfl⟩
theorem ok_M_on : xm_ok mt_M_on 3 := ⟨xm_tb_in (in_t8 _ (List.mem_of_getElem? (i := 134) rfl)) rfl, xm_tb_in (in_t1 _ (List.mem_of_getElem? (i := 12) rfl)) rfl, ⟨by decide, by decide⟩, by decide +kernel, by decide⟩
theorem vm_M_on : xm_Vm mt_M_on 3 12 := ⟨ok_M_on, by decide, _, rfl, xm_tb_in (in_t8 _ (List.mem_of_getElem? (i := 133) rfl)) rfl, xm_tb_in (in_p5 (⟨"DrawLabelsModel", "on", "(JJZ)I"⟩, _) (List.mem_of_getElem? (i := 0) rfl)) rfl⟩
theorem ok_M_single : xm_ok mt_M_single 2 := ⟨xm_tb_in (in_t8 _ (List.mem_of_getElem? (i := 52) rfl)) rfl, xm_tb_in (in_t1 _ (List.mem_of_getElem? (i := 12) rfl)) rfl, ⟨by decide, by decide⟩, by decide +kernel, by decide⟩
theorem vm_M_single : xm_Vm mt_M_single 2 12 := ⟨ok_M_single, by decide, _, rfl, xm_tb_in (in_t8 _ (List.mem_of_getElem? (i := 50) rfl)) rfl, xm_tb_in (in_t8 _ (List.mem_of_getElem? (i := 51) rfl)) rfl⟩
theorem ok_M_solid : xm_ok mt_M_solid 2 := ⟨xm_tb_in (in_t8 _ (List.mem_of_getElem? (i := 62) rfl)) rfl, xm_tb_in (in_t1 _ (List.mem_of_getElem? (i := 12) rfl)) rfl, ⟨by decide, by decide⟩, by decide +kernel, by decide⟩
theorem vm_M_solid : xm_Vm mt_M_solid 2 12 := ⟨ok_M_solid, by decide, _, rfl, xm_tb_in (in_t8 _ (List.mem_of_getElem? (i := 60) rfl)) rfl, xm_tb_in (in_t8 _ (List.mem_of_getElem? (i := 61) rfl)) rfl⟩
theorem ok_M_vertex : xm_ok mt_M_vertex 4 := ⟨xm_tb_in (in_t8 _ (List.mem_of_getElem? (i := 67) rfl)) rfl, xm_tb_in (in_t1 _ (List.mem_of_getElem? (i := 12) rfl)) rfl, ⟨by decide, by decide⟩, by decide +kernel, by decide⟩
theorem vm_M_vertex : xm_Vm mt_M_vertex 4 12 := ⟨ok_M_vertex, by decide, _, rfl, xm_tb_in (in_t8 _ (List.mem_of_getElem? (i := 65) rfl)) rfl, xm_tb_in (in_t8 _ (List.mem_of_getElem? (i := 66) rfl)) rfl⟩
theorem ok_M_face : xm_ok mt_M_face 3 := ⟨xm_tb_in (in_t8 _ (List.mem_of_getElem? (i := 75) rfl)) rfl, xm_tb_in (in_t1 _ (List.mem_of_getElem? (i := 12) rfl)) rfl, ⟨by decide, by decide⟩, by decide +kernel, by decide⟩
theorem vm_M_face : xm_Vm mt_M_face 3 12 := ⟨ok_M_face, by decide, _, rfl, xm_tb_in (in_t8 _ (List.mem_of_getElem? (i := 73) rfl)) rfl, xm_tb_in (in_t8 _ (List.mem_of_getElem? (i := 74) rfl)) rfl⟩
theorem ok_M_view : xm_ok mt_M_view 1 := ⟨xm_tb_in (in_t8 _ (List.mem_of_getElem? (i := 79) rfl)) rfl, xm_tb_in (in_t1 _ (List.mem_of_getElem? (i := 12) rfl)) rfl, ⟨by decide, by decide⟩, by decide +kernel, by decide⟩
theorem vm_M_view : xm_Vm mt_M_view 1 12 := ⟨ok_M_view, by decide, _, rfl, xm_tb_in (in_t8 _ (List.mem_of_getElem? (i := 77) rfl)) rfl, xm_tb_in (in_t8 _ (List.mem_of_getElem? (i := 78) rfl)) rfl⟩
theorem ok_M_less : xm_ok mt_M_less 4 := ⟨xm_tb_in (in_t8 _ (List.mem_of_getElem? (i := 96) rfl)) rfl, xm_tb_in (in_t1 _ (List.mem_of_getElem? (i := 12) rfl)) rfl, ⟨by decide, by decide⟩, by decide +kernel, by decide⟩
theorem vm_M_less : xm_Vm mt_M_less 4 12 := ⟨ok_M_less, by decide, _, rfl, xm_tb_in (in_t8 _ (List.mem_of_getElem? (i := 95) rfl)) rfl, xm_tb_in (in_p4 (⟨"DrawLabelsModel", "less", "(IIII)I"⟩, _) (List.mem_of_getElem? (i := 10) rfl)) rfl⟩
theorem ok_M_isSeen : xm_ok mt_M_isSeen 2 := ⟨xm_tb_in (in_t8 _ (List.mem_of_getElem? (i := 92) rfl)) rfl, xm_tb_in (in_t1 _ (List.mem_of_getElem? (i := 12) rfl)) rfl, ⟨by decide, by decide⟩, by decide +kernel, by decide⟩
theorem vm_M_isSeen : xm_Vm mt_M_isSeen 2 12 := ⟨ok_M_isSeen, by decide, _, rfl, xm_tb_in (in_t8 _ (List.mem_of_getElem? (i := 91) rfl)) rfl, xm_tb_in (in_p4 (⟨"DrawLabelsModel", "isSeen", "(II)Z"⟩, _) (List.mem_of_getElem? (i := 9) rfl)) rfl⟩
theorem ok_M_gather : xm_ok mt_M_gather 1 := ⟨xm_tb_in (in_t8 _ (List.mem_of_getElem? (i := 88) rfl)) rfl, xm_tb_in (in_t1 _ (List.mem_of_getElem? (i := 12) rfl)) rfl, ⟨by decide, by decide⟩, by decide +kernel, by decide⟩
theorem vm_M_gather : xm_Vm mt_M_gather 1 12 := ⟨ok_M_gather, by decide, _, rfl, xm_tb_in (in_t8 _ (List.mem_of_getElem? (i := 87) rfl)) rfl, xm_tb_in (in_p4 (⟨"DrawLabelsModel", "gather", "(I)V"⟩, _) (List.mem_of_getElem? (i := 8) rfl)) rfl⟩
theorem ok_M_edge : xm_ok mt_M_edge 3 := ⟨xm_tb_in (in_t8 _ (List.mem_of_getElem? (i := 84) rfl)) rfl, xm_tb_in (in_t1 _ (List.mem_of_getElem? (i := 12) rfl)) rfl, ⟨by decide, by decide⟩, by decide +kernel, by decide⟩
theorem vm_M_edge : xm_Vm mt_M_edge 3 12 := ⟨ok_M_edge, by decide, _, rfl, xm_tb_in (in_t8 _ (List.mem_of_getElem? (i := 82) rfl)) rfl, xm_tb_in (in_t8 _ (List.mem_of_getElem? (i := 83) rfl)) rfl⟩
theorem ok_M_narrow : xm_ok mt_M_narrow 3 := ⟨xm_tb_in (in_t8 _ (List.mem_of_getElem? (i := 203) rfl)) rfl, xm_tb_in (in_t1 _ (List.mem_of_getElem? (i := 12) rfl)) rfl, ⟨by decide, by decide⟩, by decide +kernel, by decide⟩
theorem vm_M_narrow : xm_Vm mt_M_narrow 3 12 := ⟨ok_M_narrow, by decide, _, rfl, xm_tb_in (in_t8 _ (List.mem_of_getElem? (i := 202) rfl)) rfl, xm_tb_in (in_p5 (⟨"DrawLabelsModel", "narrow", "(JJJ)V"⟩, _) (List.mem_of_getElem? (i := 14) rfl)) rfl⟩
theorem ok_M_along : xm_ok mt_M_along 4 := ⟨xm_tb_in (in_t8 _ (List.mem_of_getElem? (i := 199) rfl)) rfl, xm_tb_in (in_t1 _ (List.mem_of_getElem? (i := 12) rfl)) rfl, ⟨by decide, by decide⟩, by decide +kernel, by decide⟩
theorem vm_M_along : xm_Vm mt_M_along 4 12 := ⟨ok_M_along, by decide, _, rfl, xm_tb_in (in_t8 _ (List.mem_of_getElem? (i := 198) rfl)) rfl, xm_tb_in (in_p5 (⟨"DrawLabelsModel", "along", "(JJJJ)Z"⟩, _) (List.mem_of_getElem? (i := 13) rfl)) rfl⟩
theorem ok_M_clips : xm_ok mt_M_clips 10 := ⟨xm_tb_in (in_t8 _ (List.mem_of_getElem? (i := 195) rfl)) rfl, xm_tb_in (in_t1 _ (List.mem_of_getElem? (i := 12) rfl)) rfl, ⟨by decide, by decide⟩, by decide +kernel, by decide⟩
theorem vm_M_clips : xm_Vm mt_M_clips 10 12 := ⟨ok_M_clips, by decide, _, rfl, xm_tb_in (in_t8 _ (List.mem_of_getElem? (i := 194) rfl)) rfl, xm_tb_in (in_p5 (⟨"DrawLabelsModel", "clips", "(IIIIZZIIII)Z"⟩, _) (List.mem_of_getElem? (i := 12) rfl)) rfl⟩
theorem ok_M_add : xm_ok mt_M_add 6 := ⟨xm_tb_in (in_t8 _ (List.mem_of_getElem? (i := 104) rfl)) rfl, xm_tb_in (in_t1 _ (List.mem_of_getElem? (i := 12) rfl)) rfl, ⟨by decide, by decide⟩, by decide +kernel, by decide⟩
theorem vm_M_add : xm_Vm mt_M_add 6 12 := ⟨ok_M_add, by decide, _, rfl, xm_tb_in (in_t8 _ (List.mem_of_getElem? (i := 103) rfl)) rfl, xm_tb_in (in_p4 (⟨"DrawLabelsModel", "add", "(IIIIII)V"⟩, _) (List.mem_of_getElem? (i := 11) rfl)) rfl⟩
theorem ok_M_stroke : xm_ok mt_M_stroke 9 := ⟨xm_tb_in (in_t8 _ (List.mem_of_getElem? (i := 130) rfl)) rfl, xm_tb_in (in_t1 _ (List.mem_of_getElem? (i := 12) rfl)) rfl, ⟨by decide, by decide⟩, by decide +kernel, by decide⟩
theorem vm_M_stroke : xm_Vm mt_M_stroke 9 12 := ⟨ok_M_stroke, by decide, _, rfl, xm_tb_in (in_t8 _ (List.mem_of_getElem? (i := 129) rfl)) rfl, xm_tb_in (in_p4 (⟨"DrawLabelsModel", "stroke", "(JJJJJJJJI)V"⟩, _) (List.mem_of_getElem? (i := 15) rfl)) rfl⟩
theorem ok_M_way : xm_ok mt_M_way 7 := ⟨xm_tb_in (in_t8 _ (List.mem_of_getElem? (i := 191) rfl)) rfl, xm_tb_in (in_t1 _ (List.mem_of_getElem? (i := 12) rfl)) rfl, ⟨by decide, by decide⟩, by decide +kernel, by decide⟩
theorem vm_M_way : xm_Vm mt_M_way 7 12 := ⟨ok_M_way, by decide, _, rfl, xm_tb_in (in_t8 _ (List.mem_of_getElem? (i := 190) rfl)) rfl, xm_tb_in (in_p5 (⟨"DrawLabelsModel", "way", "(IIIIZZI)Z"⟩, _) (List.mem_of_getElem? (i := 11) rfl)) rfl⟩
theorem ok_M_ceiling : xm_ok mt_M_ceiling 2 := ⟨xm_tb_in (in_t8 _ (List.mem_of_getElem? (i := 123) rfl)) rfl, xm_tb_in (in_t1 _ (List.mem_of_getElem? (i := 12) rfl)) rfl, ⟨by decide, by decide⟩, by decide +kernel, by decide⟩
theorem sm_M_ceiling : xm_Sm mt_M_ceiling 2 := ⟨ok_M_ceiling, xm_tb_in (in_t8 _ (List.mem_of_getElem? (i := 122) rfl)) rfl⟩
theorem ok_M_drawGrid : xm_ok mt_M_drawGrid 0 := ⟨xm_tb_in (in_t8 _ (List.mem_of_getElem? (i := 120) rfl)) rfl, xm_tb_in (in_t1 _ (List.mem_of_getElem? (i := 12) rfl)) rfl, ⟨by decide, by decide⟩, by decide +kernel, by decide⟩
theorem vm_M_drawGrid : xm_Vm mt_M_drawGrid 0 12 := ⟨ok_M_drawGrid, by decide, _, rfl, xm_tb_in (in_t8 _ (List.mem_of_getElem? (i := 119) rfl)) rfl, xm_tb_in (in_p4 (⟨"DrawLabelsModel", "drawGrid", "()V"⟩, _) (List.mem_of_getElem? (i := 14) rfl)) rfl⟩
theorem ok_M_cross : xm_ok mt_M_cross 5 := ⟨xm_tb_in (in_t8 _ (List.mem_of_getElem? (i := 146) rfl)) rfl, xm_tb_in (in_t1 _ (List.mem_of_getElem? (i := 12) rfl)) rfl, ⟨by decide, by decide⟩, by decide +kernel, by decide⟩
theorem vm_M_cross : xm_Vm mt_M_cross 5 12 := ⟨ok_M_cross, by decide, _, rfl, xm_tb_in (in_t8 _ (List.mem_of_getElem? (i := 145) rfl)) rfl, xm_tb_in (in_p5 (⟨"DrawLabelsModel", "cross", "(JJJJJ)V"⟩, _) (List.mem_of_getElem? (i := 3) rfl)) rfl⟩
theorem ok_M_drawArea : xm_ok mt_M_drawArea 1 := ⟨xm_tb_in (in_t8 _ (List.mem_of_getElem? (i := 142) rfl)) rfl, xm_tb_in (in_t1 _ (List.mem_of_getElem? (i := 12) rfl)) rfl, ⟨by decide, by decide⟩, by decide +kernel, by decide⟩
theorem vm_M_drawArea : xm_Vm mt_M_drawArea 1 12 := ⟨ok_M_drawArea, by decide, _, rfl, xm_tb_in (in_t8 _ (List.mem_of_getElem? (i := 141) rfl)) rfl, xm_tb_in (in_p5 (⟨"DrawLabelsModel", "drawArea", "(I)V"⟩, _) (List.mem_of_getElem? (i := 2) rfl)) rfl⟩
theorem ok_M_show : xm_ok mt_M_show 3 := ⟨xm_tb_in (in_t8 _ (List.mem_of_getElem? (i := 150) rfl)) rfl, xm_tb_in (in_t1 _ (List.mem_of_getElem? (i := 12) rfl)) rfl, ⟨by decide, by decide⟩, by decide +kernel, by decide⟩
theorem vm_M_show : xm_Vm mt_M_show 3 12 := ⟨ok_M_show, by decide, _, rfl, xm_tb_in (in_t8 _ (List.mem_of_getElem? (i := 149) rfl)) rfl, xm_tb_in (in_p5 (⟨"DrawLabelsModel", "show", "(III)V"⟩, _) (List.mem_of_getElem? (i := 4) rfl)) rfl⟩
theorem ok_M_has : xm_ok mt_M_has 2 := ⟨xm_tb_in (in_t8 _ (List.mem_of_getElem? (i := 158) rfl)) rfl, xm_tb_in (in_t1 _ (List.mem_of_getElem? (i := 12) rfl)) rfl, ⟨by decide, by decide⟩, by decide +kernel, by decide⟩
theorem vm_M_has : xm_Vm mt_M_has 2 12 := ⟨ok_M_has, by decide, _, rfl, xm_tb_in (in_t8 _ (List.mem_of_getElem? (i := 157) rfl)) rfl, xm_tb_in (in_p5 (⟨"DrawLabelsModel", "has", "(II)Z"⟩, _) (List.mem_of_getElem? (i := 6) rfl)) rfl⟩
theorem ok_M_octant : xm_ok mt_M_octant 2 := ⟨xm_tb_in (in_t8 _ (List.mem_of_getElem? (i := 183) rfl)) rfl, xm_tb_in (in_t1 _ (List.mem_of_getElem? (i := 12) rfl)) rfl, ⟨by decide, by decide⟩, by decide +kernel, by decide⟩
theorem sm_M_octant : xm_Sm mt_M_octant 2 := ⟨ok_M_octant, xm_tb_in (in_t8 _ (List.mem_of_getElem? (i := 182) rfl)) rfl⟩
theorem ok_M_root : xm_ok mt_M_root 1 := ⟨xm_tb_in (in_t8 _ (List.mem_of_getElem? (i := 175) rfl)) rfl, xm_tb_in (in_t1 _ (List.mem_of_getElem? (i := 12) rfl)) rfl, ⟨by decide, by decide⟩, by decide +kernel, by decide⟩
theorem sm_M_root : xm_Sm mt_M_root 1 := ⟨ok_M_root, xm_tb_in (in_t8 _ (List.mem_of_getElem? (i := 174) rfl)) rfl⟩
theorem ok_M_squareOf : xm_ok mt_M_squareOf 1 := ⟨xm_tb_in (in_t8 _ (List.mem_of_getElem? (i := 166) rfl)) rfl, xm_tb_in (in_t1 _ (List.mem_of_getElem? (i := 12) rfl)) rfl, ⟨by decide, by decide⟩, by decide +kernel, by decide⟩
theorem vm_M_squareOf : xm_Vm mt_M_squareOf 1 12 := ⟨ok_M_squareOf, by decide, _, rfl, xm_tb_in (in_t8 _ (List.mem_of_getElem? (i := 165) rfl)) rfl, xm_tb_in (in_p5 (⟨"DrawLabelsModel", "squareOf", "(I)J"⟩, _) (List.mem_of_getElem? (i := 8) rfl)) rfl⟩
theorem ok_M_far : xm_ok mt_M_far 3 := ⟨xm_tb_in (in_t8 _ (List.mem_of_getElem? (i := 172) rfl)) rfl, xm_tb_in (in_t1 _ (List.mem_of_getElem? (i := 12) rfl)) rfl, ⟨by decide, by decide⟩, by decide +kernel, by decide⟩
theorem sm_M_far : xm_Sm mt_M_far 3 := ⟨ok_M_far, xm_tb_in (in_t8 _ (List.mem_of_getElem? (i := 171) rfl)) rfl⟩
theorem ok_M_near : xm_ok mt_M_near 3 := ⟨xm_tb_in (in_t8 _ (List.mem_of_getElem? (i := 169) rfl)) rfl, xm_tb_in (in_t1 _ (List.mem_of_getElem? (i := 12) rfl)) rfl, ⟨by decide, by decide⟩, by decide +kernel, by decide⟩
theorem sm_M_near : xm_Sm mt_M_near 3 := ⟨ok_M_near, xm_tb_in (in_t8 _ (List.mem_of_getElem? (i := 168) rfl)) rfl⟩
theorem ok_M_drawCircle : xm_ok mt_M_drawCircle 1 := ⟨xm_tb_in (in_t8 _ (List.mem_of_getElem? (i := 162) rfl)) rfl, xm_tb_in (in_t1 _ (List.mem_of_getElem? (i := 12) rfl)) rfl, ⟨by decide, by decide⟩, by decide +kernel, by decide⟩
theorem vm_M_drawCircle : xm_Vm mt_M_drawCircle 1 12 := ⟨ok_M_drawCircle, by decide, _, rfl, xm_tb_in (in_t8 _ (List.mem_of_getElem? (i := 161) rfl)) rfl, xm_tb_in (in_p5 (⟨"DrawLabelsModel", "drawCircle", "(I)V"⟩, _) (List.mem_of_getElem? (i := 7) rfl)) rfl⟩
theorem ok_M_drawAngle : xm_ok mt_M_drawAngle 1 := ⟨xm_tb_in (in_t8 _ (List.mem_of_getElem? (i := 180) rfl)) rfl, xm_tb_in (in_t1 _ (List.mem_of_getElem? (i := 12) rfl)) rfl, ⟨by decide, by decide⟩, by decide +kernel, by decide⟩
theorem vm_M_drawAngle : xm_Vm mt_M_drawAngle 1 12 := ⟨ok_M_drawAngle, by decide, _, rfl, xm_tb_in (in_t8 _ (List.mem_of_getElem? (i := 179) rfl)) rfl, xm_tb_in (in_p5 (⟨"DrawLabelsModel", "drawAngle", "(I)V"⟩, _) (List.mem_of_getElem? (i := 9) rfl)) rfl⟩
theorem ok_M_drawTicks : xm_ok mt_M_drawTicks 1 := ⟨xm_tb_in (in_t8 _ (List.mem_of_getElem? (i := 187) rfl)) rfl, xm_tb_in (in_t1 _ (List.mem_of_getElem? (i := 12) rfl)) rfl, ⟨by decide, by decide⟩, by decide +kernel, by decide⟩
theorem vm_M_drawTicks : xm_Vm mt_M_drawTicks 1 12 := ⟨ok_M_drawTicks, by decide, _, rfl, xm_tb_in (in_t8 _ (List.mem_of_getElem? (i := 186) rfl)) rfl, xm_tb_in (in_p5 (⟨"DrawLabelsModel", "drawTicks", "(I)V"⟩, _) (List.mem_of_getElem? (i := 10) rfl)) rfl⟩
theorem ok_M_drawObject : xm_ok mt_M_drawObject 1 := ⟨xm_tb_in (in_t8 _ (List.mem_of_getElem? (i := 154) rfl)) rfl, xm_tb_in (in_t1 _ (List.mem_of_getElem? (i := 12) rfl)) rfl, ⟨by decide, by decide⟩, by decide +kernel, by decide⟩
theorem vm_M_drawObject : xm_Vm mt_M_drawObject 1 12 := ⟨ok_M_drawObject, by decide, _, rfl, xm_tb_in (in_t8 _ (List.mem_of_getElem? (i := 153) rfl)) rfl, xm_tb_in (in_p5 (⟨"DrawLabelsModel", "drawObject", "(I)V"⟩, _) (List.mem_of_getElem? (i := 5) rfl)) rfl⟩
theorem ok_M_flatX : xm_ok mt_M_flatX 2 := ⟨xm_tb_in (in_t8 _ (List.mem_of_getElem? (i := 211) rfl)) rfl, xm_tb_in (in_t1 _ (List.mem_of_getElem? (i := 12) rfl)) rfl, ⟨by decide, by decide⟩, by decide +kernel, by decide⟩
theorem vm_M_flatX : xm_Vm mt_M_flatX 2 12 := ⟨ok_M_flatX, by decide, _, rfl, xm_tb_in (in_t8 _ (List.mem_of_getElem? (i := 210) rfl)) rfl, xm_tb_in (in_p6 (⟨"DrawLabelsModel", "flatX", "(II)I"⟩, _) (List.mem_of_getElem? (i := 0) rfl)) rfl⟩
theorem ok_M_flatY : xm_ok mt_M_flatY 2 := ⟨xm_tb_in (in_t8 _ (List.mem_of_getElem? (i := 215) rfl)) rfl, xm_tb_in (in_t1 _ (List.mem_of_getElem? (i := 12) rfl)) rfl, ⟨by decide, by decide⟩, by decide +kernel, by decide⟩
theorem vm_M_flatY : xm_Vm mt_M_flatY 2 12 := ⟨ok_M_flatY, by decide, _, rfl, xm_tb_in (in_t8 _ (List.mem_of_getElem? (i := 214) rfl)) rfl, xm_tb_in (in_p6 (⟨"DrawLabelsModel", "flatY", "(II)I"⟩, _) (List.mem_of_getElem? (i := 1) rfl)) rfl⟩
theorem ok_M_drawSolid : xm_ok mt_M_drawSolid 1 := ⟨xm_tb_in (in_t8 _ (List.mem_of_getElem? (i := 207) rfl)) rfl, xm_tb_in (in_t1 _ (List.mem_of_getElem? (i := 12) rfl)) rfl, ⟨by decide, by decide⟩, by decide +kernel, by decide⟩
theorem vm_M_drawSolid : xm_Vm mt_M_drawSolid 1 12 := ⟨ok_M_drawSolid, by decide, _, rfl, xm_tb_in (in_t8 _ (List.mem_of_getElem? (i := 206) rfl)) rfl, xm_tb_in (in_p5 (⟨"DrawLabelsModel", "drawSolid", "(I)V"⟩, _) (List.mem_of_getElem? (i := 15) rfl)) rfl⟩
theorem ok_M_isDrawable : xm_ok mt_M_isDrawable 1 := ⟨xm_tb_in (in_t8 _ (List.mem_of_getElem? (i := 138) rfl)) rfl, xm_tb_in (in_t1 _ (List.mem_of_getElem? (i := 12) rfl)) rfl, ⟨by decide, by decide⟩, by decide +kernel, by decide⟩
theorem vm_M_isDrawable : xm_Vm mt_M_isDrawable 1 12 := ⟨ok_M_isDrawable, by decide, _, rfl, xm_tb_in (in_t8 _ (List.mem_of_getElem? (i := 137) rfl)) rfl, xm_tb_in (in_p5 (⟨"DrawLabelsModel", "isDrawable", "(I)Z"⟩, _) (List.mem_of_getElem? (i := 1) rfl)) rfl⟩
theorem ok_M_draw : xm_ok mt_M_draw 0 := ⟨xm_tb_in (in_t8 _ (List.mem_of_getElem? (i := 100) rfl)) rfl, xm_tb_in (in_t1 _ (List.mem_of_getElem? (i := 12) rfl)) rfl, ⟨by decide, by decide⟩, by decide +kernel, by decide⟩
theorem vm_M_draw : xm_Vm mt_M_draw 0 12 := ⟨ok_M_draw, by decide, _, rfl, xm_tb_in (in_t8 _ (List.mem_of_getElem? (i := 98) rfl)) rfl, xm_tb_in (in_t8 _ (List.mem_of_getElem? (i := 99) rfl)) rfl⟩
theorem ok_M_boxLeft : xm_ok mt_M_boxLeft 2 := ⟨xm_tb_in (in_t8 _ (List.mem_of_getElem? (i := 227) rfl)) rfl, xm_tb_in (in_t1 _ (List.mem_of_getElem? (i := 12) rfl)) rfl, ⟨by decide, by decide⟩, by decide +kernel, by decide⟩
theorem vm_M_boxLeft : xm_Vm mt_M_boxLeft 2 12 := ⟨ok_M_boxLeft, by decide, _, rfl, xm_tb_in (in_t8 _ (List.mem_of_getElem? (i := 226) rfl)) rfl, xm_tb_in (in_p6 (⟨"DrawLabelsModel", "boxLeft", "(II)I"⟩, _) (List.mem_of_getElem? (i := 4) rfl)) rfl⟩
theorem ok_M_boxTop : xm_ok mt_M_boxTop 2 := ⟨xm_tb_in (in_t8 _ (List.mem_of_getElem? (i := 231) rfl)) rfl, xm_tb_in (in_t1 _ (List.mem_of_getElem? (i := 12) rfl)) rfl, ⟨by decide, by decide⟩, by decide +kernel, by decide⟩
theorem vm_M_boxTop : xm_Vm mt_M_boxTop 2 12 := ⟨ok_M_boxTop, by decide, _, rfl, xm_tb_in (in_t8 _ (List.mem_of_getElem? (i := 230) rfl)) rfl, xm_tb_in (in_p6 (⟨"DrawLabelsModel", "boxTop", "(II)I"⟩, _) (List.mem_of_getElem? (i := 5) rfl)) rfl⟩
theorem ok_M_isOpen : xm_ok mt_M_isOpen 2 := ⟨xm_tb_in (in_t8 _ (List.mem_of_getElem? (i := 223) rfl)) rfl, xm_tb_in (in_t1 _ (List.mem_of_getElem? (i := 12) rfl)) rfl, ⟨by decide, by decide⟩, by decide +kernel, by decide⟩
theorem vm_M_isOpen : xm_Vm mt_M_isOpen 2 12 := ⟨ok_M_isOpen, by decide, _, rfl, xm_tb_in (in_t8 _ (List.mem_of_getElem? (i := 222) rfl)) rfl, xm_tb_in (in_p6 (⟨"DrawLabelsModel", "isOpen", "(II)Z"⟩, _) (List.mem_of_getElem? (i := 3) rfl)) rfl⟩
theorem ok_M_cost : xm_ok mt_M_cost 3 := ⟨xm_tb_in (in_t8 _ (List.mem_of_getElem? (i := 235) rfl)) rfl, xm_tb_in (in_t1 _ (List.mem_of_getElem? (i := 12) rfl)) rfl, ⟨by decide, by decide⟩, by decide +kernel, by decide⟩
theorem vm_M_cost : xm_Vm mt_M_cost 3 12 := ⟨ok_M_cost, by decide, _, rfl, xm_tb_in (in_t8 _ (List.mem_of_getElem? (i := 234) rfl)) rfl, xm_tb_in (in_p6 (⟨"DrawLabelsModel", "cost", "(III)I"⟩, _) (List.mem_of_getElem? (i := 6) rfl)) rfl⟩
theorem ok_M_meet : xm_ok mt_M_meet 4 := ⟨xm_tb_in (in_t9 _ (List.mem_of_getElem? (i := 19) rfl)) rfl, xm_tb_in (in_t1 _ (List.mem_of_getElem? (i := 12) rfl)) rfl, ⟨by decide, by decide⟩, by decide +kernel, by decide⟩
theorem vm_M_meet : xm_Vm mt_M_meet 4 12 := ⟨ok_M_meet, by decide, _, rfl, xm_tb_in (in_t9 _ (List.mem_of_getElem? (i := 18) rfl)) rfl, xm_tb_in (in_p6 (⟨"DrawLabelsModel", "meet", "(IIII)Z"⟩, _) (List.mem_of_getElem? (i := 12) rfl)) rfl⟩
theorem ok_M_place : xm_ok mt_M_place 0 := ⟨xm_tb_in (in_t8 _ (List.mem_of_getElem? (i := 219) rfl)) rfl, xm_tb_in (in_t1 _ (List.mem_of_getElem? (i := 12) rfl)) rfl, ⟨by decide, by decide⟩, by decide +kernel, by decide⟩
theorem vm_M_place : xm_Vm mt_M_place 0 12 := ⟨ok_M_place, by decide, _, rfl, xm_tb_in (in_t8 _ (List.mem_of_getElem? (i := 218) rfl)) rfl, xm_tb_in (in_p6 (⟨"DrawLabelsModel", "place", "()V"⟩, _) (List.mem_of_getElem? (i := 2) rfl)) rfl⟩
theorem ok_M_isFine : xm_ok mt_M_isFine 1 := ⟨xm_tb_in (in_t9 _ (List.mem_of_getElem? (i := 15) rfl)) rfl, xm_tb_in (in_t1 _ (List.mem_of_getElem? (i := 12) rfl)) rfl, ⟨by decide, by decide⟩, by decide +kernel, by decide⟩
theorem vm_M_isFine : xm_Vm mt_M_isFine 1 12 := ⟨ok_M_isFine, by decide, _, rfl, xm_tb_in (in_t9 _ (List.mem_of_getElem? (i := 14) rfl)) rfl, xm_tb_in (in_p6 (⟨"DrawLabelsModel", "isFine", "(I)Z"⟩, _) (List.mem_of_getElem? (i := 11) rfl)) rfl⟩
theorem ok_M_findBest : xm_ok mt_M_findBest 0 := ⟨xm_tb_in (in_t8 _ (List.mem_of_getElem? (i := 239) rfl)) rfl, xm_tb_in (in_t1 _ (List.mem_of_getElem? (i := 12) rfl)) rfl, ⟨by decide, by decide⟩, by decide +kernel, by decide⟩
theorem vm_M_findBest : xm_Vm mt_M_findBest 0 12 := ⟨ok_M_findBest, by decide, _, rfl, xm_tb_in (in_t8 _ (List.mem_of_getElem? (i := 238) rfl)) rfl, xm_tb_in (in_p6 (⟨"DrawLabelsModel", "findBest", "()V"⟩, _) (List.mem_of_getElem? (i := 7) rfl)) rfl⟩
theorem ok_M_outsOf : xm_ok mt_M_outsOf 1 := ⟨xm_tb_in (in_t9 _ (List.mem_of_getElem? (i := 7) rfl)) rfl, xm_tb_in (in_t1 _ (List.mem_of_getElem? (i := 12) rfl)) rfl, ⟨by decide, by decide⟩, by decide +kernel, by decide⟩
theorem vm_M_outsOf : xm_Vm mt_M_outsOf 1 12 := ⟨ok_M_outsOf, by decide, _, rfl, xm_tb_in (in_t9 _ (List.mem_of_getElem? (i := 6) rfl)) rfl, xm_tb_in (in_p6 (⟨"DrawLabelsModel", "outsOf", "(I)I"⟩, _) (List.mem_of_getElem? (i := 9) rfl)) rfl⟩
theorem ok_M_costsOf : xm_ok mt_M_costsOf 1 := ⟨xm_tb_in (in_t9 _ (List.mem_of_getElem? (i := 11) rfl)) rfl, xm_tb_in (in_t1 _ (List.mem_of_getElem? (i := 12) rfl)) rfl, ⟨by decide, by decide⟩, by decide +kernel, by decide⟩
theorem vm_M_costsOf : xm_Vm mt_M_costsOf 1 12 := ⟨ok_M_costsOf, by decide, _, rfl, xm_tb_in (in_t9 _ (List.mem_of_getElem? (i := 10) rfl)) rfl, xm_tb_in (in_p6 (⟨"DrawLabelsModel", "costsOf", "(I)I"⟩, _) (List.mem_of_getElem? (i := 10) rfl)) rfl⟩
theorem ok_M_isBetter : xm_ok mt_M_isBetter 1 := ⟨xm_tb_in (in_t9 _ (List.mem_of_getElem? (i := 23) rfl)) rfl, xm_tb_in (in_t1 _ (List.mem_of_getElem? (i := 12) rfl)) rfl, ⟨by decide, by decide⟩, by decide +kernel, by decide⟩
theorem vm_M_isBetter : xm_Vm mt_M_isBetter 1 12 := ⟨ok_M_isBetter, by decide, _, rfl, xm_tb_in (in_t9 _ (List.mem_of_getElem? (i := 22) rfl)) rfl, xm_tb_in (in_p6 (⟨"DrawLabelsModel", "isBetter", "(I)Z"⟩, _) (List.mem_of_getElem? (i := 13) rfl)) rfl⟩
theorem ok_M_reached : xm_ok mt_M_reached 1 := ⟨xm_tb_in (in_t9 _ (List.mem_of_getElem? (i := 3) rfl)) rfl, xm_tb_in (in_t1 _ (List.mem_of_getElem? (i := 12) rfl)) rfl, ⟨by decide, by decide⟩, by decide +kernel, by decide⟩
theorem vm_M_reached : xm_Vm mt_M_reached 1 12 := ⟨ok_M_reached, by decide, _, rfl, xm_tb_in (in_t9 _ (List.mem_of_getElem? (i := 2) rfl)) rfl, xm_tb_in (in_p6 (⟨"DrawLabelsModel", "reached", "(I)I"⟩, _) (List.mem_of_getElem? (i := 8) rfl)) rfl⟩
theorem ok_M_taken : xm_ok mt_M_taken 1 := ⟨xm_tb_in (in_t9 _ (List.mem_of_getElem? (i := 31) rfl)) rfl, xm_tb_in (in_t1 _ (List.mem_of_getElem? (i := 12) rfl)) rfl, ⟨by decide, by decide⟩, by decide +kernel, by decide⟩
theorem vm_M_taken : xm_Vm mt_M_taken 1 12 := ⟨ok_M_taken, by decide, _, rfl, xm_tb_in (in_t9 _ (List.mem_of_getElem? (i := 30) rfl)) rfl, xm_tb_in (in_p6 (⟨"DrawLabelsModel", "taken", "(I)I"⟩, _) (List.mem_of_getElem? (i := 15) rfl)) rfl⟩
theorem ok_M_goRound : xm_ok mt_M_goRound 0 := ⟨xm_tb_in (in_t9 _ (List.mem_of_getElem? (i := 27) rfl)) rfl, xm_tb_in (in_t1 _ (List.mem_of_getElem? (i := 12) rfl)) rfl, ⟨by decide, by decide⟩, by decide +kernel, by decide⟩
theorem vm_M_goRound : xm_Vm mt_M_goRound 0 12 := ⟨ok_M_goRound, by decide, _, rfl, xm_tb_in (in_t9 _ (List.mem_of_getElem? (i := 26) rfl)) rfl, xm_tb_in (in_p6 (⟨"DrawLabelsModel", "goRound", "()V"⟩, _) (List.mem_of_getElem? (i := 14) rfl)) rfl⟩
theorem ok_M_label : xm_ok mt_M_label 2 := ⟨xm_tb_in (in_t9 _ (List.mem_of_getElem? (i := 35) rfl)) rfl, xm_tb_in (in_t1 _ (List.mem_of_getElem? (i := 12) rfl)) rfl, ⟨by decide, by decide⟩, by decide +kernel, by decide⟩
theorem vm_M_label : xm_Vm mt_M_label 2 12 := ⟨ok_M_label, by decide, _, rfl, xm_tb_in (in_t9 _ (List.mem_of_getElem? (i := 33) rfl)) rfl, xm_tb_in (in_t9 _ (List.mem_of_getElem? (i := 34) rfl)) rfl⟩
theorem ok_M_numbersOf : xm_ok mt_M_numbersOf 1 := ⟨xm_tb_in (in_t8 _ (List.mem_of_getElem? (i := 115) rfl)) rfl, xm_tb_in (in_t1 _ (List.mem_of_getElem? (i := 12) rfl)) rfl, ⟨by decide, by decide⟩, by decide +kernel, by decide⟩
theorem sm_M_numbersOf : xm_Sm mt_M_numbersOf 1 := ⟨ok_M_numbersOf, xm_tb_in (in_t8 _ (List.mem_of_getElem? (i := 114) rfl)) rfl⟩
theorem ok_M_octet0 : xm_ok mt_M_octet0 1 := ⟨xm_tb_in (in_t8 _ (List.mem_of_getElem? (i := 112) rfl)) rfl, xm_tb_in (in_t1 _ (List.mem_of_getElem? (i := 12) rfl)) rfl, ⟨by decide, by decide⟩, by decide +kernel, by decide⟩
theorem vm_M_octet0 : xm_Vm mt_M_octet0 1 12 := ⟨ok_M_octet0, by decide, _, rfl, xm_tb_in (in_t8 _ (List.mem_of_getElem? (i := 111) rfl)) rfl, xm_tb_in (in_p4 (⟨"DrawLabelsModel", "octet0", "(I)V"⟩, _) (List.mem_of_getElem? (i := 13) rfl)) rfl⟩
theorem ok_M_lay : xm_ok mt_M_lay 0 := ⟨xm_tb_in (in_t8 _ (List.mem_of_getElem? (i := 108) rfl)) rfl, xm_tb_in (in_t1 _ (List.mem_of_getElem? (i := 12) rfl)) rfl, ⟨by decide, by decide⟩, by decide +kernel, by decide⟩
theorem vm_M_lay : xm_Vm mt_M_lay 0 12 := ⟨ok_M_lay, by decide, _, rfl, xm_tb_in (in_t8 _ (List.mem_of_getElem? (i := 107) rfl)) rfl, xm_tb_in (in_p4 (⟨"DrawLabelsModel", "lay", "()V"⟩, _) (List.mem_of_getElem? (i := 12) rfl)) rfl⟩
theorem ok_M_mark : xm_ok mt_M_mark 2 := ⟨xm_tb_in (in_t9 _ (List.mem_of_getElem? (i := 40) rfl)) rfl, xm_tb_in (in_t1 _ (List.mem_of_getElem? (i := 12) rfl)) rfl, ⟨by decide, by decide⟩, by decide +kernel, by decide⟩
theorem vm_M_mark : xm_Vm mt_M_mark 2 12 := ⟨ok_M_mark, by decide, _, rfl, xm_tb_in (in_t9 _ (List.mem_of_getElem? (i := 38) rfl)) rfl, xm_tb_in (in_t9 _ (List.mem_of_getElem? (i := 39) rfl)) rfl⟩
theorem ok_M_placed : xm_ok mt_M_placed 1 := ⟨xm_tb_in (in_t9 _ (List.mem_of_getElem? (i := 44) rfl)) rfl, xm_tb_in (in_t1 _ (List.mem_of_getElem? (i := 12) rfl)) rfl, ⟨by decide, by decide⟩, by decide +kernel, by decide⟩
theorem vm_M_placed : xm_Vm mt_M_placed 1 12 := ⟨ok_M_placed, by decide, _, rfl, xm_tb_in (in_t9 _ (List.mem_of_getElem? (i := 42) rfl)) rfl, xm_tb_in (in_t9 _ (List.mem_of_getElem? (i := 43) rfl)) rfl⟩
theorem ok_M_octet : xm_ok mt_M_octet 1 := ⟨xm_tb_in (in_t9 _ (List.mem_of_getElem? (i := 48) rfl)) rfl, xm_tb_in (in_t1 _ (List.mem_of_getElem? (i := 12) rfl)) rfl, ⟨by decide, by decide⟩, by decide +kernel, by decide⟩
theorem vm_M_octet : xm_Vm mt_M_octet 1 12 := ⟨ok_M_octet, by decide, _, rfl, xm_tb_in (in_t9 _ (List.mem_of_getElem? (i := 46) rfl)) rfl, xm_tb_in (in_t9 _ (List.mem_of_getElem? (i := 47) rfl)) rfl⟩
theorem ok_M_digest : xm_ok mt_M_digest 0 := ⟨xm_tb_in (in_t9 _ (List.mem_of_getElem? (i := 52) rfl)) rfl, xm_tb_in (in_t1 _ (List.mem_of_getElem? (i := 12) rfl)) rfl, ⟨by decide, by decide⟩, by decide +kernel, by decide⟩
theorem vm_M_digest : xm_Vm mt_M_digest 0 12 := ⟨ok_M_digest, by decide, _, rfl, xm_tb_in (in_t9 _ (List.mem_of_getElem? (i := 50) rfl)) rfl, xm_tb_in (in_t9 _ (List.mem_of_getElem? (i := 51) rfl)) rfl⟩
theorem ok_M_count : xm_ok mt_M_count 1 := ⟨xm_tb_in (in_t9 _ (List.mem_of_getElem? (i := 56) rfl)) rfl, xm_tb_in (in_t1 _ (List.mem_of_getElem? (i := 12) rfl)) rfl, ⟨by decide, by decide⟩, by decide +kernel, by decide⟩
theorem vm_M_count : xm_Vm mt_M_count 1 12 := ⟨ok_M_count, by decide, _, rfl, xm_tb_in (in_t9 _ (List.mem_of_getElem? (i := 54) rfl)) rfl, xm_tb_in (in_t9 _ (List.mem_of_getElem? (i := 55) rfl)) rfl⟩
theorem ok_M_code : xm_ok mt_M_code 0 := ⟨xm_tb_in (in_t9 _ (List.mem_of_getElem? (i := 60) rfl)) rfl, xm_tb_in (in_t1 _ (List.mem_of_getElem? (i := 12) rfl)) rfl, ⟨by decide, by decide⟩, by decide +kernel, by decide⟩
theorem vm_M_code : xm_Vm mt_M_code 0 12 := ⟨ok_M_code, by decide, _, rfl, xm_tb_in (in_t9 _ (List.mem_of_getElem? (i := 58) rfl)) rfl, xm_tb_in (in_t9 _ (List.mem_of_getElem? (i := 59) rfl)) rfl⟩
theorem ok_M_group : xm_ok mt_M_group 3 := ⟨xm_tb_in (in_t9 _ (List.mem_of_getElem? (i := 64) rfl)) rfl, xm_tb_in (in_t1 _ (List.mem_of_getElem? (i := 12) rfl)) rfl, ⟨by decide, by decide⟩, by decide +kernel, by decide⟩
theorem vm_M_group : xm_Vm mt_M_group 3 12 := ⟨ok_M_group, by decide, _, rfl, xm_tb_in (in_t9 _ (List.mem_of_getElem? (i := 62) rfl)) rfl, xm_tb_in (in_t9 _ (List.mem_of_getElem? (i := 63) rfl)) rfl⟩
theorem ok_M_put : xm_ok mt_M_put 3 := ⟨xm_tb_in (in_t9 _ (List.mem_of_getElem? (i := 69) rfl)) rfl, xm_tb_in (in_t1 _ (List.mem_of_getElem? (i := 12) rfl)) rfl, ⟨by decide, by decide⟩, by decide +kernel, by decide⟩
theorem vm_M_put : xm_Vm mt_M_put 3 12 := ⟨ok_M_put, by decide, _, rfl, xm_tb_in (in_t9 _ (List.mem_of_getElem? (i := 67) rfl)) rfl, xm_tb_in (in_t9 _ (List.mem_of_getElem? (i := 68) rfl)) rfl⟩
theorem ok_M_member : xm_ok mt_M_member 2 := ⟨xm_tb_in (in_t9 _ (List.mem_of_getElem? (i := 73) rfl)) rfl, xm_tb_in (in_t1 _ (List.mem_of_getElem? (i := 12) rfl)) rfl, ⟨by decide, by decide⟩, by decide +kernel, by decide⟩
theorem vm_M_member : xm_Vm mt_M_member 2 12 := ⟨ok_M_member, by decide, _, rfl, xm_tb_in (in_t9 _ (List.mem_of_getElem? (i := 71) rfl)) rfl, xm_tb_in (in_t9 _ (List.mem_of_getElem? (i := 72) rfl)) rfl⟩
theorem ok_M_paint : xm_ok mt_M_paint 2 := ⟨xm_tb_in (in_t9 _ (List.mem_of_getElem? (i := 77) rfl)) rfl, xm_tb_in (in_t1 _ (List.mem_of_getElem? (i := 12) rfl)) rfl, ⟨by decide, by decide⟩, by decide +kernel, by decide⟩
theorem vm_M_paint : xm_Vm mt_M_paint 2 12 := ⟨ok_M_paint, by decide, _, rfl, xm_tb_in (in_t9 _ (List.mem_of_getElem? (i := 75) rfl)) rfl, xm_tb_in (in_t9 _ (List.mem_of_getElem? (i := 76) rfl)) rfl⟩
theorem ok_M_reach : xm_ok mt_M_reach 1 := ⟨xm_tb_in (in_t9 _ (List.mem_of_getElem? (i := 81) rfl)) rfl, xm_tb_in (in_t1 _ (List.mem_of_getElem? (i := 12) rfl)) rfl, ⟨by decide, by decide⟩, by decide +kernel, by decide⟩
theorem vm_M_reach : xm_Vm mt_M_reach 1 12 := ⟨ok_M_reach, by decide, _, rfl, xm_tb_in (in_t9 _ (List.mem_of_getElem? (i := 79) rfl)) rfl, xm_tb_in (in_t9 _ (List.mem_of_getElem? (i := 80) rfl)) rfl⟩
theorem ok_Cu_init : xm_ok mt_Cu_init 1 := ⟨xm_tb_in (in_t2 _ (List.mem_of_getElem? (i := 36) rfl)) rfl, xm_tb_in (in_t1 _ (List.mem_of_getElem? (i := 10) rfl)) rfl, ⟨by decide, by decide⟩, by decide +kernel, by decide⟩
theorem im_Cu_init : Cond.instanceMethod mt_Cu_init.1 ∈ xm_tb := xm_tb_in (in_t2 _ (List.mem_of_getElem? (i := 35) rfl)) rfl
theorem ok_Cu_setWay : xm_ok mt_Cu_setWay 4 := ⟨xm_tb_in (in_t5 _ (List.mem_of_getElem? (i := 33) rfl)) rfl, xm_tb_in (in_t1 _ (List.mem_of_getElem? (i := 10) rfl)) rfl, ⟨by decide, by decide⟩, by decide +kernel, by decide⟩
theorem vm_Cu_setWay : xm_Vm mt_Cu_setWay 4 0 := ⟨ok_Cu_setWay, by decide, _, rfl, xm_tb_in (in_t5 _ (List.mem_of_getElem? (i := 31) rfl)) rfl, xm_tb_in (in_t5 _ (List.mem_of_getElem? (i := 32) rfl)) rfl⟩
theorem ok_Cu_cut : xm_ok mt_Cu_cut 1 := ⟨xm_tb_in (in_t5 _ (List.mem_of_getElem? (i := 37) rfl)) rfl, xm_tb_in (in_t1 _ (List.mem_of_getElem? (i := 10) rfl)) rfl, ⟨by decide, by decide⟩, by decide +kernel, by decide⟩
theorem vm_Cu_cut : xm_Vm mt_Cu_cut 1 0 := ⟨ok_Cu_cut, by decide, _, rfl, xm_tb_in (in_t5 _ (List.mem_of_getElem? (i := 35) rfl)) rfl, xm_tb_in (in_t5 _ (List.mem_of_getElem? (i := 36) rfl)) rfl⟩
theorem ok_Cu_cutAxis : xm_ok mt_Cu_cutAxis 4 := ⟨xm_tb_in (in_t5 _ (List.mem_of_getElem? (i := 43) rfl)) rfl, xm_tb_in (in_t1 _ (List.mem_of_getElem? (i := 10) rfl)) rfl, ⟨by decide, by decide⟩, by decide +kernel, by decide⟩
theorem vm_Cu_cutAxis : xm_Vm mt_Cu_cutAxis 4 0 := ⟨ok_Cu_cutAxis, by decide, _, rfl, xm_tb_in (in_t5 _ (List.mem_of_getElem? (i := 42) rfl)) rfl, xm_tb_in (in_p2 (⟨"DrawLabels$Cutter", "cutAxis", "(IIII)Z"⟩, _) (List.mem_of_getElem? (i := 1) rfl)) rfl⟩
theorem ok_Cu_startNotBefore : xm_ok mt_Cu_startNotBefore 2 := ⟨xm_tb_in (in_t5 _ (List.mem_of_getElem? (i := 47) rfl)) rfl, xm_tb_in (in_t1 _ (List.mem_of_getElem? (i := 10) rfl)) rfl, ⟨by decide, by decide⟩, by decide +kernel, by decide⟩
theorem vm_Cu_startNotBefore : xm_Vm mt_Cu_startNotBefore 2 0 := ⟨ok_Cu_startNotBefore, by decide, _, rfl, xm_tb_in (in_t5 _ (List.mem_of_getElem? (i := 46) rfl)) rfl, xm_tb_in (in_p2 (⟨"DrawLabels$Cutter", "startNotBefore", "(JJ)V"⟩, _) (List.mem_of_getElem? (i := 2) rfl)) rfl⟩
theorem ok_Cu_endNotBehind : xm_ok mt_Cu_endNotBehind 2 := ⟨xm_tb_in (in_t5 _ (List.mem_of_getElem? (i := 51) rfl)) rfl, xm_tb_in (in_t1 _ (List.mem_of_getElem? (i := 10) rfl)) rfl, ⟨by decide, by decide⟩, by decide +kernel, by decide⟩
theorem vm_Cu_endNotBehind : xm_Vm mt_Cu_endNotBehind 2 0 := ⟨ok_Cu_endNotBehind, by decide, _, rfl, xm_tb_in (in_t5 _ (List.mem_of_getElem? (i := 50) rfl)) rfl, xm_tb_in (in_p2 (⟨"DrawLabels$Cutter", "endNotBehind", "(JJ)V"⟩, _) (List.mem_of_getElem? (i := 3) rfl)) rfl⟩
theorem ok_Cu_firstX : xm_ok mt_Cu_firstX 0 := ⟨xm_tb_in (in_t5 _ (List.mem_of_getElem? (i := 55) rfl)) rfl, xm_tb_in (in_t1 _ (List.mem_of_getElem? (i := 10) rfl)) rfl, ⟨by decide, by decide⟩, by decide +kernel, by decide⟩
theorem vm_Cu_firstX : xm_Vm mt_Cu_firstX 0 0 := ⟨ok_Cu_firstX, by decide, _, rfl, xm_tb_in (in_t5 _ (List.mem_of_getElem? (i := 53) rfl)) rfl, xm_tb_in (in_t5 _ (List.mem_of_getElem? (i := 54) rfl)) rfl⟩
theorem ok_Cu_firstY : xm_ok mt_Cu_firstY 0 := ⟨xm_tb_in (in_t5 _ (List.mem_of_getElem? (i := 60) rfl)) rfl, xm_tb_in (in_t1 _ (List.mem_of_getElem? (i := 10) rfl)) rfl, ⟨by decide, by decide⟩, by decide +kernel, by decide⟩
theorem vm_Cu_firstY : xm_Vm mt_Cu_firstY 0 0 := ⟨ok_Cu_firstY, by decide, _, rfl, xm_tb_in (in_t5 _ (List.mem_of_getElem? (i := 58) rfl)) rfl, xm_tb_in (in_t5 _ (List.mem_of_getElem? (i := 59) rfl)) rfl⟩
theorem ok_Cu_lastX : xm_ok mt_Cu_lastX 0 := ⟨xm_tb_in (in_t5 _ (List.mem_of_getElem? (i := 65) rfl)) rfl, xm_tb_in (in_t1 _ (List.mem_of_getElem? (i := 10) rfl)) rfl, ⟨by decide, by decide⟩, by decide +kernel, by decide⟩
theorem vm_Cu_lastX : xm_Vm mt_Cu_lastX 0 0 := ⟨ok_Cu_lastX, by decide, _, rfl, xm_tb_in (in_t5 _ (List.mem_of_getElem? (i := 63) rfl)) rfl, xm_tb_in (in_t5 _ (List.mem_of_getElem? (i := 64) rfl)) rfl⟩
theorem ok_Cu_lastY : xm_ok mt_Cu_lastY 0 := ⟨xm_tb_in (in_t5 _ (List.mem_of_getElem? (i := 69) rfl)) rfl, xm_tb_in (in_t1 _ (List.mem_of_getElem? (i := 10) rfl)) rfl, ⟨by decide, by decide⟩, by decide +kernel, by decide⟩
theorem vm_Cu_lastY : xm_Vm mt_Cu_lastY 0 0 := ⟨ok_Cu_lastY, by decide, _, rfl, xm_tb_in (in_t5 _ (List.mem_of_getElem? (i := 67) rfl)) rfl, xm_tb_in (in_t5 _ (List.mem_of_getElem? (i := 68) rfl)) rfl⟩
theorem ok_Fg_init : xm_ok mt_Fg_init 1 := ⟨xm_tb_in (in_t1 _ (List.mem_of_getElem? (i := 57) rfl)) rfl, xm_tb_in (in_t1 _ (List.mem_of_getElem? (i := 3) rfl)) rfl, ⟨by decide, by decide⟩, by decide +kernel, by decide⟩
theorem im_Fg_init : Cond.instanceMethod mt_Fg_init.1 ∈ xm_tb := xm_tb_in (in_t1 _ (List.mem_of_getElem? (i := 56) rfl)) rfl
theorem ok_Fg_has : xm_ok mt_Fg_has 1 := ⟨xm_tb_in (in_t3 _ (List.mem_of_getElem? (i := 53) rfl)) rfl, xm_tb_in (in_t1 _ (List.mem_of_getElem? (i := 3) rfl)) rfl, ⟨by decide, by decide⟩, by decide +kernel, by decide⟩
theorem vm_Fg_has : xm_Vm mt_Fg_has 1 1 := ⟨ok_Fg_has, by decide, _, rfl, xm_tb_in (in_t3 _ (List.mem_of_getElem? (i := 51) rfl)) rfl, xm_tb_in (in_t3 _ (List.mem_of_getElem? (i := 52) rfl)) rfl⟩
theorem ok_Fg_isFull : xm_ok mt_Fg_isFull 0 := ⟨xm_tb_in (in_t3 _ (List.mem_of_getElem? (i := 14) rfl)) rfl, xm_tb_in (in_t1 _ (List.mem_of_getElem? (i := 3) rfl)) rfl, ⟨by decide, by decide⟩, by decide +kernel, by decide⟩
theorem vm_Fg_isFull : xm_Vm mt_Fg_isFull 0 1 := ⟨ok_Fg_isFull, by decide, _, rfl, xm_tb_in (in_t3 _ (List.mem_of_getElem? (i := 12) rfl)) rfl, xm_tb_in (in_t3 _ (List.mem_of_getElem? (i := 13) rfl)) rfl⟩
theorem ok_Fg_chainIsFull : xm_ok mt_Fg_chainIsFull 0 := ⟨xm_tb_in (in_t3 _ (List.mem_of_getElem? (i := 28) rfl)) rfl, xm_tb_in (in_t1 _ (List.mem_of_getElem? (i := 3) rfl)) rfl, ⟨by decide, by decide⟩, by decide +kernel, by decide⟩
theorem vm_Fg_chainIsFull : xm_Vm mt_Fg_chainIsFull 0 1 := ⟨ok_Fg_chainIsFull, by decide, _, rfl, xm_tb_in (in_t3 _ (List.mem_of_getElem? (i := 26) rfl)) rfl, xm_tb_in (in_t3 _ (List.mem_of_getElem? (i := 27) rfl)) rfl⟩
theorem ok_Fg_lengthenChain : xm_ok mt_Fg_lengthenChain 1 := ⟨xm_tb_in (in_t3 _ (List.mem_of_getElem? (i := 32) rfl)) rfl, xm_tb_in (in_t1 _ (List.mem_of_getElem? (i := 3) rfl)) rfl, ⟨by decide, by decide⟩, by decide +kernel, by decide⟩
theorem vm_Fg_lengthenChain : xm_Vm mt_Fg_lengthenChain 1 1 := ⟨ok_Fg_lengthenChain, by decide, _, rfl, xm_tb_in (in_t3 _ (List.mem_of_getElem? (i := 30) rfl)) rfl, xm_tb_in (in_t3 _ (List.mem_of_getElem? (i := 31) rfl)) rfl⟩
theorem ok_Fg_add : xm_ok mt_Fg_add 4 := ⟨xm_tb_in (in_t3 _ (List.mem_of_getElem? (i := 18) rfl)) rfl, xm_tb_in (in_t1 _ (List.mem_of_getElem? (i := 3) rfl)) rfl, ⟨by decide, by decide⟩, by decide +kernel, by decide⟩
theorem vm_Fg_add : xm_Vm mt_Fg_add 4 1 := ⟨ok_Fg_add, by decide, _, rfl, xm_tb_in (in_t3 _ (List.mem_of_getElem? (i := 16) rfl)) rfl, xm_tb_in (in_t3 _ (List.mem_of_getElem? (i := 17) rfl)) rfl⟩
theorem ok_Fg_addArea : xm_ok mt_Fg_addArea 0 := ⟨xm_tb_in (in_t3 _ (List.mem_of_getElem? (i := 42) rfl)) rfl, xm_tb_in (in_t1 _ (List.mem_of_getElem? (i := 3) rfl)) rfl, ⟨by decide, by decide⟩, by decide +kernel, by decide⟩
theorem vm_Fg_addArea : xm_Vm mt_Fg_addArea 0 1 := ⟨ok_Fg_addArea, by decide, _, rfl, xm_tb_in (in_t3 _ (List.mem_of_getElem? (i := 40) rfl)) rfl, xm_tb_in (in_t3 _ (List.mem_of_getElem? (i := 41) rfl)) rfl⟩
theorem ok_Fg_kindOf : xm_ok mt_Fg_kindOf 1 := ⟨xm_tb_in (in_t3 _ (List.mem_of_getElem? (i := 86) rfl)) rfl, xm_tb_in (in_t1 _ (List.mem_of_getElem? (i := 3) rfl)) rfl, ⟨by decide, by decide⟩, by decide +kernel, by decide⟩
theorem vm_Fg_kindOf : xm_Vm mt_Fg_kindOf 1 1 := ⟨ok_Fg_kindOf, by decide, _, rfl, xm_tb_in (in_t3 _ (List.mem_of_getElem? (i := 84) rfl)) rfl, xm_tb_in (in_t3 _ (List.mem_of_getElem? (i := 85) rfl)) rfl⟩
theorem ok_Fg_styleOf : xm_ok mt_Fg_styleOf 1 := ⟨xm_tb_in (in_t3 _ (List.mem_of_getElem? (i := 57) rfl)) rfl, xm_tb_in (in_t1 _ (List.mem_of_getElem? (i := 3) rfl)) rfl, ⟨by decide, by decide⟩, by decide +kernel, by decide⟩
theorem vm_Fg_styleOf : xm_Vm mt_Fg_styleOf 1 1 := ⟨ok_Fg_styleOf, by decide, _, rfl, xm_tb_in (in_t3 _ (List.mem_of_getElem? (i := 55) rfl)) rfl, xm_tb_in (in_t3 _ (List.mem_of_getElem? (i := 56) rfl)) rfl⟩
theorem ok_Fg_setStyle : xm_ok mt_Fg_setStyle 2 := ⟨xm_tb_in (in_t3 _ (List.mem_of_getElem? (i := 62) rfl)) rfl, xm_tb_in (in_t1 _ (List.mem_of_getElem? (i := 3) rfl)) rfl, ⟨by decide, by decide⟩, by decide +kernel, by decide⟩
theorem vm_Fg_setStyle : xm_Vm mt_Fg_setStyle 2 1 := ⟨ok_Fg_setStyle, by decide, _, rfl, xm_tb_in (in_t3 _ (List.mem_of_getElem? (i := 60) rfl)) rfl, xm_tb_in (in_t3 _ (List.mem_of_getElem? (i := 61) rfl)) rfl⟩
theorem ok_Fg_strokesOf : xm_ok mt_Fg_strokesOf 1 := ⟨xm_tb_in (in_t5 _ (List.mem_of_getElem? (i := 117) rfl)) rfl, xm_tb_in (in_t1 _ (List.mem_of_getElem? (i := 3) rfl)) rfl, ⟨by decide, by decide⟩, by decide +kernel, by decide⟩
theorem vm_Fg_strokesOf : xm_Vm mt_Fg_strokesOf 1 1 := ⟨ok_Fg_strokesOf, by decide, _, rfl, xm_tb_in (in_t5 _ (List.mem_of_getElem? (i := 115) rfl)) rfl, xm_tb_in (in_t5 _ (List.mem_of_getElem? (i := 116) rfl)) rfl⟩
theorem ok_Fg_cornersOf : xm_ok mt_Fg_cornersOf 1 := ⟨xm_tb_in (in_t3 _ (List.mem_of_getElem? (i := 98) rfl)) rfl, xm_tb_in (in_t1 _ (List.mem_of_getElem? (i := 3) rfl)) rfl, ⟨by decide, by decide⟩, by decide +kernel, by decide⟩
theorem vm_Fg_cornersOf : xm_Vm mt_Fg_cornersOf 1 1 := ⟨ok_Fg_cornersOf, by decide, _, rfl, xm_tb_in (in_t3 _ (List.mem_of_getElem? (i := 96) rfl)) rfl, xm_tb_in (in_t3 _ (List.mem_of_getElem? (i := 97) rfl)) rfl⟩
theorem ok_Fg_xOf : xm_ok mt_Fg_xOf 2 := ⟨xm_tb_in (in_t3 _ (List.mem_of_getElem? (i := 94) rfl)) rfl, xm_tb_in (in_t1 _ (List.mem_of_getElem? (i := 3) rfl)) rfl, ⟨by decide, by decide⟩, by decide +kernel, by decide⟩
theorem vm_Fg_xOf : xm_Vm mt_Fg_xOf 2 1 := ⟨ok_Fg_xOf, by decide, _, rfl, xm_tb_in (in_t3 _ (List.mem_of_getElem? (i := 92) rfl)) rfl, xm_tb_in (in_t3 _ (List.mem_of_getElem? (i := 93) rfl)) rfl⟩
theorem ok_Fg_yOf : xm_ok mt_Fg_yOf 2 := ⟨xm_tb_in (in_t3 _ (List.mem_of_getElem? (i := 103) rfl)) rfl, xm_tb_in (in_t1 _ (List.mem_of_getElem? (i := 3) rfl)) rfl, ⟨by decide, by decide⟩, by decide +kernel, by decide⟩
theorem vm_Fg_yOf : xm_Vm mt_Fg_yOf 2 1 := ⟨ok_Fg_yOf, by decide, _, rfl, xm_tb_in (in_t3 _ (List.mem_of_getElem? (i := 101) rfl)) rfl, xm_tb_in (in_t3 _ (List.mem_of_getElem? (i := 102) rfl)) rfl⟩
theorem ok_Fg_isHidden : xm_ok mt_Fg_isHidden 1 := ⟨xm_tb_in (in_t3 _ (List.mem_of_getElem? (i := 70) rfl)) rfl, xm_tb_in (in_t1 _ (List.mem_of_getElem? (i := 3) rfl)) rfl, ⟨by decide, by decide⟩, by decide +kernel, by decide⟩
theorem vm_Fg_isHidden : xm_Vm mt_Fg_isHidden 1 1 := ⟨ok_Fg_isHidden, by decide, _, rfl, xm_tb_in (in_t3 _ (List.mem_of_getElem? (i := 68) rfl)) rfl, xm_tb_in (in_t3 _ (List.mem_of_getElem? (i := 69) rfl)) rfl⟩
theorem ok_Fg_setHidden : xm_ok mt_Fg_setHidden 2 := ⟨xm_tb_in (in_t3 _ (List.mem_of_getElem? (i := 74) rfl)) rfl, xm_tb_in (in_t1 _ (List.mem_of_getElem? (i := 3) rfl)) rfl, ⟨by decide, by decide⟩, by decide +kernel, by decide⟩
theorem vm_Fg_setHidden : xm_Vm mt_Fg_setHidden 2 1 := ⟨ok_Fg_setHidden, by decide, _, rfl, xm_tb_in (in_t3 _ (List.mem_of_getElem? (i := 72) rfl)) rfl, xm_tb_in (in_t3 _ (List.mem_of_getElem? (i := 73) rfl)) rfl⟩
theorem ok_Fg_hasFallen : xm_ok mt_Fg_hasFallen 1 := ⟨xm_tb_in (in_t3 _ (List.mem_of_getElem? (i := 82) rfl)) rfl, xm_tb_in (in_t1 _ (List.mem_of_getElem? (i := 3) rfl)) rfl, ⟨by decide, by decide⟩, by decide +kernel, by decide⟩
theorem vm_Fg_hasFallen : xm_Vm mt_Fg_hasFallen 1 1 := ⟨ok_Fg_hasFallen, by decide, _, rfl, xm_tb_in (in_t3 _ (List.mem_of_getElem? (i := 80) rfl)) rfl, xm_tb_in (in_t3 _ (List.mem_of_getElem? (i := 81) rfl)) rfl⟩
theorem ok_Fg_isDrawn : xm_ok mt_Fg_isDrawn 1 := ⟨xm_tb_in (in_t4 _ (List.mem_of_getElem? (i := 205) rfl)) rfl, xm_tb_in (in_t1 _ (List.mem_of_getElem? (i := 3) rfl)) rfl, ⟨by decide, by decide⟩, by decide +kernel, by decide⟩
theorem vm_Fg_isDrawn : xm_Vm mt_Fg_isDrawn 1 1 := ⟨ok_Fg_isDrawn, by decide, _, rfl, xm_tb_in (in_t4 _ (List.mem_of_getElem? (i := 203) rfl)) rfl, xm_tb_in (in_t4 _ (List.mem_of_getElem? (i := 204) rfl)) rfl⟩
theorem ok_Fg_isAtOnePlace : xm_ok mt_Fg_isAtOnePlace 3 := ⟨xm_tb_in (in_t3 _ (List.mem_of_getElem? (i := 90) rfl)) rfl, xm_tb_in (in_t1 _ (List.mem_of_getElem? (i := 3) rfl)) rfl, ⟨by decide, by decide⟩, by decide +kernel, by decide⟩
theorem vm_Fg_isAtOnePlace : xm_Vm mt_Fg_isAtOnePlace 3 1 := ⟨ok_Fg_isAtOnePlace, by decide, _, rfl, xm_tb_in (in_t3 _ (List.mem_of_getElem? (i := 88) rfl)) rfl, xm_tb_in (in_t3 _ (List.mem_of_getElem? (i := 89) rfl)) rfl⟩
theorem ok_Fg_turnOf : xm_ok mt_Fg_turnOf 1 := ⟨xm_tb_in (in_t3 _ (List.mem_of_getElem? (i := 108) rfl)) rfl, xm_tb_in (in_t1 _ (List.mem_of_getElem? (i := 3) rfl)) rfl, ⟨by decide, by decide⟩, by decide +kernel, by decide⟩
theorem vm_Fg_turnOf : xm_Vm mt_Fg_turnOf 1 1 := ⟨ok_Fg_turnOf, by decide, _, rfl, xm_tb_in (in_t3 _ (List.mem_of_getElem? (i := 106) rfl)) rfl, xm_tb_in (in_t3 _ (List.mem_of_getElem? (i := 107) rfl)) rfl⟩
theorem ok_Fg_squareOfSpan : xm_ok mt_Fg_squareOfSpan 1 := ⟨xm_tb_in (in_t5 _ (List.mem_of_getElem? (i := 78) rfl)) rfl, xm_tb_in (in_t1 _ (List.mem_of_getElem? (i := 3) rfl)) rfl, ⟨by decide, by decide⟩, by decide +kernel, by decide⟩
theorem vm_Fg_squareOfSpan : xm_Vm mt_Fg_squareOfSpan 1 1 := ⟨ok_Fg_squareOfSpan, by decide, _, rfl, xm_tb_in (in_t5 _ (List.mem_of_getElem? (i := 76) rfl)) rfl, xm_tb_in (in_t5 _ (List.mem_of_getElem? (i := 77) rfl)) rfl⟩
theorem ok_Fr_init : xm_ok mt_Fr_init 0 := ⟨xm_tb_in (in_t1 _ (List.mem_of_getElem? (i := 98) rfl)) rfl, xm_tb_in (in_t1 _ (List.mem_of_getElem? (i := 4) rfl)) rfl, ⟨by decide, by decide⟩, by decide +kernel, by decide⟩
theorem im_Fr_init : Cond.instanceMethod mt_Fr_init.1 ∈ xm_tb := xm_tb_in (in_t1 _ (List.mem_of_getElem? (i := 97) rfl)) rfl
theorem ok_Fr_setWindow : xm_ok mt_Fr_setWindow 4 := ⟨xm_tb_in (in_t3 _ (List.mem_of_getElem? (i := 124) rfl)) rfl, xm_tb_in (in_t1 _ (List.mem_of_getElem? (i := 4) rfl)) rfl, ⟨by decide, by decide⟩, by decide +kernel, by decide⟩
theorem vm_Fr_setWindow : xm_Vm mt_Fr_setWindow 4 2 := ⟨ok_Fr_setWindow, by decide, _, rfl, xm_tb_in (in_t3 _ (List.mem_of_getElem? (i := 122) rfl)) rfl, xm_tb_in (in_t3 _ (List.mem_of_getElem? (i := 123) rfl)) rfl⟩
theorem ok_Fr_setSheet : xm_ok mt_Fr_setSheet 3 := ⟨xm_tb_in (in_t3 _ (List.mem_of_getElem? (i := 160) rfl)) rfl, xm_tb_in (in_t1 _ (List.mem_of_getElem? (i := 4) rfl)) rfl, ⟨by decide, by decide⟩, by decide +kernel, by decide⟩
theorem vm_Fr_setSheet : xm_Vm mt_Fr_setSheet 3 2 := ⟨ok_Fr_setSheet, by decide, _, rfl, xm_tb_in (in_t3 _ (List.mem_of_getElem? (i := 158) rfl)) rfl, xm_tb_in (in_t3 _ (List.mem_of_getElem? (i := 159) rfl)) rfl⟩
theorem ok_Fr_rescale : xm_ok mt_Fr_rescale 0 := ⟨xm_tb_in (in_t3 _ (List.mem_of_getElem? (i := 128) rfl)) rfl, xm_tb_in (in_t1 _ (List.mem_of_getElem? (i := 4) rfl)) rfl, ⟨by decide, by decide⟩, by decide +kernel, by decide⟩
theorem vm_Fr_rescale : xm_Vm mt_Fr_rescale 0 2 := ⟨ok_Fr_rescale, by decide, _, rfl, xm_tb_in (in_t3 _ (List.mem_of_getElem? (i := 127) rfl)) rfl, xm_tb_in (in_p1 (⟨"DrawLabels$Frame", "rescale", "()V"⟩, _) (List.mem_of_getElem? (i := 0) rfl)) rfl⟩
theorem ok_Fr_hasScale : xm_ok mt_Fr_hasScale 0 := ⟨xm_tb_in (in_t3 _ (List.mem_of_getElem? (i := 176) rfl)) rfl, xm_tb_in (in_t1 _ (List.mem_of_getElem? (i := 4) rfl)) rfl, ⟨by decide, by decide⟩, by decide +kernel, by decide⟩
theorem vm_Fr_hasScale : xm_Vm mt_Fr_hasScale 0 2 := ⟨ok_Fr_hasScale, by decide, _, rfl, xm_tb_in (in_t3 _ (List.mem_of_getElem? (i := 174) rfl)) rfl, xm_tb_in (in_t3 _ (List.mem_of_getElem? (i := 175) rfl)) rfl⟩
theorem ok_Fr_aboveX : xm_ok mt_Fr_aboveX 2 := ⟨xm_tb_in (in_t3 _ (List.mem_of_getElem? (i := 196) rfl)) rfl, xm_tb_in (in_t1 _ (List.mem_of_getElem? (i := 4) rfl)) rfl, ⟨by decide, by decide⟩, by decide +kernel, by decide⟩
theorem vm_Fr_aboveX : xm_Vm mt_Fr_aboveX 2 2 := ⟨ok_Fr_aboveX, by decide, _, rfl, xm_tb_in (in_t3 _ (List.mem_of_getElem? (i := 194) rfl)) rfl, xm_tb_in (in_t3 _ (List.mem_of_getElem? (i := 195) rfl)) rfl⟩
theorem ok_Fr_aboveY : xm_ok mt_Fr_aboveY 2 := ⟨xm_tb_in (in_t3 _ (List.mem_of_getElem? (i := 201) rfl)) rfl, xm_tb_in (in_t1 _ (List.mem_of_getElem? (i := 4) rfl)) rfl, ⟨by decide, by decide⟩, by decide +kernel, by decide⟩
theorem vm_Fr_aboveY : xm_Vm mt_Fr_aboveY 2 2 := ⟨ok_Fr_aboveY, by decide, _, rfl, xm_tb_in (in_t3 _ (List.mem_of_getElem? (i := 199) rfl)) rfl, xm_tb_in (in_t3 _ (List.mem_of_getElem? (i := 200) rfl)) rfl⟩
theorem ok_Fr_below : xm_ok mt_Fr_below 1 := ⟨xm_tb_in (in_t3 _ (List.mem_of_getElem? (i := 205) rfl)) rfl, xm_tb_in (in_t1 _ (List.mem_of_getElem? (i := 4) rfl)) rfl, ⟨by decide, by decide⟩, by decide +kernel, by decide⟩
theorem vm_Fr_below : xm_Vm mt_Fr_below 1 2 := ⟨ok_Fr_below, by decide, _, rfl, xm_tb_in (in_t3 _ (List.mem_of_getElem? (i := 203) rfl)) rfl, xm_tb_in (in_t3 _ (List.mem_of_getElem? (i := 204) rfl)) rfl⟩
theorem ok_Fr_sheetX : xm_ok mt_Fr_sheetX 2 := ⟨xm_tb_in (in_t4 _ (List.mem_of_getElem? (i := 181) rfl)) rfl, xm_tb_in (in_t1 _ (List.mem_of_getElem? (i := 4) rfl)) rfl, ⟨by decide, by decide⟩, by decide +kernel, by decide⟩
theorem vm_Fr_sheetX : xm_Vm mt_Fr_sheetX 2 2 := ⟨ok_Fr_sheetX, by decide, _, rfl, xm_tb_in (in_t4 _ (List.mem_of_getElem? (i := 179) rfl)) rfl, xm_tb_in (in_t4 _ (List.mem_of_getElem? (i := 180) rfl)) rfl⟩
theorem ok_Fr_sheetY : xm_ok mt_Fr_sheetY 2 := ⟨xm_tb_in (in_t4 _ (List.mem_of_getElem? (i := 194) rfl)) rfl, xm_tb_in (in_t1 _ (List.mem_of_getElem? (i := 4) rfl)) rfl, ⟨by decide, by decide⟩, by decide +kernel, by decide⟩
theorem vm_Fr_sheetY : xm_Vm mt_Fr_sheetY 2 2 := ⟨ok_Fr_sheetY, by decide, _, rfl, xm_tb_in (in_t4 _ (List.mem_of_getElem? (i := 192) rfl)) rfl, xm_tb_in (in_t4 _ (List.mem_of_getElem? (i := 193) rfl)) rfl⟩
theorem ok_Fr_sheetLength : xm_ok mt_Fr_sheetLength 1 := ⟨xm_tb_in (in_t5 _ (List.mem_of_getElem? (i := 90) rfl)) rfl, xm_tb_in (in_t1 _ (List.mem_of_getElem? (i := 4) rfl)) rfl, ⟨by decide, by decide⟩, by decide +kernel, by decide⟩
theorem vm_Fr_sheetLength : xm_Vm mt_Fr_sheetLength 1 2 := ⟨ok_Fr_sheetLength, by decide, _, rfl, xm_tb_in (in_t5 _ (List.mem_of_getElem? (i := 88) rfl)) rfl, xm_tb_in (in_t5 _ (List.mem_of_getElem? (i := 89) rfl)) rfl⟩
theorem ok_Fr_holds : xm_ok mt_Fr_holds 3 := ⟨xm_tb_in (in_t5 _ (List.mem_of_getElem? (i := 25) rfl)) rfl, xm_tb_in (in_t1 _ (List.mem_of_getElem? (i := 4) rfl)) rfl, ⟨by decide, by decide⟩, by decide +kernel, by decide⟩
theorem vm_Fr_holds : xm_Vm mt_Fr_holds 3 2 := ⟨ok_Fr_holds, by decide, _, rfl, xm_tb_in (in_t5 _ (List.mem_of_getElem? (i := 23) rfl)) rfl, xm_tb_in (in_t5 _ (List.mem_of_getElem? (i := 24) rfl)) rfl⟩
theorem ok_Fr_meetsCircle : xm_ok mt_Fr_meetsCircle 3 := ⟨xm_tb_in (in_t5 _ (List.mem_of_getElem? (i := 82) rfl)) rfl, xm_tb_in (in_t1 _ (List.mem_of_getElem? (i := 4) rfl)) rfl, ⟨by decide, by decide⟩, by decide +kernel, by decide⟩
theorem vm_Fr_meetsCircle : xm_Vm mt_Fr_meetsCircle 3 2 := ⟨ok_Fr_meetsCircle, by decide, _, rfl, xm_tb_in (in_t5 _ (List.mem_of_getElem? (i := 80) rfl)) rfl, xm_tb_in (in_t5 _ (List.mem_of_getElem? (i := 81) rfl)) rfl⟩
theorem ok_Fr_holdsCircle : xm_ok mt_Fr_holdsCircle 3 := ⟨xm_tb_in (in_t5 _ (List.mem_of_getElem? (i := 98) rfl)) rfl, xm_tb_in (in_t1 _ (List.mem_of_getElem? (i := 4) rfl)) rfl, ⟨by decide, by decide⟩, by decide +kernel, by decide⟩
theorem vm_Fr_holdsCircle : xm_Vm mt_Fr_holdsCircle 3 2 := ⟨ok_Fr_holdsCircle, by decide, _, rfl, xm_tb_in (in_t5 _ (List.mem_of_getElem? (i := 96) rfl)) rfl, xm_tb_in (in_t5 _ (List.mem_of_getElem? (i := 97) rfl)) rfl⟩
theorem ok_Gr_init : xm_ok mt_Gr_init 0 := ⟨xm_tb_in (in_t2 _ (List.mem_of_getElem? (i := 11) rfl)) rfl, xm_tb_in (in_t1 _ (List.mem_of_getElem? (i := 8) rfl)) rfl, ⟨by decide, by decide⟩, by decide +kernel, by decide⟩
theorem im_Gr_init : Cond.instanceMethod mt_Gr_init.1 ∈ xm_tb := xm_tb_in (in_t2 _ (List.mem_of_getElem? (i := 10) rfl)) rfl
theorem ok_Gr_isNumber : xm_ok mt_Gr_isNumber 1 := ⟨xm_tb_in (in_t6 _ (List.mem_of_getElem? (i := 92) rfl)) rfl, xm_tb_in (in_t1 _ (List.mem_of_getElem? (i := 8) rfl)) rfl, ⟨by decide, by decide⟩, by decide +kernel, by decide⟩
theorem sm_Gr_isNumber : xm_Sm mt_Gr_isNumber 1 := ⟨ok_Gr_isNumber, xm_tb_in (in_t6 _ (List.mem_of_getElem? (i := 91) rfl)) rfl⟩
theorem ok_Gr_isMade : xm_ok mt_Gr_isMade 1 := ⟨xm_tb_in (in_t6 _ (List.mem_of_getElem? (i := 105) rfl)) rfl, xm_tb_in (in_t1 _ (List.mem_of_getElem? (i := 8) rfl)) rfl, ⟨by decide, by decide⟩, by decide +kernel, by decide⟩
theorem vm_Gr_isMade : xm_Vm mt_Gr_isMade 1 3 := ⟨ok_Gr_isMade, by decide, _, rfl, xm_tb_in (in_t6 _ (List.mem_of_getElem? (i := 103) rfl)) rfl, xm_tb_in (in_t6 _ (List.mem_of_getElem? (i := 104) rfl)) rfl⟩
theorem ok_Gr_placesOf : xm_ok mt_Gr_placesOf 1 := ⟨xm_tb_in (in_t6 _ (List.mem_of_getElem? (i := 113) rfl)) rfl, xm_tb_in (in_t1 _ (List.mem_of_getElem? (i := 8) rfl)) rfl, ⟨by decide, by decide⟩, by decide +kernel, by decide⟩
theorem vm_Gr_placesOf : xm_Vm mt_Gr_placesOf 1 3 := ⟨ok_Gr_placesOf, by decide, _, rfl, xm_tb_in (in_t6 _ (List.mem_of_getElem? (i := 111) rfl)) rfl, xm_tb_in (in_t6 _ (List.mem_of_getElem? (i := 112) rfl)) rfl⟩
theorem ok_Gr_hasPlace : xm_ok mt_Gr_hasPlace 2 := ⟨xm_tb_in (in_t6 _ (List.mem_of_getElem? (i := 109) rfl)) rfl, xm_tb_in (in_t1 _ (List.mem_of_getElem? (i := 8) rfl)) rfl, ⟨by decide, by decide⟩, by decide +kernel, by decide⟩
theorem vm_Gr_hasPlace : xm_Vm mt_Gr_hasPlace 2 3 := ⟨ok_Gr_hasPlace, by decide, _, rfl, xm_tb_in (in_t6 _ (List.mem_of_getElem? (i := 107) rfl)) rfl, xm_tb_in (in_t6 _ (List.mem_of_getElem? (i := 108) rfl)) rfl⟩
theorem ok_Gr_takes : xm_ok mt_Gr_takes 2 := ⟨xm_tb_in (in_t6 _ (List.mem_of_getElem? (i := 118) rfl)) rfl, xm_tb_in (in_t1 _ (List.mem_of_getElem? (i := 8) rfl)) rfl, ⟨by decide, by decide⟩, by decide +kernel, by decide⟩
theorem vm_Gr_takes : xm_Vm mt_Gr_takes 2 3 := ⟨ok_Gr_takes, by decide, _, rfl, xm_tb_in (in_t6 _ (List.mem_of_getElem? (i := 116) rfl)) rfl, xm_tb_in (in_t6 _ (List.mem_of_getElem? (i := 117) rfl)) rfl⟩
theorem ok_Gr_make : xm_ok mt_Gr_make 3 := ⟨xm_tb_in (in_t6 _ (List.mem_of_getElem? (i := 96) rfl)) rfl, xm_tb_in (in_t1 _ (List.mem_of_getElem? (i := 8) rfl)) rfl, ⟨by decide, by decide⟩, by decide +kernel, by decide⟩
theorem vm_Gr_make : xm_Vm mt_Gr_make 3 3 := ⟨ok_Gr_make, by decide, _, rfl, xm_tb_in (in_t6 _ (List.mem_of_getElem? (i := 94) rfl)) rfl, xm_tb_in (in_t6 _ (List.mem_of_getElem? (i := 95) rfl)) rfl⟩
theorem ok_Gr_memberAt : xm_ok mt_Gr_memberAt 2 := ⟨xm_tb_in (in_t6 _ (List.mem_of_getElem? (i := 131) rfl)) rfl, xm_tb_in (in_t1 _ (List.mem_of_getElem? (i := 8) rfl)) rfl, ⟨by decide, by decide⟩, by decide +kernel, by decide⟩
theorem vm_Gr_memberAt : xm_Vm mt_Gr_memberAt 2 3 := ⟨ok_Gr_memberAt, by decide, _, rfl, xm_tb_in (in_t6 _ (List.mem_of_getElem? (i := 129) rfl)) rfl, xm_tb_in (in_t6 _ (List.mem_of_getElem? (i := 130) rfl)) rfl⟩
theorem ok_Gr_setMember : xm_ok mt_Gr_setMember 3 := ⟨xm_tb_in (in_t6 _ (List.mem_of_getElem? (i := 122) rfl)) rfl, xm_tb_in (in_t1 _ (List.mem_of_getElem? (i := 8) rfl)) rfl, ⟨by decide, by decide⟩, by decide +kernel, by decide⟩
theorem vm_Gr_setMember : xm_Vm mt_Gr_setMember 3 3 := ⟨ok_Gr_setMember, by decide, _, rfl, xm_tb_in (in_t6 _ (List.mem_of_getElem? (i := 120) rfl)) rfl, xm_tb_in (in_t6 _ (List.mem_of_getElem? (i := 121) rfl)) rfl⟩
theorem ok_Lb_init : xm_ok mt_Lb_init 0 := ⟨xm_tb_in (in_t1 _ (List.mem_of_getElem? (i := 214) rfl)) rfl, xm_tb_in (in_t1 _ (List.mem_of_getElem? (i := 7) rfl)) rfl, ⟨by decide, by decide⟩, by decide +kernel, by decide⟩
theorem im_Lb_init : Cond.instanceMethod mt_Lb_init.1 ∈ xm_tb := xm_tb_in (in_t1 _ (List.mem_of_getElem? (i := 213) rfl)) rfl
theorem ok_Lb_has : xm_ok mt_Lb_has 1 := ⟨xm_tb_in (in_t5 _ (List.mem_of_getElem? (i := 166) rfl)) rfl, xm_tb_in (in_t1 _ (List.mem_of_getElem? (i := 7) rfl)) rfl, ⟨by decide, by decide⟩, by decide +kernel, by decide⟩
theorem vm_Lb_has : xm_Vm mt_Lb_has 1 4 := ⟨ok_Lb_has, by decide, _, rfl, xm_tb_in (in_t5 _ (List.mem_of_getElem? (i := 164) rfl)) rfl, xm_tb_in (in_t5 _ (List.mem_of_getElem? (i := 165) rfl)) rfl⟩
theorem ok_Lb_isFull : xm_ok mt_Lb_isFull 0 := ⟨xm_tb_in (in_t4 _ (List.mem_of_getElem? (i := 124) rfl)) rfl, xm_tb_in (in_t1 _ (List.mem_of_getElem? (i := 7) rfl)) rfl, ⟨by decide, by decide⟩, by decide +kernel, by decide⟩
theorem vm_Lb_isFull : xm_Vm mt_Lb_isFull 0 4 := ⟨ok_Lb_isFull, by decide, _, rfl, xm_tb_in (in_t4 _ (List.mem_of_getElem? (i := 122) rfl)) rfl, xm_tb_in (in_t4 _ (List.mem_of_getElem? (i := 123) rfl)) rfl⟩
theorem ok_Lb_add : xm_ok mt_Lb_add 2 := ⟨xm_tb_in (in_t4 _ (List.mem_of_getElem? (i := 128) rfl)) rfl, xm_tb_in (in_t1 _ (List.mem_of_getElem? (i := 7) rfl)) rfl, ⟨by decide, by decide⟩, by decide +kernel, by decide⟩
theorem vm_Lb_add : xm_Vm mt_Lb_add 2 4 := ⟨ok_Lb_add, by decide, _, rfl, xm_tb_in (in_t4 _ (List.mem_of_getElem? (i := 126) rfl)) rfl, xm_tb_in (in_t4 _ (List.mem_of_getElem? (i := 127) rfl)) rfl⟩
theorem ok_Lb_objectOf : xm_ok mt_Lb_objectOf 1 := ⟨xm_tb_in (in_t5 _ (List.mem_of_getElem? (i := 162) rfl)) rfl, xm_tb_in (in_t1 _ (List.mem_of_getElem? (i := 7) rfl)) rfl, ⟨by decide, by decide⟩, by decide +kernel, by decide⟩
theorem vm_Lb_objectOf : xm_Vm mt_Lb_objectOf 1 4 := ⟨ok_Lb_objectOf, by decide, _, rfl, xm_tb_in (in_t5 _ (List.mem_of_getElem? (i := 160) rfl)) rfl, xm_tb_in (in_t5 _ (List.mem_of_getElem? (i := 161) rfl)) rfl⟩
theorem ok_Lb_lettersOf : xm_ok mt_Lb_lettersOf 1 := ⟨xm_tb_in (in_t5 _ (List.mem_of_getElem? (i := 174) rfl)) rfl, xm_tb_in (in_t1 _ (List.mem_of_getElem? (i := 7) rfl)) rfl, ⟨by decide, by decide⟩, by decide +kernel, by decide⟩
theorem vm_Lb_lettersOf : xm_Vm mt_Lb_lettersOf 1 4 := ⟨ok_Lb_lettersOf, by decide, _, rfl, xm_tb_in (in_t5 _ (List.mem_of_getElem? (i := 172) rfl)) rfl, xm_tb_in (in_t5 _ (List.mem_of_getElem? (i := 173) rfl)) rfl⟩
theorem ok_Lb_drawnPlaceOf : xm_ok mt_Lb_drawnPlaceOf 1 := ⟨xm_tb_in (in_t6 _ (List.mem_of_getElem? (i := 60) rfl)) rfl, xm_tb_in (in_t1 _ (List.mem_of_getElem? (i := 7) rfl)) rfl, ⟨by decide, by decide⟩, by decide +kernel, by decide⟩
theorem vm_Lb_drawnPlaceOf : xm_Vm mt_Lb_drawnPlaceOf 1 4 := ⟨ok_Lb_drawnPlaceOf, by decide, _, rfl, xm_tb_in (in_t6 _ (List.mem_of_getElem? (i := 58) rfl)) rfl, xm_tb_in (in_t6 _ (List.mem_of_getElem? (i := 59) rfl)) rfl⟩
theorem ok_Lb_beginDrawing : xm_ok mt_Lb_beginDrawing 0 := ⟨xm_tb_in (in_t5 _ (List.mem_of_getElem? (i := 154) rfl)) rfl, xm_tb_in (in_t1 _ (List.mem_of_getElem? (i := 7) rfl)) rfl, ⟨by decide, by decide⟩, by decide +kernel, by decide⟩
theorem vm_Lb_beginDrawing : xm_Vm mt_Lb_beginDrawing 0 4 := ⟨ok_Lb_beginDrawing, by decide, _, rfl, xm_tb_in (in_t5 _ (List.mem_of_getElem? (i := 152) rfl)) rfl, xm_tb_in (in_t5 _ (List.mem_of_getElem? (i := 153) rfl)) rfl⟩
theorem ok_Lb_place : xm_ok mt_Lb_place 3 := ⟨xm_tb_in (in_t6 _ (List.mem_of_getElem? (i := 22) rfl)) rfl, xm_tb_in (in_t1 _ (List.mem_of_getElem? (i := 7) rfl)) rfl, ⟨by decide, by decide⟩, by decide +kernel, by decide⟩
theorem vm_Lb_place : xm_Vm mt_Lb_place 3 4 := ⟨ok_Lb_place, by decide, _, rfl, xm_tb_in (in_t6 _ (List.mem_of_getElem? (i := 20) rfl)) rfl, xm_tb_in (in_t6 _ (List.mem_of_getElem? (i := 21) rfl)) rfl⟩
theorem ok_Mk_init : xm_ok mt_Mk_init 0 := ⟨xm_tb_in (in_t1 _ (List.mem_of_getElem? (i := 181) rfl)) rfl, xm_tb_in (in_t1 _ (List.mem_of_getElem? (i := 6) rfl)) rfl, ⟨by decide, by decide⟩, by decide +kernel, by decide⟩
theorem im_Mk_init : Cond.instanceMethod mt_Mk_init.1 ∈ xm_tb := xm_tb_in (in_t1 _ (List.mem_of_getElem? (i := 180) rfl)) rfl
theorem ok_Mk_clear : xm_ok mt_Mk_clear 0 := ⟨xm_tb_in (in_t4 _ (List.mem_of_getElem? (i := 142) rfl)) rfl, xm_tb_in (in_t1 _ (List.mem_of_getElem? (i := 6) rfl)) rfl, ⟨by decide, by decide⟩, by decide +kernel, by decide⟩
theorem vm_Mk_clear : xm_Vm mt_Mk_clear 0 5 := ⟨ok_Mk_clear, by decide, _, rfl, xm_tb_in (in_t4 _ (List.mem_of_getElem? (i := 140) rfl)) rfl, xm_tb_in (in_t4 _ (List.mem_of_getElem? (i := 141) rfl)) rfl⟩
theorem ok_Mk_has : xm_ok mt_Mk_has 1 := ⟨xm_tb_in (in_t5 _ (List.mem_of_getElem? (i := 204) rfl)) rfl, xm_tb_in (in_t1 _ (List.mem_of_getElem? (i := 6) rfl)) rfl, ⟨by decide, by decide⟩, by decide +kernel, by decide⟩
theorem vm_Mk_has : xm_Vm mt_Mk_has 1 5 := ⟨ok_Mk_has, by decide, _, rfl, xm_tb_in (in_t5 _ (List.mem_of_getElem? (i := 202) rfl)) rfl, xm_tb_in (in_t5 _ (List.mem_of_getElem? (i := 203) rfl)) rfl⟩
theorem ok_Mk_isFull : xm_ok mt_Mk_isFull 0 := ⟨xm_tb_in (in_t4 _ (List.mem_of_getElem? (i := 150) rfl)) rfl, xm_tb_in (in_t1 _ (List.mem_of_getElem? (i := 6) rfl)) rfl, ⟨by decide, by decide⟩, by decide +kernel, by decide⟩
theorem vm_Mk_isFull : xm_Vm mt_Mk_isFull 0 5 := ⟨ok_Mk_isFull, by decide, _, rfl, xm_tb_in (in_t4 _ (List.mem_of_getElem? (i := 148) rfl)) rfl, xm_tb_in (in_t4 _ (List.mem_of_getElem? (i := 149) rfl)) rfl⟩
theorem ok_Mk_lose : xm_ok mt_Mk_lose 1 := ⟨xm_tb_in (in_t4 _ (List.mem_of_getElem? (i := 154) rfl)) rfl, xm_tb_in (in_t1 _ (List.mem_of_getElem? (i := 6) rfl)) rfl, ⟨by decide, by decide⟩, by decide +kernel, by decide⟩
theorem vm_Mk_lose : xm_Vm mt_Mk_lose 1 5 := ⟨ok_Mk_lose, by decide, _, rfl, xm_tb_in (in_t4 _ (List.mem_of_getElem? (i := 152) rfl)) rfl, xm_tb_in (in_t4 _ (List.mem_of_getElem? (i := 153) rfl)) rfl⟩
theorem ok_Mk_add : xm_ok mt_Mk_add 6 := ⟨xm_tb_in (in_t4 _ (List.mem_of_getElem? (i := 146) rfl)) rfl, xm_tb_in (in_t1 _ (List.mem_of_getElem? (i := 6) rfl)) rfl, ⟨by decide, by decide⟩, by decide +kernel, by decide⟩
theorem vm_Mk_add : xm_Vm mt_Mk_add 6 5 := ⟨ok_Mk_add, by decide, _, rfl, xm_tb_in (in_t4 _ (List.mem_of_getElem? (i := 144) rfl)) rfl, xm_tb_in (in_t4 _ (List.mem_of_getElem? (i := 145) rfl)) rfl⟩
theorem ok_Mk_valueAt : xm_ok mt_Mk_valueAt 2 := ⟨xm_tb_in (in_t5 _ (List.mem_of_getElem? (i := 200) rfl)) rfl, xm_tb_in (in_t1 _ (List.mem_of_getElem? (i := 6) rfl)) rfl, ⟨by decide, by decide⟩, by decide +kernel, by decide⟩
theorem vm_Mk_valueAt : xm_Vm mt_Mk_valueAt 2 5 := ⟨ok_Mk_valueAt, by decide, _, rfl, xm_tb_in (in_t5 _ (List.mem_of_getElem? (i := 198) rfl)) rfl, xm_tb_in (in_t5 _ (List.mem_of_getElem? (i := 199) rfl)) rfl⟩
theorem ok_Mk_numbersOf : xm_ok mt_Mk_numbersOf 1 := ⟨xm_tb_in (in_t6 _ (List.mem_of_getElem? (i := 35) rfl)) rfl, xm_tb_in (in_t1 _ (List.mem_of_getElem? (i := 6) rfl)) rfl, ⟨by decide, by decide⟩, by decide +kernel, by decide⟩
theorem sm_Mk_numbersOf : xm_Sm mt_Mk_numbersOf 1 := ⟨ok_Mk_numbersOf, xm_tb_in (in_t6 _ (List.mem_of_getElem? (i := 34) rfl)) rfl⟩
theorem ok_Mk_seal : xm_ok mt_Mk_seal 0 := ⟨xm_tb_in (in_t6 _ (List.mem_of_getElem? (i := 27) rfl)) rfl, xm_tb_in (in_t1 _ (List.mem_of_getElem? (i := 6) rfl)) rfl, ⟨by decide, by decide⟩, by decide +kernel, by decide⟩
theorem vm_Mk_seal : xm_Vm mt_Mk_seal 0 5 := ⟨ok_Mk_seal, by decide, _, rfl, xm_tb_in (in_t6 _ (List.mem_of_getElem? (i := 25) rfl)) rfl, xm_tb_in (in_t6 _ (List.mem_of_getElem? (i := 26) rfl)) rfl⟩
theorem ok_Mk_octetCount : xm_ok mt_Mk_octetCount 0 := ⟨xm_tb_in (in_t6 _ (List.mem_of_getElem? (i := 72) rfl)) rfl, xm_tb_in (in_t1 _ (List.mem_of_getElem? (i := 6) rfl)) rfl, ⟨by decide, by decide⟩, by decide +kernel, by decide⟩
theorem vm_Mk_octetCount : xm_Vm mt_Mk_octetCount 0 5 := ⟨ok_Mk_octetCount, by decide, _, rfl, xm_tb_in (in_t6 _ (List.mem_of_getElem? (i := 70) rfl)) rfl, xm_tb_in (in_t6 _ (List.mem_of_getElem? (i := 71) rfl)) rfl⟩
theorem ok_Mk_octetAt : xm_ok mt_Mk_octetAt 1 := ⟨xm_tb_in (in_t6 _ (List.mem_of_getElem? (i := 68) rfl)) rfl, xm_tb_in (in_t1 _ (List.mem_of_getElem? (i := 6) rfl)) rfl, ⟨by decide, by decide⟩, by decide +kernel, by decide⟩
theorem vm_Mk_octetAt : xm_Vm mt_Mk_octetAt 1 5 := ⟨ok_Mk_octetAt, by decide, _, rfl, xm_tb_in (in_t6 _ (List.mem_of_getElem? (i := 66) rfl)) rfl, xm_tb_in (in_t6 _ (List.mem_of_getElem? (i := 67) rfl)) rfl⟩
theorem ok_Mk_write : xm_ok mt_Mk_write 1 := ⟨xm_tb_in (in_t6 _ (List.mem_of_getElem? (i := 31) rfl)) rfl, xm_tb_in (in_t1 _ (List.mem_of_getElem? (i := 6) rfl)) rfl, ⟨by decide, by decide⟩, by decide +kernel, by decide⟩
theorem vm_Mk_write : xm_Vm mt_Mk_write 1 5 := ⟨ok_Mk_write, by decide, _, rfl, xm_tb_in (in_t6 _ (List.mem_of_getElem? (i := 30) rfl)) rfl, xm_tb_in (in_p3 (⟨"DrawLabels$Marks", "write", "(I)V"⟩, _) (List.mem_of_getElem? (i := 9) rfl)) rfl⟩
theorem ok_Mk_writeOctet : xm_ok mt_Mk_writeOctet 1 := ⟨xm_tb_in (in_t6 _ (List.mem_of_getElem? (i := 39) rfl)) rfl, xm_tb_in (in_t1 _ (List.mem_of_getElem? (i := 6) rfl)) rfl, ⟨by decide, by decide⟩, by decide +kernel, by decide⟩
theorem vm_Mk_writeOctet : xm_Vm mt_Mk_writeOctet 1 5 := ⟨ok_Mk_writeOctet, by decide, _, rfl, xm_tb_in (in_t6 _ (List.mem_of_getElem? (i := 38) rfl)) rfl, xm_tb_in (in_p3 (⟨"DrawLabels$Marks", "writeOctet", "(I)V"⟩, _) (List.mem_of_getElem? (i := 10) rfl)) rfl⟩
theorem ok_Mk_writeNumber : xm_ok mt_Mk_writeNumber 1 := ⟨xm_tb_in (in_t6 _ (List.mem_of_getElem? (i := 43) rfl)) rfl, xm_tb_in (in_t1 _ (List.mem_of_getElem? (i := 6) rfl)) rfl, ⟨by decide, by decide⟩, by decide +kernel, by decide⟩
theorem vm_Mk_writeNumber : xm_Vm mt_Mk_writeNumber 1 5 := ⟨ok_Mk_writeNumber, by decide, _, rfl, xm_tb_in (in_t6 _ (List.mem_of_getElem? (i := 42) rfl)) rfl, xm_tb_in (in_p3 (⟨"DrawLabels$Marks", "writeNumber", "(I)V"⟩, _) (List.mem_of_getElem? (i := 11) rfl)) rfl⟩
theorem ok_Pn_init : xm_ok mt_Pn_init 4 := ⟨xm_tb_in (in_t2 _ (List.mem_of_getElem? (i := 30) rfl)) rfl, xm_tb_in (in_t1 _ (List.mem_of_getElem? (i := 9) rfl)) rfl, ⟨by decide, by decide⟩, by decide +kernel, by decide⟩
theorem im_Pn_init : Cond.instanceMethod mt_Pn_init.1 ∈ xm_tb := xm_tb_in (in_t2 _ (List.mem_of_getElem? (i := 29) rfl)) rfl
theorem ok_Pn_begin : xm_ok mt_Pn_begin 0 := ⟨xm_tb_in (in_t4 _ (List.mem_of_getElem? (i := 138) rfl)) rfl, xm_tb_in (in_t1 _ (List.mem_of_getElem? (i := 9) rfl)) rfl, ⟨by decide, by decide⟩, by decide +kernel, by decide⟩
theorem vm_Pn_begin : xm_Vm mt_Pn_begin 0 6 := ⟨ok_Pn_begin, by decide, _, rfl, xm_tb_in (in_t4 _ (List.mem_of_getElem? (i := 136) rfl)) rfl, xm_tb_in (in_t4 _ (List.mem_of_getElem? (i := 137) rfl)) rfl⟩
theorem ok_Pn_anchor : xm_ok mt_Pn_anchor 3 := ⟨xm_tb_in (in_t4 _ (List.mem_of_getElem? (i := 229) rfl)) rfl, xm_tb_in (in_t1 _ (List.mem_of_getElem? (i := 9) rfl)) rfl, ⟨by decide, by decide⟩, by decide +kernel, by decide⟩
theorem vm_Pn_anchor : xm_Vm mt_Pn_anchor 3 6 := ⟨ok_Pn_anchor, by decide, _, rfl, xm_tb_in (in_t4 _ (List.mem_of_getElem? (i := 228) rfl)) rfl, xm_tb_in (in_p1 (⟨"DrawLabels$Painter", "anchor", "(III)V"⟩, _) (List.mem_of_getElem? (i := 9) rfl)) rfl⟩
theorem ok_Pn_hasDrawn : xm_ok mt_Pn_hasDrawn 1 := ⟨xm_tb_in (in_t5 _ (List.mem_of_getElem? (i := 170) rfl)) rfl, xm_tb_in (in_t1 _ (List.mem_of_getElem? (i := 9) rfl)) rfl, ⟨by decide, by decide⟩, by decide +kernel, by decide⟩
theorem vm_Pn_hasDrawn : xm_Vm mt_Pn_hasDrawn 1 6 := ⟨ok_Pn_hasDrawn, by decide, _, rfl, xm_tb_in (in_t5 _ (List.mem_of_getElem? (i := 168) rfl)) rfl, xm_tb_in (in_t5 _ (List.mem_of_getElem? (i := 169) rfl)) rfl⟩
theorem ok_Pn_anchorXOf : xm_ok mt_Pn_anchorXOf 1 := ⟨xm_tb_in (in_t5 _ (List.mem_of_getElem? (i := 182) rfl)) rfl, xm_tb_in (in_t1 _ (List.mem_of_getElem? (i := 9) rfl)) rfl, ⟨by decide, by decide⟩, by decide +kernel, by decide⟩
theorem vm_Pn_anchorXOf : xm_Vm mt_Pn_anchorXOf 1 6 := ⟨ok_Pn_anchorXOf, by decide, _, rfl, xm_tb_in (in_t5 _ (List.mem_of_getElem? (i := 180) rfl)) rfl, xm_tb_in (in_t5 _ (List.mem_of_getElem? (i := 181) rfl)) rfl⟩
theorem ok_Pn_anchorYOf : xm_ok mt_Pn_anchorYOf 1 := ⟨xm_tb_in (in_t5 _ (List.mem_of_getElem? (i := 187) rfl)) rfl, xm_tb_in (in_t1 _ (List.mem_of_getElem? (i := 9) rfl)) rfl, ⟨by decide, by decide⟩, by decide +kernel, by decide⟩
theorem vm_Pn_anchorYOf : xm_Vm mt_Pn_anchorYOf 1 6 := ⟨ok_Pn_anchorYOf, by decide, _, rfl, xm_tb_in (in_t5 _ (List.mem_of_getElem? (i := 185) rfl)) rfl, xm_tb_in (in_t5 _ (List.mem_of_getElem? (i := 186) rfl)) rfl⟩
theorem ok_Pn_paintGrid : xm_ok mt_Pn_paintGrid 0 := ⟨xm_tb_in (in_t4 _ (List.mem_of_getElem? (i := 158) rfl)) rfl, xm_tb_in (in_t1 _ (List.mem_of_getElem? (i := 9) rfl)) rfl, ⟨by decide, by decide⟩, by decide +kernel, by decide⟩
theorem vm_Pn_paintGrid : xm_Vm mt_Pn_paintGrid 0 6 := ⟨ok_Pn_paintGrid, by decide, _, rfl, xm_tb_in (in_t4 _ (List.mem_of_getElem? (i := 156) rfl)) rfl, xm_tb_in (in_t4 _ (List.mem_of_getElem? (i := 157) rfl)) rfl⟩
theorem ok_Pn_paintGridWay : xm_ok mt_Pn_paintGridWay 3 := ⟨xm_tb_in (in_t4 _ (List.mem_of_getElem? (i := 162) rfl)) rfl, xm_tb_in (in_t1 _ (List.mem_of_getElem? (i := 9) rfl)) rfl, ⟨by decide, by decide⟩, by decide +kernel, by decide⟩
theorem vm_Pn_paintGridWay : xm_Vm mt_Pn_paintGridWay 3 6 := ⟨ok_Pn_paintGridWay, by decide, _, rfl, xm_tb_in (in_t4 _ (List.mem_of_getElem? (i := 161) rfl)) rfl, xm_tb_in (in_p1 (⟨"DrawLabels$Painter", "paintGridWay", "(IIZ)V"⟩, _) (List.mem_of_getElem? (i := 4) rfl)) rfl⟩
theorem ok_Pn_paintGridStroke : xm_ok mt_Pn_paintGridStroke 2 := ⟨xm_tb_in (in_t4 _ (List.mem_of_getElem? (i := 177) rfl)) rfl, xm_tb_in (in_t1 _ (List.mem_of_getElem? (i := 9) rfl)) rfl, ⟨by decide, by decide⟩, by decide +kernel, by decide⟩
theorem vm_Pn_paintGridStroke : xm_Vm mt_Pn_paintGridStroke 2 6 := ⟨ok_Pn_paintGridStroke, by decide, _, rfl, xm_tb_in (in_t4 _ (List.mem_of_getElem? (i := 176) rfl)) rfl, xm_tb_in (in_p1 (⟨"DrawLabels$Painter", "paintGridStroke", "(IZ)V"⟩, _) (List.mem_of_getElem? (i := 5) rfl)) rfl⟩
theorem ok_Pn_paintAreas : xm_ok mt_Pn_paintAreas 0 := ⟨xm_tb_in (in_t4 _ (List.mem_of_getElem? (i := 200) rfl)) rfl, xm_tb_in (in_t1 _ (List.mem_of_getElem? (i := 9) rfl)) rfl, ⟨by decide, by decide⟩, by decide +kernel, by decide⟩
theorem vm_Pn_paintAreas : xm_Vm mt_Pn_paintAreas 0 6 := ⟨ok_Pn_paintAreas, by decide, _, rfl, xm_tb_in (in_t4 _ (List.mem_of_getElem? (i := 198) rfl)) rfl, xm_tb_in (in_t4 _ (List.mem_of_getElem? (i := 199) rfl)) rfl⟩
theorem ok_Pn_paintArea : xm_ok mt_Pn_paintArea 1 := ⟨xm_tb_in (in_t4 _ (List.mem_of_getElem? (i := 211) rfl)) rfl, xm_tb_in (in_t1 _ (List.mem_of_getElem? (i := 9) rfl)) rfl, ⟨by decide, by decide⟩, by decide +kernel, by decide⟩
theorem vm_Pn_paintArea : xm_Vm mt_Pn_paintArea 1 6 := ⟨ok_Pn_paintArea, by decide, _, rfl, xm_tb_in (in_t4 _ (List.mem_of_getElem? (i := 210) rfl)) rfl, xm_tb_in (in_p1 (⟨"DrawLabels$Painter", "paintArea", "(I)V"⟩, _) (List.mem_of_getElem? (i := 6) rfl)) rfl⟩
theorem ok_Pn_anchorArea : xm_ok mt_Pn_anchorArea 1 := ⟨xm_tb_in (in_t4 _ (List.mem_of_getElem? (i := 222) rfl)) rfl, xm_tb_in (in_t1 _ (List.mem_of_getElem? (i := 9) rfl)) rfl, ⟨by decide, by decide⟩, by decide +kernel, by decide⟩
theorem vm_Pn_anchorArea : xm_Vm mt_Pn_anchorArea 1 6 := ⟨ok_Pn_anchorArea, by decide, _, rfl, xm_tb_in (in_t4 _ (List.mem_of_getElem? (i := 221) rfl)) rfl, xm_tb_in (in_p1 (⟨"DrawLabels$Painter", "anchorArea", "(I)V"⟩, _) (List.mem_of_getElem? (i := 8) rfl)) rfl⟩
theorem ok_Pn_hatchStrokes : xm_ok mt_Pn_hatchStrokes 2 := ⟨xm_tb_in (in_t4 _ (List.mem_of_getElem? (i := 236) rfl)) rfl, xm_tb_in (in_t1 _ (List.mem_of_getElem? (i := 9) rfl)) rfl, ⟨by decide, by decide⟩, by decide +kernel, by decide⟩
theorem vm_Pn_hatchStrokes : xm_Vm mt_Pn_hatchStrokes 2 6 := ⟨ok_Pn_hatchStrokes, by decide, _, rfl, xm_tb_in (in_t4 _ (List.mem_of_getElem? (i := 235) rfl)) rfl, xm_tb_in (in_p1 (⟨"DrawLabels$Painter", "hatchStrokes", "(II)I"⟩, _) (List.mem_of_getElem? (i := 10) rfl)) rfl⟩
theorem ok_Pn_takeCorners : xm_ok mt_Pn_takeCorners 1 := ⟨xm_tb_in (in_t4 _ (List.mem_of_getElem? (i := 215) rfl)) rfl, xm_tb_in (in_t1 _ (List.mem_of_getElem? (i := 9) rfl)) rfl, ⟨by decide, by decide⟩, by decide +kernel, by decide⟩
theorem vm_Pn_takeCorners : xm_Vm mt_Pn_takeCorners 1 6 := ⟨ok_Pn_takeCorners, by decide, _, rfl, xm_tb_in (in_t4 _ (List.mem_of_getElem? (i := 214) rfl)) rfl, xm_tb_in (in_p1 (⟨"DrawLabels$Painter", "takeCorners", "(I)V"⟩, _) (List.mem_of_getElem? (i := 7) rfl)) rfl⟩
theorem ok_Pn_paintHatch : xm_ok mt_Pn_paintHatch 2 := ⟨xm_tb_in (in_t5 _ (List.mem_of_getElem? (i := 1) rfl)) rfl, xm_tb_in (in_t1 _ (List.mem_of_getElem? (i := 9) rfl)) rfl, ⟨by decide, by decide⟩, by decide +kernel, by decide⟩
theorem vm_Pn_paintHatch : xm_Vm mt_Pn_paintHatch 2 6 := ⟨ok_Pn_paintHatch, by decide, _, rfl, xm_tb_in (in_t5 _ (List.mem_of_getElem? (i := 0) rfl)) rfl, xm_tb_in (in_p1 (⟨"DrawLabels$Painter", "paintHatch", "(II)V"⟩, _) (List.mem_of_getElem? (i := 11) rfl)) rfl⟩
theorem ok_Pn_meetSide : xm_ok mt_Pn_meetSide 3 := ⟨xm_tb_in (in_t5 _ (List.mem_of_getElem? (i := 5) rfl)) rfl, xm_tb_in (in_t1 _ (List.mem_of_getElem? (i := 9) rfl)) rfl, ⟨by decide, by decide⟩, by decide +kernel, by decide⟩
theorem vm_Pn_meetSide : xm_Vm mt_Pn_meetSide 3 6 := ⟨ok_Pn_meetSide, by decide, _, rfl, xm_tb_in (in_t5 _ (List.mem_of_getElem? (i := 4) rfl)) rfl, xm_tb_in (in_p1 (⟨"DrawLabels$Painter", "meetSide", "(III)V"⟩, _) (List.mem_of_getElem? (i := 12) rfl)) rfl⟩
theorem ok_Pn_paintHatchStroke : xm_ok mt_Pn_paintHatchStroke 3 := ⟨xm_tb_in (in_t5 _ (List.mem_of_getElem? (i := 9) rfl)) rfl, xm_tb_in (in_t1 _ (List.mem_of_getElem? (i := 9) rfl)) rfl, ⟨by decide, by decide⟩, by decide +kernel, by decide⟩
theorem vm_Pn_paintHatchStroke : xm_Vm mt_Pn_paintHatchStroke 3 6 := ⟨ok_Pn_paintHatchStroke, by decide, _, rfl, xm_tb_in (in_t5 _ (List.mem_of_getElem? (i := 8) rfl)) rfl, xm_tb_in (in_p1 (⟨"DrawLabels$Painter", "paintHatchStroke", "(III)V"⟩, _) (List.mem_of_getElem? (i := 13) rfl)) rfl⟩
theorem ok_Pn_paintOthers : xm_ok mt_Pn_paintOthers 0 := ⟨xm_tb_in (in_t5 _ (List.mem_of_getElem? (i := 13) rfl)) rfl, xm_tb_in (in_t1 _ (List.mem_of_getElem? (i := 9) rfl)) rfl, ⟨by decide, by decide⟩, by decide +kernel, by decide⟩
theorem vm_Pn_paintOthers : xm_Vm mt_Pn_paintOthers 0 6 := ⟨ok_Pn_paintOthers, by decide, _, rfl, xm_tb_in (in_t5 _ (List.mem_of_getElem? (i := 11) rfl)) rfl, xm_tb_in (in_t5 _ (List.mem_of_getElem? (i := 12) rfl)) rfl⟩
theorem ok_Pn_paintOther : xm_ok mt_Pn_paintOther 1 := ⟨xm_tb_in (in_t5 _ (List.mem_of_getElem? (i := 17) rfl)) rfl, xm_tb_in (in_t1 _ (List.mem_of_getElem? (i := 9) rfl)) rfl, ⟨by decide, by decide⟩, by decide +kernel, by decide⟩
theorem vm_Pn_paintOther : xm_Vm mt_Pn_paintOther 1 6 := ⟨ok_Pn_paintOther, by decide, _, rfl, xm_tb_in (in_t5 _ (List.mem_of_getElem? (i := 16) rfl)) rfl, xm_tb_in (in_p1 (⟨"DrawLabels$Painter", "paintOther", "(I)V"⟩, _) (List.mem_of_getElem? (i := 14) rfl)) rfl⟩
theorem ok_Pn_paintDot : xm_ok mt_Pn_paintDot 1 := ⟨xm_tb_in (in_t5 _ (List.mem_of_getElem? (i := 21) rfl)) rfl, xm_tb_in (in_t1 _ (List.mem_of_getElem? (i := 9) rfl)) rfl, ⟨by decide, by decide⟩, by decide +kernel, by decide⟩
theorem vm_Pn_paintDot : xm_Vm mt_Pn_paintDot 1 6 := ⟨ok_Pn_paintDot, by decide, _, rfl, xm_tb_in (in_t5 _ (List.mem_of_getElem? (i := 20) rfl)) rfl, xm_tb_in (in_p1 (⟨"DrawLabels$Painter", "paintDot", "(I)V"⟩, _) (List.mem_of_getElem? (i := 15) rfl)) rfl⟩
theorem ok_Pn_paintStraight : xm_ok mt_Pn_paintStraight 1 := ⟨xm_tb_in (in_t5 _ (List.mem_of_getElem? (i := 29) rfl)) rfl, xm_tb_in (in_t1 _ (List.mem_of_getElem? (i := 9) rfl)) rfl, ⟨by decide, by decide⟩, by decide +kernel, by decide⟩
theorem vm_Pn_paintStraight : xm_Vm mt_Pn_paintStraight 1 6 := ⟨ok_Pn_paintStraight, by decide, _, rfl, xm_tb_in (in_t5 _ (List.mem_of_getElem? (i := 28) rfl)) rfl, xm_tb_in (in_p2 (⟨"DrawLabels$Painter", "paintStraight", "(I)V"⟩, _) (List.mem_of_getElem? (i := 0) rfl)) rfl⟩
theorem ok_Pn_paintCircle : xm_ok mt_Pn_paintCircle 1 := ⟨xm_tb_in (in_t5 _ (List.mem_of_getElem? (i := 74) rfl)) rfl, xm_tb_in (in_t1 _ (List.mem_of_getElem? (i := 9) rfl)) rfl, ⟨by decide, by decide⟩, by decide +kernel, by decide⟩
theorem vm_Pn_paintCircle : xm_Vm mt_Pn_paintCircle 1 6 := ⟨ok_Pn_paintCircle, by decide, _, rfl, xm_tb_in (in_t5 _ (List.mem_of_getElem? (i := 73) rfl)) rfl, xm_tb_in (in_p2 (⟨"DrawLabels$Painter", "paintCircle", "(I)V"⟩, _) (List.mem_of_getElem? (i := 4) rfl)) rfl⟩
theorem ok_Pn_paintAngle : xm_ok mt_Pn_paintAngle 1 := ⟨xm_tb_in (in_t5 _ (List.mem_of_getElem? (i := 103) rfl)) rfl, xm_tb_in (in_t1 _ (List.mem_of_getElem? (i := 9) rfl)) rfl, ⟨by decide, by decide⟩, by decide +kernel, by decide⟩
theorem vm_Pn_paintAngle : xm_Vm mt_Pn_paintAngle 1 6 := ⟨ok_Pn_paintAngle, by decide, _, rfl, xm_tb_in (in_t5 _ (List.mem_of_getElem? (i := 102) rfl)) rfl, xm_tb_in (in_p2 (⟨"DrawLabels$Painter", "paintAngle", "(I)V"⟩, _) (List.mem_of_getElem? (i := 5) rfl)) rfl⟩
theorem ok_Pn_openingOf : xm_ok mt_Pn_openingOf 4 := ⟨xm_tb_in (in_t5 _ (List.mem_of_getElem? (i := 106) rfl)) rfl, xm_tb_in (in_t1 _ (List.mem_of_getElem? (i := 9) rfl)) rfl, ⟨by decide, by decide⟩, by decide +kernel, by decide⟩
theorem sm_Pn_openingOf : xm_Sm mt_Pn_openingOf 4 := ⟨ok_Pn_openingOf, xm_tb_in (in_t5 _ (List.mem_of_getElem? (i := 105) rfl)) rfl⟩
theorem ok_Pn_paintTicks : xm_ok mt_Pn_paintTicks 1 := ⟨xm_tb_in (in_t5 _ (List.mem_of_getElem? (i := 113) rfl)) rfl, xm_tb_in (in_t1 _ (List.mem_of_getElem? (i := 9) rfl)) rfl, ⟨by decide, by decide⟩, by decide +kernel, by decide⟩
theorem vm_Pn_paintTicks : xm_Vm mt_Pn_paintTicks 1 6 := ⟨ok_Pn_paintTicks, by decide, _, rfl, xm_tb_in (in_t5 _ (List.mem_of_getElem? (i := 112) rfl)) rfl, xm_tb_in (in_p2 (⟨"DrawLabels$Painter", "paintTicks", "(I)V"⟩, _) (List.mem_of_getElem? (i := 6) rfl)) rfl⟩
theorem ok_Pn_paintSolids : xm_ok mt_Pn_paintSolids 1 := ⟨xm_tb_in (in_t5 _ (List.mem_of_getElem? (i := 121) rfl)) rfl, xm_tb_in (in_t1 _ (List.mem_of_getElem? (i := 9) rfl)) rfl, ⟨by decide, by decide⟩, by decide +kernel, by decide⟩
theorem vm_Pn_paintSolids : xm_Vm mt_Pn_paintSolids 1 6 := ⟨ok_Pn_paintSolids, by decide, _, rfl, xm_tb_in (in_t5 _ (List.mem_of_getElem? (i := 119) rfl)) rfl, xm_tb_in (in_t5 _ (List.mem_of_getElem? (i := 120) rfl)) rfl⟩
theorem ok_Pn_paintSolid : xm_ok mt_Pn_paintSolid 2 := ⟨xm_tb_in (in_t5 _ (List.mem_of_getElem? (i := 127) rfl)) rfl, xm_tb_in (in_t1 _ (List.mem_of_getElem? (i := 9) rfl)) rfl, ⟨by decide, by decide⟩, by decide +kernel, by decide⟩
theorem vm_Pn_paintSolid : xm_Vm mt_Pn_paintSolid 2 6 := ⟨ok_Pn_paintSolid, by decide, _, rfl, xm_tb_in (in_t5 _ (List.mem_of_getElem? (i := 126) rfl)) rfl, xm_tb_in (in_p2 (⟨"DrawLabels$Painter", "paintSolid", "(LDrawLabels$Solid;I)V"⟩, _) (List.mem_of_getElem? (i := 7) rfl)) rfl⟩
theorem ok_Pn_paintEdge : xm_ok mt_Pn_paintEdge 4 := ⟨xm_tb_in (in_t5 _ (List.mem_of_getElem? (i := 134) rfl)) rfl, xm_tb_in (in_t1 _ (List.mem_of_getElem? (i := 9) rfl)) rfl, ⟨by decide, by decide⟩, by decide +kernel, by decide⟩
theorem vm_Pn_paintEdge : xm_Vm mt_Pn_paintEdge 4 6 := ⟨ok_Pn_paintEdge, by decide, _, rfl, xm_tb_in (in_t5 _ (List.mem_of_getElem? (i := 133) rfl)) rfl, xm_tb_in (in_p2 (⟨"DrawLabels$Painter", "paintEdge", "(LDrawLabels$Solid;III)V"⟩, _) (List.mem_of_getElem? (i := 8) rfl)) rfl⟩
theorem ok_Pl_init : xm_ok mt_Pl_init 4 := ⟨xm_tb_in (in_t2 _ (List.mem_of_getElem? (i := 116) rfl)) rfl, xm_tb_in (in_t1 _ (List.mem_of_getElem? (i := 11) rfl)) rfl, ⟨by decide, by decide⟩, by decide +kernel, by decide⟩
theorem im_Pl_init : Cond.instanceMethod mt_Pl_init.1 ∈ xm_tb := xm_tb_in (in_t2 _ (List.mem_of_getElem? (i := 115) rfl)) rfl
theorem ok_Pl_placeAll : xm_ok mt_Pl_placeAll 0 := ⟨xm_tb_in (in_t5 _ (List.mem_of_getElem? (i := 150) rfl)) rfl, xm_tb_in (in_t1 _ (List.mem_of_getElem? (i := 11) rfl)) rfl, ⟨by decide, by decide⟩, by decide +kernel, by decide⟩
theorem vm_Pl_placeAll : xm_Vm mt_Pl_placeAll 0 7 := ⟨ok_Pl_placeAll, by decide, _, rfl, xm_tb_in (in_t5 _ (List.mem_of_getElem? (i := 148) rfl)) rfl, xm_tb_in (in_t5 _ (List.mem_of_getElem? (i := 149) rfl)) rfl⟩
theorem ok_Pl_gatherGuests : xm_ok mt_Pl_gatherGuests 0 := ⟨xm_tb_in (in_t5 _ (List.mem_of_getElem? (i := 158) rfl)) rfl, xm_tb_in (in_t1 _ (List.mem_of_getElem? (i := 11) rfl)) rfl, ⟨by decide, by decide⟩, by decide +kernel, by decide⟩
theorem vm_Pl_gatherGuests : xm_Vm mt_Pl_gatherGuests 0 7 := ⟨ok_Pl_gatherGuests, by decide, _, rfl, xm_tb_in (in_t5 _ (List.mem_of_getElem? (i := 157) rfl)) rfl, xm_tb_in (in_p2 (⟨"DrawLabels$Placer", "gatherGuests", "()V"⟩, _) (List.mem_of_getElem? (i := 9) rfl)) rfl⟩
theorem ok_Pl_setBoxes : xm_ok mt_Pl_setBoxes 1 := ⟨xm_tb_in (in_t5 _ (List.mem_of_getElem? (i := 178) rfl)) rfl, xm_tb_in (in_t1 _ (List.mem_of_getElem? (i := 11) rfl)) rfl, ⟨by decide, by decide⟩, by decide +kernel, by decide⟩
theorem vm_Pl_setBoxes : xm_Vm mt_Pl_setBoxes 1 7 := ⟨ok_Pl_setBoxes, by decide, _, rfl, xm_tb_in (in_t5 _ (List.mem_of_getElem? (i := 177) rfl)) rfl, xm_tb_in (in_p2 (⟨"DrawLabels$Placer", "setBoxes", "(I)V"⟩, _) (List.mem_of_getElem? (i := 10) rfl)) rfl⟩
theorem ok_Pl_leftFromAnchor : xm_ok mt_Pl_leftFromAnchor 2 := ⟨xm_tb_in (in_t5 _ (List.mem_of_getElem? (i := 190) rfl)) rfl, xm_tb_in (in_t1 _ (List.mem_of_getElem? (i := 11) rfl)) rfl, ⟨by decide, by decide⟩, by decide +kernel, by decide⟩
theorem sm_Pl_leftFromAnchor : xm_Sm mt_Pl_leftFromAnchor 2 := ⟨ok_Pl_leftFromAnchor, xm_tb_in (in_t5 _ (List.mem_of_getElem? (i := 189) rfl)) rfl⟩
theorem ok_Pl_addCostsOfMarks : xm_ok mt_Pl_addCostsOfMarks 0 := ⟨xm_tb_in (in_t5 _ (List.mem_of_getElem? (i := 196) rfl)) rfl, xm_tb_in (in_t1 _ (List.mem_of_getElem? (i := 11) rfl)) rfl, ⟨by decide, by decide⟩, by decide +kernel, by decide⟩
theorem vm_Pl_addCostsOfMarks : xm_Vm mt_Pl_addCostsOfMarks 0 7 := ⟨ok_Pl_addCostsOfMarks, by decide, _, rfl, xm_tb_in (in_t5 _ (List.mem_of_getElem? (i := 195) rfl)) rfl, xm_tb_in (in_p2 (⟨"DrawLabels$Placer", "addCostsOfMarks", "()V"⟩, _) (List.mem_of_getElem? (i := 11) rfl)) rfl⟩
theorem ok_Pl_addCostOfStroke : xm_ok mt_Pl_addCostOfStroke 5 := ⟨xm_tb_in (in_t5 _ (List.mem_of_getElem? (i := 208) rfl)) rfl, xm_tb_in (in_t1 _ (List.mem_of_getElem? (i := 11) rfl)) rfl, ⟨by decide, by decide⟩, by decide +kernel, by decide⟩
theorem vm_Pl_addCostOfStroke : xm_Vm mt_Pl_addCostOfStroke 5 7 := ⟨ok_Pl_addCostOfStroke, by decide, _, rfl, xm_tb_in (in_t5 _ (List.mem_of_getElem? (i := 207) rfl)) rfl, xm_tb_in (in_p2 (⟨"DrawLabels$Placer", "addCostOfStroke", "(IIIII)V"⟩, _) (List.mem_of_getElem? (i := 12) rfl)) rfl⟩
theorem ok_Pl_isAside : xm_ok mt_Pl_isAside 5 := ⟨xm_tb_in (in_t5 _ (List.mem_of_getElem? (i := 214) rfl)) rfl, xm_tb_in (in_t1 _ (List.mem_of_getElem? (i := 11) rfl)) rfl, ⟨by decide, by decide⟩, by decide +kernel, by decide⟩
theorem vm_Pl_isAside : xm_Vm mt_Pl_isAside 5 7 := ⟨ok_Pl_isAside, by decide, _, rfl, xm_tb_in (in_t5 _ (List.mem_of_getElem? (i := 213) rfl)) rfl, xm_tb_in (in_p2 (⟨"DrawLabels$Placer", "isAside", "(IIIJJ)Z"⟩, _) (List.mem_of_getElem? (i := 13) rfl)) rfl⟩
theorem ok_Pl_costOf : xm_ok mt_Pl_costOf 2 := ⟨xm_tb_in (in_t5 _ (List.mem_of_getElem? (i := 226) rfl)) rfl, xm_tb_in (in_t1 _ (List.mem_of_getElem? (i := 11) rfl)) rfl, ⟨by decide, by decide⟩, by decide +kernel, by decide⟩
theorem vm_Pl_costOf : xm_Vm mt_Pl_costOf 2 7 := ⟨ok_Pl_costOf, by decide, _, rfl, xm_tb_in (in_t5 _ (List.mem_of_getElem? (i := 225) rfl)) rfl, xm_tb_in (in_p3 (⟨"DrawLabels$Placer", "costOf", "(II)I"⟩, _) (List.mem_of_getElem? (i := 0) rfl)) rfl⟩
theorem ok_Pl_isFree : xm_ok mt_Pl_isFree 3 := ⟨xm_tb_in (in_t6 _ (List.mem_of_getElem? (i := 2) rfl)) rfl, xm_tb_in (in_t1 _ (List.mem_of_getElem? (i := 11) rfl)) rfl, ⟨by decide, by decide⟩, by decide +kernel, by decide⟩
theorem vm_Pl_isFree : xm_Vm mt_Pl_isFree 3 7 := ⟨ok_Pl_isFree, by decide, _, rfl, xm_tb_in (in_t6 _ (List.mem_of_getElem? (i := 1) rfl)) rfl, xm_tb_in (in_p3 (⟨"DrawLabels$Placer", "isFree", "(III)Z"⟩, _) (List.mem_of_getElem? (i := 4) rfl)) rfl⟩
theorem ok_Pl_meet : xm_ok mt_Pl_meet 3 := ⟨xm_tb_in (in_t6 _ (List.mem_of_getElem? (i := 6) rfl)) rfl, xm_tb_in (in_t1 _ (List.mem_of_getElem? (i := 11) rfl)) rfl, ⟨by decide, by decide⟩, by decide +kernel, by decide⟩
theorem vm_Pl_meet : xm_Vm mt_Pl_meet 3 7 := ⟨ok_Pl_meet, by decide, _, rfl, xm_tb_in (in_t6 _ (List.mem_of_getElem? (i := 5) rfl)) rfl, xm_tb_in (in_p3 (⟨"DrawLabels$Placer", "meet", "(III)Z"⟩, _) (List.mem_of_getElem? (i := 5) rfl)) rfl⟩
theorem ok_Pl_findBest : xm_ok mt_Pl_findBest 0 := ⟨xm_tb_in (in_t5 _ (List.mem_of_getElem? (i := 218) rfl)) rfl, xm_tb_in (in_t1 _ (List.mem_of_getElem? (i := 11) rfl)) rfl, ⟨by decide, by decide⟩, by decide +kernel, by decide⟩
theorem vm_Pl_findBest : xm_Vm mt_Pl_findBest 0 7 := ⟨ok_Pl_findBest, by decide, _, rfl, xm_tb_in (in_t5 _ (List.mem_of_getElem? (i := 217) rfl)) rfl, xm_tb_in (in_p2 (⟨"DrawLabels$Placer", "findBest", "()V"⟩, _) (List.mem_of_getElem? (i := 14) rfl)) rfl⟩
theorem ok_Pl_boundByRounds : xm_ok mt_Pl_boundByRounds 0 := ⟨xm_tb_in (in_t5 _ (List.mem_of_getElem? (i := 230) rfl)) rfl, xm_tb_in (in_t1 _ (List.mem_of_getElem? (i := 11) rfl)) rfl, ⟨by decide, by decide⟩, by decide +kernel, by decide⟩
theorem vm_Pl_boundByRounds : xm_Vm mt_Pl_boundByRounds 0 7 := ⟨ok_Pl_boundByRounds, by decide, _, rfl, xm_tb_in (in_t5 _ (List.mem_of_getElem? (i := 229) rfl)) rfl, xm_tb_in (in_p3 (⟨"DrawLabels$Placer", "boundByRounds", "()V"⟩, _) (List.mem_of_getElem? (i := 1) rfl)) rfl⟩
theorem ok_Pl_leastCostOf : xm_ok mt_Pl_leastCostOf 1 := ⟨xm_tb_in (in_t5 _ (List.mem_of_getElem? (i := 222) rfl)) rfl, xm_tb_in (in_t1 _ (List.mem_of_getElem? (i := 11) rfl)) rfl, ⟨by decide, by decide⟩, by decide +kernel, by decide⟩
theorem vm_Pl_leastCostOf : xm_Vm mt_Pl_leastCostOf 1 7 := ⟨ok_Pl_leastCostOf, by decide, _, rfl, xm_tb_in (in_t5 _ (List.mem_of_getElem? (i := 221) rfl)) rfl, xm_tb_in (in_p2 (⟨"DrawLabels$Placer", "leastCostOf", "(I)I"⟩, _) (List.mem_of_getElem? (i := 15) rfl)) rfl⟩
theorem ok_Pl_search : xm_ok mt_Pl_search 3 := ⟨xm_tb_in (in_t6 _ (List.mem_of_getElem? (i := 10) rfl)) rfl, xm_tb_in (in_t1 _ (List.mem_of_getElem? (i := 11) rfl)) rfl, ⟨by decide, by decide⟩, by decide +kernel, by decide⟩
theorem vm_Pl_search : xm_Vm mt_Pl_search 3 7 := ⟨ok_Pl_search, by decide, _, rfl, xm_tb_in (in_t6 _ (List.mem_of_getElem? (i := 9) rfl)) rfl, xm_tb_in (in_p3 (⟨"DrawLabels$Placer", "search", "(III)V"⟩, _) (List.mem_of_getElem? (i := 6) rfl)) rfl⟩
theorem ok_Pl_keepAsBest : xm_ok mt_Pl_keepAsBest 2 := ⟨xm_tb_in (in_t6 _ (List.mem_of_getElem? (i := 14) rfl)) rfl, xm_tb_in (in_t1 _ (List.mem_of_getElem? (i := 11) rfl)) rfl, ⟨by decide, by decide⟩, by decide +kernel, by decide⟩
theorem vm_Pl_keepAsBest : xm_Vm mt_Pl_keepAsBest 2 7 := ⟨ok_Pl_keepAsBest, by decide, _, rfl, xm_tb_in (in_t6 _ (List.mem_of_getElem? (i := 13) rfl)) rfl, xm_tb_in (in_p3 (⟨"DrawLabels$Placer", "keepAsBest", "(II)V"⟩, _) (List.mem_of_getElem? (i := 7) rfl)) rfl⟩
theorem ok_Pl_goRounds : xm_ok mt_Pl_goRounds 0 := ⟨xm_tb_in (in_t5 _ (List.mem_of_getElem? (i := 234) rfl)) rfl, xm_tb_in (in_t1 _ (List.mem_of_getElem? (i := 11) rfl)) rfl, ⟨by decide, by decide⟩, by decide +kernel, by decide⟩
theorem vm_Pl_goRounds : xm_Vm mt_Pl_goRounds 0 7 := ⟨ok_Pl_goRounds, by decide, _, rfl, xm_tb_in (in_t5 _ (List.mem_of_getElem? (i := 233) rfl)) rfl, xm_tb_in (in_p3 (⟨"DrawLabels$Placer", "goRounds", "()I"⟩, _) (List.mem_of_getElem? (i := 2) rfl)) rfl⟩
theorem ok_Pl_cheapestFree : xm_ok mt_Pl_cheapestFree 1 := ⟨xm_tb_in (in_t5 _ (List.mem_of_getElem? (i := 238) rfl)) rfl, xm_tb_in (in_t1 _ (List.mem_of_getElem? (i := 11) rfl)) rfl, ⟨by decide, by decide⟩, by decide +kernel, by decide⟩
theorem vm_Pl_cheapestFree : xm_Vm mt_Pl_cheapestFree 1 7 := ⟨ok_Pl_cheapestFree, by decide, _, rfl, xm_tb_in (in_t5 _ (List.mem_of_getElem? (i := 237) rfl)) rfl, xm_tb_in (in_p3 (⟨"DrawLabels$Placer", "cheapestFree", "(I)I"⟩, _) (List.mem_of_getElem? (i := 3) rfl)) rfl⟩
theorem ok_Pl_markGuest : xm_ok mt_Pl_markGuest 1 := ⟨xm_tb_in (in_t6 _ (List.mem_of_getElem? (i := 18) rfl)) rfl, xm_tb_in (in_t1 _ (List.mem_of_getElem? (i := 11) rfl)) rfl, ⟨by decide, by decide⟩, by decide +kernel, by decide⟩
theorem vm_Pl_markGuest : xm_Vm mt_Pl_markGuest 1 7 := ⟨ok_Pl_markGuest, by decide, _, rfl, xm_tb_in (in_t6 _ (List.mem_of_getElem? (i := 17) rfl)) rfl, xm_tb_in (in_p3 (⟨"DrawLabels$Placer", "markGuest", "(I)V"⟩, _) (List.mem_of_getElem? (i := 8) rfl)) rfl⟩
theorem ok_Pt_init : xm_ok mt_Pt_init 0 := ⟨xm_tb_in (in_t1 _ (List.mem_of_getElem? (i := 29) rfl)) rfl, xm_tb_in (in_t1 _ (List.mem_of_getElem? (i := 2) rfl)) rfl, ⟨by decide, by decide⟩, by decide +kernel, by decide⟩
theorem im_Pt_init : Cond.instanceMethod mt_Pt_init.1 ∈ xm_tb := xm_tb_in (in_t1 _ (List.mem_of_getElem? (i := 28) rfl)) rfl
theorem ok_Pt_has : xm_ok mt_Pt_has 1 := ⟨xm_tb_in (in_t2 _ (List.mem_of_getElem? (i := 224) rfl)) rfl, xm_tb_in (in_t1 _ (List.mem_of_getElem? (i := 2) rfl)) rfl, ⟨by decide, by decide⟩, by decide +kernel, by decide⟩
theorem vm_Pt_has : xm_Vm mt_Pt_has 1 8 := ⟨ok_Pt_has, by decide, _, rfl, xm_tb_in (in_t2 _ (List.mem_of_getElem? (i := 222) rfl)) rfl, xm_tb_in (in_t2 _ (List.mem_of_getElem? (i := 223) rfl)) rfl⟩
theorem ok_Pt_isFull : xm_ok mt_Pt_isFull 0 := ⟨xm_tb_in (in_t2 _ (List.mem_of_getElem? (i := 209) rfl)) rfl, xm_tb_in (in_t1 _ (List.mem_of_getElem? (i := 2) rfl)) rfl, ⟨by decide, by decide⟩, by decide +kernel, by decide⟩
theorem vm_Pt_isFull : xm_Vm mt_Pt_isFull 0 8 := ⟨ok_Pt_isFull, by decide, _, rfl, xm_tb_in (in_t2 _ (List.mem_of_getElem? (i := 207) rfl)) rfl, xm_tb_in (in_t2 _ (List.mem_of_getElem? (i := 208) rfl)) rfl⟩
theorem ok_Pt_add : xm_ok mt_Pt_add 2 := ⟨xm_tb_in (in_t2 _ (List.mem_of_getElem? (i := 214) rfl)) rfl, xm_tb_in (in_t1 _ (List.mem_of_getElem? (i := 2) rfl)) rfl, ⟨by decide, by decide⟩, by decide +kernel, by decide⟩
theorem vm_Pt_add : xm_Vm mt_Pt_add 2 8 := ⟨ok_Pt_add, by decide, _, rfl, xm_tb_in (in_t2 _ (List.mem_of_getElem? (i := 212) rfl)) rfl, xm_tb_in (in_t2 _ (List.mem_of_getElem? (i := 213) rfl)) rfl⟩
theorem ok_Pt_goBy : xm_ok mt_Pt_goBy 3 := ⟨xm_tb_in (in_t2 _ (List.mem_of_getElem? (i := 229) rfl)) rfl, xm_tb_in (in_t1 _ (List.mem_of_getElem? (i := 2) rfl)) rfl, ⟨by decide, by decide⟩, by decide +kernel, by decide⟩
theorem vm_Pt_goBy : xm_Vm mt_Pt_goBy 3 8 := ⟨ok_Pt_goBy, by decide, _, rfl, xm_tb_in (in_t2 _ (List.mem_of_getElem? (i := 227) rfl)) rfl, xm_tb_in (in_t2 _ (List.mem_of_getElem? (i := 228) rfl)) rfl⟩
theorem ok_Pt_xNow : xm_ok mt_Pt_xNow 1 := ⟨xm_tb_in (in_t3 _ (List.mem_of_getElem? (i := 2) rfl)) rfl, xm_tb_in (in_t1 _ (List.mem_of_getElem? (i := 2) rfl)) rfl, ⟨by decide, by decide⟩, by decide +kernel, by decide⟩
theorem vm_Pt_xNow : xm_Vm mt_Pt_xNow 1 8 := ⟨ok_Pt_xNow, by decide, _, rfl, xm_tb_in (in_t3 _ (List.mem_of_getElem? (i := 0) rfl)) rfl, xm_tb_in (in_t3 _ (List.mem_of_getElem? (i := 1) rfl)) rfl⟩
theorem ok_Pt_yNow : xm_ok mt_Pt_yNow 1 := ⟨xm_tb_in (in_t3 _ (List.mem_of_getElem? (i := 6) rfl)) rfl, xm_tb_in (in_t1 _ (List.mem_of_getElem? (i := 2) rfl)) rfl, ⟨by decide, by decide⟩, by decide +kernel, by decide⟩
theorem vm_Pt_yNow : xm_Vm mt_Pt_yNow 1 8 := ⟨ok_Pt_yNow, by decide, _, rfl, xm_tb_in (in_t3 _ (List.mem_of_getElem? (i := 4) rfl)) rfl, xm_tb_in (in_t3 _ (List.mem_of_getElem? (i := 5) rfl)) rfl⟩
theorem ok_Pt_squareFromBefore : xm_ok mt_Pt_squareFromBefore 1 := ⟨xm_tb_in (in_t3 _ (List.mem_of_getElem? (i := 190) rfl)) rfl, xm_tb_in (in_t1 _ (List.mem_of_getElem? (i := 2) rfl)) rfl, ⟨by decide, by decide⟩, by decide +kernel, by decide⟩
theorem vm_Pt_squareFromBefore : xm_Vm mt_Pt_squareFromBefore 1 8 := ⟨ok_Pt_squareFromBefore, by decide, _, rfl, xm_tb_in (in_t3 _ (List.mem_of_getElem? (i := 188) rfl)) rfl, xm_tb_in (in_t3 _ (List.mem_of_getElem? (i := 189) rfl)) rfl⟩
theorem ok_So_init : xm_ok mt_So_init 2 := ⟨xm_tb_in (in_t3 _ (List.mem_of_getElem? (i := 224) rfl)) rfl, xm_tb_in (in_t1 _ (List.mem_of_getElem? (i := 15) rfl)) rfl, ⟨by decide, by decide⟩, by decide +kernel, by decide⟩
theorem im_So_init : Cond.instanceMethod mt_So_init.1 ∈ xm_tb := xm_tb_in (in_t3 _ (List.mem_of_getElem? (i := 223) rfl)) rfl
theorem ok_So_verticesAreFull : xm_ok mt_So_verticesAreFull 0 := ⟨xm_tb_in (in_t4 _ (List.mem_of_getElem? (i := 32) rfl)) rfl, xm_tb_in (in_t1 _ (List.mem_of_getElem? (i := 15) rfl)) rfl, ⟨by decide, by decide⟩, by decide +kernel, by decide⟩
theorem vm_So_verticesAreFull : xm_Vm mt_So_verticesAreFull 0 9 := ⟨ok_So_verticesAreFull, by decide, _, rfl, xm_tb_in (in_t4 _ (List.mem_of_getElem? (i := 30) rfl)) rfl, xm_tb_in (in_t4 _ (List.mem_of_getElem? (i := 31) rfl)) rfl⟩
theorem ok_So_facesAreFull : xm_ok mt_So_facesAreFull 0 := ⟨xm_tb_in (in_t4 _ (List.mem_of_getElem? (i := 62) rfl)) rfl, xm_tb_in (in_t1 _ (List.mem_of_getElem? (i := 15) rfl)) rfl, ⟨by decide, by decide⟩, by decide +kernel, by decide⟩
theorem vm_So_facesAreFull : xm_Vm mt_So_facesAreFull 0 9 := ⟨ok_So_facesAreFull, by decide, _, rfl, xm_tb_in (in_t4 _ (List.mem_of_getElem? (i := 60) rfl)) rfl, xm_tb_in (in_t4 _ (List.mem_of_getElem? (i := 61) rfl)) rfl⟩
theorem ok_So_addVertex : xm_ok mt_So_addVertex 3 := ⟨xm_tb_in (in_t4 _ (List.mem_of_getElem? (i := 36) rfl)) rfl, xm_tb_in (in_t1 _ (List.mem_of_getElem? (i := 15) rfl)) rfl, ⟨by decide, by decide⟩, by decide +kernel, by decide⟩
theorem vm_So_addVertex : xm_Vm mt_So_addVertex 3 9 := ⟨ok_So_addVertex, by decide, _, rfl, xm_tb_in (in_t4 _ (List.mem_of_getElem? (i := 34) rfl)) rfl, xm_tb_in (in_t4 _ (List.mem_of_getElem? (i := 35) rfl)) rfl⟩
theorem ok_So_vertexIn : xm_ok mt_So_vertexIn 2 := ⟨xm_tb_in (in_t4 _ (List.mem_of_getElem? (i := 49) rfl)) rfl, xm_tb_in (in_t1 _ (List.mem_of_getElem? (i := 15) rfl)) rfl, ⟨by decide, by decide⟩, by decide +kernel, by decide⟩
theorem sm_So_vertexIn : xm_Sm mt_So_vertexIn 2 := ⟨ok_So_vertexIn, xm_tb_in (in_t4 _ (List.mem_of_getElem? (i := 48) rfl)) rfl⟩
theorem ok_So_hasVertices : xm_ok mt_So_hasVertices 2 := ⟨xm_tb_in (in_t4 _ (List.mem_of_getElem? (i := 46) rfl)) rfl, xm_tb_in (in_t1 _ (List.mem_of_getElem? (i := 15) rfl)) rfl, ⟨by decide, by decide⟩, by decide +kernel, by decide⟩
theorem vm_So_hasVertices : xm_Vm mt_So_hasVertices 2 9 := ⟨ok_So_hasVertices, by decide, _, rfl, xm_tb_in (in_t4 _ (List.mem_of_getElem? (i := 44) rfl)) rfl, xm_tb_in (in_t4 _ (List.mem_of_getElem? (i := 45) rfl)) rfl⟩
theorem ok_So_hasOneTwice : xm_ok mt_So_hasOneTwice 2 := ⟨xm_tb_in (in_t4 _ (List.mem_of_getElem? (i := 52) rfl)) rfl, xm_tb_in (in_t1 _ (List.mem_of_getElem? (i := 15) rfl)) rfl, ⟨by decide, by decide⟩, by decide +kernel, by decide⟩
theorem sm_So_hasOneTwice : xm_Sm mt_So_hasOneTwice 2 := ⟨ok_So_hasOneTwice, xm_tb_in (in_t4 _ (List.mem_of_getElem? (i := 51) rfl)) rfl⟩
theorem ok_So_addFace : xm_ok mt_So_addFace 2 := ⟨xm_tb_in (in_t4 _ (List.mem_of_getElem? (i := 66) rfl)) rfl, xm_tb_in (in_t1 _ (List.mem_of_getElem? (i := 15) rfl)) rfl, ⟨by decide, by decide⟩, by decide +kernel, by decide⟩
theorem vm_So_addFace : xm_Vm mt_So_addFace 2 9 := ⟨ok_So_addFace, by decide, _, rfl, xm_tb_in (in_t4 _ (List.mem_of_getElem? (i := 64) rfl)) rfl, xm_tb_in (in_t4 _ (List.mem_of_getElem? (i := 65) rfl)) rfl⟩
theorem ok_So_setNormal : xm_ok mt_So_setNormal 3 := ⟨xm_tb_in (in_t4 _ (List.mem_of_getElem? (i := 72) rfl)) rfl, xm_tb_in (in_t1 _ (List.mem_of_getElem? (i := 15) rfl)) rfl, ⟨by decide, by decide⟩, by decide +kernel, by decide⟩
theorem vm_So_setNormal : xm_Vm mt_So_setNormal 3 9 := ⟨ok_So_setNormal, by decide, _, rfl, xm_tb_in (in_t4 _ (List.mem_of_getElem? (i := 71) rfl)) rfl, xm_tb_in (in_p1 (⟨"DrawLabels$Solid", "setNormal", "(III)V"⟩, _) (List.mem_of_getElem? (i := 2) rfl)) rfl⟩
theorem ok_So_facesSeen : xm_ok mt_So_facesSeen 1 := ⟨xm_tb_in (in_t4 _ (List.mem_of_getElem? (i := 104) rfl)) rfl, xm_tb_in (in_t1 _ (List.mem_of_getElem? (i := 15) rfl)) rfl, ⟨by decide, by decide⟩, by decide +kernel, by decide⟩
theorem vm_So_facesSeen : xm_Vm mt_So_facesSeen 1 9 := ⟨ok_So_facesSeen, by decide, _, rfl, xm_tb_in (in_t4 _ (List.mem_of_getElem? (i := 102) rfl)) rfl, xm_tb_in (in_t4 _ (List.mem_of_getElem? (i := 103) rfl)) rfl⟩
theorem ok_So_towardsEye : xm_ok mt_So_towardsEye 2 := ⟨xm_tb_in (in_t4 _ (List.mem_of_getElem? (i := 108) rfl)) rfl, xm_tb_in (in_t1 _ (List.mem_of_getElem? (i := 15) rfl)) rfl, ⟨by decide, by decide⟩, by decide +kernel, by decide⟩
theorem vm_So_towardsEye : xm_Vm mt_So_towardsEye 2 9 := ⟨ok_So_towardsEye, by decide, _, rfl, xm_tb_in (in_t4 _ (List.mem_of_getElem? (i := 107) rfl)) rfl, xm_tb_in (in_p1 (⟨"DrawLabels$Solid", "towardsEye", "(II)I"⟩, _) (List.mem_of_getElem? (i := 3) rfl)) rfl⟩
theorem ok_So_acrossOf : xm_ok mt_So_acrossOf 2 := ⟨xm_tb_in (in_t5 _ (List.mem_of_getElem? (i := 142) rfl)) rfl, xm_tb_in (in_t1 _ (List.mem_of_getElem? (i := 15) rfl)) rfl, ⟨by decide, by decide⟩, by decide +kernel, by decide⟩
theorem vm_So_acrossOf : xm_Vm mt_So_acrossOf 2 9 := ⟨ok_So_acrossOf, by decide, _, rfl, xm_tb_in (in_t5 _ (List.mem_of_getElem? (i := 140) rfl)) rfl, xm_tb_in (in_t5 _ (List.mem_of_getElem? (i := 141) rfl)) rfl⟩
theorem ok_So_risingOf : xm_ok mt_So_risingOf 2 := ⟨xm_tb_in (in_t5 _ (List.mem_of_getElem? (i := 146) rfl)) rfl, xm_tb_in (in_t1 _ (List.mem_of_getElem? (i := 15) rfl)) rfl, ⟨by decide, by decide⟩, by decide +kernel, by decide⟩
theorem vm_So_risingOf : xm_Vm mt_So_risingOf 2 9 := ⟨ok_So_risingOf, by decide, _, rfl, xm_tb_in (in_t5 _ (List.mem_of_getElem? (i := 144) rfl)) rfl, xm_tb_in (in_t5 _ (List.mem_of_getElem? (i := 145) rfl)) rfl⟩
theorem ok_So_edgeCount : xm_ok mt_So_edgeCount 0 := ⟨xm_tb_in (in_t4 _ (List.mem_of_getElem? (i := 86) rfl)) rfl, xm_tb_in (in_t1 _ (List.mem_of_getElem? (i := 15) rfl)) rfl, ⟨by decide, by decide⟩, by decide +kernel, by decide⟩
theorem vm_So_edgeCount : xm_Vm mt_So_edgeCount 0 9 := ⟨ok_So_edgeCount, by decide, _, rfl, xm_tb_in (in_t4 _ (List.mem_of_getElem? (i := 84) rfl)) rfl, xm_tb_in (in_t4 _ (List.mem_of_getElem? (i := 85) rfl)) rfl⟩
theorem ok_So_edgeNumbered : xm_ok mt_So_edgeNumbered 1 := ⟨xm_tb_in (in_t4 _ (List.mem_of_getElem? (i := 94) rfl)) rfl, xm_tb_in (in_t1 _ (List.mem_of_getElem? (i := 15) rfl)) rfl, ⟨by decide, by decide⟩, by decide +kernel, by decide⟩
theorem vm_So_edgeNumbered : xm_Vm mt_So_edgeNumbered 1 9 := ⟨ok_So_edgeNumbered, by decide, _, rfl, xm_tb_in (in_t4 _ (List.mem_of_getElem? (i := 92) rfl)) rfl, xm_tb_in (in_t4 _ (List.mem_of_getElem? (i := 93) rfl)) rfl⟩
theorem ok_So_lesserOf : xm_ok mt_So_lesserOf 1 := ⟨xm_tb_in (in_t4 _ (List.mem_of_getElem? (i := 97) rfl)) rfl, xm_tb_in (in_t1 _ (List.mem_of_getElem? (i := 15) rfl)) rfl, ⟨by decide, by decide⟩, by decide +kernel, by decide⟩
theorem sm_So_lesserOf : xm_Sm mt_So_lesserOf 1 := ⟨ok_So_lesserOf, xm_tb_in (in_t4 _ (List.mem_of_getElem? (i := 96) rfl)) rfl⟩
theorem ok_So_greaterOf : xm_ok mt_So_greaterOf 1 := ⟨xm_tb_in (in_t4 _ (List.mem_of_getElem? (i := 100) rfl)) rfl, xm_tb_in (in_t1 _ (List.mem_of_getElem? (i := 15) rfl)) rfl, ⟨by decide, by decide⟩, by decide +kernel, by decide⟩
theorem sm_So_greaterOf : xm_Sm mt_So_greaterOf 1 := ⟨ok_So_greaterOf, xm_tb_in (in_t4 _ (List.mem_of_getElem? (i := 99) rfl)) rfl⟩
theorem ok_So_isEdge : xm_ok mt_So_isEdge 1 := ⟨xm_tb_in (in_t4 _ (List.mem_of_getElem? (i := 90) rfl)) rfl, xm_tb_in (in_t1 _ (List.mem_of_getElem? (i := 15) rfl)) rfl, ⟨by decide, by decide⟩, by decide +kernel, by decide⟩
theorem vm_So_isEdge : xm_Vm mt_So_isEdge 1 9 := ⟨ok_So_isEdge, by decide, _, rfl, xm_tb_in (in_t4 _ (List.mem_of_getElem? (i := 88) rfl)) rfl, xm_tb_in (in_t4 _ (List.mem_of_getElem? (i := 89) rfl)) rfl⟩
theorem ok_So_facesWith : xm_ok mt_So_facesWith 1 := ⟨xm_tb_in (in_t4 _ (List.mem_of_getElem? (i := 116) rfl)) rfl, xm_tb_in (in_t1 _ (List.mem_of_getElem? (i := 15) rfl)) rfl, ⟨by decide, by decide⟩, by decide +kernel, by decide⟩
theorem vm_So_facesWith : xm_Vm mt_So_facesWith 1 9 := ⟨ok_So_facesWith, by decide, _, rfl, xm_tb_in (in_t4 _ (List.mem_of_getElem? (i := 114) rfl)) rfl, xm_tb_in (in_t4 _ (List.mem_of_getElem? (i := 115) rfl)) rfl⟩
theorem ok_So_isBehind : xm_ok mt_So_isBehind 2 := ⟨xm_tb_in (in_t4 _ (List.mem_of_getElem? (i := 112) rfl)) rfl, xm_tb_in (in_t1 _ (List.mem_of_getElem? (i := 15) rfl)) rfl, ⟨by decide, by decide⟩, by decide +kernel, by decide⟩
theorem vm_So_isBehind : xm_Vm mt_So_isBehind 2 9 := ⟨ok_So_isBehind, by decide, _, rfl, xm_tb_in (in_t4 _ (List.mem_of_getElem? (i := 110) rfl)) rfl, xm_tb_in (in_t4 _ (List.mem_of_getElem? (i := 111) rfl)) rfl⟩
theorem ok_Ss_init : xm_ok mt_Ss_init 0 := ⟨xm_tb_in (in_t1 _ (List.mem_of_getElem? (i := 160) rfl)) rfl, xm_tb_in (in_t1 _ (List.mem_of_getElem? (i := 5) rfl)) rfl, ⟨by decide, by decide⟩, by decide +kernel, by decide⟩
theorem im_Ss_init : Cond.instanceMethod mt_Ss_init.1 ∈ xm_tb := xm_tb_in (in_t1 _ (List.mem_of_getElem? (i := 159) rfl)) rfl
theorem ok_Ss_isFull : xm_ok mt_Ss_isFull 0 := ⟨xm_tb_in (in_t3 _ (List.mem_of_getElem? (i := 214) rfl)) rfl, xm_tb_in (in_t1 _ (List.mem_of_getElem? (i := 5) rfl)) rfl, ⟨by decide, by decide⟩, by decide +kernel, by decide⟩
theorem vm_Ss_isFull : xm_Vm mt_Ss_isFull 0 10 := ⟨ok_Ss_isFull, by decide, _, rfl, xm_tb_in (in_t3 _ (List.mem_of_getElem? (i := 212) rfl)) rfl, xm_tb_in (in_t3 _ (List.mem_of_getElem? (i := 213) rfl)) rfl⟩
theorem ok_Ss_add : xm_ok mt_Ss_add 2 := ⟨xm_tb_in (in_t3 _ (List.mem_of_getElem? (i := 218) rfl)) rfl, xm_tb_in (in_t1 _ (List.mem_of_getElem? (i := 5) rfl)) rfl, ⟨by decide, by decide⟩, by decide +kernel, by decide⟩
theorem vm_Ss_add : xm_Vm mt_Ss_add 2 10 := ⟨ok_Ss_add, by decide, _, rfl, xm_tb_in (in_t3 _ (List.mem_of_getElem? (i := 216) rfl)) rfl, xm_tb_in (in_t3 _ (List.mem_of_getElem? (i := 217) rfl)) rfl⟩
theorem ok_Ss_find : xm_ok mt_Ss_find 1 := ⟨xm_tb_in (in_t4 _ (List.mem_of_getElem? (i := 28) rfl)) rfl, xm_tb_in (in_t1 _ (List.mem_of_getElem? (i := 5) rfl)) rfl, ⟨by decide, by decide⟩, by decide +kernel, by decide⟩
theorem vm_Ss_find : xm_Vm mt_Ss_find 1 10 := ⟨ok_Ss_find, by decide, _, rfl, xm_tb_in (in_t4 _ (List.mem_of_getElem? (i := 26) rfl)) rfl, xm_tb_in (in_t4 _ (List.mem_of_getElem? (i := 27) rfl)) rfl⟩
theorem ok_Ji_bitCount_I : xm_ok mt_Ji_bitCount_I 1 := ⟨xm_tb_in (in_t4 _ (List.mem_of_getElem? (i := 55) rfl)) rfl, xm_tb_in (in_t1 _ (List.mem_of_getElem? (i := 16) rfl)) rfl, ⟨by decide, by decide⟩, by decide +kernel, by decide⟩
theorem sm_Ji_bitCount_I : xm_Sm mt_Ji_bitCount_I 1 := ⟨ok_Ji_bitCount_I, xm_tb_in (in_t4 _ (List.mem_of_getElem? (i := 54) rfl)) rfl⟩
theorem ok_Jm_abs_I : xm_ok mt_Jm_abs_I 1 := ⟨xm_tb_in (in_t5 _ (List.mem_of_getElem? (i := 86) rfl)) rfl, xm_tb_in (in_t1 _ (List.mem_of_getElem? (i := 14) rfl)) rfl, ⟨by decide, by decide⟩, by decide +kernel, by decide⟩
theorem sm_Jm_abs_I : xm_Sm mt_Jm_abs_I 1 := ⟨ok_Jm_abs_I, xm_tb_in (in_t5 _ (List.mem_of_getElem? (i := 85) rfl)) rfl⟩
theorem ok_Jm_abs_J : xm_ok mt_Jm_abs_J 1 := ⟨xm_tb_in (in_t3 _ (List.mem_of_getElem? (i := 134) rfl)) rfl, xm_tb_in (in_t1 _ (List.mem_of_getElem? (i := 14) rfl)) rfl, ⟨by decide, by decide⟩, by decide +kernel, by decide⟩
theorem sm_Jm_abs_J : xm_Sm mt_Jm_abs_J 1 := ⟨ok_Jm_abs_J, xm_tb_in (in_t3 _ (List.mem_of_getElem? (i := 133) rfl)) rfl⟩
theorem ok_Jm_floorDiv_I : xm_ok mt_Jm_floorDiv_I 2 := ⟨xm_tb_in (in_t4 _ (List.mem_of_getElem? (i := 168) rfl)) rfl, xm_tb_in (in_t1 _ (List.mem_of_getElem? (i := 14) rfl)) rfl, ⟨by decide, by decide⟩, by decide +kernel, by decide⟩
theorem sm_Jm_floorDiv_I : xm_Sm mt_Jm_floorDiv_I 2 := ⟨ok_Jm_floorDiv_I, xm_tb_in (in_t4 _ (List.mem_of_getElem? (i := 167) rfl)) rfl⟩
theorem ok_Jm_floorDiv_J : xm_ok mt_Jm_floorDiv_J 2 := ⟨xm_tb_in (in_t4 _ (List.mem_of_getElem? (i := 190) rfl)) rfl, xm_tb_in (in_t1 _ (List.mem_of_getElem? (i := 14) rfl)) rfl, ⟨by decide, by decide⟩, by decide +kernel, by decide⟩
theorem sm_Jm_floorDiv_J : xm_Sm mt_Jm_floorDiv_J 2 := ⟨ok_Jm_floorDiv_J, xm_tb_in (in_t4 _ (List.mem_of_getElem? (i := 189) rfl)) rfl⟩
theorem ok_Jm_max_I : xm_ok mt_Jm_max_I 2 := ⟨xm_tb_in (in_t3 _ (List.mem_of_getElem? (i := 147) rfl)) rfl, xm_tb_in (in_t1 _ (List.mem_of_getElem? (i := 14) rfl)) rfl, ⟨by decide, by decide⟩, by decide +kernel, by decide⟩
theorem sm_Jm_max_I : xm_Sm mt_Jm_max_I 2 := ⟨ok_Jm_max_I, xm_tb_in (in_t3 _ (List.mem_of_getElem? (i := 146) rfl)) rfl⟩
theorem ok_Jm_min_I : xm_ok mt_Jm_min_I 2 := ⟨xm_tb_in (in_t3 _ (List.mem_of_getElem? (i := 144) rfl)) rfl, xm_tb_in (in_t1 _ (List.mem_of_getElem? (i := 14) rfl)) rfl, ⟨by decide, by decide⟩, by decide +kernel, by decide⟩
theorem sm_Jm_min_I : xm_Sm mt_Jm_min_I 2 := ⟨ok_Jm_min_I, xm_tb_in (in_t3 _ (List.mem_of_getElem? (i := 143) rfl)) rfl⟩
theorem ct_D_86 : Cond.constant RX11 86 (-100002) ∈ xm_tb := xm_tb_in (in_t2 _ (List.mem_of_getElem? (i := 205) rfl)) rfl
theorem ct_D_91 : Cond.constant RX11 91 (-100004) ∈ xm_tb := xm_tb_in (in_t2 _ (List.mem_of_getElem? (i := 210) rfl)) rfl
theorem ct_D_100 : Cond.constant RX11 100 (-100001) ∈ xm_tb := xm_tb_in (in_t2 _ (List.mem_of_getElem? (i := 225) rfl)) rfl
theorem ct_D_128 : Cond.constant RX11 128 (-100003) ∈ xm_tb := xm_tb_in (in_t3 _ (List.mem_of_getElem? (i := 38) rfl)) rfl
theorem ct_D_160 : Cond.constant RX11 160 40000 ∈ xm_tb := xm_tb_in (in_t3 _ (List.mem_of_getElem? (i := 120) rfl)) rfl
theorem ct_D_165 : Cond.constant RX11 165 (-40000) ∈ xm_tb := xm_tb_in (in_t3 _ (List.mem_of_getElem? (i := 139) rfl)) rfl
theorem ct_Fg_52 : Cond.constant RX1 52 (-100004) ∈ xm_tb := xm_tb_in (in_t3 _ (List.mem_of_getElem? (i := 20) rfl)) rfl
theorem ct_Lb_29 : Cond.constant RX4 29 (-100004) ∈ xm_tb := xm_tb_in (in_t4 _ (List.mem_of_getElem? (i := 130) rfl)) rfl
theorem ct_Pt_32 : Cond.constant RX8 32 (-100004) ∈ xm_tb := xm_tb_in (in_t2 _ (List.mem_of_getElem? (i := 216) rfl)) rfl
theorem ct_So_50 : Cond.constant RX9 50 (-100004) ∈ xm_tb := xm_tb_in (in_t4 _ (List.mem_of_getElem? (i := 38) rfl)) rfl
theorem ct_Ss_25 : Cond.constant RX10 25 (-100004) ∈ xm_tb := xm_tb_in (in_t3 _ (List.mem_of_getElem? (i := 220) rfl)) rfl
theorem ct_M_93 : Cond.constant RX12 93 42000 ∈ xm_tb := xm_tb_in (in_t6 _ (List.mem_of_getElem? (i := 148) rfl)) rfl
theorem ct_M_154 : Cond.constant RX12 154 (-100002) ∈ xm_tb := xm_tb_in (in_t7 _ (List.mem_of_getElem? (i := 153) rfl)) rfl
theorem ct_M_155 : Cond.constant RX12 155 (-100004) ∈ xm_tb := xm_tb_in (in_t7 _ (List.mem_of_getElem? (i := 154) rfl)) rfl
theorem ct_M_160 : Cond.constant RX12 160 (-100001) ∈ xm_tb := xm_tb_in (in_t7 _ (List.mem_of_getElem? (i := 163) rfl)) rfl
theorem ct_M_185 : Cond.constant RX12 185 (-100003) ∈ xm_tb := xm_tb_in (in_t7 _ (List.mem_of_getElem? (i := 199) rfl)) rfl
theorem ct_M_213 : Cond.constant RX12 213 (-40000) ∈ xm_tb := xm_tb_in (in_t8 _ (List.mem_of_getElem? (i := 10) rfl)) rfl
theorem ct_M_214 : Cond.constant RX12 214 40000 ∈ xm_tb := xm_tb_in (in_t8 _ (List.mem_of_getElem? (i := 11) rfl)) rfl
theorem ct_Ji_265 : Cond.constant RJ6 265 1431655765 ∈ xm_tb := xm_tb_in (in_t4 _ (List.mem_of_getElem? (i := 56) rfl)) rfl
theorem ct_Ji_266 : Cond.constant RJ6 266 858993459 ∈ xm_tb := xm_tb_in (in_t4 _ (List.mem_of_getElem? (i := 57) rfl)) rfl
theorem ct_Ji_267 : Cond.constant RJ6 267 252645135 ∈ xm_tb := xm_tb_in (in_t4 _ (List.mem_of_getElem? (i := 58) rfl)) rfl
theorem ct_D_219 : Cond.constantFloat RX11 219 3351466112 ∈ xm_tb := xm_tb_in (in_t3 _ (List.mem_of_getElem? (i := 185) rfl)) rfl
theorem ct_D_220 : Cond.constantFloat RX11 220 3351466240 ∈ xm_tb := xm_tb_in (in_t3 _ (List.mem_of_getElem? (i := 186) rfl)) rfl
theorem ct_M_267 : Cond.constantFloat RX12 267 3351466112 ∈ xm_tb := xm_tb_in (in_t8 _ (List.mem_of_getElem? (i := 53) rfl)) rfl
theorem ct_M_268 : Cond.constantFloat RX12 268 3351466240 ∈ xm_tb := xm_tb_in (in_t8 _ (List.mem_of_getElem? (i := 54) rfl)) rfl
theorem ct_D_151 : Cond.constantLong RX11 151 (-100001) ∈ xm_tb := xm_tb_in (in_t3 _ (List.mem_of_getElem? (i := 113) rfl)) rfl
theorem ct_D_374 : Cond.constantLong RX11 374 2 ∈ xm_tb := xm_tb_in (in_t4 _ (List.mem_of_getElem? (i := 187) rfl)) rfl
theorem ct_Cu_28 : Cond.constantLong RX0 28 (-1000000) ∈ xm_tb := xm_tb_in (in_t5 _ (List.mem_of_getElem? (i := 38) rfl)) rfl
theorem ct_Cu_37 : Cond.constantLong RX0 37 1000000 ∈ xm_tb := xm_tb_in (in_t5 _ (List.mem_of_getElem? (i := 39) rfl)) rfl
theorem ct_Fr_52 : Cond.constantLong RX2 52 2 ∈ xm_tb := xm_tb_in (in_t3 _ (List.mem_of_getElem? (i := 197) rfl)) rfl
theorem ct_Fr_68 : Cond.constantLong RX2 68 4 ∈ xm_tb := xm_tb_in (in_t5 _ (List.mem_of_getElem? (i := 91) rfl)) rfl
theorem ct_Mk_73 : Cond.constantLong RX5 73 10 ∈ xm_tb := xm_tb_in (in_t6 _ (List.mem_of_getElem? (i := 45) rfl)) rfl
theorem ct_Pn_245 : Cond.constantLong RX6 245 2 ∈ xm_tb := xm_tb_in (in_t5 _ (List.mem_of_getElem? (i := 70) rfl)) rfl
theorem ct_M_146 : Cond.constantLong RX12 146 (-20000) ∈ xm_tb := xm_tb_in (in_t7 _ (List.mem_of_getElem? (i := 148) rfl)) rfl
theorem ct_M_148 : Cond.constantLong RX12 148 20000 ∈ xm_tb := xm_tb_in (in_t7 _ (List.mem_of_getElem? (i := 149) rfl)) rfl
theorem ct_M_161 : Cond.constantLong RX12 161 (-100) ∈ xm_tb := xm_tb_in (in_t7 _ (List.mem_of_getElem? (i := 164) rfl)) rfl
theorem ct_M_163 : Cond.constantLong RX12 163 100 ∈ xm_tb := xm_tb_in (in_t7 _ (List.mem_of_getElem? (i := 165) rfl)) rfl
theorem ct_M_175 : Cond.constantLong RX12 175 6 ∈ xm_tb := xm_tb_in (in_t7 _ (List.mem_of_getElem? (i := 189) rfl)) rfl
theorem ct_M_180 : Cond.constantLong RX12 180 3 ∈ xm_tb := xm_tb_in (in_t7 _ (List.mem_of_getElem? (i := 190) rfl)) rfl
theorem ct_M_189 : Cond.constantLong RX12 189 2 ∈ xm_tb := xm_tb_in (in_t7 _ (List.mem_of_getElem? (i := 208) rfl)) rfl
theorem ct_M_191 : Cond.constantLong RX12 191 9 ∈ xm_tb := xm_tb_in (in_t7 _ (List.mem_of_getElem? (i := 213) rfl)) rfl
theorem ct_M_211 : Cond.constantLong RX12 211 (-100001) ∈ xm_tb := xm_tb_in (in_t8 _ (List.mem_of_getElem? (i := 2) rfl)) rfl
theorem ct_M_224 : Cond.constantLong RX12 224 16 ∈ xm_tb := xm_tb_in (in_t8 _ (List.mem_of_getElem? (i := 24) rfl)) rfl
theorem ct_M_226 : Cond.constantLong RX12 226 400 ∈ xm_tb := xm_tb_in (in_t8 _ (List.mem_of_getElem? (i := 25) rfl)) rfl
theorem ct_M_228 : Cond.constantLong RX12 228 7 ∈ xm_tb := xm_tb_in (in_t8 _ (List.mem_of_getElem? (i := 26) rfl)) rfl
theorem ct_M_233 : Cond.constantLong RX12 233 40000 ∈ xm_tb := xm_tb_in (in_t8 _ (List.mem_of_getElem? (i := 31) rfl)) rfl
theorem ct_M_238 : Cond.constantLong RX12 238 10 ∈ xm_tb := xm_tb_in (in_t8 _ (List.mem_of_getElem? (i := 36) rfl)) rfl
theorem ct_M_240 : Cond.constantLong RX12 240 1000 ∈ xm_tb := xm_tb_in (in_t8 _ (List.mem_of_getElem? (i := 37) rfl)) rfl
theorem ct_M_269 : Cond.constantLong RX12 269 50 ∈ xm_tb := xm_tb_in (in_t8 _ (List.mem_of_getElem? (i := 63) rfl)) rfl
theorem ct_M_274 : Cond.constantLong RX12 274 4 ∈ xm_tb := xm_tb_in (in_t8 _ (List.mem_of_getElem? (i := 80) rfl)) rfl
theorem ct_M_369 : Cond.constantLong RX12 369 100000000 ∈ xm_tb := xm_tb_in (in_t8 _ (List.mem_of_getElem? (i := 176) rfl)) rfl
theorem ct_M_499 : Cond.constantLong RX12 499 8 ∈ xm_tb := xm_tb_in (in_t9 _ (List.mem_of_getElem? (i := 36) rfl)) rfl
theorem ct_M_510 : Cond.constantLong RX12 510 48 ∈ xm_tb := xm_tb_in (in_t8 _ (List.mem_of_getElem? (i := 116) rfl)) rfl
theorem ct_M_512 : Cond.constantLong RX12 512 5 ∈ xm_tb := xm_tb_in (in_t9 _ (List.mem_of_getElem? (i := 65) rfl)) rfl
theorem ct_T : Cond.fieldLink RX7 109 "DrawLabels$Placer" "TOP_FROM_ANCHOR" "[I" ∈ xm_tb := xm_tb_in (in_t5 _ (List.mem_of_getElem? (i := 191) rfl)) rfl
theorem kb_m100 : (Int8.ofInt (-100)).toInt32 = (-100) := by decide
theorem kb_m3 : (Int8.ofInt (-3)).toInt32 = (-3) := by decide
theorem kb_m2 : (Int8.ofInt (-2)).toInt32 = (-2) := by decide
theorem kb_6 : (Int8.ofInt 6).toInt32 = 6 := by decide
theorem kb_7 : (Int8.ofInt 7).toInt32 = 7 := by decide
theorem kb_8 : (Int8.ofInt 8).toInt32 = 8 := by decide
theorem kb_9 : (Int8.ofInt 9).toInt32 = 9 := by decide
theorem kb_10 : (Int8.ofInt 10).toInt32 = 10 := by decide
theorem kb_11 : (Int8.ofInt 11).toInt32 = 11 := by decide
theorem kb_12 : (Int8.ofInt 12).toInt32 = 12 := by decide
theorem kb_15 : (Int8.ofInt 15).toInt32 = 15 := by decide
theorem kb_16 : (Int8.ofInt 16).toInt32 = 16 := by decide
theorem kb_17 : (Int8.ofInt 17).toInt32 = 17 := by decide
theorem kb_20 : (Int8.ofInt 20).toInt32 = 20 := by decide
theorem kb_30 : (Int8.ofInt 30).toInt32 = 30 := by decide
theorem kb_31 : (Int8.ofInt 31).toInt32 = 31 := by decide
theorem kb_32 : (Int8.ofInt 32).toInt32 = 32 := by decide
theorem kb_36 : (Int8.ofInt 36).toInt32 = 36 := by decide
theorem kb_40 : (Int8.ofInt 40).toInt32 = 40 := by decide
theorem kb_45 : (Int8.ofInt 45).toInt32 = 45 := by decide
theorem kb_48 : (Int8.ofInt 48).toInt32 = 48 := by decide
theorem kb_60 : (Int8.ofInt 60).toInt32 = 60 := by decide
theorem kb_62 : (Int8.ofInt 62).toInt32 = 62 := by decide
theorem kb_63 : (Int8.ofInt 63).toInt32 = 63 := by decide
theorem kb_64 : (Int8.ofInt 64).toInt32 = 64 := by decide
theorem kb_65 : (Int8.ofInt 65).toInt32 = 65 := by decide
theorem kb_67 : (Int8.ofInt 67).toInt32 = 67 := by decide
theorem kb_68 : (Int8.ofInt 68).toInt32 = 68 := by decide
theorem kb_70 : (Int8.ofInt 70).toInt32 = 70 := by decide
theorem kb_83 : (Int8.ofInt 83).toInt32 = 83 := by decide
theorem kb_84 : (Int8.ofInt 84).toInt32 = 84 := by decide
theorem kb_87 : (Int8.ofInt 87).toInt32 = 87 := by decide
theorem kb_100 : (Int8.ofInt 100).toInt32 = 100 := by decide
theorem ki_m1 : Int32.ofInt (-1) = (-1) := by decide
theorem ki_0 : Int32.ofInt 0 = 0 := by decide
theorem ki_1 : Int32.ofInt 1 = 1 := by decide
theorem ki_2 : Int32.ofInt 2 = 2 := by decide
theorem ki_3 : Int32.ofInt 3 = 3 := by decide
theorem ki_4 : Int32.ofInt 4 = 4 := by decide
theorem ki_5 : Int32.ofInt 5 = 5 := by decide
theorem ks_m20000 : (Int16.ofInt (-20000)).toInt32 = (-20000) := by decide
theorem ks_144 : (Int16.ofInt 144).toInt32 = 144 := by decide
theorem ks_160 : (Int16.ofInt 160).toInt32 = 160 := by decide
theorem ks_400 : (Int16.ofInt 400).toInt32 = 400 := by decide
theorem ks_600 : (Int16.ofInt 600).toInt32 = 600 := by decide
theorem ks_1000 : (Int16.ofInt 1000).toInt32 = 1000 := by decide
theorem ks_20000 : (Int16.ofInt 20000).toInt32 = 20000 := by decide
theorem xm_sr2 {n a : Nat} (hs : xm_sd n a) : RC n a 2 = some (a + 1) := xm_sdR hs (by decide) (by decide)
theorem xm_sr3 {n a : Nat} (hs : xm_sd n a) : RC n a 3 = some (a + 2) := xm_sdR hs (by decide) (by decide)
theorem xm_sr4 {n a : Nat} (hs : xm_sd n a) : RC n a 4 = some (a + 3) := xm_sdR hs (by decide) (by decide)
theorem xm_sr5 {n a : Nat} (hs : xm_sd n a) : RC n a 5 = some (a + 4) := xm_sdR hs (by decide) (by decide)
theorem xm_sr6 {n a : Nat} (hs : xm_sd n a) : RC n a 6 = some (a + 5) := xm_sdR hs (by decide) (by decide)
theorem xm_sr7 {n a : Nat} (hs : xm_sd n a) : RC n a 7 = some (a + 6) := xm_sdR hs (by decide) (by decide)
theorem xm_sr8 {n a : Nat} (hs : xm_sd n a) : RC n a 8 = some (a + 7) := xm_sdR hs (by decide) (by decide)
theorem xm_al32 (x : UInt32) : alike32 x x = true := by simp [alike32]
