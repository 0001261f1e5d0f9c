/-! THE CONSTRUCTORS -/
theorem w_obi : Cond.instanceMethod Lib.objectInit ∈ pm_TB := pm_TB_at 62 (by decide +kernel) (by decide +kernel)
theorem w_obc : Cond.code Lib.objectInit ⟨#[0xb1]⟩ 1 none ∈ pm_TB := pm_TB_at 63 (by decide +kernel) (by decide +kernel)
theorem wo_Acts : Cond.methodLink RX0 3 Lib.objectInit ∈ pm_TB := pm_TB_at 179 (by decide +kernel) (by decide +kernel)
theorem dt_Acts_0 : decode prog_2_method_1_code 0 = .ok (.aload_n 0, 1) := by decide +kernel
theorem dt_Acts_1 : decode prog_2_method_1_code 1 = .ok (.invokespecial 3, 3) := by decide +kernel
theorem dt_Acts_4 : decode prog_2_method_1_code 4 = .ok (.aload_n 0, 1) := by decide +kernel
theorem dt_Acts_5 : decode prog_2_method_1_code 5 = .ok (.bipush 8, 2) := by decide +kernel
theorem dt_Acts_7 : decode prog_2_method_1_code 7 = .ok (.bipush 10, 2) := by decide +kernel
theorem dt_Acts_9 : decode prog_2_method_1_code 9 = .ok (.multianewarray 9 2, 4) := by decide +kernel
theorem dt_Acts_13 : decode prog_2_method_1_code 13 = .ok (.putfield 11, 3) := by decide +kernel
theorem dt_Acts_16 : decode prog_2_method_1_code 16 = .ok (.return_, 1) := by decide +kernel
theorem fr_Acts_11 : pm_FR RX0 11 0 2 := ⟨RX0, TX0, 3, tyX0, .array (.array .int), rfl, by decide, wi_0, pm_TB_at 185 (by decide +kernel) (by decide +kernel), tyX0_ok, nmX0, rfl, rfl, by decide +kernel, fun _ => ⟨rfl, rfl⟩⟩
theorem wo_Board : Cond.methodLink RX1 3 Lib.objectInit ∈ pm_TB := pm_TB_at 131 (by decide +kernel) (by decide +kernel)
theorem dt_Board_0 : decode prog_3_method_1_code 0 = .ok (.aload_n 0, 1) := by decide +kernel
theorem dt_Board_1 : decode prog_3_method_1_code 1 = .ok (.invokespecial 3, 3) := by decide +kernel
theorem dt_Board_4 : decode prog_3_method_1_code 4 = .ok (.aload_n 0, 1) := by decide +kernel
theorem dt_Board_5 : decode prog_3_method_1_code 5 = .ok (.bipush 10, 2) := by decide +kernel
theorem dt_Board_7 : decode prog_3_method_1_code 7 = .ok (.newarray .int, 2) := by decide +kernel
theorem dt_Board_9 : decode prog_3_method_1_code 9 = .ok (.putfield 9, 3) := by decide +kernel
theorem dt_Board_12 : decode prog_3_method_1_code 12 = .ok (.aload_n 0, 1) := by decide +kernel
theorem dt_Board_13 : decode prog_3_method_1_code 13 = .ok (.bipush 10, 2) := by decide +kernel
theorem dt_Board_15 : decode prog_3_method_1_code 15 = .ok (.newarray .int, 2) := by decide +kernel
theorem dt_Board_17 : decode prog_3_method_1_code 17 = .ok (.putfield 15, 3) := by decide +kernel
theorem dt_Board_20 : decode prog_3_method_1_code 20 = .ok (.aload_n 0, 1) := by decide +kernel
theorem dt_Board_21 : decode prog_3_method_1_code 21 = .ok (.bipush 10, 2) := by decide +kernel
theorem dt_Board_23 : decode prog_3_method_1_code 23 = .ok (.newarray .int, 2) := by decide +kernel
theorem dt_Board_25 : decode prog_3_method_1_code 25 = .ok (.putfield 18, 3) := by decide +kernel
theorem dt_Board_28 : decode prog_3_method_1_code 28 = .ok (.aload_n 0, 1) := by decide +kernel
theorem dt_Board_29 : decode prog_3_method_1_code 29 = .ok (.bipush 10, 2) := by decide +kernel
theorem dt_Board_31 : decode prog_3_method_1_code 31 = .ok (.newarray .boolean, 2) := by decide +kernel
theorem dt_Board_33 : decode prog_3_method_1_code 33 = .ok (.putfield 21, 3) := by decide +kernel
theorem dt_Board_36 : decode prog_3_method_1_code 36 = .ok (.aload_n 0, 1) := by decide +kernel
theorem dt_Board_37 : decode prog_3_method_1_code 37 = .ok (.bipush 6, 2) := by decide +kernel
theorem dt_Board_39 : decode prog_3_method_1_code 39 = .ok (.newarray .int, 2) := by decide +kernel
theorem dt_Board_41 : decode prog_3_method_1_code 41 = .ok (.putfield 25, 3) := by decide +kernel
theorem dt_Board_44 : decode prog_3_method_1_code 44 = .ok (.aload_n 0, 1) := by decide +kernel
theorem dt_Board_45 : decode prog_3_method_1_code 45 = .ok (.bipush 6, 2) := by decide +kernel
theorem dt_Board_47 : decode prog_3_method_1_code 47 = .ok (.newarray .int, 2) := by decide +kernel
theorem dt_Board_49 : decode prog_3_method_1_code 49 = .ok (.putfield 28, 3) := by decide +kernel
theorem dt_Board_52 : decode prog_3_method_1_code 52 = .ok (.aload_n 0, 1) := by decide +kernel
theorem dt_Board_53 : decode prog_3_method_1_code 53 = .ok (.bipush 6, 2) := by decide +kernel
theorem dt_Board_55 : decode prog_3_method_1_code 55 = .ok (.newarray .boolean, 2) := by decide +kernel
theorem dt_Board_57 : decode prog_3_method_1_code 57 = .ok (.putfield 31, 3) := by decide +kernel
theorem dt_Board_60 : decode prog_3_method_1_code 60 = .ok (.return_, 1) := by decide +kernel
theorem fr_Board_9 : pm_FR RX1 9 1 3 := ⟨RX1, TX1, 10, tyX1, .array .int, rfl, by decide, wi_1, pm_TB_at 138 (by decide +kernel) (by decide +kernel), tyX1_ok, nmX1, rfl, rfl, by decide +kernel, fun _ => ⟨rfl, rfl⟩⟩
theorem fr_Board_15 : pm_FR RX1 15 1 4 := ⟨RX1, TX1, 10, tyX1, .array .int, rfl, by decide, wi_1, pm_TB_at 140 (by decide +kernel) (by decide +kernel), tyX1_ok, nmX1, rfl, rfl, by decide +kernel, fun _ => ⟨rfl, rfl⟩⟩
theorem fr_Board_18 : pm_FR RX1 18 1 5 := ⟨RX1, TX1, 10, tyX1, .array .int, rfl, by decide, wi_1, pm_TB_at 142 (by decide +kernel) (by decide +kernel), tyX1_ok, nmX1, rfl, rfl, by decide +kernel, fun _ => ⟨rfl, rfl⟩⟩
theorem fr_Board_21 : pm_FR RX1 21 1 6 := ⟨RX1, TX1, 10, tyX1, .array .boolean, rfl, by decide, wi_1, pm_TB_at 144 (by decide +kernel) (by decide +kernel), tyX1_ok, nmX1, rfl, rfl, by decide +kernel, fun _ => ⟨rfl, rfl⟩⟩
theorem fr_Board_25 : pm_FR RX1 25 1 7 := ⟨RX1, TX1, 10, tyX1, .array .int, rfl, by decide, wi_1, pm_TB_at 147 (by decide +kernel) (by decide +kernel), tyX1_ok, nmX1, rfl, rfl, by decide +kernel, fun _ => ⟨rfl, rfl⟩⟩
theorem fr_Board_28 : pm_FR RX1 28 1 8 := ⟨RX1, TX1, 10, tyX1, .array .int, rfl, by decide, wi_1, pm_TB_at 148 (by decide +kernel) (by decide +kernel), tyX1_ok, nmX1, rfl, rfl, by decide +kernel, fun _ => ⟨rfl, rfl⟩⟩
theorem fr_Board_31 : pm_FR RX1 31 1 9 := ⟨RX1, TX1, 10, tyX1, .array .boolean, rfl, by decide, wi_1, pm_TB_at 149 (by decide +kernel) (by decide +kernel), tyX1_ok, nmX1, rfl, rfl, by decide +kernel, fun _ => ⟨rfl, rfl⟩⟩
theorem wo_Group : Cond.methodLink RX2 3 Lib.objectInit ∈ pm_TB := pm_TB_at 69 (by decide +kernel) (by decide +kernel)
theorem dt_Group_0 : decode prog_4_method_1_code 0 = .ok (.aload_n 0, 1) := by decide +kernel
theorem dt_Group_1 : decode prog_4_method_1_code 1 = .ok (.invokespecial 3, 3) := by decide +kernel
theorem dt_Group_4 : decode prog_4_method_1_code 4 = .ok (.aload_n 0, 1) := by decide +kernel
theorem dt_Group_5 : decode prog_4_method_1_code 5 = .ok (.bipush 64, 2) := by decide +kernel
theorem dt_Group_7 : decode prog_4_method_1_code 7 = .ok (.newarray .int, 2) := by decide +kernel
theorem dt_Group_9 : decode prog_4_method_1_code 9 = .ok (.putfield 9, 3) := by decide +kernel
theorem dt_Group_12 : decode prog_4_method_1_code 12 = .ok (.aload_n 0, 1) := by decide +kernel
theorem dt_Group_13 : decode prog_4_method_1_code 13 = .ok (.bipush 64, 2) := by decide +kernel
theorem dt_Group_15 : decode prog_4_method_1_code 15 = .ok (.newarray .int, 2) := by decide +kernel
theorem dt_Group_17 : decode prog_4_method_1_code 17 = .ok (.putfield 15, 3) := by decide +kernel
theorem dt_Group_20 : decode prog_4_method_1_code 20 = .ok (.aload_n 0, 1) := by decide +kernel
theorem dt_Group_21 : decode prog_4_method_1_code 21 = .ok (.bipush 8, 2) := by decide +kernel
theorem dt_Group_23 : decode prog_4_method_1_code 23 = .ok (.newarray .int, 2) := by decide +kernel
theorem dt_Group_25 : decode prog_4_method_1_code 25 = .ok (.putfield 18, 3) := by decide +kernel
theorem dt_Group_28 : decode prog_4_method_1_code 28 = .ok (.aload_n 0, 1) := by decide +kernel
theorem dt_Group_29 : decode prog_4_method_1_code 29 = .ok (.bipush 8, 2) := by decide +kernel
theorem dt_Group_31 : decode prog_4_method_1_code 31 = .ok (.newarray .int, 2) := by decide +kernel
theorem dt_Group_33 : decode prog_4_method_1_code 33 = .ok (.putfield 21, 3) := by decide +kernel
theorem dt_Group_36 : decode prog_4_method_1_code 36 = .ok (.aload_n 0, 1) := by decide +kernel
theorem dt_Group_37 : decode prog_4_method_1_code 37 = .ok (.bipush 8, 2) := by decide +kernel
theorem dt_Group_39 : decode prog_4_method_1_code 39 = .ok (.newarray .int, 2) := by decide +kernel
theorem dt_Group_41 : decode prog_4_method_1_code 41 = .ok (.putfield 24, 3) := by decide +kernel
theorem dt_Group_44 : decode prog_4_method_1_code 44 = .ok (.aload_n 0, 1) := by decide +kernel
theorem dt_Group_45 : decode prog_4_method_1_code 45 = .ok (.iconst 1, 1) := by decide +kernel
theorem dt_Group_46 : decode prog_4_method_1_code 46 = .ok (.invokevirtual 27, 3) := by decide +kernel
theorem dt_Group_49 : decode prog_4_method_1_code 49 = .ok (.aload_n 0, 1) := by decide +kernel
theorem dt_Group_50 : decode prog_4_method_1_code 50 = .ok (.iconst 1, 1) := by decide +kernel
theorem dt_Group_51 : decode prog_4_method_1_code 51 = .ok (.invokevirtual 31, 3) := by decide +kernel
theorem dt_Group_54 : decode prog_4_method_1_code 54 = .ok (.return_, 1) := by decide +kernel
theorem fr_Group_9 : pm_FR RX2 9 2 1 := ⟨RX2, TX2, 6, tyX2, .array .int, rfl, by decide, wi_2, pm_TB_at 99 (by decide +kernel) (by decide +kernel), tyX2_ok, nmX2, rfl, rfl, by decide +kernel, fun _ => ⟨rfl, rfl⟩⟩
theorem fr_Group_15 : pm_FR RX2 15 2 2 := ⟨RX2, TX2, 6, tyX2, .array .int, rfl, by decide, wi_2, pm_TB_at 101 (by decide +kernel) (by decide +kernel), tyX2_ok, nmX2, rfl, rfl, by decide +kernel, fun _ => ⟨rfl, rfl⟩⟩
theorem fr_Group_18 : pm_FR RX2 18 2 3 := ⟨RX2, TX2, 6, tyX2, .array .int, rfl, by decide, wi_2, pm_TB_at 102 (by decide +kernel) (by decide +kernel), tyX2_ok, nmX2, rfl, rfl, by decide +kernel, fun _ => ⟨rfl, rfl⟩⟩
theorem fr_Group_21 : pm_FR RX2 21 2 4 := ⟨RX2, TX2, 6, tyX2, .array .int, rfl, by decide, wi_2, pm_TB_at 106 (by decide +kernel) (by decide +kernel), tyX2_ok, nmX2, rfl, rfl, by decide +kernel, fun _ => ⟨rfl, rfl⟩⟩
theorem fr_Group_24 : pm_FR RX2 24 2 5 := ⟨RX2, TX2, 6, tyX2, .array .int, rfl, by decide, wi_2, pm_TB_at 109 (by decide +kernel) (by decide +kernel), tyX2_ok, nmX2, rfl, rfl, by decide +kernel, fun _ => ⟨rfl, rfl⟩⟩
theorem wo_Sheet : Cond.methodLink RX3 3 Lib.objectInit ∈ pm_TB := pm_TB_at 252 (by decide +kernel) (by decide +kernel)
theorem dt_Sheet_0 : decode prog_5_method_1_code 0 = .ok (.aload_n 0, 1) := by decide +kernel
theorem dt_Sheet_1 : decode prog_5_method_1_code 1 = .ok (.invokespecial 3, 3) := by decide +kernel
theorem dt_Sheet_4 : decode prog_5_method_1_code 4 = .ok (.aload_n 0, 1) := by decide +kernel
theorem dt_Sheet_5 : decode prog_5_method_1_code 5 = .ok (.bipush 64, 2) := by decide +kernel
theorem dt_Sheet_7 : decode prog_5_method_1_code 7 = .ok (.newarray .int, 2) := by decide +kernel
theorem dt_Sheet_9 : decode prog_5_method_1_code 9 = .ok (.putfield 9, 3) := by decide +kernel
theorem dt_Sheet_12 : decode prog_5_method_1_code 12 = .ok (.return_, 1) := by decide +kernel
theorem fr_Sheet_9 : pm_FR RX3 9 3 3 := ⟨RX3, TX3, 4, tyX3, .array .int, rfl, by decide, wi_3, pm_TB_at 258 (by decide +kernel) (by decide +kernel), tyX3_ok, nmX3, rfl, rfl, by decide +kernel, fun _ => ⟨rfl, rfl⟩⟩
theorem wo_Sums : Cond.methodLink RX4 3 Lib.objectInit ∈ pm_TB := pm_TB_at 200 (by decide +kernel) (by decide +kernel)
theorem dt_Sums_0 : decode prog_6_method_1_code 0 = .ok (.aload_n 0, 1) := by decide +kernel
theorem dt_Sums_1 : decode prog_6_method_1_code 1 = .ok (.invokespecial 3, 3) := by decide +kernel
theorem dt_Sums_4 : decode prog_6_method_1_code 4 = .ok (.aload_n 0, 1) := by decide +kernel
theorem dt_Sums_5 : decode prog_6_method_1_code 5 = .ok (.bipush 8, 2) := by decide +kernel
theorem dt_Sums_7 : decode prog_6_method_1_code 7 = .ok (.newarray .boolean, 2) := by decide +kernel
theorem dt_Sums_9 : decode prog_6_method_1_code 9 = .ok (.putfield 9, 3) := by decide +kernel
theorem dt_Sums_12 : decode prog_6_method_1_code 12 = .ok (.aload_n 0, 1) := by decide +kernel
theorem dt_Sums_13 : decode prog_6_method_1_code 13 = .ok (.bipush 8, 2) := by decide +kernel
theorem dt_Sums_15 : decode prog_6_method_1_code 15 = .ok (.bipush 8, 2) := by decide +kernel
theorem dt_Sums_17 : decode prog_6_method_1_code 17 = .ok (.multianewarray 15 2, 4) := by decide +kernel
theorem dt_Sums_21 : decode prog_6_method_1_code 21 = .ok (.putfield 17, 3) := by decide +kernel
theorem dt_Sums_24 : decode prog_6_method_1_code 24 = .ok (.aload_n 0, 1) := by decide +kernel
theorem dt_Sums_25 : decode prog_6_method_1_code 25 = .ok (.bipush 8, 2) := by decide +kernel
theorem dt_Sums_27 : decode prog_6_method_1_code 27 = .ok (.newarray .int, 2) := by decide +kernel
theorem dt_Sums_29 : decode prog_6_method_1_code 29 = .ok (.putfield 20, 3) := by decide +kernel
theorem dt_Sums_32 : decode prog_6_method_1_code 32 = .ok (.aload_n 0, 1) := by decide +kernel
theorem dt_Sums_33 : decode prog_6_method_1_code 33 = .ok (.bipush 10, 2) := by decide +kernel
theorem dt_Sums_35 : decode prog_6_method_1_code 35 = .ok (.newarray .boolean, 2) := by decide +kernel
theorem dt_Sums_37 : decode prog_6_method_1_code 37 = .ok (.putfield 24, 3) := by decide +kernel
theorem dt_Sums_40 : decode prog_6_method_1_code 40 = .ok (.aload_n 0, 1) := by decide +kernel
theorem dt_Sums_41 : decode prog_6_method_1_code 41 = .ok (.bipush 10, 2) := by decide +kernel
theorem dt_Sums_43 : decode prog_6_method_1_code 43 = .ok (.newarray .boolean, 2) := by decide +kernel
theorem dt_Sums_45 : decode prog_6_method_1_code 45 = .ok (.putfield 27, 3) := by decide +kernel
theorem dt_Sums_48 : decode prog_6_method_1_code 48 = .ok (.aload_n 0, 1) := by decide +kernel
theorem dt_Sums_49 : decode prog_6_method_1_code 49 = .ok (.bipush 10, 2) := by decide +kernel
theorem dt_Sums_51 : decode prog_6_method_1_code 51 = .ok (.newarray .int, 2) := by decide +kernel
theorem dt_Sums_53 : decode prog_6_method_1_code 53 = .ok (.putfield 30, 3) := by decide +kernel
theorem dt_Sums_56 : decode prog_6_method_1_code 56 = .ok (.return_, 1) := by decide +kernel
theorem fr_Sums_9 : pm_FR RX4 9 4 0 := ⟨RX4, TX4, 6, tyX4, .array .boolean, rfl, by decide, wi_4, pm_TB_at 202 (by decide +kernel) (by decide +kernel), tyX4_ok, nmX4, rfl, rfl, by decide +kernel, fun _ => ⟨rfl, rfl⟩⟩
theorem fr_Sums_17 : pm_FR RX4 17 4 1 := ⟨RX4, TX4, 6, tyX4, .array (.array .int), rfl, by decide, wi_4, pm_TB_at 203 (by decide +kernel) (by decide +kernel), tyX4_ok, nmX4, rfl, rfl, by decide +kernel, fun _ => ⟨rfl, rfl⟩⟩
theorem fr_Sums_20 : pm_FR RX4 20 4 2 := ⟨RX4, TX4, 6, tyX4, .array .int, rfl, by decide, wi_4, pm_TB_at 204 (by decide +kernel) (by decide +kernel), tyX4_ok, nmX4, rfl, rfl, by decide +kernel, fun _ => ⟨rfl, rfl⟩⟩
theorem fr_Sums_24 : pm_FR RX4 24 4 3 := ⟨RX4, TX4, 6, tyX4, .array .boolean, rfl, by decide, wi_4, pm_TB_at 205 (by decide +kernel) (by decide +kernel), tyX4_ok, nmX4, rfl, rfl, by decide +kernel, fun _ => ⟨rfl, rfl⟩⟩
theorem fr_Sums_27 : pm_FR RX4 27 4 4 := ⟨RX4, TX4, 6, tyX4, .array .boolean, rfl, by decide, wi_4, pm_TB_at 206 (by decide +kernel) (by decide +kernel), tyX4_ok, nmX4, rfl, rfl, by decide +kernel, fun _ => ⟨rfl, rfl⟩⟩
theorem fr_Sums_30 : pm_FR RX4 30 4 5 := ⟨RX4, TX4, 6, tyX4, .array .int, rfl, by decide, wi_4, pm_TB_at 207 (by decide +kernel) (by decide +kernel), tyX4_ok, nmX4, rfl, rfl, by decide +kernel, fun _ => ⟨rfl, rfl⟩⟩
theorem wo_Walk : Cond.methodLink RX5 3 Lib.objectInit ∈ pm_TB := pm_TB_at 225 (by decide +kernel) (by decide +kernel)
theorem dt_Walk_0 : decode prog_7_method_1_code 0 = .ok (.aload_n 0, 1) := by decide +kernel
theorem dt_Walk_1 : decode prog_7_method_1_code 1 = .ok (.invokespecial 3, 3) := by decide +kernel
theorem dt_Walk_4 : decode prog_7_method_1_code 4 = .ok (.aload_n 0, 1) := by decide +kernel
theorem dt_Walk_5 : decode prog_7_method_1_code 5 = .ok (.bipush 6, 2) := by decide +kernel
theorem dt_Walk_7 : decode prog_7_method_1_code 7 = .ok (.newarray .int, 2) := by decide +kernel
theorem dt_Walk_9 : decode prog_7_method_1_code 9 = .ok (.putfield 9, 3) := by decide +kernel
theorem dt_Walk_12 : decode prog_7_method_1_code 12 = .ok (.aload_n 0, 1) := by decide +kernel
theorem dt_Walk_13 : decode prog_7_method_1_code 13 = .ok (.bipush 6, 2) := by decide +kernel
theorem dt_Walk_15 : decode prog_7_method_1_code 15 = .ok (.newarray .boolean, 2) := by decide +kernel
theorem dt_Walk_17 : decode prog_7_method_1_code 17 = .ok (.putfield 15, 3) := by decide +kernel
theorem dt_Walk_20 : decode prog_7_method_1_code 20 = .ok (.return_, 1) := by decide +kernel
theorem fr_Walk_9 : pm_FR RX5 9 5 4 := ⟨RX5, TX5, 6, tyX5, .array .int, rfl, by decide, wi_5, pm_TB_at 233 (by decide +kernel) (by decide +kernel), tyX5_ok, nmX5, rfl, rfl, by decide +kernel, fun _ => ⟨rfl, rfl⟩⟩
theorem fr_Walk_15 : pm_FR RX5 15 5 5 := ⟨RX5, TX5, 6, tyX5, .array .boolean, rfl, by decide, wi_5, pm_TB_at 234 (by decide +kernel) (by decide +kernel), tyX5_ok, nmX5, rfl, rfl, by decide +kernel, fun _ => ⟨rfl, rfl⟩⟩
theorem wo_Tb : Cond.methodLink RX6 1 Lib.objectInit ∈ pm_TB := pm_TB_at 61 (by decide +kernel) (by decide +kernel)
theorem dt_Tb_0 : decode prog_1_method_1_code 0 = .ok (.aload_n 0, 1) := by decide +kernel
theorem dt_Tb_1 : decode prog_1_method_1_code 1 = .ok (.invokespecial 1, 3) := by decide +kernel
theorem dt_Tb_4 : decode prog_1_method_1_code 4 = .ok (.aload_n 0, 1) := by decide +kernel
theorem dt_Tb_5 : decode prog_1_method_1_code 5 = .ok (.new 7, 3) := by decide +kernel
theorem dt_Tb_8 : decode prog_1_method_1_code 8 = .ok (.dup, 1) := by decide +kernel
theorem dt_Tb_9 : decode prog_1_method_1_code 9 = .ok (.invokespecial 9, 3) := by decide +kernel
theorem dt_Tb_12 : decode prog_1_method_1_code 12 = .ok (.putfield 10, 3) := by decide +kernel
theorem dt_Tb_15 : decode prog_1_method_1_code 15 = .ok (.aload_n 0, 1) := by decide +kernel
theorem dt_Tb_16 : decode prog_1_method_1_code 16 = .ok (.new 16, 3) := by decide +kernel
theorem dt_Tb_19 : decode prog_1_method_1_code 19 = .ok (.dup, 1) := by decide +kernel
theorem dt_Tb_20 : decode prog_1_method_1_code 20 = .ok (.invokespecial 18, 3) := by decide +kernel
theorem dt_Tb_23 : decode prog_1_method_1_code 23 = .ok (.putfield 19, 3) := by decide +kernel
theorem dt_Tb_26 : decode prog_1_method_1_code 26 = .ok (.aload_n 0, 1) := by decide +kernel
theorem dt_Tb_27 : decode prog_1_method_1_code 27 = .ok (.bipush 8, 2) := by decide +kernel
theorem dt_Tb_29 : decode prog_1_method_1_code 29 = .ok (.anewarray 23, 3) := by decide +kernel
theorem dt_Tb_32 : decode prog_1_method_1_code 32 = .ok (.putfield 25, 3) := by decide +kernel
theorem dt_Tb_35 : decode prog_1_method_1_code 35 = .ok (.aload_n 0, 1) := by decide +kernel
theorem dt_Tb_36 : decode prog_1_method_1_code 36 = .ok (.new 29, 3) := by decide +kernel
theorem dt_Tb_39 : decode prog_1_method_1_code 39 = .ok (.dup, 1) := by decide +kernel
theorem dt_Tb_40 : decode prog_1_method_1_code 40 = .ok (.invokespecial 31, 3) := by decide +kernel
theorem dt_Tb_43 : decode prog_1_method_1_code 43 = .ok (.putfield 32, 3) := by decide +kernel
theorem dt_Tb_46 : decode prog_1_method_1_code 46 = .ok (.aload_n 0, 1) := by decide +kernel
theorem dt_Tb_47 : decode prog_1_method_1_code 47 = .ok (.iconst 4, 1) := by decide +kernel
theorem dt_Tb_48 : decode prog_1_method_1_code 48 = .ok (.anewarray 36, 3) := by decide +kernel
theorem dt_Tb_51 : decode prog_1_method_1_code 51 = .ok (.putfield 38, 3) := by decide +kernel
theorem dt_Tb_54 : decode prog_1_method_1_code 54 = .ok (.aload_n 0, 1) := by decide +kernel
theorem dt_Tb_55 : decode prog_1_method_1_code 55 = .ok (.new 42, 3) := by decide +kernel
theorem dt_Tb_58 : decode prog_1_method_1_code 58 = .ok (.dup, 1) := by decide +kernel
theorem dt_Tb_59 : decode prog_1_method_1_code 59 = .ok (.invokespecial 44, 3) := by decide +kernel
theorem dt_Tb_62 : decode prog_1_method_1_code 62 = .ok (.putfield 45, 3) := by decide +kernel
theorem dt_Tb_65 : decode prog_1_method_1_code 65 = .ok (.iconst 0, 1) := by decide +kernel
theorem dt_Tb_66 : decode prog_1_method_1_code 66 = .ok (.istore_n 1, 1) := by decide +kernel
theorem dt_Tb_67 : decode prog_1_method_1_code 67 = .ok (.iload_n 1, 1) := by decide +kernel
theorem dt_Tb_68 : decode prog_1_method_1_code 68 = .ok (.bipush 8, 2) := by decide +kernel
theorem dt_Tb_70 : decode prog_1_method_1_code 70 = .ok (.if_icmp .ge 22, 3) := by decide +kernel
theorem dt_Tb_73 : decode prog_1_method_1_code 73 = .ok (.aload_n 0, 1) := by decide +kernel
theorem dt_Tb_74 : decode prog_1_method_1_code 74 = .ok (.getfield 25, 3) := by decide +kernel
theorem dt_Tb_77 : decode prog_1_method_1_code 77 = .ok (.iload_n 1, 1) := by decide +kernel
theorem dt_Tb_78 : decode prog_1_method_1_code 78 = .ok (.new 23, 3) := by decide +kernel
theorem dt_Tb_81 : decode prog_1_method_1_code 81 = .ok (.dup, 1) := by decide +kernel
theorem dt_Tb_82 : decode prog_1_method_1_code 82 = .ok (.invokespecial 49, 3) := by decide +kernel
theorem dt_Tb_85 : decode prog_1_method_1_code 85 = .ok (.aastore, 1) := by decide +kernel
theorem dt_Tb_86 : decode prog_1_method_1_code 86 = .ok (.iinc 1 1, 3) := by decide +kernel
theorem dt_Tb_89 : decode prog_1_method_1_code 89 = .ok (.goto (-22), 3) := by decide +kernel
theorem dt_Tb_92 : decode prog_1_method_1_code 92 = .ok (.iconst 0, 1) := by decide +kernel
theorem dt_Tb_93 : decode prog_1_method_1_code 93 = .ok (.istore_n 1, 1) := by decide +kernel
theorem dt_Tb_94 : decode prog_1_method_1_code 94 = .ok (.iload_n 1, 1) := by decide +kernel
theorem dt_Tb_95 : decode prog_1_method_1_code 95 = .ok (.iconst 4, 1) := by decide +kernel
theorem dt_Tb_96 : decode prog_1_method_1_code 96 = .ok (.if_icmp .ge 22, 3) := by decide +kernel
theorem dt_Tb_99 : decode prog_1_method_1_code 99 = .ok (.aload_n 0, 1) := by decide +kernel
theorem dt_Tb_100 : decode prog_1_method_1_code 100 = .ok (.getfield 38, 3) := by decide +kernel
theorem dt_Tb_103 : decode prog_1_method_1_code 103 = .ok (.iload_n 1, 1) := by decide +kernel
theorem dt_Tb_104 : decode prog_1_method_1_code 104 = .ok (.new 36, 3) := by decide +kernel
theorem dt_Tb_107 : decode prog_1_method_1_code 107 = .ok (.dup, 1) := by decide +kernel
theorem dt_Tb_108 : decode prog_1_method_1_code 108 = .ok (.invokespecial 50, 3) := by decide +kernel
theorem dt_Tb_111 : decode prog_1_method_1_code 111 = .ok (.aastore, 1) := by decide +kernel
theorem dt_Tb_112 : decode prog_1_method_1_code 112 = .ok (.iinc 1 1, 3) := by decide +kernel
theorem dt_Tb_115 : decode prog_1_method_1_code 115 = .ok (.goto (-21), 3) := by decide +kernel
theorem dt_Tb_118 : decode prog_1_method_1_code 118 = .ok (.return_, 1) := by decide +kernel
theorem fr_Tb_10 : pm_FR RX6 10 6 0 := ⟨RX6, TX6, 7, tyX6, .object "TurnBoards$Group", rfl, by decide, wi_6, pm_TB_at 269 (by decide +kernel) (by decide +kernel), tyX6_ok, nmX6, rfl, rfl, by decide +kernel, fun _ => ⟨rfl, rfl⟩⟩
theorem fr_Tb_19 : pm_FR RX6 19 6 1 := ⟨RX6, TX6, 7, tyX6, .object "TurnBoards$Board", rfl, by decide, wi_6, pm_TB_at 270 (by decide +kernel) (by decide +kernel), tyX6_ok, nmX6, rfl, rfl, by decide +kernel, fun _ => ⟨rfl, rfl⟩⟩
theorem fr_Tb_25 : pm_FR RX6 25 6 2 := ⟨RX6, TX6, 7, tyX6, .array (.object "TurnBoards$Walk"), rfl, by decide, wi_6, pm_TB_at 271 (by decide +kernel) (by decide +kernel), tyX6_ok, nmX6, rfl, rfl, by decide +kernel, fun _ => ⟨rfl, rfl⟩⟩
theorem fr_Tb_32 : pm_FR RX6 32 6 4 := ⟨RX6, TX6, 7, tyX6, .object "TurnBoards$Acts", rfl, by decide, wi_6, pm_TB_at 273 (by decide +kernel) (by decide +kernel), tyX6_ok, nmX6, rfl, rfl, by decide +kernel, fun _ => ⟨rfl, rfl⟩⟩
theorem fr_Tb_38 : pm_FR RX6 38 6 5 := ⟨RX6, TX6, 7, tyX6, .array (.object "TurnBoards$Sheet"), rfl, by decide, wi_6, pm_TB_at 274 (by decide +kernel) (by decide +kernel), tyX6_ok, nmX6, rfl, rfl, by decide +kernel, fun _ => ⟨rfl, rfl⟩⟩
theorem fr_Tb_45 : pm_FR RX6 45 6 6 := ⟨RX6, TX6, 7, tyX6, .object "TurnBoards$Sums", rfl, by decide, wi_6, pm_TB_at 275 (by decide +kernel) (by decide +kernel), tyX6_ok, nmX6, rfl, rfl, by decide +kernel, fun _ => ⟨rfl, rfl⟩⟩
theorem wo_Model : Cond.methodLink RX7 1 Lib.objectInit ∈ pm_TB := pm_TB_at 661 (by decide +kernel) (by decide +kernel)
theorem dt_Model_0 : decode prog_9_method_1_code 0 = .ok (.aload_n 0, 1) := by decide +kernel
theorem dt_Model_1 : decode prog_9_method_1_code 1 = .ok (.invokespecial 1, 3) := by decide +kernel
theorem dt_Model_4 : decode prog_9_method_1_code 4 = .ok (.aload_n 0, 1) := by decide +kernel
theorem dt_Model_5 : decode prog_9_method_1_code 5 = .ok (.iconst 1, 1) := by decide +kernel
theorem dt_Model_6 : decode prog_9_method_1_code 6 = .ok (.putfield 7, 3) := by decide +kernel
theorem dt_Model_9 : decode prog_9_method_1_code 9 = .ok (.aload_n 0, 1) := by decide +kernel
theorem dt_Model_10 : decode prog_9_method_1_code 10 = .ok (.bipush 64, 2) := by decide +kernel
theorem dt_Model_12 : decode prog_9_method_1_code 12 = .ok (.newarray .int, 2) := by decide +kernel
theorem dt_Model_14 : decode prog_9_method_1_code 14 = .ok (.putfield 13, 3) := by decide +kernel
theorem dt_Model_17 : decode prog_9_method_1_code 17 = .ok (.aload_n 0, 1) := by decide +kernel
theorem dt_Model_18 : decode prog_9_method_1_code 18 = .ok (.bipush 8, 2) := by decide +kernel
theorem dt_Model_20 : decode prog_9_method_1_code 20 = .ok (.newarray .int, 2) := by decide +kernel
theorem dt_Model_22 : decode prog_9_method_1_code 22 = .ok (.dup, 1) := by decide +kernel
theorem dt_Model_23 : decode prog_9_method_1_code 23 = .ok (.iconst 0, 1) := by decide +kernel
theorem dt_Model_24 : decode prog_9_method_1_code 24 = .ok (.iconst 1, 1) := by decide +kernel
theorem dt_Model_25 : decode prog_9_method_1_code 25 = .ok (.iastore, 1) := by decide +kernel
theorem dt_Model_26 : decode prog_9_method_1_code 26 = .ok (.dup, 1) := by decide +kernel
theorem dt_Model_27 : decode prog_9_method_1_code 27 = .ok (.iconst 1, 1) := by decide +kernel
theorem dt_Model_28 : decode prog_9_method_1_code 28 = .ok (.iconst 1, 1) := by decide +kernel
theorem dt_Model_29 : decode prog_9_method_1_code 29 = .ok (.iastore, 1) := by decide +kernel
theorem dt_Model_30 : decode prog_9_method_1_code 30 = .ok (.dup, 1) := by decide +kernel
theorem dt_Model_31 : decode prog_9_method_1_code 31 = .ok (.iconst 2, 1) := by decide +kernel
theorem dt_Model_32 : decode prog_9_method_1_code 32 = .ok (.iconst 1, 1) := by decide +kernel
theorem dt_Model_33 : decode prog_9_method_1_code 33 = .ok (.iastore, 1) := by decide +kernel
theorem dt_Model_34 : decode prog_9_method_1_code 34 = .ok (.dup, 1) := by decide +kernel
theorem dt_Model_35 : decode prog_9_method_1_code 35 = .ok (.iconst 3, 1) := by decide +kernel
theorem dt_Model_36 : decode prog_9_method_1_code 36 = .ok (.iconst 1, 1) := by decide +kernel
theorem dt_Model_37 : decode prog_9_method_1_code 37 = .ok (.iastore, 1) := by decide +kernel
theorem dt_Model_38 : decode prog_9_method_1_code 38 = .ok (.dup, 1) := by decide +kernel
theorem dt_Model_39 : decode prog_9_method_1_code 39 = .ok (.iconst 4, 1) := by decide +kernel
theorem dt_Model_40 : decode prog_9_method_1_code 40 = .ok (.iconst 1, 1) := by decide +kernel
theorem dt_Model_41 : decode prog_9_method_1_code 41 = .ok (.iastore, 1) := by decide +kernel
theorem dt_Model_42 : decode prog_9_method_1_code 42 = .ok (.dup, 1) := by decide +kernel
theorem dt_Model_43 : decode prog_9_method_1_code 43 = .ok (.iconst 5, 1) := by decide +kernel
theorem dt_Model_44 : decode prog_9_method_1_code 44 = .ok (.iconst 1, 1) := by decide +kernel
theorem dt_Model_45 : decode prog_9_method_1_code 45 = .ok (.iastore, 1) := by decide +kernel
theorem dt_Model_46 : decode prog_9_method_1_code 46 = .ok (.dup, 1) := by decide +kernel
theorem dt_Model_47 : decode prog_9_method_1_code 47 = .ok (.bipush 6, 2) := by decide +kernel
theorem dt_Model_49 : decode prog_9_method_1_code 49 = .ok (.iconst 1, 1) := by decide +kernel
theorem dt_Model_50 : decode prog_9_method_1_code 50 = .ok (.iastore, 1) := by decide +kernel
theorem dt_Model_51 : decode prog_9_method_1_code 51 = .ok (.dup, 1) := by decide +kernel
theorem dt_Model_52 : decode prog_9_method_1_code 52 = .ok (.bipush 7, 2) := by decide +kernel
theorem dt_Model_54 : decode prog_9_method_1_code 54 = .ok (.iconst 1, 1) := by decide +kernel
theorem dt_Model_55 : decode prog_9_method_1_code 55 = .ok (.iastore, 1) := by decide +kernel
theorem dt_Model_56 : decode prog_9_method_1_code 56 = .ok (.putfield 17, 3) := by decide +kernel
theorem dt_Model_59 : decode prog_9_method_1_code 59 = .ok (.aload_n 0, 1) := by decide +kernel
theorem dt_Model_60 : decode prog_9_method_1_code 60 = .ok (.bipush 10, 2) := by decide +kernel
theorem dt_Model_62 : decode prog_9_method_1_code 62 = .ok (.newarray .int, 2) := by decide +kernel
theorem dt_Model_64 : decode prog_9_method_1_code 64 = .ok (.putfield 20, 3) := by decide +kernel
theorem dt_Model_67 : decode prog_9_method_1_code 67 = .ok (.aload_n 0, 1) := by decide +kernel
theorem dt_Model_68 : decode prog_9_method_1_code 68 = .ok (.bipush 10, 2) := by decide +kernel
theorem dt_Model_70 : decode prog_9_method_1_code 70 = .ok (.newarray .int, 2) := by decide +kernel
theorem dt_Model_72 : decode prog_9_method_1_code 72 = .ok (.putfield 23, 3) := by decide +kernel
theorem dt_Model_75 : decode prog_9_method_1_code 75 = .ok (.aload_n 0, 1) := by decide +kernel
theorem dt_Model_76 : decode prog_9_method_1_code 76 = .ok (.bipush 10, 2) := by decide +kernel
theorem dt_Model_78 : decode prog_9_method_1_code 78 = .ok (.newarray .int, 2) := by decide +kernel
theorem dt_Model_80 : decode prog_9_method_1_code 80 = .ok (.putfield 26, 3) := by decide +kernel
theorem dt_Model_83 : decode prog_9_method_1_code 83 = .ok (.aload_n 0, 1) := by decide +kernel
theorem dt_Model_84 : decode prog_9_method_1_code 84 = .ok (.bipush 8, 2) := by decide +kernel
theorem dt_Model_86 : decode prog_9_method_1_code 86 = .ok (.newarray .int, 2) := by decide +kernel
theorem dt_Model_88 : decode prog_9_method_1_code 88 = .ok (.putfield 29, 3) := by decide +kernel
theorem dt_Model_91 : decode prog_9_method_1_code 91 = .ok (.aload_n 0, 1) := by decide +kernel
theorem dt_Model_92 : decode prog_9_method_1_code 92 = .ok (.bipush 8, 2) := by decide +kernel
theorem dt_Model_94 : decode prog_9_method_1_code 94 = .ok (.newarray .int, 2) := by decide +kernel
theorem dt_Model_96 : decode prog_9_method_1_code 96 = .ok (.putfield 32, 3) := by decide +kernel
theorem dt_Model_99 : decode prog_9_method_1_code 99 = .ok (.aload_n 0, 1) := by decide +kernel
theorem dt_Model_100 : decode prog_9_method_1_code 100 = .ok (.bipush 48, 2) := by decide +kernel
theorem dt_Model_102 : decode prog_9_method_1_code 102 = .ok (.newarray .int, 2) := by decide +kernel
theorem dt_Model_104 : decode prog_9_method_1_code 104 = .ok (.putfield 35, 3) := by decide +kernel
theorem dt_Model_107 : decode prog_9_method_1_code 107 = .ok (.aload_n 0, 1) := by decide +kernel
theorem dt_Model_108 : decode prog_9_method_1_code 108 = .ok (.bipush 48, 2) := by decide +kernel
theorem dt_Model_110 : decode prog_9_method_1_code 110 = .ok (.newarray .boolean, 2) := by decide +kernel
theorem dt_Model_112 : decode prog_9_method_1_code 112 = .ok (.putfield 38, 3) := by decide +kernel
theorem dt_Model_115 : decode prog_9_method_1_code 115 = .ok (.aload_n 0, 1) := by decide +kernel
theorem dt_Model_116 : decode prog_9_method_1_code 116 = .ok (.bipush 8, 2) := by decide +kernel
theorem dt_Model_118 : decode prog_9_method_1_code 118 = .ok (.newarray .boolean, 2) := by decide +kernel
theorem dt_Model_120 : decode prog_9_method_1_code 120 = .ok (.putfield 42, 3) := by decide +kernel
theorem dt_Model_123 : decode prog_9_method_1_code 123 = .ok (.aload_n 0, 1) := by decide +kernel
theorem dt_Model_124 : decode prog_9_method_1_code 124 = .ok (.bipush 80, 2) := by decide +kernel
theorem dt_Model_126 : decode prog_9_method_1_code 126 = .ok (.newarray .int, 2) := by decide +kernel
theorem dt_Model_128 : decode prog_9_method_1_code 128 = .ok (.putfield 45, 3) := by decide +kernel
theorem dt_Model_131 : decode prog_9_method_1_code 131 = .ok (.aload_n 0, 1) := by decide +kernel
theorem dt_Model_132 : decode prog_9_method_1_code 132 = .ok (.iconst 4, 1) := by decide +kernel
theorem dt_Model_133 : decode prog_9_method_1_code 133 = .ok (.newarray .int, 2) := by decide +kernel
theorem dt_Model_135 : decode prog_9_method_1_code 135 = .ok (.dup, 1) := by decide +kernel
theorem dt_Model_136 : decode prog_9_method_1_code 136 = .ok (.iconst 0, 1) := by decide +kernel
theorem dt_Model_137 : decode prog_9_method_1_code 137 = .ok (.bipush (-4), 2) := by decide +kernel
theorem dt_Model_139 : decode prog_9_method_1_code 139 = .ok (.iastore, 1) := by decide +kernel
theorem dt_Model_140 : decode prog_9_method_1_code 140 = .ok (.dup, 1) := by decide +kernel
theorem dt_Model_141 : decode prog_9_method_1_code 141 = .ok (.iconst 1, 1) := by decide +kernel
theorem dt_Model_142 : decode prog_9_method_1_code 142 = .ok (.bipush (-4), 2) := by decide +kernel
theorem dt_Model_144 : decode prog_9_method_1_code 144 = .ok (.iastore, 1) := by decide +kernel
theorem dt_Model_145 : decode prog_9_method_1_code 145 = .ok (.dup, 1) := by decide +kernel
theorem dt_Model_146 : decode prog_9_method_1_code 146 = .ok (.iconst 2, 1) := by decide +kernel
theorem dt_Model_147 : decode prog_9_method_1_code 147 = .ok (.bipush (-4), 2) := by decide +kernel
theorem dt_Model_149 : decode prog_9_method_1_code 149 = .ok (.iastore, 1) := by decide +kernel
theorem dt_Model_150 : decode prog_9_method_1_code 150 = .ok (.dup, 1) := by decide +kernel
theorem dt_Model_151 : decode prog_9_method_1_code 151 = .ok (.iconst 3, 1) := by decide +kernel
theorem dt_Model_152 : decode prog_9_method_1_code 152 = .ok (.bipush (-4), 2) := by decide +kernel
theorem dt_Model_154 : decode prog_9_method_1_code 154 = .ok (.iastore, 1) := by decide +kernel
theorem dt_Model_155 : decode prog_9_method_1_code 155 = .ok (.putfield 48, 3) := by decide +kernel
theorem dt_Model_158 : decode prog_9_method_1_code 158 = .ok (.aload_n 0, 1) := by decide +kernel
theorem dt_Model_159 : decode prog_9_method_1_code 159 = .ok (.iconst 4, 1) := by decide +kernel
theorem dt_Model_160 : decode prog_9_method_1_code 160 = .ok (.newarray .int, 2) := by decide +kernel
theorem dt_Model_162 : decode prog_9_method_1_code 162 = .ok (.putfield 51, 3) := by decide +kernel
theorem dt_Model_165 : decode prog_9_method_1_code 165 = .ok (.aload_n 0, 1) := by decide +kernel
theorem dt_Model_166 : decode prog_9_method_1_code 166 = .ok (.sipush 256, 3) := by decide +kernel
theorem dt_Model_169 : decode prog_9_method_1_code 169 = .ok (.newarray .int, 2) := by decide +kernel
theorem dt_Model_171 : decode prog_9_method_1_code 171 = .ok (.putfield 54, 3) := by decide +kernel
theorem dt_Model_174 : decode prog_9_method_1_code 174 = .ok (.aload_n 0, 1) := by decide +kernel
theorem dt_Model_175 : decode prog_9_method_1_code 175 = .ok (.bipush 64, 2) := by decide +kernel
theorem dt_Model_177 : decode prog_9_method_1_code 177 = .ok (.newarray .int, 2) := by decide +kernel
theorem dt_Model_179 : decode prog_9_method_1_code 179 = .ok (.putfield 57, 3) := by decide +kernel
theorem dt_Model_182 : decode prog_9_method_1_code 182 = .ok (.aload_n 0, 1) := by decide +kernel
theorem dt_Model_183 : decode prog_9_method_1_code 183 = .ok (.bipush 10, 2) := by decide +kernel
theorem dt_Model_185 : decode prog_9_method_1_code 185 = .ok (.newarray .int, 2) := by decide +kernel
theorem dt_Model_187 : decode prog_9_method_1_code 187 = .ok (.putfield 60, 3) := by decide +kernel
theorem dt_Model_190 : decode prog_9_method_1_code 190 = .ok (.aload_n 0, 1) := by decide +kernel
theorem dt_Model_191 : decode prog_9_method_1_code 191 = .ok (.bipush 8, 2) := by decide +kernel
theorem dt_Model_193 : decode prog_9_method_1_code 193 = .ok (.newarray .int, 2) := by decide +kernel
theorem dt_Model_195 : decode prog_9_method_1_code 195 = .ok (.putfield 63, 3) := by decide +kernel
theorem dt_Model_198 : decode prog_9_method_1_code 198 = .ok (.aload_n 0, 1) := by decide +kernel
theorem dt_Model_199 : decode prog_9_method_1_code 199 = .ok (.bipush 6, 2) := by decide +kernel
theorem dt_Model_201 : decode prog_9_method_1_code 201 = .ok (.newarray .int, 2) := by decide +kernel
theorem dt_Model_203 : decode prog_9_method_1_code 203 = .ok (.putfield 66, 3) := by decide +kernel
theorem dt_Model_206 : decode prog_9_method_1_code 206 = .ok (.aload_n 0, 1) := by decide +kernel
theorem dt_Model_207 : decode prog_9_method_1_code 207 = .ok (.bipush 6, 2) := by decide +kernel
theorem dt_Model_209 : decode prog_9_method_1_code 209 = .ok (.newarray .int, 2) := by decide +kernel
theorem dt_Model_211 : decode prog_9_method_1_code 211 = .ok (.putfield 69, 3) := by decide +kernel
theorem dt_Model_214 : decode prog_9_method_1_code 214 = .ok (.aload_n 0, 1) := by decide +kernel
theorem dt_Model_215 : decode prog_9_method_1_code 215 = .ok (.bipush 10, 2) := by decide +kernel
theorem dt_Model_217 : decode prog_9_method_1_code 217 = .ok (.newarray .boolean, 2) := by decide +kernel
theorem dt_Model_219 : decode prog_9_method_1_code 219 = .ok (.putfield 72, 3) := by decide +kernel
theorem dt_Model_222 : decode prog_9_method_1_code 222 = .ok (.aload_n 0, 1) := by decide +kernel
theorem dt_Model_223 : decode prog_9_method_1_code 223 = .ok (.bipush 6, 2) := by decide +kernel
theorem dt_Model_225 : decode prog_9_method_1_code 225 = .ok (.newarray .boolean, 2) := by decide +kernel
theorem dt_Model_227 : decode prog_9_method_1_code 227 = .ok (.putfield 75, 3) := by decide +kernel
theorem dt_Model_230 : decode prog_9_method_1_code 230 = .ok (.aload_n 0, 1) := by decide +kernel
theorem dt_Model_231 : decode prog_9_method_1_code 231 = .ok (.bipush 8, 2) := by decide +kernel
theorem dt_Model_233 : decode prog_9_method_1_code 233 = .ok (.newarray .int, 2) := by decide +kernel
theorem dt_Model_235 : decode prog_9_method_1_code 235 = .ok (.putfield 78, 3) := by decide +kernel
theorem dt_Model_238 : decode prog_9_method_1_code 238 = .ok (.return_, 1) := by decide +kernel
theorem fr_Model_13 : pm_FR RX7 13 7 1 := ⟨RX7, TX7, 27, tyX7, .array .int, rfl, by decide, wi_7, pm_TB_at 663 (by decide +kernel) (by decide +kernel), tyX7_ok, nmX7, rfl, rfl, by decide +kernel, fun _ => ⟨rfl, rfl⟩⟩
theorem fr_Model_17 : pm_FR RX7 17 7 2 := ⟨RX7, TX7, 27, tyX7, .array .int, rfl, by decide, wi_7, pm_TB_at 664 (by decide +kernel) (by decide +kernel), tyX7_ok, nmX7, rfl, rfl, by decide +kernel, fun _ => ⟨rfl, rfl⟩⟩
theorem fr_Model_20 : pm_FR RX7 20 7 5 := ⟨RX7, TX7, 27, tyX7, .array .int, rfl, by decide, wi_7, pm_TB_at 667 (by decide +kernel) (by decide +kernel), tyX7_ok, nmX7, rfl, rfl, by decide +kernel, fun _ => ⟨rfl, rfl⟩⟩
theorem fr_Model_23 : pm_FR RX7 23 7 6 := ⟨RX7, TX7, 27, tyX7, .array .int, rfl, by decide, wi_7, pm_TB_at 668 (by decide +kernel) (by decide +kernel), tyX7_ok, nmX7, rfl, rfl, by decide +kernel, fun _ => ⟨rfl, rfl⟩⟩
theorem fr_Model_26 : pm_FR RX7 26 7 7 := ⟨RX7, TX7, 27, tyX7, .array .int, rfl, by decide, wi_7, pm_TB_at 669 (by decide +kernel) (by decide +kernel), tyX7_ok, nmX7, rfl, rfl, by decide +kernel, fun _ => ⟨rfl, rfl⟩⟩
theorem fr_Model_29 : pm_FR RX7 29 7 9 := ⟨RX7, TX7, 27, tyX7, .array .int, rfl, by decide, wi_7, pm_TB_at 671 (by decide +kernel) (by decide +kernel), tyX7_ok, nmX7, rfl, rfl, by decide +kernel, fun _ => ⟨rfl, rfl⟩⟩
theorem fr_Model_32 : pm_FR RX7 32 7 10 := ⟨RX7, TX7, 27, tyX7, .array .int, rfl, by decide, wi_7, pm_TB_at 672 (by decide +kernel) (by decide +kernel), tyX7_ok, nmX7, rfl, rfl, by decide +kernel, fun _ => ⟨rfl, rfl⟩⟩
theorem fr_Model_35 : pm_FR RX7 35 7 11 := ⟨RX7, TX7, 27, tyX7, .array .int, rfl, by decide, wi_7, pm_TB_at 673 (by decide +kernel) (by decide +kernel), tyX7_ok, nmX7, rfl, rfl, by decide +kernel, fun _ => ⟨rfl, rfl⟩⟩
theorem fr_Model_38 : pm_FR RX7 38 7 12 := ⟨RX7, TX7, 27, tyX7, .array .boolean, rfl, by decide, wi_7, pm_TB_at 674 (by decide +kernel) (by decide +kernel), tyX7_ok, nmX7, rfl, rfl, by decide +kernel, fun _ => ⟨rfl, rfl⟩⟩
theorem fr_Model_42 : pm_FR RX7 42 7 13 := ⟨RX7, TX7, 27, tyX7, .array .boolean, rfl, by decide, wi_7, pm_TB_at 675 (by decide +kernel) (by decide +kernel), tyX7_ok, nmX7, rfl, rfl, by decide +kernel, fun _ => ⟨rfl, rfl⟩⟩
theorem fr_Model_45 : pm_FR RX7 45 7 15 := ⟨RX7, TX7, 27, tyX7, .array .int, rfl, by decide, wi_7, pm_TB_at 677 (by decide +kernel) (by decide +kernel), tyX7_ok, nmX7, rfl, rfl, by decide +kernel, fun _ => ⟨rfl, rfl⟩⟩
theorem fr_Model_48 : pm_FR RX7 48 7 16 := ⟨RX7, TX7, 27, tyX7, .array .int, rfl, by decide, wi_7, pm_TB_at 678 (by decide +kernel) (by decide +kernel), tyX7_ok, nmX7, rfl, rfl, by decide +kernel, fun _ => ⟨rfl, rfl⟩⟩
theorem fr_Model_51 : pm_FR RX7 51 7 17 := ⟨RX7, TX7, 27, tyX7, .array .int, rfl, by decide, wi_7, pm_TB_at 679 (by decide +kernel) (by decide +kernel), tyX7_ok, nmX7, rfl, rfl, by decide +kernel, fun _ => ⟨rfl, rfl⟩⟩
theorem fr_Model_54 : pm_FR RX7 54 7 18 := ⟨RX7, TX7, 27, tyX7, .array .int, rfl, by decide, wi_7, pm_TB_at 680 (by decide +kernel) (by decide +kernel), tyX7_ok, nmX7, rfl, rfl, by decide +kernel, fun _ => ⟨rfl, rfl⟩⟩
theorem fr_Model_57 : pm_FR RX7 57 7 19 := ⟨RX7, TX7, 27, tyX7, .array .int, rfl, by decide, wi_7, pm_TB_at 681 (by decide +kernel) (by decide +kernel), tyX7_ok, nmX7, rfl, rfl, by decide +kernel, fun _ => ⟨rfl, rfl⟩⟩
theorem fr_Model_60 : pm_FR RX7 60 7 20 := ⟨RX7, TX7, 27, tyX7, .array .int, rfl, by decide, wi_7, pm_TB_at 682 (by decide +kernel) (by decide +kernel), tyX7_ok, nmX7, rfl, rfl, by decide +kernel, fun _ => ⟨rfl, rfl⟩⟩
theorem fr_Model_63 : pm_FR RX7 63 7 21 := ⟨RX7, TX7, 27, tyX7, .array .int, rfl, by decide, wi_7, pm_TB_at 683 (by decide +kernel) (by decide +kernel), tyX7_ok, nmX7, rfl, rfl, by decide +kernel, fun _ => ⟨rfl, rfl⟩⟩
theorem fr_Model_66 : pm_FR RX7 66 7 22 := ⟨RX7, TX7, 27, tyX7, .array .int, rfl, by decide, wi_7, pm_TB_at 684 (by decide +kernel) (by decide +kernel), tyX7_ok, nmX7, rfl, rfl, by decide +kernel, fun _ => ⟨rfl, rfl⟩⟩
theorem fr_Model_69 : pm_FR RX7 69 7 23 := ⟨RX7, TX7, 27, tyX7, .array .int, rfl, by decide, wi_7, pm_TB_at 685 (by decide +kernel) (by decide +kernel), tyX7_ok, nmX7, rfl, rfl, by decide +kernel, fun _ => ⟨rfl, rfl⟩⟩
theorem fr_Model_72 : pm_FR RX7 72 7 24 := ⟨RX7, TX7, 27, tyX7, .array .boolean, rfl, by decide, wi_7, pm_TB_at 686 (by decide +kernel) (by decide +kernel), tyX7_ok, nmX7, rfl, rfl, by decide +kernel, fun _ => ⟨rfl, rfl⟩⟩
theorem fr_Model_75 : pm_FR RX7 75 7 25 := ⟨RX7, TX7, 27, tyX7, .array .boolean, rfl, by decide, wi_7, pm_TB_at 687 (by decide +kernel) (by decide +kernel), tyX7_ok, nmX7, rfl, rfl, by decide +kernel, fun _ => ⟨rfl, rfl⟩⟩
theorem fr_Model_78 : pm_FR RX7 78 7 26 := ⟨RX7, TX7, 27, tyX7, .array .int, rfl, by decide, wi_7, pm_TB_at 688 (by decide +kernel) (by decide +kernel), tyX7_ok, nmX7, rfl, rfl, by decide +kernel, fun _ => ⟨rfl, rfl⟩⟩
theorem wm_Acts : Cond.classLink RX0 9 "[[I" ∈ pm_TB := pm_TB_at 180 (by decide +kernel) (by decide +kernel)
theorem wm_Sums : Cond.classLink RX4 15 "[[I" ∈ pm_TB := pm_TB_at 201 (by decide +kernel) (by decide +kernel)
