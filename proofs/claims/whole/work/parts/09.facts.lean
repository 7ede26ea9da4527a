-- facts of words, constants, classes; printed by wip/whole/rungen.py
theorem mset_eq {α : Type} (M : xMem) (f : xMem → α) : mset M f = f M := rfl
theorem cl_of {ws : List Cond} (ps : List Nat) (h : ws = ps.filterMap (fun i => tables_1[i]?)) (hg : ws.all goodWord = true) : ∀ w ∈ ws, w ∈ lw_gt := by
  intro w hw
  have h1 := List.all_eq_true.mp hg w hw
  rw [h] at hw
  obtain ⟨i, -, hi⟩ := List.mem_filterMap.mp hw
  exact lw_mem hi h1
theorem fl_RX1_9 : xFl RX1 9 (TX1 0) := Or.inl (lw_mem (i := 82) (by decide +kernel) rfl)
theorem xcl_1 : xCl 1 RX1 TX1 6 := ⟨rfl, cl_of [101, 103, 105, 107, 109, 111] (by decide +kernel) (by decide +kernel)⟩
theorem xcp_1 : xCp TX1 6 tyX1 := ⟨tyX1_ok, nmX1⟩
theorem ki_0 : Int32.ofInt (0) = (0 : Int32) := by decide +kernel
theorem kb_6 : (Int8.ofInt (6)).toInt32 = (6 : Int32) := by decide +kernel
theorem ac_RX1_31 : xAc RX1 31 := ⟨lw_mem (i := 782) (by decide +kernel) rfl, lw_mem (i := 586) (by decide +kernel) rfl, lw_mem (i := 585) (by decide +kernel) rfl, lw_mem (i := 17) (by decide +kernel) rfl⟩
theorem fl_RX1_15 : xFl RX1 15 (TX1 1) := Or.inl (lw_mem (i := 84) (by decide +kernel) rfl)
theorem fl_RX1_19 : xFl RX1 19 (TX1 2) := Or.inl (lw_mem (i := 89) (by decide +kernel) rfl)
theorem fl_RX1_22 : xFl RX1 22 (TX1 3) := Or.inl (lw_mem (i := 92) (by decide +kernel) rfl)
theorem fl_RX1_25 : xFl RX1 25 (TX1 4) := Or.inl (lw_mem (i := 95) (by decide +kernel) rfl)
theorem fl_RX1_28 : xFl RX1 28 (TX1 5) := Or.inl (lw_mem (i := 98) (by decide +kernel) rfl)
theorem ki_1 : Int32.ofInt (1) = (1 : Int32) := by decide +kernel
theorem ks_196 : (Int16.ofInt (196)).toInt32 = (196 : Int32) := by decide +kernel
theorem ml_RX1_37 : xMl RX1 37 yX1_isOn := Or.inl (lw_mem (i := 796) (by decide +kernel) rfl)
theorem yv_X1_isOn : xYv yX1_isOn cX1_isOn 2 (some .boolean) 1 := ⟨lw_mem (i := 362) (by decide +kernel) rfl, lw_mem (i := 361) (by decide +kernel) rfl, lw_memS (List.mem_of_getElem? (i := 2) (by decide +kernel)) rfl, lw_mem (i := 5) (by decide +kernel) rfl, ⟨by decide +kernel, by decide +kernel⟩, by decide +kernel, by decide⟩
theorem ml_RX1_41 : xMl RX1 41 yX1_isTold := Or.inl (lw_mem (i := 795) (by decide +kernel) rfl)
theorem yv_X1_isTold : xYv yX1_isTold cX1_isTold 2 (some .boolean) 1 := ⟨lw_mem (i := 403) (by decide +kernel) rfl, lw_mem (i := 402) (by decide +kernel) rfl, lw_memS (List.mem_of_getElem? (i := 6) (by decide +kernel)) rfl, lw_mem (i := 5) (by decide +kernel) rfl, ⟨by decide +kernel, by decide +kernel⟩, by decide +kernel, by decide⟩
theorem ki_m1 : Int32.ofInt (-1) = (-1 : Int32) := by decide +kernel
theorem fl_RX2_9 : xFl RX2 9 (TX2 0) := Or.inl (lw_mem (i := 46) (by decide +kernel) rfl)
theorem xcl_2 : xCl 2 RX2 TX2 6 := ⟨rfl, cl_of [61, 63, 65, 67, 69, 71] (by decide +kernel) (by decide +kernel)⟩
theorem xcp_2 : xCp TX2 6 tyX2 := ⟨tyX2_ok, nmX2⟩
theorem kb_12 : (Int8.ofInt (12)).toInt32 = (12 : Int32) := by decide +kernel
theorem ac_RX2_31 : xAc RX2 31 := ⟨lw_mem (i := 777) (by decide +kernel) rfl, lw_mem (i := 586) (by decide +kernel) rfl, lw_mem (i := 585) (by decide +kernel) rfl, lw_mem (i := 17) (by decide +kernel) rfl⟩
theorem fl_RX2_15 : xFl RX2 15 (TX2 1) := Or.inl (lw_mem (i := 48) (by decide +kernel) rfl)
theorem fl_RX2_19 : xFl RX2 19 (TX2 2) := Or.inl (lw_mem (i := 52) (by decide +kernel) rfl)
theorem fl_RX2_22 : xFl RX2 22 (TX2 3) := Or.inl (lw_mem (i := 55) (by decide +kernel) rfl)
theorem fl_RX2_25 : xFl RX2 25 (TX2 4) := Or.inl (lw_mem (i := 57) (by decide +kernel) rfl)
theorem fl_RX2_28 : xFl RX2 28 (TX2 5) := Or.inl (lw_mem (i := 59) (by decide +kernel) rfl)
theorem kb_9 : (Int8.ofInt (9)).toInt32 = (9 : Int32) := by decide +kernel
theorem jw_RX2_37 : xJw RX2 37 Lib.Math.max.name Lib.Math.max.code 2 := ⟨lw_mem (i := 754) (by decide +kernel) rfl, lw_mem (i := 470) (by decide +kernel) rfl, lw_mem (i := 13) (by decide +kernel) rfl, lw_mem (i := 471) (by decide +kernel) rfl⟩
theorem ml_RX2_43 : xMl RX2 43 yX2_stands := Or.inl (lw_mem (i := 611) (by decide +kernel) rfl)
theorem yv_X2_stands : xYv yX2_stands cX2_stands 2 (some .boolean) 1 := ⟨lw_mem (i := 358) (by decide +kernel) rfl, lw_mem (i := 357) (by decide +kernel) rfl, lw_memS (List.mem_of_getElem? (i := 1) (by decide +kernel)) rfl, lw_mem (i := 4) (by decide +kernel) rfl, ⟨by decide +kernel, by decide +kernel⟩, by decide +kernel, by decide⟩
theorem fl_RX6_9 : xFl RX6 9 (TX6 0) := Or.inl (lw_mem (i := 114) (by decide +kernel) rfl)
theorem xcl_6 : xCl 6 RX6 TX6 9 := ⟨rfl, cl_of [139, 141, 143, 145, 147, 149, 151, 153, 155] (by decide +kernel) (by decide +kernel)⟩
theorem xcp_6 : xCp TX6 9 tyX6 := ⟨tyX6_ok, nmX6⟩
theorem ac_RX6_48 : xAc RX6 48 := ⟨lw_mem (i := 772) (by decide +kernel) rfl, lw_mem (i := 586) (by decide +kernel) rfl, lw_mem (i := 585) (by decide +kernel) rfl, lw_mem (i := 17) (by decide +kernel) rfl⟩
theorem fl_RX6_18 : xFl RX6 18 (TX6 1) := Or.inl (lw_mem (i := 116) (by decide +kernel) rfl)
theorem ml_RX6_54 : xMl RX6 54 yX2_become := Or.inr ⟨"StarHerds", lw_memN (i := 773) (by decide +kernel) rfl⟩
theorem yv_X2_become : xYv yX2_become cX2_become 2 none 1 := ⟨lw_mem (i := 776) (by decide +kernel) rfl, lw_mem (i := 775) (by decide +kernel) rfl, lw_memS (List.mem_of_getElem? (i := 56) (by decide +kernel)) rfl, lw_mem (i := 4) (by decide +kernel) rfl, ⟨by decide +kernel, by decide +kernel⟩, by decide +kernel, by decide⟩
theorem fl_RX6_25 : xFl RX6 25 (TX6 2) := Or.inl (lw_mem (i := 120) (by decide +kernel) rfl)
theorem ml_RX6_58 : xMl RX6 58 yX1_become := Or.inr ⟨"StarHerds", lw_memN (i := 778) (by decide +kernel) rfl⟩
theorem yv_X1_become : xYv yX1_become cX1_become 2 none 1 := ⟨lw_mem (i := 781) (by decide +kernel) rfl, lw_mem (i := 780) (by decide +kernel) rfl, lw_memS (List.mem_of_getElem? (i := 57) (by decide +kernel)) rfl, lw_mem (i := 5) (by decide +kernel) rfl, ⟨by decide +kernel, by decide +kernel⟩, by decide +kernel, by decide⟩
theorem fl_RX6_29 : xFl RX6 29 (TX6 3) := Or.inl (lw_mem (i := 124) (by decide +kernel) rfl)
theorem ki_4 : Int32.ofInt (4) = (4 : Int32) := by decide +kernel
theorem fl_RX6_32 : xFl RX6 32 (TX6 4) := Or.inl (lw_mem (i := 126) (by decide +kernel) rfl)
theorem kb_19 : (Int8.ofInt (19)).toInt32 = (19 : Int32) := by decide +kernel
theorem fl_RX6_35 : xFl RX6 35 (TX6 5) := Or.inl (lw_mem (i := 129) (by decide +kernel) rfl)
theorem fl_RX6_39 : xFl RX6 39 (TX6 6) := Or.inl (lw_mem (i := 132) (by decide +kernel) rfl)
theorem fl_RX6_42 : xFl RX6 42 (TX6 7) := Or.inl (lw_mem (i := 135) (by decide +kernel) rfl)
theorem fl_RX6_45 : xFl RX6 45 (TX6 8) := Or.inl (lw_mem (i := 137) (by decide +kernel) rfl)
theorem ki_3 : Int32.ofInt (3) = (3 : Int32) := by decide +kernel
theorem ml_RX6_61 : xMl RX6 61 yX2_stands := Or.inr ⟨"StarHerds", lw_memN (i := 355) (by decide +kernel) rfl⟩
theorem fl_RX6_65 : xFl RX6 65 (TX2 1) := Or.inr ⟨"StarHerds", lw_memN (i := 49) (by decide +kernel) rfl⟩
theorem ml_RX6_68 : xMl RX6 68 yX1_isOn := Or.inr ⟨"StarHerds", lw_memN (i := 359) (by decide +kernel) rfl⟩
theorem fl_RX6_71 : xFl RX6 71 (TX1 1) := Or.inr ⟨"StarHerds", lw_memN (i := 85) (by decide +kernel) rfl⟩
theorem fl_RX6_75 : xFl RX6 75 (TX1 5) := Or.inr ⟨"StarHerds", lw_memN (i := 99) (by decide +kernel) rfl⟩
theorem ml_RX6_72 : xMl RX6 72 yX2_isLit := Or.inr ⟨"StarHerds", lw_memN (i := 643) (by decide +kernel) rfl⟩
theorem yv_X2_isLit : xYv yX2_isLit cX2_isLit 2 (some .boolean) 1 := ⟨lw_mem (i := 646) (by decide +kernel) rfl, lw_mem (i := 645) (by decide +kernel) rfl, lw_memS (List.mem_of_getElem? (i := 34) (by decide +kernel)) rfl, lw_mem (i := 4) (by decide +kernel) rfl, ⟨by decide +kernel, by decide +kernel⟩, by decide +kernel, by decide⟩
theorem kb_18 : (Int8.ofInt (18)).toInt32 = (18 : Int32) := by decide +kernel
theorem ml_RX6_79 : xMl RX6 79 yX6_isLit := Or.inl (lw_mem (i := 1022) (by decide +kernel) rfl)
theorem yv_X6_isLit : xYv yX6_isLit cX6_isLit 2 (some .boolean) 1 := ⟨lw_mem (i := 642) (by decide +kernel) rfl, lw_mem (i := 641) (by decide +kernel) rfl, lw_memS (List.mem_of_getElem? (i := 33) (by decide +kernel)) rfl, lw_mem (i := 3) (by decide +kernel) rfl, ⟨by decide +kernel, by decide +kernel⟩, by decide +kernel, by decide⟩
theorem ki_5 : Int32.ofInt (5) = (5 : Int32) := by decide +kernel
theorem fl_RX6_80 : xFl RX6 80 (TX2 2) := Or.inr ⟨"StarHerds", lw_memN (i := 53) (by decide +kernel) rfl⟩
theorem ks_25173 : (Int16.ofInt (25173)).toInt32 = (25173 : Int32) := by decide +kernel
theorem ks_13849 : (Int16.ofInt (13849)).toInt32 = (13849 : Int32) := by decide +kernel
theorem co_RX6_83 : Cond.constant RX6 83 (65535) ∈ lw_gt := lw_mem (i := 702) (by decide +kernel) rfl
theorem kb_10 : (Int8.ofInt (10)).toInt32 = (10 : Int32) := by decide +kernel
theorem kb_8 : (Int8.ofInt (8)).toInt32 = (8 : Int32) := by decide +kernel
theorem ml_RX6_84 : xMl RX6 84 yX2_endNight := Or.inr ⟨"StarHerds", lw_memN (i := 750) (by decide +kernel) rfl⟩
theorem yv_X2_endNight : xYv yX2_endNight cX2_endNight 2 none 0 := ⟨lw_mem (i := 753) (by decide +kernel) rfl, lw_mem (i := 752) (by decide +kernel) rfl, lw_memS (List.mem_of_getElem? (i := 53) (by decide +kernel)) rfl, lw_mem (i := 4) (by decide +kernel) rfl, ⟨by decide +kernel, by decide +kernel⟩, by decide +kernel, by decide⟩
theorem fl_RX3_18 : xFl RX3 18 (TX3 2) := Or.inl (lw_mem (i := 172) (by decide +kernel) rfl)
theorem xcl_3 : xCl 3 RX3 TX3 10 := ⟨rfl, cl_of [183, 185, 187, 189, 191, 193, 195, 197, 199, 201] (by decide +kernel) (by decide +kernel)⟩
theorem xcp_3 : xCp TX3 10 tyX3 := ⟨tyX3_ok, nmX3⟩
theorem fl_RX3_31 : xFl RX3 31 (TX3 6) := Or.inl (lw_mem (i := 177) (by decide +kernel) rfl)
theorem fl_RX3_9 : xFl RX3 9 (TX3 0) := Or.inl (lw_mem (i := 170) (by decide +kernel) rfl)
theorem ks_240 : (Int16.ofInt (240)).toInt32 = (240 : Int32) := by decide +kernel
theorem ac_RX3_44 : xAc RX3 44 := ⟨lw_mem (i := 584) (by decide +kernel) rfl, lw_mem (i := 586) (by decide +kernel) rfl, lw_mem (i := 585) (by decide +kernel) rfl, lw_mem (i := 17) (by decide +kernel) rfl⟩
theorem fl_RX3_15 : xFl RX3 15 (TX3 1) := Or.inl (lw_mem (i := 171) (by decide +kernel) rfl)
theorem fl_RX3_22 : xFl RX3 22 (TX3 3) := Or.inl (lw_mem (i := 174) (by decide +kernel) rfl)
theorem kb_16 : (Int8.ofInt (16)).toInt32 = (16 : Int32) := by decide +kernel
theorem fl_RX3_25 : xFl RX3 25 (TX3 4) := Or.inl (lw_mem (i := 175) (by decide +kernel) rfl)
theorem fl_RX3_28 : xFl RX3 28 (TX3 5) := Or.inl (lw_mem (i := 176) (by decide +kernel) rfl)
theorem gs_RX3_50 : xFl RX3 50 (RX8, xTn 0, "[I", true) := Or.inr ⟨"StarHerds", lw_memN (i := 617) (by decide +kernel) rfl⟩
theorem gs_RX3_53 : xFl RX3 53 (RX8, xTn 1, "[I", true) := Or.inr ⟨"StarHerds", lw_memN (i := 619) (by decide +kernel) rfl⟩
theorem fl_RX3_37 : xFl RX3 37 (TX3 8) := Or.inl (lw_mem (i := 181) (by decide +kernel) rfl)
theorem fl_RX3_41 : xFl RX3 41 (TX3 9) := Or.inl (lw_mem (i := 182) (by decide +kernel) rfl)
theorem jw_RX3_66 : xJw RX3 66 Lib.Math.max.name Lib.Math.max.code 2 := ⟨lw_mem (i := 625) (by decide +kernel) rfl, lw_mem (i := 470) (by decide +kernel) rfl, lw_mem (i := 13) (by decide +kernel) rfl, lw_mem (i := 471) (by decide +kernel) rfl⟩
theorem ki_2 : Int32.ofInt (2) = (2 : Int32) := by decide +kernel
theorem kb_64 : (Int8.ofInt (64)).toInt32 = (64 : Int32) := by decide +kernel
theorem fl_RX3_34 : xFl RX3 34 (TX3 7) := Or.inl (lw_mem (i := 180) (by decide +kernel) rfl)
theorem kb_11 : (Int8.ofInt (11)).toInt32 = (11 : Int32) := by decide +kernel
theorem kb_7 : (Int8.ofInt (7)).toInt32 = (7 : Int32) := by decide +kernel
theorem ml_RX3_56 : xMl RX3 56 yX3_run := Or.inl (lw_mem (i := 621) (by decide +kernel) rfl)
theorem yv_X3_run : xYv yX3_run cX3_run 9 (some .boolean) 2 := ⟨lw_mem (i := 624) (by decide +kernel) rfl, lw_mem (i := 623) (by decide +kernel) rfl, lw_memS (List.mem_of_getElem? (i := 32) (by decide +kernel)) rfl, lw_mem (i := 7) (by decide +kernel) rfl, ⟨by decide +kernel, by decide +kernel⟩, by decide +kernel, by decide⟩
theorem jw_RX3_60 : xJw RX3 60 Lib.Math.min.name Lib.Math.min.code 2 := ⟨lw_mem (i := 626) (by decide +kernel) rfl, lw_mem (i := 473) (by decide +kernel) rfl, lw_mem (i := 13) (by decide +kernel) rfl, lw_mem (i := 474) (by decide +kernel) rfl⟩
theorem kb_24 : (Int8.ofInt (24)).toInt32 = (24 : Int32) := by decide +kernel
theorem fl_RX7_15 : xFl RX7 15 (TX7 1) := Or.inl (lw_mem (i := 284) (by decide +kernel) rfl)
theorem xcl_7 : xCl 7 RX7 TX7 2 := ⟨rfl, cl_of [286, 288] (by decide +kernel) (by decide +kernel)⟩
theorem xcp_7 : xCp TX7 2 tyX7 := ⟨tyX7_ok, nmX7⟩
theorem ks_260 : (Int16.ofInt (260)).toInt32 = (260 : Int32) := by decide +kernel
theorem fl_RX7_9 : xFl RX7 9 (TX7 0) := Or.inl (lw_mem (i := 282) (by decide +kernel) rfl)
theorem ks_255 : (Int16.ofInt (255)).toInt32 = (255 : Int32) := by decide +kernel
theorem ki_m8 : Int32.ofInt (-8) = (-8 : Int32) := by decide +kernel
theorem ml_RX7_19 : xMl RX7 19 yX7_byteAt := Or.inl (lw_mem (i := 1009) (by decide +kernel) rfl)
theorem yv_X7_byteAt : xYv yX7_byteAt cX7_byteAt 2 (some .int) 1 := ⟨lw_mem (i := 954) (by decide +kernel) rfl, lw_mem (i := 953) (by decide +kernel) rfl, lw_memS (List.mem_of_getElem? (i := 85) (by decide +kernel)) rfl, lw_mem (i := 9) (by decide +kernel) rfl, ⟨by decide +kernel, by decide +kernel⟩, by decide +kernel, by decide⟩
theorem ml_RX0_26 : xMl RX0 26 yX6_draw := Or.inr ⟨"StarHerds", lw_memN (i := 698) (by decide +kernel) rfl⟩
theorem yv_X6_draw : xYv yX6_draw cX6_draw 1 (some .int) 0 := ⟨lw_mem (i := 701) (by decide +kernel) rfl, lw_mem (i := 700) (by decide +kernel) rfl, lw_memS (List.mem_of_getElem? (i := 43) (by decide +kernel)) rfl, lw_mem (i := 3) (by decide +kernel) rfl, ⟨by decide +kernel, by decide +kernel⟩, by decide +kernel, by decide⟩
theorem ml_RX0_50 : xMl RX0 50 yX6_endHour := Or.inr ⟨"StarHerds", lw_memN (i := 746) (by decide +kernel) rfl⟩
theorem yv_X6_endHour : xYv yX6_endHour cX6_endHour 1 none 0 := ⟨lw_mem (i := 749) (by decide +kernel) rfl, lw_mem (i := 748) (by decide +kernel) rfl, lw_memS (List.mem_of_getElem? (i := 52) (by decide +kernel)) rfl, lw_mem (i := 3) (by decide +kernel) rfl, ⟨by decide +kernel, by decide +kernel⟩, by decide +kernel, by decide⟩
theorem fl_RX0_36 : xFl RX0 36 (TX6 2) := Or.inr ⟨"StarHerds", lw_memN (i := 122) (by decide +kernel) rfl⟩
theorem ml_RX0_40 : xMl RX0 40 yX1_isOn := Or.inr ⟨"StarHerds", lw_memN (i := 707) (by decide +kernel) rfl⟩
theorem ml_RX0_128 : xMl RX0 128 yX6_isClouded := Or.inr ⟨"StarHerds", lw_memN (i := 665) (by decide +kernel) rfl⟩
theorem yv_X6_isClouded : xYv yX6_isClouded cX6_isClouded 1 (some .boolean) 0 := ⟨lw_mem (i := 668) (by decide +kernel) rfl, lw_mem (i := 667) (by decide +kernel) rfl, lw_memS (List.mem_of_getElem? (i := 38) (by decide +kernel)) rfl, lw_mem (i := 3) (by decide +kernel) rfl, ⟨by decide +kernel, by decide +kernel⟩, by decide +kernel, by decide⟩
theorem fl_RX0_78 : xFl RX0 78 (TX1 1) := Or.inr ⟨"StarHerds", lw_memN (i := 86) (by decide +kernel) rfl⟩
theorem fl_RX0_148 : xFl RX0 148 (TX6 6) := Or.inr ⟨"StarHerds", lw_memN (i := 133) (by decide +kernel) rfl⟩
theorem fl_RX0_18 : xFl RX0 18 (TX0 1) := Or.inl (lw_mem (i := 206) (by decide +kernel) rfl)
theorem xcl_0 : xCl 0 RX0 TX0 3 := ⟨rfl, cl_of [209, 211, 213] (by decide +kernel) (by decide +kernel)⟩
theorem xcp_0 : xCp TX0 3 tyX0 := ⟨tyX0_ok, nmX0⟩
theorem ml_RX0_166 : xMl RX0 166 yJ7_fill_53178 := Or.inl (lw_mem (i := 600) (by decide +kernel) rfl)
theorem ys_J7_fill_53178 : xYs yJ7_fill_53178 cJ7_fill_53178 4 none 2 := ⟨lw_mem (i := 602) (by decide +kernel) rfl, lw_mem (i := 601) (by decide +kernel) rfl, lw_mem (i := 18) (by decide +kernel) rfl, ⟨by decide +kernel, by decide +kernel⟩, by decide +kernel, by decide⟩
theorem fl_RX0_172 : xFl RX0 172 (TX6 5) := Or.inr ⟨"StarHerds", lw_memN (i := 130) (by decide +kernel) rfl⟩
theorem ml_RX0_151 : xMl RX0 151 yX0_tellTime := Or.inl (lw_mem (i := 596) (by decide +kernel) rfl)
theorem yv_X0_tellTime : xYv yX0_tellTime cX0_tellTime 3 none 2 := ⟨lw_mem (i := 599) (by decide +kernel) rfl, lw_mem (i := 598) (by decide +kernel) rfl, lw_memS (List.mem_of_getElem? (i := 28) (by decide +kernel)) rfl, lw_mem (i := 6) (by decide +kernel) rfl, ⟨by decide +kernel, by decide +kernel⟩, by decide +kernel, by decide⟩
theorem fl_RX0_103 : xFl RX0 103 (TX1 2) := Or.inr ⟨"StarHerds", lw_memN (i := 90) (by decide +kernel) rfl⟩
theorem fl_RX0_88 : xFl RX0 88 (TX1 3) := Or.inr ⟨"StarHerds", lw_memN (i := 93) (by decide +kernel) rfl⟩
theorem fl_RX0_56 : xFl RX0 56 (TX1 4) := Or.inr ⟨"StarHerds", lw_memN (i := 96) (by decide +kernel) rfl⟩
theorem kb_14 : (Int8.ofInt (14)).toInt32 = (14 : Int32) := by decide +kernel
theorem ml_RX0_81 : xMl RX0 81 yX6_sortAt := Or.inr ⟨"StarHerds", lw_memN (i := 664) (by decide +kernel) rfl⟩
theorem yv_X6_sortAt : xYv yX6_sortAt cX6_sortAt 2 (some .int) 1 := ⟨lw_mem (i := 374) (by decide +kernel) rfl, lw_mem (i := 373) (by decide +kernel) rfl, lw_memS (List.mem_of_getElem? (i := 4) (by decide +kernel)) rfl, lw_mem (i := 3) (by decide +kernel) rfl, ⟨by decide +kernel, by decide +kernel⟩, by decide +kernel, by decide⟩
theorem ml_RX0_132 : xMl RX0 132 yX0_tellHerd := Or.inl (lw_mem (i := 660) (by decide +kernel) rfl)
theorem yv_X0_tellHerd : xYv yX0_tellHerd cX0_tellHerd 6 none 3 := ⟨lw_mem (i := 663) (by decide +kernel) rfl, lw_mem (i := 662) (by decide +kernel) rfl, lw_memS (List.mem_of_getElem? (i := 37) (by decide +kernel)) rfl, lw_mem (i := 6) (by decide +kernel) rfl, ⟨by decide +kernel, by decide +kernel⟩, by decide +kernel, by decide⟩
theorem ml_RX0_135 : xMl RX0 135 yX6_isThere := Or.inr ⟨"StarHerds", lw_memN (i := 688) (by decide +kernel) rfl⟩
theorem yv_X6_isThere : xYv yX6_isThere cX6_isThere 2 (some .boolean) 1 := ⟨lw_mem (i := 655) (by decide +kernel) rfl, lw_mem (i := 654) (by decide +kernel) rfl, lw_memS (List.mem_of_getElem? (i := 35) (by decide +kernel)) rfl, lw_mem (i := 3) (by decide +kernel) rfl, ⟨by decide +kernel, by decide +kernel⟩, by decide +kernel, by decide⟩
theorem ml_RX0_67 : xMl RX0 67 yX6_squareOfLamp := Or.inr ⟨"StarHerds", lw_memN (i := 673) (by decide +kernel) rfl⟩
theorem yv_X6_squareOfLamp : xYv yX6_squareOfLamp cX6_squareOfLamp 2 (some .int) 1 := ⟨lw_mem (i := 676) (by decide +kernel) rfl, lw_mem (i := 675) (by decide +kernel) rfl, lw_memS (List.mem_of_getElem? (i := 40) (by decide +kernel)) rfl, lw_mem (i := 3) (by decide +kernel) rfl, ⟨by decide +kernel, by decide +kernel⟩, by decide +kernel, by decide⟩
theorem ml_RX0_154 : xMl RX0 154 yX6_kindOfLamp := Or.inr ⟨"StarHerds", lw_memN (i := 603) (by decide +kernel) rfl⟩
theorem yv_X6_kindOfLamp : xYv yX6_kindOfLamp cX6_kindOfLamp 2 (some .int) 1 := ⟨lw_mem (i := 606) (by decide +kernel) rfl, lw_mem (i := 605) (by decide +kernel) rfl, lw_memS (List.mem_of_getElem? (i := 29) (by decide +kernel)) rfl, lw_mem (i := 3) (by decide +kernel) rfl, ⟨by decide +kernel, by decide +kernel⟩, by decide +kernel, by decide⟩
theorem kb_13 : (Int8.ofInt (13)).toInt32 = (13 : Int32) := by decide +kernel
theorem jw_RX0_121 : xJw RX0 121 Lib.Math.abs.name Lib.Math.abs.code 1 := ⟨lw_mem (i := 677) (by decide +kernel) rfl, lw_mem (i := 678) (by decide +kernel) rfl, lw_mem (i := 13) (by decide +kernel) rfl, lw_mem (i := 679) (by decide +kernel) rfl⟩
theorem ml_RX0_138 : xMl RX0 138 yX0_tellLamp := Or.inl (lw_mem (i := 669) (by decide +kernel) rfl)
theorem yv_X0_tellLamp : xYv yX0_tellLamp cX0_tellLamp 6 none 3 := ⟨lw_mem (i := 672) (by decide +kernel) rfl, lw_mem (i := 671) (by decide +kernel) rfl, lw_memS (List.mem_of_getElem? (i := 39) (by decide +kernel)) rfl, lw_mem (i := 6) (by decide +kernel) rfl, ⟨by decide +kernel, by decide +kernel⟩, by decide +kernel, by decide⟩
theorem fl_RX0_22 : xFl RX0 22 (TX0 2) := Or.inl (lw_mem (i := 207) (by decide +kernel) rfl)
theorem ml_RX0_141 : xMl RX0 141 yX6_isLit := Or.inr ⟨"StarHerds", lw_memN (i := 689) (by decide +kernel) rfl⟩
theorem fl_RX0_12 : xFl RX0 12 (TX0 0) := Or.inl (lw_mem (i := 204) (by decide +kernel) rfl)
theorem ml_RX0_144 : xMl RX0 144 yX3_ask := Or.inr ⟨"StarHerds", lw_memN (i := 613) (by decide +kernel) rfl⟩
theorem yv_X3_ask : xYv yX3_ask cX3_ask 5 (some .int) 2 := ⟨lw_mem (i := 616) (by decide +kernel) rfl, lw_mem (i := 615) (by decide +kernel) rfl, lw_memS (List.mem_of_getElem? (i := 31) (by decide +kernel)) rfl, lw_mem (i := 7) (by decide +kernel) rfl, ⟨by decide +kernel, by decide +kernel⟩, by decide +kernel, by decide⟩
theorem ml_RX0_53 : xMl RX0 53 yX0_goalOf := Or.inl (lw_mem (i := 712) (by decide +kernel) rfl)
theorem yv_X0_goalOf : xYv yX0_goalOf cX0_goalOf 8 (some .int) 2 := ⟨lw_mem (i := 687) (by decide +kernel) rfl, lw_mem (i := 686) (by decide +kernel) rfl, lw_memS (List.mem_of_getElem? (i := 41) (by decide +kernel)) rfl, lw_mem (i := 6) (by decide +kernel) rfl, ⟨by decide +kernel, by decide +kernel⟩, by decide +kernel, by decide⟩
theorem kb_50 : (Int8.ofInt (50)).toInt32 = (50 : Int32) := by decide +kernel
theorem ml_RX0_59 : xMl RX0 59 yX0_askOf := Or.inl (lw_mem (i := 713) (by decide +kernel) rfl)
theorem yv_X0_askOf : xYv yX0_askOf cX0_askOf 5 (some .int) 4 := ⟨lw_mem (i := 716) (by decide +kernel) rfl, lw_mem (i := 715) (by decide +kernel) rfl, lw_memS (List.mem_of_getElem? (i := 46) (by decide +kernel)) rfl, lw_mem (i := 6) (by decide +kernel) rfl, ⟨by decide +kernel, by decide +kernel⟩, by decide +kernel, by decide⟩
theorem gs_RX0_106 : xFl RX0 106 (RX8, xTn 2, "[I", true) := Or.inr ⟨"StarHerds", lw_memN (i := 721) (by decide +kernel) rfl⟩
theorem gs_RX0_109 : xFl RX0 109 (RX8, xTn 3, "[I", true) := Or.inr ⟨"StarHerds", lw_memN (i := 723) (by decide +kernel) rfl⟩
theorem ml_RX0_124 : xMl RX0 124 yX8_isSquare := Or.inr ⟨"StarHerds", lw_memN (i := 729) (by decide +kernel) rfl⟩
theorem ys_X8_isSquare : xYs yX8_isSquare cX8_isSquare 2 (some .boolean) 2 := ⟨lw_mem (i := 347) (by decide +kernel) rfl, lw_mem (i := 346) (by decide +kernel) rfl, lw_mem (i := 1) (by decide +kernel) rfl, ⟨by decide +kernel, by decide +kernel⟩, by decide +kernel, by decide⟩
theorem ml_RX0_112 : xMl RX0 112 yX0_step := Or.inl (lw_mem (i := 725) (by decide +kernel) rfl)
theorem yv_X0_step : xYv yX0_step cX0_step 7 (some .boolean) 4 := ⟨lw_mem (i := 728) (by decide +kernel) rfl, lw_mem (i := 727) (by decide +kernel) rfl, lw_memS (List.mem_of_getElem? (i := 48) (by decide +kernel)) rfl, lw_mem (i := 6) (by decide +kernel) rfl, ⟨by decide +kernel, by decide +kernel⟩, by decide +kernel, by decide⟩
theorem ml_RX0_63 : xMl RX0 63 yX0_stampede := Or.inl (lw_mem (i := 717) (by decide +kernel) rfl)
theorem yv_X0_stampede : xYv yX0_stampede cX0_stampede 6 none 3 := ⟨lw_mem (i := 720) (by decide +kernel) rfl, lw_mem (i := 719) (by decide +kernel) rfl, lw_memS (List.mem_of_getElem? (i := 47) (by decide +kernel)) rfl, lw_mem (i := 6) (by decide +kernel) rfl, ⟨by decide +kernel, by decide +kernel⟩, by decide +kernel, by decide⟩
theorem jw_RX0_91 : xJw RX0 91 Lib.Math.min.name Lib.Math.min.code 2 := ⟨lw_mem (i := 745) (by decide +kernel) rfl, lw_mem (i := 473) (by decide +kernel) rfl, lw_mem (i := 13) (by decide +kernel) rfl, lw_mem (i := 474) (by decide +kernel) rfl⟩
theorem ml_RX0_84 : xMl RX0 84 yX0_lose := Or.inl (lw_mem (i := 741) (by decide +kernel) rfl)
theorem yv_X0_lose : xYv yX0_lose cX0_lose 5 (some .int) 3 := ⟨lw_mem (i := 744) (by decide +kernel) rfl, lw_mem (i := 743) (by decide +kernel) rfl, lw_memS (List.mem_of_getElem? (i := 51) (by decide +kernel)) rfl, lw_mem (i := 6) (by decide +kernel) rfl, ⟨by decide +kernel, by decide +kernel⟩, by decide +kernel, by decide⟩
theorem kb_99 : (Int8.ofInt (99)).toInt32 = (99 : Int32) := by decide +kernel
theorem jw_RX0_97 : xJw RX0 97 Lib.Math.max.name Lib.Math.max.code 2 := ⟨lw_mem (i := 612) (by decide +kernel) rfl, lw_mem (i := 470) (by decide +kernel) rfl, lw_mem (i := 13) (by decide +kernel) rfl, lw_mem (i := 471) (by decide +kernel) rfl⟩
theorem fl_RX0_100 : xFl RX0 100 (TX6 4) := Or.inr ⟨"StarHerds", lw_memN (i := 127) (by decide +kernel) rfl⟩
theorem ml_RX0_74 : xMl RX0 74 yX0_goOn := Or.inl (lw_mem (i := 737) (by decide +kernel) rfl)
theorem yv_X0_goOn : xYv yX0_goOn cX0_goOn 3 none 2 := ⟨lw_mem (i := 740) (by decide +kernel) rfl, lw_mem (i := 739) (by decide +kernel) rfl, lw_memS (List.mem_of_getElem? (i := 50) (by decide +kernel)) rfl, lw_mem (i := 6) (by decide +kernel) rfl, ⟨by decide +kernel, by decide +kernel⟩, by decide +kernel, by decide⟩
theorem ml_RX0_116 : xMl RX0 116 yJ6_compare_7cf53 := Or.inl (lw_mem (i := 734) (by decide +kernel) rfl)
theorem ys_J6_compare_7cf53 : xYs yJ6_compare_7cf53 cJ6_compare_7cf53 2 (some .int) 2 := ⟨lw_mem (i := 736) (by decide +kernel) rfl, lw_mem (i := 735) (by decide +kernel) rfl, lw_mem (i := 19) (by decide +kernel) rfl, ⟨by decide +kernel, by decide +kernel⟩, by decide +kernel, by decide⟩
theorem ml_RX0_71 : xMl RX0 71 yX0_follow := Or.inl (lw_mem (i := 730) (by decide +kernel) rfl)
theorem yv_X0_follow : xYv yX0_follow cX0_follow 9 none 3 := ⟨lw_mem (i := 733) (by decide +kernel) rfl, lw_mem (i := 732) (by decide +kernel) rfl, lw_memS (List.mem_of_getElem? (i := 49) (by decide +kernel)) rfl, lw_mem (i := 6) (by decide +kernel) rfl, ⟨by decide +kernel, by decide +kernel⟩, by decide +kernel, by decide⟩
theorem ml_RX0_46 : xMl RX0 46 yX0_moveHerd := Or.inl (lw_mem (i := 708) (by decide +kernel) rfl)
theorem yv_X0_moveHerd : xYv yX0_moveHerd cX0_moveHerd 10 (some .int) 3 := ⟨lw_mem (i := 711) (by decide +kernel) rfl, lw_mem (i := 710) (by decide +kernel) rfl, lw_memS (List.mem_of_getElem? (i := 45) (by decide +kernel)) rfl, lw_mem (i := 6) (by decide +kernel) rfl, ⟨by decide +kernel, by decide +kernel⟩, by decide +kernel, by decide⟩
theorem ml_RX0_32 : xMl RX0 32 yX0_passHour := Or.inl (lw_mem (i := 703) (by decide +kernel) rfl)
theorem yv_X0_passHour : xYv yX0_passHour cX0_passHour 5 (some .int) 2 := ⟨lw_mem (i := 706) (by decide +kernel) rfl, lw_mem (i := 705) (by decide +kernel) rfl, lw_memS (List.mem_of_getElem? (i := 44) (by decide +kernel)) rfl, lw_mem (i := 6) (by decide +kernel) rfl, ⟨by decide +kernel, by decide +kernel⟩, by decide +kernel, by decide⟩
theorem fl_RX0_157 : xFl RX0 157 (TX6 1) := Or.inr ⟨"StarHerds", lw_memN (i := 119) (by decide +kernel) rfl⟩
theorem ml_RX0_161 : xMl RX0 161 yX2_tell := Or.inr ⟨"StarHerds", lw_memN (i := 607) (by decide +kernel) rfl⟩
theorem yv_X2_tell : xYv yX2_tell cX2_tell 3 (some .int) 2 := ⟨lw_mem (i := 610) (by decide +kernel) rfl, lw_mem (i := 609) (by decide +kernel) rfl, lw_memS (List.mem_of_getElem? (i := 30) (by decide +kernel)) rfl, lw_mem (i := 4) (by decide +kernel) rfl, ⟨by decide +kernel, by decide +kernel⟩, by decide +kernel, by decide⟩
theorem fl_RX4_32 : xFl RX4 32 (TX4 4) := Or.inl (lw_mem (i := 299) (by decide +kernel) rfl)
theorem xcl_4 : xCl 4 RX4 TX4 6 := ⟨rfl, cl_of [301, 303, 305, 307, 309, 311] (by decide +kernel) (by decide +kernel)⟩
theorem xcp_4 : xCp TX4 6 tyX4 := ⟨tyX4_ok, nmX4⟩
theorem sf_38 : Cond.fieldLink RJ0 38 "java/lang/String" "COMPACT_STRINGS" "Z" ∈ lw_gt := lw_mem (i := 453) (by decide +kernel) rfl
theorem sf_15 : Cond.fieldLink RJ0 15 "java/lang/String" "coder" "B" ∈ lw_gt := lw_mem (i := 1584) (by decide +kernel) rfl
theorem ml_RJ0_492 : xMl RJ0 492 yJ0_isLatin1_aae02 := Or.inl (lw_mem (i := 449) (by decide +kernel) rfl)
theorem yv_J0_isLatin1_aae02 : xYv yJ0_isLatin1_aae02 cJ0_isLatin1_aae02 1 (some .boolean) 0 := ⟨lw_mem (i := 452) (by decide +kernel) rfl, lw_mem (i := 450) (by decide +kernel) rfl, lw_mem (i := 451) (by decide +kernel) rfl, lw_mem (i := 11) (by decide +kernel) rfl, ⟨by decide +kernel, by decide +kernel⟩, by decide +kernel, by decide⟩
theorem sf_9 : Cond.fieldLink RJ0 9 "java/lang/String" "value" "[B" ∈ lw_gt := lw_mem (i := 1585) (by decide +kernel) rfl
theorem ml_RJ0_335 : xMl RJ0 335 yJ0_coder_7d493 := Or.inl (lw_mem (i := 459) (by decide +kernel) rfl)
theorem yv_J0_coder_7d493 : xYv yJ0_coder_7d493 cJ0_coder_7d493 1 (some .byte) 0 := ⟨lw_mem (i := 462) (by decide +kernel) rfl, lw_mem (i := 460) (by decide +kernel) rfl, lw_mem (i := 461) (by decide +kernel) rfl, lw_mem (i := 11) (by decide +kernel) rfl, ⟨by decide +kernel, by decide +kernel⟩, by decide +kernel, by decide⟩
theorem ml_RJ0_505 : xMl RJ0 505 yJ0_length_8abf5 := Or.inl (lw_mem (i := 455) (by decide +kernel) rfl)
theorem yv_J0_length_8abf5 : xYv yJ0_length_8abf5 cJ0_length_8abf5 1 (some .int) 0 := ⟨lw_mem (i := 458) (by decide +kernel) rfl, lw_mem (i := 456) (by decide +kernel) rfl, lw_mem (i := 457) (by decide +kernel) rfl, lw_mem (i := 11) (by decide +kernel) rfl, ⟨by decide +kernel, by decide +kernel⟩, by decide +kernel, by decide⟩
theorem ml_RJ1_88 : xMl RJ1 88 yJ1_canEncode_9a6ad := Or.inl (lw_mem (i := 466) (by decide +kernel) rfl)
theorem ys_J1_canEncode_9a6ad : xYs yJ1_canEncode_9a6ad cJ1_canEncode_9a6ad 1 (some .boolean) 1 := ⟨lw_mem (i := 468) (by decide +kernel) rfl, lw_mem (i := 467) (by decide +kernel) rfl, lw_mem (i := 12) (by decide +kernel) rfl, ⟨by decide +kernel, by decide +kernel⟩, by decide +kernel, by decide⟩
theorem jw_RJ1_92 : xJw RJ1 92 Lib.Math.max.name Lib.Math.max.code 2 := ⟨lw_mem (i := 469) (by decide +kernel) rfl, lw_mem (i := 470) (by decide +kernel) rfl, lw_mem (i := 13) (by decide +kernel) rfl, lw_mem (i := 471) (by decide +kernel) rfl⟩
theorem jw_RJ1_38 : xJw RJ1 38 Lib.Math.min.name Lib.Math.min.code 2 := ⟨lw_mem (i := 472) (by decide +kernel) rfl, lw_mem (i := 473) (by decide +kernel) rfl, lw_mem (i := 13) (by decide +kernel) rfl, lw_mem (i := 474) (by decide +kernel) rfl⟩
theorem ml_RJ1_95 : xMl RJ1 95 yJ1_indexOfChar_4cfef := Or.inl (lw_mem (i := 475) (by decide +kernel) rfl)
theorem ys_J1_indexOfChar_4cfef : xYs yJ1_indexOfChar_4cfef cJ1_indexOfChar_4cfef 6 (some .int) 4 := ⟨lw_mem (i := 477) (by decide +kernel) rfl, lw_mem (i := 476) (by decide +kernel) rfl, lw_mem (i := 12) (by decide +kernel) rfl, ⟨by decide +kernel, by decide +kernel⟩, by decide +kernel, by decide⟩
theorem ml_RJ0_637 : xMl RJ0 637 yJ1_indexOf_4cfef := Or.inl (lw_mem (i := 463) (by decide +kernel) rfl)
theorem ys_J1_indexOf_4cfef : xYs yJ1_indexOf_4cfef cJ1_indexOf_4cfef 4 (some .int) 4 := ⟨lw_mem (i := 465) (by decide +kernel) rfl, lw_mem (i := 464) (by decide +kernel) rfl, lw_mem (i := 12) (by decide +kernel) rfl, ⟨by decide +kernel, by decide +kernel⟩, by decide +kernel, by decide⟩
theorem ml_RJ0_633 : xMl RJ0 633 yJ0_indexOf_7cf53 := Or.inl (lw_mem (i := 445) (by decide +kernel) rfl)
theorem yv_J0_indexOf_7cf53 : xYv yJ0_indexOf_7cf53 cJ0_indexOf_7cf53 3 (some .int) 2 := ⟨lw_mem (i := 448) (by decide +kernel) rfl, lw_mem (i := 446) (by decide +kernel) rfl, lw_mem (i := 447) (by decide +kernel) rfl, lw_mem (i := 11) (by decide +kernel) rfl, ⟨by decide +kernel, by decide +kernel⟩, by decide +kernel, by decide⟩
theorem ml_RX4_109 : xMl RX4 109 yJ0_indexOf_0f7a4 := Or.inl (lw_mem (i := 441) (by decide +kernel) rfl)
theorem yv_J0_indexOf_0f7a4 : xYv yJ0_indexOf_0f7a4 cJ0_indexOf_0f7a4 2 (some .int) 1 := ⟨lw_mem (i := 444) (by decide +kernel) rfl, lw_mem (i := 442) (by decide +kernel) rfl, lw_mem (i := 443) (by decide +kernel) rfl, lw_mem (i := 11) (by decide +kernel) rfl, ⟨by decide +kernel, by decide +kernel⟩, by decide +kernel, by decide⟩
theorem fl_RX4_25 : xFl RX4 25 (TX4 2) := Or.inl (lw_mem (i := 297) (by decide +kernel) rfl)
theorem fl_RX4_29 : xFl RX4 29 (TX4 3) := Or.inl (lw_mem (i := 298) (by decide +kernel) rfl)
theorem fl_RX4_12 : xFl RX4 12 (TX4 0) := Or.inl (lw_mem (i := 293) (by decide +kernel) rfl)
theorem fl_RX4_105 : xFl RX4 105 (TX7 0) := Or.inr ⟨"StarHerds", lw_memN (i := 283) (by decide +kernel) rfl⟩
theorem ks_m1000 : (Int16.ofInt (-1000)).toInt32 = (-1000 : Int32) := by decide +kernel
theorem fl_RX4_35 : xFl RX4 35 (TX4 5) := Or.inl (lw_mem (i := 300) (by decide +kernel) rfl)
theorem ml_RX4_41 : xMl RX4 41 yX4_goTo := Or.inl (lw_mem (i := 428) (by decide +kernel) rfl)
theorem yv_X4_goTo : xYv yX4_goTo cX4_goTo 2 none 1 := ⟨lw_mem (i := 431) (by decide +kernel) rfl, lw_mem (i := 430) (by decide +kernel) rfl, lw_memS (List.mem_of_getElem? (i := 10) (by decide +kernel)) rfl, lw_mem (i := 8) (by decide +kernel) rfl, ⟨by decide +kernel, by decide +kernel⟩, by decide +kernel, by decide⟩
theorem ml_RX4_62 : xMl RX4 62 yX4_fail := Or.inl (lw_mem (i := 527) (by decide +kernel) rfl)
theorem yv_X4_fail : xYv yX4_fail cX4_fail 2 (some .boolean) 1 := ⟨lw_mem (i := 530) (by decide +kernel) rfl, lw_mem (i := 529) (by decide +kernel) rfl, lw_memS (List.mem_of_getElem? (i := 13) (by decide +kernel)) rfl, lw_mem (i := 8) (by decide +kernel) rfl, ⟨by decide +kernel, by decide +kernel⟩, by decide +kernel, by decide⟩
theorem kb_48 : (Int8.ofInt (48)).toInt32 = (48 : Int32) := by decide +kernel
theorem kb_57 : (Int8.ofInt (57)).toInt32 = (57 : Int32) := by decide +kernel
theorem fl_RX4_21 : xFl RX4 21 (TX4 1) := Or.inl (lw_mem (i := 295) (by decide +kernel) rfl)
theorem ml_RX4_71 : xMl RX4 71 yX3_add := Or.inr ⟨"StarHerds", lw_memN (i := 547) (by decide +kernel) rfl⟩
theorem yv_X3_add : xYv yX3_add cX3_add 3 (some .int) 2 := ⟨lw_mem (i := 550) (by decide +kernel) rfl, lw_mem (i := 549) (by decide +kernel) rfl, lw_memS (List.mem_of_getElem? (i := 18) (by decide +kernel)) rfl, lw_mem (i := 7) (by decide +kernel) rfl, ⟨by decide +kernel, by decide +kernel⟩, by decide +kernel, by decide⟩
theorem ml_RX4_97 : xMl RX4 97 yX4_readFactor := Or.inl (lw_mem (i := 539) (by decide +kernel) rfl)
theorem yv_X4_readFactor : xYv yX4_readFactor cX4_readFactor 3 (some .boolean) 1 := ⟨lw_mem (i := 542) (by decide +kernel) rfl, lw_mem (i := 541) (by decide +kernel) rfl, lw_memS (List.mem_of_getElem? (i := 16) (by decide +kernel)) rfl, lw_mem (i := 8) (by decide +kernel) rfl, ⟨by decide +kernel, by decide +kernel⟩, by decide +kernel, by decide⟩
theorem kb_42 : (Int8.ofInt (42)).toInt32 = (42 : Int32) := by decide +kernel
theorem kb_47 : (Int8.ofInt (47)).toInt32 = (47 : Int32) := by decide +kernel
theorem kb_37 : (Int8.ofInt (37)).toInt32 = (37 : Int32) := by decide +kernel
theorem ml_RX4_94 : xMl RX4 94 yX4_readTerm := Or.inl (lw_mem (i := 535) (by decide +kernel) rfl)
theorem yv_X4_readTerm : xYv yX4_readTerm cX4_readTerm 4 (some .boolean) 1 := ⟨lw_mem (i := 538) (by decide +kernel) rfl, lw_mem (i := 537) (by decide +kernel) rfl, lw_memS (List.mem_of_getElem? (i := 15) (by decide +kernel)) rfl, lw_mem (i := 8) (by decide +kernel) rfl, ⟨by decide +kernel, by decide +kernel⟩, by decide +kernel, by decide⟩
theorem kb_43 : (Int8.ofInt (43)).toInt32 = (43 : Int32) := by decide +kernel
theorem kb_45 : (Int8.ofInt (45)).toInt32 = (45 : Int32) := by decide +kernel
theorem ml_RX4_100 : xMl RX4 100 yX4_readNumber := Or.inl (lw_mem (i := 543) (by decide +kernel) rfl)
theorem yv_X4_readNumber : xYv yX4_readNumber cX4_readNumber 3 (some .boolean) 0 := ⟨lw_mem (i := 546) (by decide +kernel) rfl, lw_mem (i := 545) (by decide +kernel) rfl, lw_memS (List.mem_of_getElem? (i := 17) (by decide +kernel)) rfl, lw_mem (i := 8) (by decide +kernel) rfl, ⟨by decide +kernel, by decide +kernel⟩, by decide +kernel, by decide⟩
theorem kb_91 : (Int8.ofInt (91)).toInt32 = (91 : Int32) := by decide +kernel
theorem ml_RX4_58 : xMl RX4 58 yX4_placeIn := Or.inl (lw_mem (i := 437) (by decide +kernel) rfl)
theorem yv_X4_placeIn : xYv yX4_placeIn cX4_placeIn 2 (some .int) 1 := ⟨lw_mem (i := 440) (by decide +kernel) rfl, lw_mem (i := 439) (by decide +kernel) rfl, lw_memS (List.mem_of_getElem? (i := 12) (by decide +kernel)) rfl, lw_mem (i := 8) (by decide +kernel) rfl, ⟨by decide +kernel, by decide +kernel⟩, by decide +kernel, by decide⟩
theorem ml_RX4_68 : xMl RX4 68 yX4_readSum := Or.inl (lw_mem (i := 531) (by decide +kernel) rfl)
theorem yv_X4_readSum : xYv yX4_readSum cX4_readSum 4 (some .boolean) 1 := ⟨lw_mem (i := 534) (by decide +kernel) rfl, lw_mem (i := 533) (by decide +kernel) rfl, lw_memS (List.mem_of_getElem? (i := 14) (by decide +kernel)) rfl, lw_mem (i := 8) (by decide +kernel) rfl, ⟨by decide +kernel, by decide +kernel⟩, by decide +kernel, by decide⟩
theorem kb_93 : (Int8.ofInt (93)).toInt32 = (93 : Int32) := by decide +kernel
theorem ml_RX4_52 : xMl RX4 52 yX4_take := Or.inl (lw_mem (i := 551) (by decide +kernel) rfl)
theorem yv_X4_take : xYv yX4_take cX4_take 2 (some .boolean) 1 := ⟨lw_mem (i := 554) (by decide +kernel) rfl, lw_mem (i := 553) (by decide +kernel) rfl, lw_memS (List.mem_of_getElem? (i := 19) (by decide +kernel)) rfl, lw_mem (i := 8) (by decide +kernel) rfl, ⟨by decide +kernel, by decide +kernel⟩, by decide +kernel, by decide⟩
theorem kb_60 : (Int8.ofInt (60)).toInt32 = (60 : Int32) := by decide +kernel
theorem kb_62 : (Int8.ofInt (62)).toInt32 = (62 : Int32) := by decide +kernel
theorem kb_61 : (Int8.ofInt (61)).toInt32 = (61 : Int32) := by decide +kernel
theorem ml_RX4_88 : xMl RX4 88 yX4_readPiece := Or.inl (lw_mem (i := 564) (by decide +kernel) rfl)
theorem yv_X4_readPiece : xYv yX4_readPiece cX4_readPiece 3 (some .boolean) 1 := ⟨lw_mem (i := 567) (by decide +kernel) rfl, lw_mem (i := 566) (by decide +kernel) rfl, lw_memS (List.mem_of_getElem? (i := 22) (by decide +kernel)) rfl, lw_mem (i := 8) (by decide +kernel) rfl, ⟨by decide +kernel, by decide +kernel⟩, by decide +kernel, by decide⟩
theorem ml_RX4_85 : xMl RX4 85 yX3_aim := Or.inr ⟨"StarHerds", lw_memN (i := 572) (by decide +kernel) rfl⟩
theorem yv_X3_aim : xYv yX3_aim cX3_aim 2 none 1 := ⟨lw_mem (i := 575) (by decide +kernel) rfl, lw_mem (i := 574) (by decide +kernel) rfl, lw_memS (List.mem_of_getElem? (i := 24) (by decide +kernel)) rfl, lw_mem (i := 7) (by decide +kernel) rfl, ⟨by decide +kernel, by decide +kernel⟩, by decide +kernel, by decide⟩
theorem kb_38 : (Int8.ofInt (38)).toInt32 = (38 : Int32) := by decide +kernel
theorem ml_RX4_82 : xMl RX4 82 yX4_readPart := Or.inl (lw_mem (i := 560) (by decide +kernel) rfl)
theorem yv_X4_readPart : xYv yX4_readPart cX4_readPart 4 (some .boolean) 1 := ⟨lw_mem (i := 563) (by decide +kernel) rfl, lw_mem (i := 562) (by decide +kernel) rfl, lw_memS (List.mem_of_getElem? (i := 21) (by decide +kernel)) rfl, lw_mem (i := 8) (by decide +kernel) rfl, ⟨by decide +kernel, by decide +kernel⟩, by decide +kernel, by decide⟩
theorem kb_124 : (Int8.ofInt (124)).toInt32 = (124 : Int32) := by decide +kernel
theorem kb_33 : (Int8.ofInt (33)).toInt32 = (33 : Int32) := by decide +kernel
theorem kb_40 : (Int8.ofInt (40)).toInt32 = (40 : Int32) := by decide +kernel
theorem ml_RX4_91 : xMl RX4 91 yX4_readComparison := Or.inl (lw_mem (i := 568) (by decide +kernel) rfl)
theorem yv_X4_readComparison : xYv yX4_readComparison cX4_readComparison 3 (some .boolean) 1 := ⟨lw_mem (i := 571) (by decide +kernel) rfl, lw_mem (i := 570) (by decide +kernel) rfl, lw_memS (List.mem_of_getElem? (i := 23) (by decide +kernel)) rfl, lw_mem (i := 8) (by decide +kernel) rfl, ⟨by decide +kernel, by decide +kernel⟩, by decide +kernel, by decide⟩
theorem ml_RX4_75 : xMl RX4 75 yX4_readChoice := Or.inl (lw_mem (i := 556) (by decide +kernel) rfl)
theorem yv_X4_readChoice : xYv yX4_readChoice cX4_readChoice 4 (some .boolean) 1 := ⟨lw_mem (i := 559) (by decide +kernel) rfl, lw_mem (i := 558) (by decide +kernel) rfl, lw_memS (List.mem_of_getElem? (i := 20) (by decide +kernel)) rfl, lw_mem (i := 8) (by decide +kernel) rfl, ⟨by decide +kernel, by decide +kernel⟩, by decide +kernel, by decide⟩
theorem kb_41 : (Int8.ofInt (41)).toInt32 = (41 : Int32) := by decide +kernel
theorem fl_RX4_49 : xFl RX4 49 (TX3 6) := Or.inr ⟨"StarHerds", lw_memN (i := 178) (by decide +kernel) rfl⟩
theorem fl_RX4_65 : xFl RX4 65 (TX3 2) := Or.inr ⟨"StarHerds", lw_memN (i := 173) (by decide +kernel) rfl⟩
theorem ml_RX4_78 : xMl RX4 78 yX3_addClause := Or.inr ⟨"StarHerds", lw_memN (i := 576) (by decide +kernel) rfl⟩
theorem yv_X3_addClause : xYv yX3_addClause cX3_addClause 4 none 3 := ⟨lw_mem (i := 579) (by decide +kernel) rfl, lw_mem (i := 578) (by decide +kernel) rfl, lw_memS (List.mem_of_getElem? (i := 25) (by decide +kernel)) rfl, lw_mem (i := 7) (by decide +kernel) rfl, ⟨by decide +kernel, by decide +kernel⟩, by decide +kernel, by decide⟩
theorem ml_RX4_38 : xMl RX4 38 yX3_clear := Or.inr ⟨"StarHerds", lw_memN (i := 424) (by decide +kernel) rfl⟩
theorem yv_X3_clear : xYv yX3_clear cX3_clear 1 none 0 := ⟨lw_mem (i := 427) (by decide +kernel) rfl, lw_mem (i := 426) (by decide +kernel) rfl, lw_memS (List.mem_of_getElem? (i := 9) (by decide +kernel)) rfl, lw_mem (i := 7) (by decide +kernel) rfl, ⟨by decide +kernel, by decide +kernel⟩, by decide +kernel, by decide⟩
theorem ml_RX4_45 : xMl RX4 45 yX4_readClause := Or.inl (lw_mem (i := 432) (by decide +kernel) rfl)
theorem yv_X4_readClause : xYv yX4_readClause cX4_readClause 4 (some .boolean) 0 := ⟨lw_mem (i := 435) (by decide +kernel) rfl, lw_mem (i := 434) (by decide +kernel) rfl, lw_memS (List.mem_of_getElem? (i := 11) (by decide +kernel)) rfl, lw_mem (i := 8) (by decide +kernel) rfl, ⟨by decide +kernel, by decide +kernel⟩, by decide +kernel, by decide⟩
theorem kb_59 : (Int8.ofInt (59)).toInt32 = (59 : Int32) := by decide +kernel
theorem fl_RX5_28 : xFl RX5 28 (TX5 3) := Or.inl (lw_mem (i := 223) (by decide +kernel) rfl)
theorem xcl_5 : xCl 5 RX5 TX5 15 := ⟨rfl, cl_of [239, 241, 243, 245, 247, 249, 251, 253, 255, 257, 259, 261, 263, 265, 267] (by decide +kernel) (by decide +kernel)⟩
theorem xcp_5 : xCp TX5 15 tyX5 := ⟨tyX5_ok, nmX5⟩
theorem ml_RX5_134 : xMl RX5 134 yX6_become := Or.inr ⟨"StarHerds", lw_memN (i := 833) (by decide +kernel) rfl⟩
theorem yv_X6_become : xYv yX6_become cX6_become 2 none 1 := ⟨lw_mem (i := 771) (by decide +kernel) rfl, lw_mem (i := 770) (by decide +kernel) rfl, lw_memS (List.mem_of_getElem? (i := 55) (by decide +kernel)) rfl, lw_mem (i := 3) (by decide +kernel) rfl, ⟨by decide +kernel, by decide +kernel⟩, by decide +kernel, by decide⟩
theorem fl_RX5_21 : xFl RX5 21 (TX5 1) := Or.inl (lw_mem (i := 219) (by decide +kernel) rfl)
theorem ml_RX5_188 : xMl RX5 188 yX0_passHour := Or.inr ⟨"StarHerds", lw_memN (i := 975) (by decide +kernel) rfl⟩
theorem ml_RX5_184 : xMl RX5 184 yX5_countBehind := Or.inl (lw_mem (i := 971) (by decide +kernel) rfl)
theorem yv_X5_countBehind : xYv yX5_countBehind cX5_countBehind 6 (some .int) 3 := ⟨lw_mem (i := 974) (by decide +kernel) rfl, lw_mem (i := 973) (by decide +kernel) rfl, lw_memS (List.mem_of_getElem? (i := 88) (by decide +kernel)) rfl, lw_mem (i := 2) (by decide +kernel) rfl, ⟨by decide +kernel, by decide +kernel⟩, by decide +kernel, by decide⟩
theorem fl_RX5_92 : xFl RX5 92 (TX6 2) := Or.inr ⟨"StarHerds", lw_memN (i := 121) (by decide +kernel) rfl⟩
theorem ml_RX5_96 : xMl RX5 96 yX1_living := Or.inr ⟨"StarHerds", lw_memN (i := 843) (by decide +kernel) rfl⟩
theorem yv_X1_living : xYv yX1_living cX1_living 3 (some .int) 0 := ⟨lw_mem (i := 786) (by decide +kernel) rfl, lw_mem (i := 785) (by decide +kernel) rfl, lw_memS (List.mem_of_getElem? (i := 58) (by decide +kernel)) rfl, lw_mem (i := 5) (by decide +kernel) rfl, ⟨by decide +kernel, by decide +kernel⟩, by decide +kernel, by decide⟩
theorem fl_RX5_36 : xFl RX5 36 (TX5 5) := Or.inl (lw_mem (i := 225) (by decide +kernel) rfl)
theorem fl_RX5_12 : xFl RX5 12 (TX5 0) := Or.inl (lw_mem (i := 217) (by decide +kernel) rfl)
theorem fl_RX5_122 : xFl RX5 122 (TX6 1) := Or.inr ⟨"StarHerds", lw_memN (i := 117) (by decide +kernel) rfl⟩
theorem ml_RX5_126 : xMl RX5 126 yX2_stands := Or.inr ⟨"StarHerds", lw_memN (i := 822) (by decide +kernel) rfl⟩
theorem ml_RX5_131 : xMl RX5 131 yX2_isLit := Or.inr ⟨"StarHerds", lw_memN (i := 823) (by decide +kernel) rfl⟩
theorem fl_RX5_32 : xFl RX5 32 (TX5 4) := Or.inl (lw_mem (i := 224) (by decide +kernel) rfl)
theorem ml_RX5_67 : xMl RX5 67 yX5_chooseInns := Or.inl (lw_mem (i := 818) (by decide +kernel) rfl)
theorem yv_X5_chooseInns : xYv yX5_chooseInns cX5_chooseInns 3 none 1 := ⟨lw_mem (i := 821) (by decide +kernel) rfl, lw_mem (i := 820) (by decide +kernel) rfl, lw_memS (List.mem_of_getElem? (i := 62) (by decide +kernel)) rfl, lw_mem (i := 2) (by decide +kernel) rfl, ⟨by decide +kernel, by decide +kernel⟩, by decide +kernel, by decide⟩
theorem fl_RX5_40 : xFl RX5 40 (TX5 6) := Or.inl (lw_mem (i := 226) (by decide +kernel) rfl)
theorem ml_RX5_71 : xMl RX5 71 yJ7_fill_53178 := Or.inl (lw_mem (i := 824) (by decide +kernel) rfl)
theorem ks_512 : (Int16.ofInt (512)).toInt32 = (512 : Int32) := by decide +kernel
theorem ml_RX5_77 : xMl RX5 77 yX5_isSet := Or.inl (lw_mem (i := 825) (by decide +kernel) rfl)
theorem yv_X5_isSet : xYv yX5_isSet cX5_isSet 2 (some .boolean) 1 := ⟨lw_mem (i := 828) (by decide +kernel) rfl, lw_mem (i := 827) (by decide +kernel) rfl, lw_memS (List.mem_of_getElem? (i := 63) (by decide +kernel)) rfl, lw_mem (i := 2) (by decide +kernel) rfl, ⟨by decide +kernel, by decide +kernel⟩, by decide +kernel, by decide⟩
theorem fl_RX5_25 : xFl RX5 25 (TX5 2) := Or.inl (lw_mem (i := 221) (by decide +kernel) rfl)
theorem ml_RX5_138 : xMl RX5 138 yX2_light := Or.inr ⟨"StarHerds", lw_memN (i := 834) (by decide +kernel) rfl⟩
theorem yv_X2_light : xYv yX2_light cX2_light 3 none 2 := ⟨lw_mem (i := 837) (by decide +kernel) rfl, lw_mem (i := 836) (by decide +kernel) rfl, lw_memS (List.mem_of_getElem? (i := 65) (by decide +kernel)) rfl, lw_mem (i := 4) (by decide +kernel) rfl, ⟨by decide +kernel, by decide +kernel⟩, by decide +kernel, by decide⟩
theorem fl_RX5_142 : xFl RX5 142 (TX0 2) := Or.inr ⟨"StarHerds", lw_memN (i := 208) (by decide +kernel) rfl⟩
theorem ml_RX5_81 : xMl RX5 81 yX5_lightSet := Or.inl (lw_mem (i := 829) (by decide +kernel) rfl)
theorem yv_X5_lightSet : xYv yX5_lightSet cX5_lightSet 3 none 1 := ⟨lw_mem (i := 832) (by decide +kernel) rfl, lw_mem (i := 831) (by decide +kernel) rfl, lw_memS (List.mem_of_getElem? (i := 64) (by decide +kernel)) rfl, lw_mem (i := 2) (by decide +kernel) rfl, ⟨by decide +kernel, by decide +kernel⟩, by decide +kernel, by decide⟩
theorem ml_RX5_84 : xMl RX5 84 yX6_hoursLeft := Or.inr ⟨"StarHerds", lw_memN (i := 838) (by decide +kernel) rfl⟩
theorem yv_X6_hoursLeft : xYv yX6_hoursLeft cX6_hoursLeft 1 (some .int) 0 := ⟨lw_mem (i := 841) (by decide +kernel) rfl, lw_mem (i := 840) (by decide +kernel) rfl, lw_memS (List.mem_of_getElem? (i := 66) (by decide +kernel)) rfl, lw_mem (i := 3) (by decide +kernel) rfl, ⟨by decide +kernel, by decide +kernel⟩, by decide +kernel, by decide⟩
theorem ml_RX5_88 : xMl RX5 88 yX0_passHours := Or.inr ⟨"StarHerds", lw_memN (i := 842) (by decide +kernel) rfl⟩
theorem yv_X0_passHours : xYv yX0_passHours cX0_passHours 5 (some .int) 2 := ⟨lw_mem (i := 697) (by decide +kernel) rfl, lw_mem (i := 696) (by decide +kernel) rfl, lw_memS (List.mem_of_getElem? (i := 42) (by decide +kernel)) rfl, lw_mem (i := 6) (by decide +kernel) rfl, ⟨by decide +kernel, by decide +kernel⟩, by decide +kernel, by decide⟩
theorem ml_RX5_101 : xMl RX5 101 yX5_note := Or.inl (lw_mem (i := 844) (by decide +kernel) rfl)
theorem yv_X5_note : xYv yX5_note cX5_note 5 none 2 := ⟨lw_mem (i := 847) (by decide +kernel) rfl, lw_mem (i := 846) (by decide +kernel) rfl, lw_memS (List.mem_of_getElem? (i := 67) (by decide +kernel)) rfl, lw_mem (i := 2) (by decide +kernel) rfl, ⟨by decide +kernel, by decide +kernel⟩, by decide +kernel, by decide⟩
theorem ml_RX5_105 : xMl RX5 105 yX5_chooseStrays := Or.inl (lw_mem (i := 942) (by decide +kernel) rfl)
theorem yv_X5_chooseStrays : xYv yX5_chooseStrays cX5_chooseStrays 2 none 0 := ⟨lw_mem (i := 945) (by decide +kernel) rfl, lw_mem (i := 944) (by decide +kernel) rfl, lw_memS (List.mem_of_getElem? (i := 83) (by decide +kernel)) rfl, lw_mem (i := 2) (by decide +kernel) rfl, ⟨by decide +kernel, by decide +kernel⟩, by decide +kernel, by decide⟩
theorem fl_RX5_55 : xFl RX5 55 (TX5 11) := Or.inl (lw_mem (i := 231) (by decide +kernel) rfl)
theorem fl_RX5_58 : xFl RX5 58 (TX5 12) := Or.inl (lw_mem (i := 233) (by decide +kernel) rfl)
theorem fl_RX5_61 : xFl RX5 61 (TX5 13) := Or.inl (lw_mem (i := 235) (by decide +kernel) rfl)
theorem fl_RX5_64 : xFl RX5 64 (TX5 14) := Or.inl (lw_mem (i := 237) (by decide +kernel) rfl)
theorem ml_RX5_108 : xMl RX5 108 yX5_clearFound := Or.inl (lw_mem (i := 896) (by decide +kernel) rfl)
theorem yv_X5_clearFound : xYv yX5_clearFound cX5_clearFound 1 none 0 := ⟨lw_mem (i := 899) (by decide +kernel) rfl, lw_mem (i := 898) (by decide +kernel) rfl, lw_memS (List.mem_of_getElem? (i := 76) (by decide +kernel)) rfl, lw_mem (i := 2) (by decide +kernel) rfl, ⟨by decide +kernel, by decide +kernel⟩, by decide +kernel, by decide⟩
theorem ml_RX5_145 : xMl RX5 145 yX1_isOn := Or.inr ⟨"StarHerds", lw_memN (i := 950) (by decide +kernel) rfl⟩
theorem fl_RX5_148 : xFl RX5 148 (TX1 1) := Or.inr ⟨"StarHerds", lw_memN (i := 88) (by decide +kernel) rfl⟩
theorem ml_RX5_151 : xMl RX5 151 yX7_byteAt := Or.inr ⟨"StarHerds", lw_memN (i := 951) (by decide +kernel) rfl⟩
theorem ml_RX5_111 : xMl RX5 111 yX5_isAsSeen := Or.inl (lw_mem (i := 946) (by decide +kernel) rfl)
theorem yv_X5_isAsSeen : xYv yX5_isAsSeen cX5_isAsSeen 5 (some .boolean) 1 := ⟨lw_mem (i := 949) (by decide +kernel) rfl, lw_mem (i := 948) (by decide +kernel) rfl, lw_memS (List.mem_of_getElem? (i := 84) (by decide +kernel)) rfl, lw_mem (i := 2) (by decide +kernel) rfl, ⟨by decide +kernel, by decide +kernel⟩, by decide +kernel, by decide⟩
theorem ml_RX5_115 : xMl RX5 115 yX5_lampsOf := Or.inl (lw_mem (i := 911) (by decide +kernel) rfl)
theorem yv_X5_lampsOf : xYv yX5_lampsOf cX5_lampsOf 4 (some .int) 1 := ⟨lw_mem (i := 876) (by decide +kernel) rfl, lw_mem (i := 875) (by decide +kernel) rfl, lw_memS (List.mem_of_getElem? (i := 73) (by decide +kernel)) rfl, lw_mem (i := 2) (by decide +kernel) rfl, ⟨by decide +kernel, by decide +kernel⟩, by decide +kernel, by decide⟩
theorem ml_RX5_119 : xMl RX5 119 yX5_found := Or.inl (lw_mem (i := 916) (by decide +kernel) rfl)
theorem yv_X5_found : xYv yX5_found cX5_found 2 none 1 := ⟨lw_mem (i := 919) (by decide +kernel) rfl, lw_mem (i := 918) (by decide +kernel) rfl, lw_memS (List.mem_of_getElem? (i := 79) (by decide +kernel)) rfl, lw_mem (i := 2) (by decide +kernel) rfl, ⟨by decide +kernel, by decide +kernel⟩, by decide +kernel, by decide⟩
theorem fl_RX5_43 : xFl RX5 43 (TX5 7) := Or.inl (lw_mem (i := 227) (by decide +kernel) rfl)
theorem co_RJ6_264 : Cond.constant RJ6 264 (65536) ∈ lw_gt := lw_mem (i := 860) (by decide +kernel) rfl
theorem ki_16 : Int32.ofInt (16) = (16 : Int32) := by decide +kernel
theorem kb_32 : (Int8.ofInt (32)).toInt32 = (32 : Int32) := by decide +kernel
theorem ks_256 : (Int16.ofInt (256)).toInt32 = (256 : Int32) := by decide +kernel
theorem ki_8 : Int32.ofInt (8) = (8 : Int32) := by decide +kernel
theorem ml_RX5_162 : xMl RX5 162 yJ6_numberOfTrailingZeros_0f7a4 := Or.inl (lw_mem (i := 857) (by decide +kernel) rfl)
theorem ys_J6_numberOfTrailingZeros_0f7a4 : xYs yJ6_numberOfTrailingZeros_0f7a4 cJ6_numberOfTrailingZeros_0f7a4 2 (some .int) 1 := ⟨lw_mem (i := 859) (by decide +kernel) rfl, lw_mem (i := 858) (by decide +kernel) rfl, lw_mem (i := 19) (by decide +kernel) rfl, ⟨by decide +kernel, by decide +kernel⟩, by decide +kernel, by decide⟩
theorem ml_RX5_167 : xMl RX5 167 yX5_costOf := Or.inl (lw_mem (i := 861) (by decide +kernel) rfl)
theorem yv_X5_costOf : xYv yX5_costOf cX5_costOf 2 (some .int) 1 := ⟨lw_mem (i := 864) (by decide +kernel) rfl, lw_mem (i := 863) (by decide +kernel) rfl, lw_memS (List.mem_of_getElem? (i := 70) (by decide +kernel)) rfl, lw_mem (i := 2) (by decide +kernel) rfl, ⟨by decide +kernel, by decide +kernel⟩, by decide +kernel, by decide⟩
theorem fl_RX5_46 : xFl RX5 46 (TX5 8) := Or.inl (lw_mem (i := 228) (by decide +kernel) rfl)
theorem ml_RX5_159 : xMl RX5 159 yX5_fillCosts := Or.inl (lw_mem (i := 853) (by decide +kernel) rfl)
theorem yv_X5_fillCosts : xYv yX5_fillCosts cX5_fillCosts 5 none 0 := ⟨lw_mem (i := 856) (by decide +kernel) rfl, lw_mem (i := 855) (by decide +kernel) rfl, lw_memS (List.mem_of_getElem? (i := 69) (by decide +kernel)) rfl, lw_mem (i := 2) (by decide +kernel) rfl, ⟨by decide +kernel, by decide +kernel⟩, by decide +kernel, by decide⟩
theorem ml_RX5_156 : xMl RX5 156 yX0_beer := Or.inr ⟨"StarHerds", lw_memN (i := 852) (by decide +kernel) rfl⟩
theorem yv_X0_beer : xYv yX0_beer cX0_beer 3 (some .int) 2 := ⟨lw_mem (i := 595) (by decide +kernel) rfl, lw_mem (i := 594) (by decide +kernel) rfl, lw_memS (List.mem_of_getElem? (i := 27) (by decide +kernel)) rfl, lw_mem (i := 6) (by decide +kernel) rfl, ⟨by decide +kernel, by decide +kernel⟩, by decide +kernel, by decide⟩
theorem ml_RX5_170 : xMl RX5 170 yX5_cameOf := Or.inl (lw_mem (i := 869) (by decide +kernel) rfl)
theorem yv_X5_cameOf : xYv yX5_cameOf cX5_cameOf 2 (some .int) 1 := ⟨lw_mem (i := 872) (by decide +kernel) rfl, lw_mem (i := 871) (by decide +kernel) rfl, lw_memS (List.mem_of_getElem? (i := 72) (by decide +kernel)) rfl, lw_mem (i := 2) (by decide +kernel) rfl, ⟨by decide +kernel, by decide +kernel⟩, by decide +kernel, by decide⟩
theorem ml_RX5_173 : xMl RX5 173 yX8_isIn := Or.inr ⟨"StarHerds", lw_memN (i := 909) (by decide +kernel) rfl⟩
theorem ys_X8_isIn : xYs yX8_isIn cX8_isIn 3 (some .boolean) 3 := ⟨lw_mem (i := 350) (by decide +kernel) rfl, lw_mem (i := 349) (by decide +kernel) rfl, lw_mem (i := 1) (by decide +kernel) rfl, ⟨by decide +kernel, by decide +kernel⟩, by decide +kernel, by decide⟩
theorem kb_25 : (Int8.ofInt (25)).toInt32 = (25 : Int32) := by decide +kernel
theorem ml_RX5_177 : xMl RX5 177 yX5_planBy := Or.inl (lw_mem (i := 910) (by decide +kernel) rfl)
theorem yv_X5_planBy : xYv yX5_planBy cX5_planBy 5 (some .int) 1 := ⟨lw_mem (i := 868) (by decide +kernel) rfl, lw_mem (i := 867) (by decide +kernel) rfl, lw_memS (List.mem_of_getElem? (i := 71) (by decide +kernel)) rfl, lw_mem (i := 2) (by decide +kernel) rfl, ⟨by decide +kernel, by decide +kernel⟩, by decide +kernel, by decide⟩
theorem fl_RX5_49 : xFl RX5 49 (TX5 9) := Or.inl (lw_mem (i := 229) (by decide +kernel) rfl)
theorem fl_RX5_52 : xFl RX5 52 (TX5 10) := Or.inl (lw_mem (i := 230) (by decide +kernel) rfl)
theorem ml_RX5_180 : xMl RX5 180 yX6_sortAt := Or.inr ⟨"StarHerds", lw_memN (i := 900) (by decide +kernel) rfl⟩
theorem fl_RX5_183 : xFl RX5 183 (TX2 1) := Or.inr ⟨"StarHerds", lw_memN (i := 50) (by decide +kernel) rfl⟩
theorem ml_RX8_55 : xMl RX8 55 yX8_isSquare := Or.inl (lw_mem (i := 345) (by decide +kernel) rfl)
theorem ml_RX8_59 : xMl RX8 59 yX8_isIn := Or.inl (lw_mem (i := 348) (by decide +kernel) rfl)
theorem fl_RX8_20 : xFl RX8 20 (TX8 1) := Or.inl (lw_mem (i := 317) (by decide +kernel) rfl)
theorem xcl_8 : xCl 8 RX8 TX8 8 := ⟨rfl, cl_of [324, 326, 328, 330, 332, 334, 336, 338] (by decide +kernel) (by decide +kernel)⟩
theorem xcp_8 : xCp TX8 8 tyX8 := ⟨tyX8_ok, nmX8⟩
theorem ml_RX8_63 : xMl RX8 63 yX6_isTaken := Or.inr ⟨"StarHerds", lw_memN (i := 351) (by decide +kernel) rfl⟩
theorem yv_X6_isTaken : xYv yX6_isTaken cX6_isTaken 3 (some .boolean) 1 := ⟨lw_mem (i := 354) (by decide +kernel) rfl, lw_mem (i := 353) (by decide +kernel) rfl, lw_memS (List.mem_of_getElem? (i := 0) (by decide +kernel)) rfl, lw_mem (i := 3) (by decide +kernel) rfl, ⟨by decide +kernel, by decide +kernel⟩, by decide +kernel, by decide⟩
theorem fl_RX8_67 : xFl RX8 67 (TX6 0) := Or.inr ⟨"StarHerds", lw_memN (i := 115) (by decide +kernel) rfl⟩
theorem ml_RX8_94 : xMl RX8 94 yX6_sortAt := Or.inr ⟨"StarHerds", lw_memN (i := 371) (by decide +kernel) rfl⟩
theorem fl_RX8_75 : xFl RX8 75 (TX6 1) := Or.inr ⟨"StarHerds", lw_memN (i := 118) (by decide +kernel) rfl⟩
theorem fl_RX8_84 : xFl RX8 84 (TX2 0) := Or.inr ⟨"StarHerds", lw_memN (i := 47) (by decide +kernel) rfl⟩
theorem fl_RX8_304 : xFl RX8 304 (TX2 1) := Or.inr ⟨"StarHerds", lw_memN (i := 51) (by decide +kernel) rfl⟩
theorem fl_RX8_305 : xFl RX8 305 (TX2 2) := Or.inr ⟨"StarHerds", lw_memN (i := 54) (by decide +kernel) rfl⟩
theorem fl_RX8_154 : xFl RX8 154 (TX2 3) := Or.inr ⟨"StarHerds", lw_memN (i := 56) (by decide +kernel) rfl⟩
theorem fl_RX8_91 : xFl RX8 91 (TX2 4) := Or.inr ⟨"StarHerds", lw_memN (i := 58) (by decide +kernel) rfl⟩
theorem fl_RX8_308 : xFl RX8 308 (TX2 5) := Or.inr ⟨"StarHerds", lw_memN (i := 60) (by decide +kernel) rfl⟩
theorem ml_RX8_71 : xMl RX8 71 yX8_setLamp := Or.inl (lw_mem (i := 367) (by decide +kernel) rfl)
theorem yv_X8_setLamp : xYv yX8_setLamp cX8_setLamp 7 (some .boolean) 5 := ⟨lw_mem (i := 370) (by decide +kernel) rfl, lw_mem (i := 369) (by decide +kernel) rfl, lw_memS (List.mem_of_getElem? (i := 3) (by decide +kernel)) rfl, lw_mem (i := 1) (by decide +kernel) rfl, ⟨by decide +kernel, by decide +kernel⟩, by decide +kernel, by decide⟩
theorem ml_RX8_79 : xMl RX8 79 yX2_stands := Or.inr ⟨"StarHerds", lw_memN (i := 383) (by decide +kernel) rfl⟩
theorem ml_RX8_88 : xMl RX8 88 yX8_isInnThere := Or.inl (lw_mem (i := 388) (by decide +kernel) rfl)
theorem yv_X8_isInnThere : xYv yX8_isInnThere cX8_isInnThere 2 (some .boolean) 1 := ⟨lw_mem (i := 391) (by decide +kernel) rfl, lw_mem (i := 390) (by decide +kernel) rfl, lw_memS (List.mem_of_getElem? (i := 5) (by decide +kernel)) rfl, lw_mem (i := 1) (by decide +kernel) rfl, ⟨by decide +kernel, by decide +kernel⟩, by decide +kernel, by decide⟩
theorem ks_999 : (Int16.ofInt (999)).toInt32 = (999 : Int32) := by decide +kernel
theorem fl_RX8_98 : xFl RX8 98 (TX6 2) := Or.inr ⟨"StarHerds", lw_memN (i := 123) (by decide +kernel) rfl⟩
theorem fl_RX8_102 : xFl RX8 102 (TX1 0) := Or.inr ⟨"StarHerds", lw_memN (i := 83) (by decide +kernel) rfl⟩
theorem fl_RX8_107 : xFl RX8 107 (TX1 1) := Or.inr ⟨"StarHerds", lw_memN (i := 87) (by decide +kernel) rfl⟩
theorem fl_RX8_110 : xFl RX8 110 (TX1 2) := Or.inr ⟨"StarHerds", lw_memN (i := 91) (by decide +kernel) rfl⟩
theorem fl_RX8_113 : xFl RX8 113 (TX1 3) := Or.inr ⟨"StarHerds", lw_memN (i := 94) (by decide +kernel) rfl⟩
theorem fl_RX8_116 : xFl RX8 116 (TX1 4) := Or.inr ⟨"StarHerds", lw_memN (i := 97) (by decide +kernel) rfl⟩
theorem fl_RX8_119 : xFl RX8 119 (TX1 5) := Or.inr ⟨"StarHerds", lw_memN (i := 100) (by decide +kernel) rfl⟩
theorem ml_RX8_122 : xMl RX8 122 yX1_isTold := Or.inr ⟨"StarHerds", lw_memN (i := 400) (by decide +kernel) rfl⟩
theorem ks_9999 : (Int16.ofInt (9999)).toInt32 = (9999 : Int32) := by decide +kernel
theorem fl_RX8_125 : xFl RX8 125 (TX6 3) := Or.inr ⟨"StarHerds", lw_memN (i := 125) (by decide +kernel) rfl⟩
theorem fl_RX8_44 : xFl RX8 44 (TX8 5) := Or.inl (lw_mem (i := 321) (by decide +kernel) rfl)
theorem fl_RX8_128 : xFl RX8 128 (TX7 1) := Or.inr ⟨"StarHerds", lw_memN (i := 285) (by decide +kernel) rfl⟩
theorem kb_20 : (Int8.ofInt (20)).toInt32 = (20 : Int32) := by decide +kernel
theorem ml_RX8_134 : xMl RX8 134 yX7_add := Or.inr ⟨"StarHerds", lw_memN (i := 412) (by decide +kernel) rfl⟩
theorem yv_X7_add : xYv yX7_add cX7_add 3 none 1 := ⟨lw_mem (i := 415) (by decide +kernel) rfl, lw_mem (i := 414) (by decide +kernel) rfl, lw_memS (List.mem_of_getElem? (i := 7) (by decide +kernel)) rfl, lw_mem (i := 9) (by decide +kernel) rfl, ⟨by decide +kernel, by decide +kernel⟩, by decide +kernel, by decide⟩
theorem fl_RX8_36 : xFl RX8 36 (TX8 4) := Or.inl (lw_mem (i := 320) (by decide +kernel) rfl)
theorem ml_RX8_138 : xMl RX8 138 yX4_read := Or.inr ⟨"StarHerds", lw_memN (i := 420) (by decide +kernel) rfl⟩
theorem yv_X4_read : xYv yX4_read cX4_read 3 (some .int) 1 := ⟨lw_mem (i := 423) (by decide +kernel) rfl, lw_mem (i := 422) (by decide +kernel) rfl, lw_memS (List.mem_of_getElem? (i := 8) (by decide +kernel)) rfl, lw_mem (i := 8) (by decide +kernel) rfl, ⟨by decide +kernel, by decide +kernel⟩, by decide +kernel, by decide⟩
theorem fl_RX8_32 : xFl RX8 32 (TX8 3) := Or.inl (lw_mem (i := 319) (by decide +kernel) rfl)
theorem fl_RX8_141 : xFl RX8 141 (TX4 1) := Or.inr ⟨"StarHerds", lw_memN (i := 296) (by decide +kernel) rfl⟩
theorem ml_RX8_144 : xMl RX8 144 yX3_become := Or.inr ⟨"StarHerds", lw_memN (i := 580) (by decide +kernel) rfl⟩
theorem yv_X3_become : xYv yX3_become cX3_become 2 none 1 := ⟨lw_mem (i := 583) (by decide +kernel) rfl, lw_mem (i := 582) (by decide +kernel) rfl, lw_memS (List.mem_of_getElem? (i := 26) (by decide +kernel)) rfl, lw_mem (i := 7) (by decide +kernel) rfl, ⟨by decide +kernel, by decide +kernel⟩, by decide +kernel, by decide⟩
theorem fl_RX8_25 : xFl RX8 25 (TX8 2) := Or.inl (lw_mem (i := 318) (by decide +kernel) rfl)
theorem ml_RX8_150 : xMl RX8 150 yX0_beer := Or.inr ⟨"StarHerds", lw_memN (i := 592) (by decide +kernel) rfl⟩
theorem kb_m3 : (Int8.ofInt (-3)).toInt32 = (-3 : Int32) := by decide +kernel
theorem kb_m2 : (Int8.ofInt (-2)).toInt32 = (-2 : Int32) := by decide +kernel
theorem fl_RX8_157 : xFl RX8 157 (TX6 7) := Or.inr ⟨"StarHerds", lw_memN (i := 136) (by decide +kernel) rfl⟩
theorem ml_RX8_160 : xMl RX8 160 yX6_isLit := Or.inr ⟨"StarHerds", lw_memN (i := 639) (by decide +kernel) rfl⟩
theorem ml_RX8_163 : xMl RX8 163 yX1_isOn := Or.inr ⟨"StarHerds", lw_memN (i := 651) (by decide +kernel) rfl⟩
theorem ml_RX8_166 : xMl RX8 166 yX6_isThere := Or.inr ⟨"StarHerds", lw_memN (i := 652) (by decide +kernel) rfl⟩
theorem ml_RX8_169 : xMl RX8 169 yX0_pullOf := Or.inr ⟨"StarHerds", lw_memN (i := 656) (by decide +kernel) rfl⟩
theorem yv_X0_pullOf : xYv yX0_pullOf cX0_pullOf 4 (some .int) 3 := ⟨lw_mem (i := 659) (by decide +kernel) rfl, lw_mem (i := 658) (by decide +kernel) rfl, lw_memS (List.mem_of_getElem? (i := 36) (by decide +kernel)) rfl, lw_mem (i := 6) (by decide +kernel) rfl, ⟨by decide +kernel, by decide +kernel⟩, by decide +kernel, by decide⟩
theorem ml_RX8_173 : xMl RX8 173 yX0_goalOf := Or.inr ⟨"StarHerds", lw_memN (i := 684) (by decide +kernel) rfl⟩
theorem ml_RX8_176 : xMl RX8 176 yX0_passHours := Or.inr ⟨"StarHerds", lw_memN (i := 694) (by decide +kernel) rfl⟩
theorem ml_RX8_179 : xMl RX8 179 yX0_passHour := Or.inr ⟨"StarHerds", lw_memN (i := 759) (by decide +kernel) rfl⟩
theorem ml_RX8_182 : xMl RX8 182 yX8_isTriedAsked := Or.inl (lw_mem (i := 764) (by decide +kernel) rfl)
theorem yv_X8_isTriedAsked : xYv yX8_isTriedAsked cX8_isTriedAsked 2 (some .boolean) 1 := ⟨lw_mem (i := 767) (by decide +kernel) rfl, lw_mem (i := 766) (by decide +kernel) rfl, lw_memS (List.mem_of_getElem? (i := 54) (by decide +kernel)) rfl, lw_mem (i := 1) (by decide +kernel) rfl, ⟨by decide +kernel, by decide +kernel⟩, by decide +kernel, by decide⟩
theorem fl_RX8_10 : xFl RX8 10 (TX8 0) := Or.inl (lw_mem (i := 316) (by decide +kernel) rfl)
theorem fl_RX8_185 : xFl RX8 185 (TX5 2) := Or.inr ⟨"StarHerds", lw_memN (i := 222) (by decide +kernel) rfl⟩
theorem ml_RX8_188 : xMl RX8 188 yX6_become := Or.inr ⟨"StarHerds", lw_memN (i := 768) (by decide +kernel) rfl⟩
theorem ml_RX8_195 : xMl RX8 195 yX1_livingThrough := Or.inr ⟨"StarHerds", lw_memN (i := 787) (by decide +kernel) rfl⟩
theorem yv_X1_livingThrough : xYv yX1_livingThrough cX1_livingThrough 3 (some .int) 0 := ⟨lw_mem (i := 790) (by decide +kernel) rfl, lw_mem (i := 789) (by decide +kernel) rfl, lw_memS (List.mem_of_getElem? (i := 59) (by decide +kernel)) rfl, lw_mem (i := 5) (by decide +kernel) rfl, ⟨by decide +kernel, by decide +kernel⟩, by decide +kernel, by decide⟩
theorem ml_RX8_191 : xMl RX8 191 yX1_living := Or.inr ⟨"StarHerds", lw_memN (i := 783) (by decide +kernel) rfl⟩
theorem ml_RX8_198 : xMl RX8 198 yX1_tell := Or.inr ⟨"StarHerds", lw_memN (i := 791) (by decide +kernel) rfl⟩
theorem yv_X1_tell : xYv yX1_tell cX1_tell 3 (some .int) 2 := ⟨lw_mem (i := 794) (by decide +kernel) rfl, lw_mem (i := 793) (by decide +kernel) rfl, lw_memS (List.mem_of_getElem? (i := 60) (by decide +kernel)) rfl, lw_mem (i := 5) (by decide +kernel) rfl, ⟨by decide +kernel, by decide +kernel⟩, by decide +kernel, by decide⟩
theorem ml_RX8_202 : xMl RX8 202 yX2_tell := Or.inr ⟨"StarHerds", lw_memN (i := 805) (by decide +kernel) rfl⟩
theorem fl_RX8_203 : xFl RX8 203 (TX6 4) := Or.inr ⟨"StarHerds", lw_memN (i := 128) (by decide +kernel) rfl⟩
theorem ml_RX8_206 : xMl RX8 206 yX5_weighSets := Or.inr ⟨"StarHerds", lw_memN (i := 814) (by decide +kernel) rfl⟩
theorem yv_X5_weighSets : xYv yX5_weighSets cX5_weighSets 2 none 0 := ⟨lw_mem (i := 817) (by decide +kernel) rfl, lw_mem (i := 816) (by decide +kernel) rfl, lw_memS (List.mem_of_getElem? (i := 61) (by decide +kernel)) rfl, lw_mem (i := 2) (by decide +kernel) rfl, ⟨by decide +kernel, by decide +kernel⟩, by decide +kernel, by decide⟩
theorem ml_RX8_209 : xMl RX8 209 yX5_takeBeers := Or.inr ⟨"StarHerds", lw_memN (i := 848) (by decide +kernel) rfl⟩
theorem yv_X5_takeBeers : xYv yX5_takeBeers cX5_takeBeers 2 none 0 := ⟨lw_mem (i := 851) (by decide +kernel) rfl, lw_mem (i := 850) (by decide +kernel) rfl, lw_memS (List.mem_of_getElem? (i := 68) (by decide +kernel)) rfl, lw_mem (i := 2) (by decide +kernel) rfl, ⟨by decide +kernel, by decide +kernel⟩, by decide +kernel, by decide⟩
theorem ml_RX8_212 : xMl RX8 212 yX5_planBy := Or.inr ⟨"StarHerds", lw_memN (i := 865) (by decide +kernel) rfl⟩
theorem ml_RX8_221 : xMl RX8 221 yX5_cameOf := Or.inr ⟨"StarHerds", lw_memN (i := 878) (by decide +kernel) rfl⟩
theorem ml_RX8_218 : xMl RX8 218 yX5_costOf := Or.inr ⟨"StarHerds", lw_memN (i := 877) (by decide +kernel) rfl⟩
theorem ml_RX8_215 : xMl RX8 215 yX5_lampsOf := Or.inr ⟨"StarHerds", lw_memN (i := 873) (by decide +kernel) rfl⟩
theorem ml_RX8_224 : xMl RX8 224 yX5_safeSet := Or.inr ⟨"StarHerds", lw_memN (i := 883) (by decide +kernel) rfl⟩
theorem yv_X5_safeSet : xYv yX5_safeSet cX5_safeSet 4 (some .int) 0 := ⟨lw_mem (i := 886) (by decide +kernel) rfl, lw_mem (i := 885) (by decide +kernel) rfl, lw_memS (List.mem_of_getElem? (i := 74) (by decide +kernel)) rfl, lw_mem (i := 2) (by decide +kernel) rfl, ⟨by decide +kernel, by decide +kernel⟩, by decide +kernel, by decide⟩
theorem ml_RX8_227 : xMl RX8 227 yX5_isSet := Or.inr ⟨"StarHerds", lw_memN (i := 887) (by decide +kernel) rfl⟩
theorem ml_RX8_230 : xMl RX8 230 yX5_findPlace := Or.inr ⟨"StarHerds", lw_memN (i := 892) (by decide +kernel) rfl⟩
theorem yv_X5_findPlace : xYv yX5_findPlace cX5_findPlace 3 none 1 := ⟨lw_mem (i := 895) (by decide +kernel) rfl, lw_mem (i := 894) (by decide +kernel) rfl, lw_memS (List.mem_of_getElem? (i := 75) (by decide +kernel)) rfl, lw_mem (i := 2) (by decide +kernel) rfl, ⟨by decide +kernel, by decide +kernel⟩, by decide +kernel, by decide⟩
theorem fl_RX8_236 : xFl RX8 236 (TX5 14) := Or.inr ⟨"StarHerds", lw_memN (i := 238) (by decide +kernel) rfl⟩
theorem fl_RX8_233 : xFl RX8 233 (TX5 12) := Or.inr ⟨"StarHerds", lw_memN (i := 234) (by decide +kernel) rfl⟩
theorem ml_RX8_239 : xMl RX8 239 yX5_fillGains := Or.inr ⟨"StarHerds", lw_memN (i := 905) (by decide +kernel) rfl⟩
theorem yv_X5_fillGains : xYv yX5_fillGains cX5_fillGains 6 none 3 := ⟨lw_mem (i := 908) (by decide +kernel) rfl, lw_mem (i := 907) (by decide +kernel) rfl, lw_memS (List.mem_of_getElem? (i := 77) (by decide +kernel)) rfl, lw_mem (i := 2) (by decide +kernel) rfl, ⟨by decide +kernel, by decide +kernel⟩, by decide +kernel, by decide⟩
theorem ml_RX8_243 : xMl RX8 243 yX5_findRest := Or.inr ⟨"StarHerds", lw_memN (i := 912) (by decide +kernel) rfl⟩
theorem yv_X5_findRest : xYv yX5_findRest cX5_findRest 4 none 0 := ⟨lw_mem (i := 915) (by decide +kernel) rfl, lw_mem (i := 914) (by decide +kernel) rfl, lw_memS (List.mem_of_getElem? (i := 78) (by decide +kernel)) rfl, lw_mem (i := 2) (by decide +kernel) rfl, ⟨by decide +kernel, by decide +kernel⟩, by decide +kernel, by decide⟩
theorem fl_RX8_246 : xFl RX8 246 (TX5 11) := Or.inr ⟨"StarHerds", lw_memN (i := 232) (by decide +kernel) rfl⟩
theorem ml_RX8_249 : xMl RX8 249 yX1_onBits := Or.inr ⟨"StarHerds", lw_memN (i := 924) (by decide +kernel) rfl⟩
theorem yv_X1_onBits : xYv yX1_onBits cX1_onBits 3 (some .int) 0 := ⟨lw_mem (i := 927) (by decide +kernel) rfl, lw_mem (i := 926) (by decide +kernel) rfl, lw_memS (List.mem_of_getElem? (i := 80) (by decide +kernel)) rfl, lw_mem (i := 5) (by decide +kernel) rfl, ⟨by decide +kernel, by decide +kernel⟩, by decide +kernel, by decide⟩
theorem co_RJ6_265 : Cond.constant RJ6 265 (1431655765) ∈ lw_gt := lw_mem (i := 931) (by decide +kernel) rfl
theorem co_RJ6_266 : Cond.constant RJ6 266 (858993459) ∈ lw_gt := lw_mem (i := 932) (by decide +kernel) rfl
theorem co_RJ6_267 : Cond.constant RJ6 267 (252645135) ∈ lw_gt := lw_mem (i := 933) (by decide +kernel) rfl
theorem kb_63 : (Int8.ofInt (63)).toInt32 = (63 : Int32) := by decide +kernel
theorem ml_RX8_252 : xMl RX8 252 yJ6_bitCount_0f7a4 := Or.inl (lw_mem (i := 928) (by decide +kernel) rfl)
theorem ys_J6_bitCount_0f7a4 : xYs yJ6_bitCount_0f7a4 cJ6_bitCount_0f7a4 1 (some .int) 1 := ⟨lw_mem (i := 930) (by decide +kernel) rfl, lw_mem (i := 929) (by decide +kernel) rfl, lw_mem (i := 19) (by decide +kernel) rfl, ⟨by decide +kernel, by decide +kernel⟩, by decide +kernel, by decide⟩
theorem fl_RX8_280 : xFl RX8 280 (TX6 6) := Or.inr ⟨"StarHerds", lw_memN (i := 134) (by decide +kernel) rfl⟩
theorem ml_RX8_257 : xMl RX8 257 yX8_isLeft := Or.inl (lw_mem (i := 934) (by decide +kernel) rfl)
theorem yv_X8_isLeft : xYv yX8_isLeft cX8_isLeft 2 (some .boolean) 1 := ⟨lw_mem (i := 937) (by decide +kernel) rfl, lw_mem (i := 936) (by decide +kernel) rfl, lw_memS (List.mem_of_getElem? (i := 81) (by decide +kernel)) rfl, lw_mem (i := 1) (by decide +kernel) rfl, ⟨by decide +kernel, by decide +kernel⟩, by decide +kernel, by decide⟩
theorem ml_RX8_260 : xMl RX8 260 yX5_matchSets := Or.inr ⟨"StarHerds", lw_memN (i := 938) (by decide +kernel) rfl⟩
theorem yv_X5_matchSets : xYv yX5_matchSets cX5_matchSets 4 none 2 := ⟨lw_mem (i := 941) (by decide +kernel) rfl, lw_mem (i := 940) (by decide +kernel) rfl, lw_memS (List.mem_of_getElem? (i := 82) (by decide +kernel)) rfl, lw_mem (i := 2) (by decide +kernel) rfl, ⟨by decide +kernel, by decide +kernel⟩, by decide +kernel, by decide⟩
theorem fl_RX8_264 : xFl RX8 264 (TX5 13) := Or.inr ⟨"StarHerds", lw_memN (i := 236) (by decide +kernel) rfl⟩
theorem ks_195 : (Int16.ofInt (195)).toInt32 = (195 : Int32) := by decide +kernel
theorem ml_RX8_267 : xMl RX8 267 yX5_findWhere := Or.inr ⟨"StarHerds", lw_memN (i := 959) (by decide +kernel) rfl⟩
theorem yv_X5_findWhere : xYv yX5_findWhere cX5_findWhere 5 none 3 := ⟨lw_mem (i := 962) (by decide +kernel) rfl, lw_mem (i := 961) (by decide +kernel) rfl, lw_memS (List.mem_of_getElem? (i := 86) (by decide +kernel)) rfl, lw_mem (i := 2) (by decide +kernel) rfl, ⟨by decide +kernel, by decide +kernel⟩, by decide +kernel, by decide⟩
theorem ml_RX8_270 : xMl RX8 270 yX5_countDraws := Or.inr ⟨"StarHerds", lw_memN (i := 967) (by decide +kernel) rfl⟩
theorem yv_X5_countDraws : xYv yX5_countDraws cX5_countDraws 3 (some .int) 2 := ⟨lw_mem (i := 970) (by decide +kernel) rfl, lw_mem (i := 969) (by decide +kernel) rfl, lw_memS (List.mem_of_getElem? (i := 87) (by decide +kernel)) rfl, lw_mem (i := 2) (by decide +kernel) rfl, ⟨by decide +kernel, by decide +kernel⟩, by decide +kernel, by decide⟩
theorem ks_1000 : (Int16.ofInt (1000)).toInt32 = (1000 : Int32) := by decide +kernel
theorem kb_100 : (Int8.ofInt (100)).toInt32 = (100 : Int32) := by decide +kernel
theorem ml_RX8_273 : xMl RX8 273 yX8_commonDivisor := Or.inl (lw_mem (i := 976) (by decide +kernel) rfl)
theorem ys_X8_commonDivisor : xYs yX8_commonDivisor cX8_commonDivisor 6 (some .int) 2 := ⟨lw_mem (i := 978) (by decide +kernel) rfl, lw_mem (i := 977) (by decide +kernel) rfl, lw_mem (i := 1) (by decide +kernel) rfl, ⟨by decide +kernel, by decide +kernel⟩, by decide +kernel, by decide⟩
theorem co_RX8_276 : Cond.constant RX8 276 (65535) ∈ lw_gt := lw_mem (i := 983) (by decide +kernel) rfl
theorem fl_RX8_277 : xFl RX8 277 (TX6 8) := Or.inr ⟨"StarHerds", lw_memN (i := 138) (by decide +kernel) rfl⟩
theorem ml_RX8_283 : xMl RX8 283 yX6_draw := Or.inr ⟨"StarHerds", lw_memN (i := 988) (by decide +kernel) rfl⟩
theorem ml_RX8_286 : xMl RX8 286 yX0_cloudTenths := Or.inr ⟨"StarHerds", lw_memN (i := 989) (by decide +kernel) rfl⟩
theorem yv_X0_cloudTenths : xYv yX0_cloudTenths cX0_cloudTenths 3 (some .int) 2 := ⟨lw_mem (i := 992) (by decide +kernel) rfl, lw_mem (i := 991) (by decide +kernel) rfl, lw_memS (List.mem_of_getElem? (i := 89) (by decide +kernel)) rfl, lw_mem (i := 6) (by decide +kernel) rfl, ⟨by decide +kernel, by decide +kernel⟩, by decide +kernel, by decide⟩
theorem fl_RX8_48 : xFl RX8 48 (TX8 6) := Or.inl (lw_mem (i := 322) (by decide +kernel) rfl)
theorem fl_RX8_51 : xFl RX8 51 (TX8 7) := Or.inl (lw_mem (i := 323) (by decide +kernel) rfl)
theorem ml_RX8_289 : xMl RX8 289 yX7_numberAt := Or.inr ⟨"StarHerds", lw_memN (i := 1005) (by decide +kernel) rfl⟩
theorem yv_X7_numberAt : xYv yX7_numberAt cX7_numberAt 2 (some .int) 1 := ⟨lw_mem (i := 1008) (by decide +kernel) rfl, lw_mem (i := 1007) (by decide +kernel) rfl, lw_memS (List.mem_of_getElem? (i := 90) (by decide +kernel)) rfl, lw_mem (i := 9) (by decide +kernel) rfl, ⟨by decide +kernel, by decide +kernel⟩, by decide +kernel, by decide⟩
theorem ks_295 : (Int16.ofInt (295)).toInt32 = (295 : Int32) := by decide +kernel
theorem fl_RX8_292 : xFl RX8 292 (TX6 5) := Or.inr ⟨"StarHerds", lw_memN (i := 131) (by decide +kernel) rfl⟩
theorem fl_RX8_295 : xFl RX8 295 (TX3 6) := Or.inr ⟨"StarHerds", lw_memN (i := 179) (by decide +kernel) rfl⟩
theorem ml_RX8_298 : xMl RX8 298 yX1_toldBits := Or.inr ⟨"StarHerds", lw_memN (i := 1014) (by decide +kernel) rfl⟩
theorem yv_X1_toldBits : xYv yX1_toldBits cX1_toldBits 3 (some .int) 0 := ⟨lw_mem (i := 1017) (by decide +kernel) rfl, lw_mem (i := 1016) (by decide +kernel) rfl, lw_memS (List.mem_of_getElem? (i := 91) (by decide +kernel)) rfl, lw_mem (i := 5) (by decide +kernel) rfl, ⟨by decide +kernel, by decide +kernel⟩, by decide +kernel, by decide⟩
theorem ml_RX8_301 : xMl RX8 301 yX6_litBits := Or.inr ⟨"StarHerds", lw_memN (i := 1018) (by decide +kernel) rfl⟩
theorem yv_X6_litBits : xYv yX6_litBits cX6_litBits 3 (some .int) 0 := ⟨lw_mem (i := 1021) (by decide +kernel) rfl, lw_mem (i := 1020) (by decide +kernel) rfl, lw_memS (List.mem_of_getElem? (i := 92) (by decide +kernel)) rfl, lw_mem (i := 3) (by decide +kernel) rfl, ⟨by decide +kernel, by decide +kernel⟩, by decide +kernel, by decide⟩
theorem ml_RX9_77 : xMl RX9 77 yX9_size := Or.inl (lw_mem (i := 1372) (by decide +kernel) rfl)
theorem ys_X9_size : xYs yX9_size cX9_size 1 (some .int) 1 := ⟨lw_mem (i := 1374) (by decide +kernel) rfl, lw_mem (i := 1373) (by decide +kernel) rfl, lw_mem (i := 10) (by decide +kernel) rfl, ⟨by decide +kernel, by decide +kernel⟩, by decide +kernel, by decide⟩
theorem fl_RX9_7 : xFl RX9 7 (TX9 0) := Or.inl (lw_mem (i := 1029) (by decide +kernel) rfl)
theorem xcl_9 : xCl 9 RX9 TX9 37 := ⟨rfl, cl_of [1066, 1068, 1070, 1072, 1074, 1076, 1078, 1080, 1082, 1084, 1086, 1088, 1090, 1092, 1094, 1096, 1098, 1100, 1102, 1104, 1106, 1108, 1110, 1112, 1114, 1116, 1118, 1120, 1122, 1124, 1126, 1128, 1130, 1132, 1134, 1136, 1138] (by decide +kernel) (by decide +kernel)⟩
theorem xcp_9 : xCp TX9 37 tyX9 := ⟨tyX9_ok, nmX9⟩
theorem ks_268 : (Int16.ofInt (268)).toInt32 = (268 : Int32) := by decide +kernel
theorem ml_RX9_81 : xMl RX9 81 yX9_isTold := Or.inl (lw_mem (i := 1159) (by decide +kernel) rfl)
theorem yv_X9_isTold : xYv yX9_isTold cX9_isTold 2 (some .boolean) 1 := ⟨lw_mem (i := 1162) (by decide +kernel) rfl, lw_mem (i := 1161) (by decide +kernel) rfl, lw_memS (List.mem_of_getElem? (i := 95) (by decide +kernel)) rfl, lw_mem (i := 10) (by decide +kernel) rfl, ⟨by decide +kernel, by decide +kernel⟩, by decide +kernel, by decide⟩
theorem ks_280 : (Int16.ofInt (280)).toInt32 = (280 : Int32) := by decide +kernel
theorem ks_274 : (Int16.ofInt (274)).toInt32 = (274 : Int32) := by decide +kernel
theorem ks_232 : (Int16.ofInt (232)).toInt32 = (232 : Int32) := by decide +kernel
theorem ks_244 : (Int16.ofInt (244)).toInt32 = (244 : Int32) := by decide +kernel
theorem ml_RX9_85 : xMl RX9 85 yX9_isOn := Or.inl (lw_mem (i := 1155) (by decide +kernel) rfl)
theorem yv_X9_isOn : xYv yX9_isOn cX9_isOn 2 (some .boolean) 1 := ⟨lw_mem (i := 1158) (by decide +kernel) rfl, lw_mem (i := 1157) (by decide +kernel) rfl, lw_memS (List.mem_of_getElem? (i := 94) (by decide +kernel)) rfl, lw_mem (i := 10) (by decide +kernel) rfl, ⟨by decide +kernel, by decide +kernel⟩, by decide +kernel, by decide⟩
theorem ks_298 : (Int16.ofInt (298)).toInt32 = (298 : Int32) := by decide +kernel
theorem ks_208 : (Int16.ofInt (208)).toInt32 = (208 : Int32) := by decide +kernel
theorem ks_220 : (Int16.ofInt (220)).toInt32 = (220 : Int32) := by decide +kernel
theorem ml_RX9_88 : xMl RX9 88 yX9_isIn := Or.inl (lw_mem (i := 1145) (by decide +kernel) rfl)
theorem ys_X9_isIn : xYs yX9_isIn cX9_isIn 2 (some .boolean) 2 := ⟨lw_mem (i := 1147) (by decide +kernel) rfl, lw_mem (i := 1146) (by decide +kernel) rfl, lw_mem (i := 10) (by decide +kernel) rfl, ⟨by decide +kernel, by decide +kernel⟩, by decide +kernel, by decide⟩
theorem ml_RX9_92 : xMl RX9 92 yX9_in := Or.inl (lw_mem (i := 1148) (by decide +kernel) rfl)
theorem ys_X9_in : xYs yX9_in cX9_in 3 (some .boolean) 3 := ⟨lw_mem (i := 1150) (by decide +kernel) rfl, lw_mem (i := 1149) (by decide +kernel) rfl, lw_mem (i := 10) (by decide +kernel) rfl, ⟨by decide +kernel, by decide +kernel⟩, by decide +kernel, by decide⟩
theorem ml_RX9_96 : xMl RX9 96 yX9_isTaken := Or.inl (lw_mem (i := 1151) (by decide +kernel) rfl)
theorem yv_X9_isTaken : xYv yX9_isTaken cX9_isTaken 3 (some .boolean) 1 := ⟨lw_mem (i := 1154) (by decide +kernel) rfl, lw_mem (i := 1153) (by decide +kernel) rfl, lw_memS (List.mem_of_getElem? (i := 93) (by decide +kernel)) rfl, lw_mem (i := 10) (by decide +kernel) rfl, ⟨by decide +kernel, by decide +kernel⟩, by decide +kernel, by decide⟩
theorem ml_RX9_99 : xMl RX9 99 yX9_isRock := Or.inl (lw_mem (i := 1174) (by decide +kernel) rfl)
theorem yv_X9_isRock : xYv yX9_isRock cX9_isRock 2 (some .boolean) 1 := ⟨lw_mem (i := 1177) (by decide +kernel) rfl, lw_mem (i := 1176) (by decide +kernel) rfl, lw_memS (List.mem_of_getElem? (i := 97) (by decide +kernel)) rfl, lw_mem (i := 10) (by decide +kernel) rfl, ⟨by decide +kernel, by decide +kernel⟩, by decide +kernel, by decide⟩
theorem ml_RX9_102 : xMl RX9 102 yX9_isInn := Or.inl (lw_mem (i := 1167) (by decide +kernel) rfl)
theorem ys_X9_isInn : xYs yX9_isInn cX9_isInn 1 (some .boolean) 1 := ⟨lw_mem (i := 1169) (by decide +kernel) rfl, lw_mem (i := 1168) (by decide +kernel) rfl, lw_mem (i := 10) (by decide +kernel) rfl, ⟨by decide +kernel, by decide +kernel⟩, by decide +kernel, by decide⟩
theorem ml_RX9_105 : xMl RX9 105 yX9_putsLamp := Or.inl (lw_mem (i := 1170) (by decide +kernel) rfl)
theorem yv_X9_putsLamp : xYv yX9_putsLamp cX9_putsLamp 6 (some .boolean) 5 := ⟨lw_mem (i := 1173) (by decide +kernel) rfl, lw_mem (i := 1172) (by decide +kernel) rfl, lw_memS (List.mem_of_getElem? (i := 96) (by decide +kernel)) rfl, lw_mem (i := 10) (by decide +kernel) rfl, ⟨by decide +kernel, by decide +kernel⟩, by decide +kernel, by decide⟩
theorem ml_RX9_109 : xMl RX9 109 yX9_isLamp := Or.inl (lw_mem (i := 1186) (by decide +kernel) rfl)
theorem yv_X9_isLamp : xYv yX9_isLamp cX9_isLamp 2 (some .boolean) 1 := ⟨lw_mem (i := 1189) (by decide +kernel) rfl, lw_mem (i := 1188) (by decide +kernel) rfl, lw_memS (List.mem_of_getElem? (i := 98) (by decide +kernel)) rfl, lw_mem (i := 10) (by decide +kernel) rfl, ⟨by decide +kernel, by decide +kernel⟩, by decide +kernel, by decide⟩
theorem ks_286 : (Int16.ofInt (286)).toInt32 = (286 : Int32) := by decide +kernel
theorem ks_292 : (Int16.ofInt (292)).toInt32 = (292 : Int32) := by decide +kernel
theorem ml_RX9_112 : xMl RX9 112 yX9_isDrover := Or.inl (lw_mem (i := 1206) (by decide +kernel) rfl)
theorem ys_X9_isDrover : xYs yX9_isDrover cX9_isDrover 1 (some .boolean) 1 := ⟨lw_mem (i := 1208) (by decide +kernel) rfl, lw_mem (i := 1207) (by decide +kernel) rfl, lw_mem (i := 10) (by decide +kernel) rfl, ⟨by decide +kernel, by decide +kernel⟩, by decide +kernel, by decide⟩
theorem ks_304 : (Int16.ofInt (304)).toInt32 = (304 : Int32) := by decide +kernel
theorem fl_RX9_19 : xFl RX9 19 (TX9 3) := Or.inl (lw_mem (i := 1032) (by decide +kernel) rfl)
theorem fl_RX9_115 : xFl RX9 115 (TX9 4) := Or.inl (lw_mem (i := 1033) (by decide +kernel) rfl)
theorem ml_RX9_119 : xMl RX9 119 yX9_types := Or.inl (lw_mem (i := 1213) (by decide +kernel) rfl)
theorem yv_X9_types : xYv yX9_types cX9_types 3 none 1 := ⟨lw_mem (i := 1216) (by decide +kernel) rfl, lw_mem (i := 1215) (by decide +kernel) rfl, lw_memS (List.mem_of_getElem? (i := 99) (by decide +kernel)) rfl, lw_mem (i := 10) (by decide +kernel) rfl, ⟨by decide +kernel, by decide +kernel⟩, by decide +kernel, by decide⟩
theorem fl_RX9_123 : xFl RX9 123 (TX9 5) := Or.inl (lw_mem (i := 1034) (by decide +kernel) rfl)
theorem fl_RX9_126 : xFl RX9 126 (TX9 6) := Or.inl (lw_mem (i := 1035) (by decide +kernel) rfl)
theorem ml_RX9_129 : xMl RX9 129 yX9_here := Or.inl (lw_mem (i := 1225) (by decide +kernel) rfl)
theorem yv_X9_here : xYv yX9_here cX9_here 1 (some .int) 0 := ⟨lw_mem (i := 1228) (by decide +kernel) rfl, lw_mem (i := 1227) (by decide +kernel) rfl, lw_memS (List.mem_of_getElem? (i := 101) (by decide +kernel)) rfl, lw_mem (i := 10) (by decide +kernel) rfl, ⟨by decide +kernel, by decide +kernel⟩, by decide +kernel, by decide⟩
theorem fl_RX9_133 : xFl RX9 133 (TX9 7) := Or.inl (lw_mem (i := 1036) (by decide +kernel) rfl)
theorem ml_RX9_136 : xMl RX9 136 yX9_wrongAt := Or.inl (lw_mem (i := 1232) (by decide +kernel) rfl)
theorem yv_X9_wrongAt : xYv yX9_wrongAt cX9_wrongAt 3 (some .boolean) 2 := ⟨lw_mem (i := 1235) (by decide +kernel) rfl, lw_mem (i := 1234) (by decide +kernel) rfl, lw_memS (List.mem_of_getElem? (i := 102) (by decide +kernel)) rfl, lw_mem (i := 10) (by decide +kernel) rfl, ⟨by decide +kernel, by decide +kernel⟩, by decide +kernel, by decide⟩
theorem fl_RX9_139 : xFl RX9 139 (TX9 12) := Or.inl (lw_mem (i := 1041) (by decide +kernel) rfl)
theorem ml_RX9_142 : xMl RX9 142 yX9_isDigit := Or.inl (lw_mem (i := 1249) (by decide +kernel) rfl)
theorem yv_X9_isDigit : xYv yX9_isDigit cX9_isDigit 1 (some .boolean) 0 := ⟨lw_mem (i := 1252) (by decide +kernel) rfl, lw_mem (i := 1251) (by decide +kernel) rfl, lw_memS (List.mem_of_getElem? (i := 106) (by decide +kernel)) rfl, lw_mem (i := 10) (by decide +kernel) rfl, ⟨by decide +kernel, by decide +kernel⟩, by decide +kernel, by decide⟩
theorem fl_RX9_23 : xFl RX9 23 (TX9 14) := Or.inl (lw_mem (i := 1043) (by decide +kernel) rfl)
theorem fl_RX9_146 : xFl RX9 146 (TX9 9) := Or.inl (lw_mem (i := 1038) (by decide +kernel) rfl)
theorem co_RX9_149 : Cond.constant RX9 149 (1048576) ∈ lw_gt := lw_mem (i := 1248) (by decide +kernel) rfl
theorem fl_RX9_150 : xFl RX9 150 (TX9 8) := Or.inl (lw_mem (i := 1037) (by decide +kernel) rfl)
theorem fl_RX9_26 : xFl RX9 26 (TX9 15) := Or.inl (lw_mem (i := 1044) (by decide +kernel) rfl)
theorem fl_RX9_153 : xFl RX9 153 (TX9 10) := Or.inl (lw_mem (i := 1039) (by decide +kernel) rfl)
theorem ml_RX9_156 : xMl RX9 156 yX9_waitTop := Or.inl (lw_mem (i := 1271) (by decide +kernel) rfl)
theorem yv_X9_waitTop : xYv yX9_waitTop cX9_waitTop 1 (some .int) 0 := ⟨lw_mem (i := 1274) (by decide +kernel) rfl, lw_mem (i := 1273) (by decide +kernel) rfl, lw_memS (List.mem_of_getElem? (i := 110) (by decide +kernel)) rfl, lw_mem (i := 10) (by decide +kernel) rfl, ⟨by decide +kernel, by decide +kernel⟩, by decide +kernel, by decide⟩
theorem ml_RX9_159 : xMl RX9 159 yX9_notes := Or.inl (lw_mem (i := 1257) (by decide +kernel) rfl)
theorem yv_X9_notes : xYv yX9_notes cX9_notes 3 none 2 := ⟨lw_mem (i := 1260) (by decide +kernel) rfl, lw_mem (i := 1259) (by decide +kernel) rfl, lw_memS (List.mem_of_getElem? (i := 108) (by decide +kernel)) rfl, lw_mem (i := 10) (by decide +kernel) rfl, ⟨by decide +kernel, by decide +kernel⟩, by decide +kernel, by decide⟩
theorem ml_RX9_169 : xMl RX9 169 yX9_factOf := Or.inl (lw_mem (i := 1261) (by decide +kernel) rfl)
theorem ys_X9_factOf : xYs yX9_factOf cX9_factOf 1 (some .int) 1 := ⟨lw_mem (i := 1263) (by decide +kernel) rfl, lw_mem (i := 1262) (by decide +kernel) rfl, lw_mem (i := 10) (by decide +kernel) rfl, ⟨by decide +kernel, by decide +kernel⟩, by decide +kernel, by decide⟩
theorem ml_RX9_166 : xMl RX9 166 yX9_readsNumber := Or.inl (lw_mem (i := 1253) (by decide +kernel) rfl)
theorem yv_X9_readsNumber : xYv yX9_readsNumber cX9_readsNumber 2 (some .boolean) 0 := ⟨lw_mem (i := 1256) (by decide +kernel) rfl, lw_mem (i := 1255) (by decide +kernel) rfl, lw_memS (List.mem_of_getElem? (i := 107) (by decide +kernel)) rfl, lw_mem (i := 10) (by decide +kernel) rfl, ⟨by decide +kernel, by decide +kernel⟩, by decide +kernel, by decide⟩
theorem ml_RX9_163 : xMl RX9 163 yX9_opens := Or.inl (lw_mem (i := 1244) (by decide +kernel) rfl)
theorem yv_X9_opens : xYv yX9_opens cX9_opens 2 (some .boolean) 1 := ⟨lw_mem (i := 1247) (by decide +kernel) rfl, lw_mem (i := 1246) (by decide +kernel) rfl, lw_memS (List.mem_of_getElem? (i := 105) (by decide +kernel)) rfl, lw_mem (i := 10) (by decide +kernel) rfl, ⟨by decide +kernel, by decide +kernel⟩, by decide +kernel, by decide⟩
theorem ml_RX9_172 : xMl RX9 172 yX9_readsFactor := Or.inl (lw_mem (i := 1240) (by decide +kernel) rfl)
theorem yv_X9_readsFactor : xYv yX9_readsFactor cX9_readsFactor 2 (some .boolean) 0 := ⟨lw_mem (i := 1243) (by decide +kernel) rfl, lw_mem (i := 1242) (by decide +kernel) rfl, lw_memS (List.mem_of_getElem? (i := 104) (by decide +kernel)) rfl, lw_mem (i := 10) (by decide +kernel) rfl, ⟨by decide +kernel, by decide +kernel⟩, by decide +kernel, by decide⟩
theorem ml_RX9_175 : xMl RX9 175 yX9_sumSign := Or.inl (lw_mem (i := 1264) (by decide +kernel) rfl)
theorem ys_X9_sumSign : xYs yX9_sumSign cX9_sumSign 1 (some .int) 1 := ⟨lw_mem (i := 1266) (by decide +kernel) rfl, lw_mem (i := 1265) (by decide +kernel) rfl, lw_mem (i := 10) (by decide +kernel) rfl, ⟨by decide +kernel, by decide +kernel⟩, by decide +kernel, by decide⟩
theorem ml_RX9_182 : xMl RX9 182 yX9_hasOpenSum := Or.inl (lw_mem (i := 1275) (by decide +kernel) rfl)
theorem yv_X9_hasOpenSum : xYv yX9_hasOpenSum cX9_hasOpenSum 3 (some .boolean) 1 := ⟨lw_mem (i := 1278) (by decide +kernel) rfl, lw_mem (i := 1277) (by decide +kernel) rfl, lw_memS (List.mem_of_getElem? (i := 111) (by decide +kernel)) rfl, lw_mem (i := 10) (by decide +kernel) rfl, ⟨by decide +kernel, by decide +kernel⟩, by decide +kernel, by decide⟩
theorem ml_RX9_178 : xMl RX9 178 yX9_closesSums := Or.inl (lw_mem (i := 1267) (by decide +kernel) rfl)
theorem yv_X9_closesSums : xYv yX9_closesSums cX9_closesSums 2 none 1 := ⟨lw_mem (i := 1270) (by decide +kernel) rfl, lw_mem (i := 1269) (by decide +kernel) rfl, lw_memS (List.mem_of_getElem? (i := 109) (by decide +kernel)) rfl, lw_mem (i := 10) (by decide +kernel) rfl, ⟨by decide +kernel, by decide +kernel⟩, by decide +kernel, by decide⟩
theorem ml_RX9_185 : xMl RX9 185 yX9_readsSum := Or.inl (lw_mem (i := 1236) (by decide +kernel) rfl)
theorem yv_X9_readsSum : xYv yX9_readsSum cX9_readsSum 3 (some .boolean) 0 := ⟨lw_mem (i := 1239) (by decide +kernel) rfl, lw_mem (i := 1238) (by decide +kernel) rfl, lw_memS (List.mem_of_getElem? (i := 103) (by decide +kernel)) rfl, lw_mem (i := 10) (by decide +kernel) rfl, ⟨by decide +kernel, by decide +kernel⟩, by decide +kernel, by decide⟩
theorem ml_RX9_188 : xMl RX9 188 yX9_endsPiece := Or.inl (lw_mem (i := 1287) (by decide +kernel) rfl)
theorem yv_X9_endsPiece : xYv yX9_endsPiece cX9_endsPiece 1 none 0 := ⟨lw_mem (i := 1290) (by decide +kernel) rfl, lw_mem (i := 1289) (by decide +kernel) rfl, lw_memS (List.mem_of_getElem? (i := 114) (by decide +kernel)) rfl, lw_mem (i := 10) (by decide +kernel) rfl, ⟨by decide +kernel, by decide +kernel⟩, by decide +kernel, by decide⟩
theorem ml_RX9_191 : xMl RX9 191 yX9_readsCompared := Or.inl (lw_mem (i := 1283) (by decide +kernel) rfl)
theorem yv_X9_readsCompared : xYv yX9_readsCompared cX9_readsCompared 2 (some .boolean) 0 := ⟨lw_mem (i := 1286) (by decide +kernel) rfl, lw_mem (i := 1285) (by decide +kernel) rfl, lw_memS (List.mem_of_getElem? (i := 113) (by decide +kernel)) rfl, lw_mem (i := 10) (by decide +kernel) rfl, ⟨by decide +kernel, by decide +kernel⟩, by decide +kernel, by decide⟩
theorem ml_RX9_194 : xMl RX9 194 yX9_lands := Or.inl (lw_mem (i := 1291) (by decide +kernel) rfl)
theorem yv_X9_lands : xYv yX9_lands cX9_lands 3 none 1 := ⟨lw_mem (i := 1294) (by decide +kernel) rfl, lw_mem (i := 1293) (by decide +kernel) rfl, lw_memS (List.mem_of_getElem? (i := 115) (by decide +kernel)) rfl, lw_mem (i := 10) (by decide +kernel) rfl, ⟨by decide +kernel, by decide +kernel⟩, by decide +kernel, by decide⟩
theorem ml_RX9_197 : xMl RX9 197 yX9_jumps := Or.inl (lw_mem (i := 1295) (by decide +kernel) rfl)
theorem yv_X9_jumps : xYv yX9_jumps cX9_jumps 2 none 1 := ⟨lw_mem (i := 1298) (by decide +kernel) rfl, lw_mem (i := 1297) (by decide +kernel) rfl, lw_memS (List.mem_of_getElem? (i := 116) (by decide +kernel)) rfl, lw_mem (i := 10) (by decide +kernel) rfl, ⟨by decide +kernel, by decide +kernel⟩, by decide +kernel, by decide⟩
theorem kb_97 : (Int8.ofInt (97)).toInt32 = (97 : Int32) := by decide +kernel
theorem kb_122 : (Int8.ofInt (122)).toInt32 = (122 : Int32) := by decide +kernel
theorem kb_115 : (Int8.ofInt (115)).toInt32 = (115 : Int32) := by decide +kernel
theorem kb_119 : (Int8.ofInt (119)).toInt32 = (119 : Int32) := by decide +kernel
theorem kb_120 : (Int8.ofInt (120)).toInt32 = (120 : Int32) := by decide +kernel
theorem kb_102 : (Int8.ofInt (102)).toInt32 = (102 : Int32) := by decide +kernel
theorem kb_98 : (Int8.ofInt (98)).toInt32 = (98 : Int32) := by decide +kernel
theorem kb_113 : (Int8.ofInt (113)).toInt32 = (113 : Int32) := by decide +kernel
theorem ml_RX9_200 : xMl RX9 200 yX9_isClause := Or.inl (lw_mem (i := 1229) (by decide +kernel) rfl)
theorem ys_X9_isClause : xYs yX9_isClause cX9_isClause 1 (some .boolean) 1 := ⟨lw_mem (i := 1231) (by decide +kernel) rfl, lw_mem (i := 1230) (by decide +kernel) rfl, lw_mem (i := 10) (by decide +kernel) rfl, ⟨by decide +kernel, by decide +kernel⟩, by decide +kernel, by decide⟩
theorem fl_RX9_203 : xFl RX9 203 (TX9 11) := Or.inl (lw_mem (i := 1040) (by decide +kernel) rfl)
theorem fl_RX9_29 : xFl RX9 29 (TX9 16) := Or.inl (lw_mem (i := 1045) (by decide +kernel) rfl)
theorem fl_RX9_32 : xFl RX9 32 (TX9 17) := Or.inl (lw_mem (i := 1046) (by decide +kernel) rfl)
theorem fl_RX9_35 : xFl RX9 35 (TX9 18) := Or.inl (lw_mem (i := 1047) (by decide +kernel) rfl)
theorem ml_RX9_206 : xMl RX9 206 yX9_readsCondition := Or.inl (lw_mem (i := 1279) (by decide +kernel) rfl)
theorem yv_X9_readsCondition : xYv yX9_readsCondition cX9_readsCondition 1 (some .boolean) 0 := ⟨lw_mem (i := 1282) (by decide +kernel) rfl, lw_mem (i := 1281) (by decide +kernel) rfl, lw_memS (List.mem_of_getElem? (i := 112) (by decide +kernel)) rfl, lw_mem (i := 10) (by decide +kernel) rfl, ⟨by decide +kernel, by decide +kernel⟩, by decide +kernel, by decide⟩
theorem fl_RX9_38 : xFl RX9 38 (TX9 19) := Or.inl (lw_mem (i := 1048) (by decide +kernel) rfl)
theorem ml_RX9_209 : xMl RX9 209 yX9_readsClause := Or.inl (lw_mem (i := 1221) (by decide +kernel) rfl)
theorem yv_X9_readsClause : xYv yX9_readsClause cX9_readsClause 2 (some .boolean) 0 := ⟨lw_mem (i := 1224) (by decide +kernel) rfl, lw_mem (i := 1223) (by decide +kernel) rfl, lw_memS (List.mem_of_getElem? (i := 100) (by decide +kernel)) rfl, lw_mem (i := 10) (by decide +kernel) rfl, ⟨by decide +kernel, by decide +kernel⟩, by decide +kernel, by decide⟩
theorem ml_RX9_212 : xMl RX9 212 yX9_takes := Or.inl (lw_mem (i := 1299) (by decide +kernel) rfl)
theorem yv_X9_takes : xYv yX9_takes cX9_takes 2 (some .boolean) 1 := ⟨lw_mem (i := 1302) (by decide +kernel) rfl, lw_mem (i := 1301) (by decide +kernel) rfl, lw_memS (List.mem_of_getElem? (i := 117) (by decide +kernel)) rfl, lw_mem (i := 10) (by decide +kernel) rfl, ⟨by decide +kernel, by decide +kernel⟩, by decide +kernel, by decide⟩
theorem fl_RX9_215 : xFl RX9 215 (TX9 13) := Or.inl (lw_mem (i := 1042) (by decide +kernel) rfl)
theorem fl_RX9_41 : xFl RX9 41 (TX9 20) := Or.inl (lw_mem (i := 1049) (by decide +kernel) rfl)
theorem fl_RX9_44 : xFl RX9 44 (TX9 21) := Or.inl (lw_mem (i := 1050) (by decide +kernel) rfl)
theorem fl_RX9_47 : xFl RX9 47 (TX9 22) := Or.inl (lw_mem (i := 1051) (by decide +kernel) rfl)
theorem fl_RX9_50 : xFl RX9 50 (TX9 23) := Or.inl (lw_mem (i := 1052) (by decide +kernel) rfl)
theorem fl_RX9_53 : xFl RX9 53 (TX9 24) := Or.inl (lw_mem (i := 1053) (by decide +kernel) rfl)
theorem fl_RX9_56 : xFl RX9 56 (TX9 25) := Or.inl (lw_mem (i := 1054) (by decide +kernel) rfl)
theorem ml_RX9_218 : xMl RX9 218 yX9_reckon := Or.inl (lw_mem (i := 1323) (by decide +kernel) rfl)
theorem ys_X9_reckon : xYs yX9_reckon cX9_reckon 3 (some .int) 3 := ⟨lw_mem (i := 1325) (by decide +kernel) rfl, lw_mem (i := 1324) (by decide +kernel) rfl, lw_mem (i := 10) (by decide +kernel) rfl, ⟨by decide +kernel, by decide +kernel⟩, by decide +kernel, by decide⟩
theorem fl_RX9_59 : xFl RX9 59 (TX9 26) := Or.inl (lw_mem (i := 1055) (by decide +kernel) rfl)
theorem ml_RX9_222 : xMl RX9 222 yX9_comesTo := Or.inl (lw_mem (i := 1319) (by decide +kernel) rfl)
theorem yv_X9_comesTo : xYv yX9_comesTo cX9_comesTo 8 (some .int) 2 := ⟨lw_mem (i := 1322) (by decide +kernel) rfl, lw_mem (i := 1321) (by decide +kernel) rfl, lw_memS (List.mem_of_getElem? (i := 121) (by decide +kernel)) rfl, lw_mem (i := 10) (by decide +kernel) rfl, ⟨by decide +kernel, by decide +kernel⟩, by decide +kernel, by decide⟩
theorem kb_15 : (Int8.ofInt (15)).toInt32 = (15 : Int32) := by decide +kernel
theorem ks_328 : (Int16.ofInt (328)).toInt32 = (328 : Int32) := by decide +kernel
theorem ks_327 : (Int16.ofInt (327)).toInt32 = (327 : Int32) := by decide +kernel
theorem ks_329 : (Int16.ofInt (329)).toInt32 = (329 : Int32) := by decide +kernel
theorem ml_RX9_226 : xMl RX9 226 yX9_has := Or.inl (lw_mem (i := 1358) (by decide +kernel) rfl)
theorem ys_X9_has : xYs yX9_has cX9_has 2 (some .boolean) 2 := ⟨lw_mem (i := 1360) (by decide +kernel) rfl, lw_mem (i := 1359) (by decide +kernel) rfl, lw_mem (i := 10) (by decide +kernel) rfl, ⟨by decide +kernel, by decide +kernel⟩, by decide +kernel, by decide⟩
theorem ml_RX9_229 : xMl RX9 229 yX9_feels := Or.inl (lw_mem (i := 1311) (by decide +kernel) rfl)
theorem yv_X9_feels : xYv yX9_feels cX9_feels 2 none 0 := ⟨lw_mem (i := 1314) (by decide +kernel) rfl, lw_mem (i := 1313) (by decide +kernel) rfl, lw_memS (List.mem_of_getElem? (i := 119) (by decide +kernel)) rfl, lw_mem (i := 10) (by decide +kernel) rfl, ⟨by decide +kernel, by decide +kernel⟩, by decide +kernel, by decide⟩
theorem ml_RX9_232 : xMl RX9 232 yX9_isClouded := Or.inl (lw_mem (i := 1354) (by decide +kernel) rfl)
theorem yv_X9_isClouded : xYv yX9_isClouded cX9_isClouded 1 (some .boolean) 0 := ⟨lw_mem (i := 1357) (by decide +kernel) rfl, lw_mem (i := 1356) (by decide +kernel) rfl, lw_memS (List.mem_of_getElem? (i := 125) (by decide +kernel)) rfl, lw_mem (i := 10) (by decide +kernel) rfl, ⟨by decide +kernel, by decide +kernel⟩, by decide +kernel, by decide⟩
theorem ml_RX9_235 : xMl RX9 235 yX9_feelsHerd := Or.inl (lw_mem (i := 1350) (by decide +kernel) rfl)
theorem yv_X9_feelsHerd : xYv yX9_feelsHerd cX9_feelsHerd 3 none 2 := ⟨lw_mem (i := 1353) (by decide +kernel) rfl, lw_mem (i := 1352) (by decide +kernel) rfl, lw_memS (List.mem_of_getElem? (i := 124) (by decide +kernel)) rfl, lw_mem (i := 10) (by decide +kernel) rfl, ⟨by decide +kernel, by decide +kernel⟩, by decide +kernel, by decide⟩
theorem ml_RX9_238 : xMl RX9 238 yX9_kindOf := Or.inl (lw_mem (i := 1361) (by decide +kernel) rfl)
theorem yv_X9_kindOf : xYv yX9_kindOf cX9_kindOf 2 (some .int) 1 := ⟨lw_mem (i := 1364) (by decide +kernel) rfl, lw_mem (i := 1363) (by decide +kernel) rfl, lw_memS (List.mem_of_getElem? (i := 126) (by decide +kernel)) rfl, lw_mem (i := 10) (by decide +kernel) rfl, ⟨by decide +kernel, by decide +kernel⟩, by decide +kernel, by decide⟩
theorem ml_RX9_241 : xMl RX9 241 yX9_lampAt := Or.inl (lw_mem (i := 1365) (by decide +kernel) rfl)
theorem yv_X9_lampAt : xYv yX9_lampAt cX9_lampAt 2 (some .int) 1 := ⟨lw_mem (i := 1368) (by decide +kernel) rfl, lw_mem (i := 1367) (by decide +kernel) rfl, lw_memS (List.mem_of_getElem? (i := 127) (by decide +kernel)) rfl, lw_mem (i := 10) (by decide +kernel) rfl, ⟨by decide +kernel, by decide +kernel⟩, by decide +kernel, by decide⟩
theorem ml_RX9_244 : xMl RX9 244 yX9_way := Or.inl (lw_mem (i := 1369) (by decide +kernel) rfl)
theorem ys_X9_way : xYs yX9_way cX9_way 2 (some .int) 2 := ⟨lw_mem (i := 1371) (by decide +kernel) rfl, lw_mem (i := 1370) (by decide +kernel) rfl, lw_mem (i := 10) (by decide +kernel) rfl, ⟨by decide +kernel, by decide +kernel⟩, by decide +kernel, by decide⟩
theorem ml_RX9_247 : xMl RX9 247 yX9_byLaw := Or.inl (lw_mem (i := 1315) (by decide +kernel) rfl)
theorem yv_X9_byLaw : xYv yX9_byLaw cX9_byLaw 6 (some .int) 3 := ⟨lw_mem (i := 1318) (by decide +kernel) rfl, lw_mem (i := 1317) (by decide +kernel) rfl, lw_memS (List.mem_of_getElem? (i := 120) (by decide +kernel)) rfl, lw_mem (i := 10) (by decide +kernel) rfl, ⟨by decide +kernel, by decide +kernel⟩, by decide +kernel, by decide⟩
theorem ml_RX9_250 : xMl RX9 250 yX9_priceOf := Or.inl (lw_mem (i := 1307) (by decide +kernel) rfl)
theorem yv_X9_priceOf : xYv yX9_priceOf cX9_priceOf 2 (some .int) 1 := ⟨lw_mem (i := 1310) (by decide +kernel) rfl, lw_mem (i := 1309) (by decide +kernel) rfl, lw_memS (List.mem_of_getElem? (i := 118) (by decide +kernel)) rfl, lw_mem (i := 10) (by decide +kernel) rfl, ⟨by decide +kernel, by decide +kernel⟩, by decide +kernel, by decide⟩
theorem ml_RX9_253 : xMl RX9 253 yX9_isLit := Or.inl (lw_mem (i := 1338) (by decide +kernel) rfl)
theorem yv_X9_isLit : xYv yX9_isLit cX9_isLit 2 (some .boolean) 1 := ⟨lw_mem (i := 1341) (by decide +kernel) rfl, lw_mem (i := 1340) (by decide +kernel) rfl, lw_memS (List.mem_of_getElem? (i := 122) (by decide +kernel)) rfl, lw_mem (i := 10) (by decide +kernel) rfl, ⟨by decide +kernel, by decide +kernel⟩, by decide +kernel, by decide⟩
theorem ml_RX9_256 : xMl RX9 256 yX9_pulls := Or.inl (lw_mem (i := 1346) (by decide +kernel) rfl)
theorem yv_X9_pulls : xYv yX9_pulls cX9_pulls 3 (some .int) 2 := ⟨lw_mem (i := 1349) (by decide +kernel) rfl, lw_mem (i := 1348) (by decide +kernel) rfl, lw_memS (List.mem_of_getElem? (i := 123) (by decide +kernel)) rfl, lw_mem (i := 10) (by decide +kernel) rfl, ⟨by decide +kernel, by decide +kernel⟩, by decide +kernel, by decide⟩
theorem ml_RX9_259 : xMl RX9 259 yX9_targetOf := Or.inl (lw_mem (i := 1379) (by decide +kernel) rfl)
theorem yv_X9_targetOf : xYv yX9_targetOf cX9_targetOf 6 (some .int) 1 := ⟨lw_mem (i := 1382) (by decide +kernel) rfl, lw_mem (i := 1381) (by decide +kernel) rfl, lw_memS (List.mem_of_getElem? (i := 128) (by decide +kernel)) rfl, lw_mem (i := 10) (by decide +kernel) rfl, ⟨by decide +kernel, by decide +kernel⟩, by decide +kernel, by decide⟩
theorem ml_RX9_262 : xMl RX9 262 yX9_steps := Or.inl (lw_mem (i := 1408) (by decide +kernel) rfl)
theorem yv_X9_steps : xYv yX9_steps cX9_steps 6 (some .boolean) 3 := ⟨lw_mem (i := 1411) (by decide +kernel) rfl, lw_mem (i := 1410) (by decide +kernel) rfl, lw_memS (List.mem_of_getElem? (i := 134) (by decide +kernel)) rfl, lw_mem (i := 10) (by decide +kernel) rfl, ⟨by decide +kernel, by decide +kernel⟩, by decide +kernel, by decide⟩
theorem ml_RX9_265 : xMl RX9 265 yX9_sign := Or.inl (lw_mem (i := 1416) (by decide +kernel) rfl)
theorem ys_X9_sign : xYs yX9_sign cX9_sign 1 (some .int) 1 := ⟨lw_mem (i := 1418) (by decide +kernel) rfl, lw_mem (i := 1417) (by decide +kernel) rfl, lw_mem (i := 10) (by decide +kernel) rfl, ⟨by decide +kernel, by decide +kernel⟩, by decide +kernel, by decide⟩
theorem ml_RX9_268 : xMl RX9 268 yX9_min := Or.inl (lw_mem (i := 1431) (by decide +kernel) rfl)
theorem ys_X9_min : xYs yX9_min cX9_min 2 (some .int) 2 := ⟨lw_mem (i := 1433) (by decide +kernel) rfl, lw_mem (i := 1432) (by decide +kernel) rfl, lw_mem (i := 10) (by decide +kernel) rfl, ⟨by decide +kernel, by decide +kernel⟩, by decide +kernel, by decide⟩
theorem ks_308 : (Int16.ofInt (308)).toInt32 = (308 : Int32) := by decide +kernel
theorem ml_RX9_271 : xMl RX9 271 yX9_loses := Or.inl (lw_mem (i := 1427) (by decide +kernel) rfl)
theorem yv_X9_loses : xYv yX9_loses cX9_loses 6 (some .int) 3 := ⟨lw_mem (i := 1430) (by decide +kernel) rfl, lw_mem (i := 1429) (by decide +kernel) rfl, lw_memS (List.mem_of_getElem? (i := 138) (by decide +kernel)) rfl, lw_mem (i := 10) (by decide +kernel) rfl, ⟨by decide +kernel, by decide +kernel⟩, by decide +kernel, by decide⟩
theorem ml_RX9_274 : xMl RX9 274 yX9_held := Or.inl (lw_mem (i := 1434) (by decide +kernel) rfl)
theorem ys_X9_held : xYs yX9_held cX9_held 2 (some .int) 2 := ⟨lw_mem (i := 1436) (by decide +kernel) rfl, lw_mem (i := 1435) (by decide +kernel) rfl, lw_mem (i := 10) (by decide +kernel) rfl, ⟨by decide +kernel, by decide +kernel⟩, by decide +kernel, by decide⟩
theorem ml_RX9_277 : xMl RX9 277 yX9_stampedes := Or.inl (lw_mem (i := 1404) (by decide +kernel) rfl)
theorem yv_X9_stampedes : xYv yX9_stampedes cX9_stampedes 5 none 2 := ⟨lw_mem (i := 1407) (by decide +kernel) rfl, lw_mem (i := 1406) (by decide +kernel) rfl, lw_memS (List.mem_of_getElem? (i := 133) (by decide +kernel)) rfl, lw_mem (i := 10) (by decide +kernel) rfl, ⟨by decide +kernel, by decide +kernel⟩, by decide +kernel, by decide⟩
theorem ml_RX9_286 : xMl RX9 286 yX9_sinks := Or.inl (lw_mem (i := 1423) (by decide +kernel) rfl)
theorem yv_X9_sinks : xYv yX9_sinks cX9_sinks 6 (some .int) 3 := ⟨lw_mem (i := 1426) (by decide +kernel) rfl, lw_mem (i := 1425) (by decide +kernel) rfl, lw_memS (List.mem_of_getElem? (i := 137) (by decide +kernel)) rfl, lw_mem (i := 10) (by decide +kernel) rfl, ⟨by decide +kernel, by decide +kernel⟩, by decide +kernel, by decide⟩
theorem kb_m99 : (Int8.ofInt (-99)).toInt32 = (-99 : Int32) := by decide +kernel
theorem ml_RX9_283 : xMl RX9 283 yX9_goesOn := Or.inl (lw_mem (i := 1419) (by decide +kernel) rfl)
theorem yv_X9_goesOn : xYv yX9_goesOn cX9_goesOn 2 none 1 := ⟨lw_mem (i := 1422) (by decide +kernel) rfl, lw_mem (i := 1421) (by decide +kernel) rfl, lw_memS (List.mem_of_getElem? (i := 136) (by decide +kernel)) rfl, lw_mem (i := 10) (by decide +kernel) rfl, ⟨by decide +kernel, by decide +kernel⟩, by decide +kernel, by decide⟩
theorem ml_RX9_280 : xMl RX9 280 yX9_goesTo := Or.inl (lw_mem (i := 1412) (by decide +kernel) rfl)
theorem yv_X9_goesTo : xYv yX9_goesTo cX9_goesTo 6 none 2 := ⟨lw_mem (i := 1415) (by decide +kernel) rfl, lw_mem (i := 1414) (by decide +kernel) rfl, lw_memS (List.mem_of_getElem? (i := 135) (by decide +kernel)) rfl, lw_mem (i := 10) (by decide +kernel) rfl, ⟨by decide +kernel, by decide +kernel⟩, by decide +kernel, by decide⟩
theorem ml_RX9_289 : xMl RX9 289 yX9_herdGoes := Or.inl (lw_mem (i := 1400) (by decide +kernel) rfl)
theorem yv_X9_herdGoes : xYv yX9_herdGoes cX9_herdGoes 5 (some .int) 2 := ⟨lw_mem (i := 1403) (by decide +kernel) rfl, lw_mem (i := 1402) (by decide +kernel) rfl, lw_memS (List.mem_of_getElem? (i := 132) (by decide +kernel)) rfl, lw_mem (i := 10) (by decide +kernel) rfl, ⟨by decide +kernel, by decide +kernel⟩, by decide +kernel, by decide⟩
theorem ks_330 : (Int16.ofInt (330)).toInt32 = (330 : Int32) := by decide +kernel
theorem co_RX9_292 : Cond.constant RX9 292 (65536) ∈ lw_gt := lw_mem (i := 1395) (by decide +kernel) rfl
theorem ml_RX9_293 : xMl RX9 293 yX9_draws := Or.inl (lw_mem (i := 1391) (by decide +kernel) rfl)
theorem yv_X9_draws : xYv yX9_draws cX9_draws 1 (some .int) 0 := ⟨lw_mem (i := 1394) (by decide +kernel) rfl, lw_mem (i := 1393) (by decide +kernel) rfl, lw_memS (List.mem_of_getElem? (i := 130) (by decide +kernel)) rfl, lw_mem (i := 10) (by decide +kernel) rfl, ⟨by decide +kernel, by decide +kernel⟩, by decide +kernel, by decide⟩
theorem ml_RX9_296 : xMl RX9 296 yX9_passes := Or.inl (lw_mem (i := 1396) (by decide +kernel) rfl)
theorem yv_X9_passes : xYv yX9_passes cX9_passes 4 (some .int) 1 := ⟨lw_mem (i := 1399) (by decide +kernel) rfl, lw_mem (i := 1398) (by decide +kernel) rfl, lw_memS (List.mem_of_getElem? (i := 131) (by decide +kernel)) rfl, lw_mem (i := 10) (by decide +kernel) rfl, ⟨by decide +kernel, by decide +kernel⟩, by decide +kernel, by decide⟩
theorem ml_RX9_299 : xMl RX9 299 yX9_runs := Or.inl (lw_mem (i := 1387) (by decide +kernel) rfl)
theorem yv_X9_runs : xYv yX9_runs cX9_runs 4 (some .int) 1 := ⟨lw_mem (i := 1390) (by decide +kernel) rfl, lw_mem (i := 1389) (by decide +kernel) rfl, lw_memS (List.mem_of_getElem? (i := 129) (by decide +kernel)) rfl, lw_mem (i := 10) (by decide +kernel) rfl, ⟨by decide +kernel, by decide +kernel⟩, by decide +kernel, by decide⟩
theorem fl_RX9_13 : xFl RX9 13 (TX9 1) := Or.inl (lw_mem (i := 1030) (by decide +kernel) rfl)
theorem ks_331 : (Int16.ofInt (331)).toInt32 = (331 : Int32) := by decide +kernel
theorem ml_RX9_302 : xMl RX9 302 yX9_copies := Or.inl (lw_mem (i := 1449) (by decide +kernel) rfl)
theorem ys_X9_copies : xYs yX9_copies cX9_copies 3 none 2 := ⟨lw_mem (i := 1451) (by decide +kernel) rfl, lw_mem (i := 1450) (by decide +kernel) rfl, lw_mem (i := 10) (by decide +kernel) rfl, ⟨by decide +kernel, by decide +kernel⟩, by decide +kernel, by decide⟩
theorem kb_49 : (Int8.ofInt (49)).toInt32 = (49 : Int32) := by decide +kernel
theorem ml_RX9_306 : xMl RX9 306 yX9_begins := Or.inl (lw_mem (i := 1445) (by decide +kernel) rfl)
theorem yv_X9_begins : xYv yX9_begins cX9_begins 1 none 0 := ⟨lw_mem (i := 1448) (by decide +kernel) rfl, lw_mem (i := 1447) (by decide +kernel) rfl, lw_memS (List.mem_of_getElem? (i := 139) (by decide +kernel)) rfl, lw_mem (i := 10) (by decide +kernel) rfl, ⟨by decide +kernel, by decide +kernel⟩, by decide +kernel, by decide⟩
theorem kb_30 : (Int8.ofInt (30)).toInt32 = (30 : Int32) := by decide +kernel
theorem ml_RX9_312 : xMl RX9 312 yX9_through := Or.inl (lw_mem (i := 1456) (by decide +kernel) rfl)
theorem yv_X9_through : xYv yX9_through cX9_through 3 (some .int) 0 := ⟨lw_mem (i := 1459) (by decide +kernel) rfl, lw_mem (i := 1458) (by decide +kernel) rfl, lw_memS (List.mem_of_getElem? (i := 141) (by decide +kernel)) rfl, lw_mem (i := 10) (by decide +kernel) rfl, ⟨by decide +kernel, by decide +kernel⟩, by decide +kernel, by decide⟩
theorem ml_RX9_309 : xMl RX9 309 yX9_living := Or.inl (lw_mem (i := 1452) (by decide +kernel) rfl)
theorem yv_X9_living : xYv yX9_living cX9_living 3 (some .int) 0 := ⟨lw_mem (i := 1455) (by decide +kernel) rfl, lw_mem (i := 1454) (by decide +kernel) rfl, lw_memS (List.mem_of_getElem? (i := 140) (by decide +kernel)) rfl, lw_mem (i := 10) (by decide +kernel) rfl, ⟨by decide +kernel, by decide +kernel⟩, by decide +kernel, by decide⟩
theorem ml_RX9_315 : xMl RX9 315 yX9_again := Or.inl (lw_mem (i := 1460) (by decide +kernel) rfl)
theorem yv_X9_again : xYv yX9_again cX9_again 1 none 0 := ⟨lw_mem (i := 1463) (by decide +kernel) rfl, lw_mem (i := 1462) (by decide +kernel) rfl, lw_memS (List.mem_of_getElem? (i := 142) (by decide +kernel)) rfl, lw_mem (i := 10) (by decide +kernel) rfl, ⟨by decide +kernel, by decide +kernel⟩, by decide +kernel, by decide⟩
theorem fl_RX9_318 : xFl RX9 318 (TX9 29) := Or.inl (lw_mem (i := 1058) (by decide +kernel) rfl)
theorem fl_RX9_65 : xFl RX9 65 (TX9 28) := Or.inl (lw_mem (i := 1057) (by decide +kernel) rfl)
theorem fl_RX9_62 : xFl RX9 62 (TX9 27) := Or.inl (lw_mem (i := 1056) (by decide +kernel) rfl)
theorem ml_RX9_321 : xMl RX9 321 yX9_livingWith := Or.inl (lw_mem (i := 1484) (by decide +kernel) rfl)
theorem yv_X9_livingWith : xYv yX9_livingWith cX9_livingWith 3 (some .int) 1 := ⟨lw_mem (i := 1487) (by decide +kernel) rfl, lw_mem (i := 1486) (by decide +kernel) rfl, lw_memS (List.mem_of_getElem? (i := 144) (by decide +kernel)) rfl, lw_mem (i := 10) (by decide +kernel) rfl, ⟨by decide +kernel, by decide +kernel⟩, by decide +kernel, by decide⟩
theorem fl_RX9_324 : xFl RX9 324 (TX9 32) := Or.inl (lw_mem (i := 1061) (by decide +kernel) rfl)
theorem ml_RX9_327 : xMl RX9 327 yX9_costs := Or.inl (lw_mem (i := 1492) (by decide +kernel) rfl)
theorem yv_X9_costs : xYv yX9_costs cX9_costs 4 (some .int) 1 := ⟨lw_mem (i := 1495) (by decide +kernel) rfl, lw_mem (i := 1494) (by decide +kernel) rfl, lw_memS (List.mem_of_getElem? (i := 146) (by decide +kernel)) rfl, lw_mem (i := 10) (by decide +kernel) rfl, ⟨by decide +kernel, by decide +kernel⟩, by decide +kernel, by decide⟩
theorem fl_RX9_330 : xFl RX9 330 (TX9 31) := Or.inl (lw_mem (i := 1060) (by decide +kernel) rfl)
theorem fl_RX9_333 : xFl RX9 333 (TX9 30) := Or.inl (lw_mem (i := 1059) (by decide +kernel) rfl)
theorem ml_RX9_336 : xMl RX9 336 yX9_laysLiving := Or.inl (lw_mem (i := 1480) (by decide +kernel) rfl)
theorem yv_X9_laysLiving : xYv yX9_laysLiving cX9_laysLiving 2 none 0 := ⟨lw_mem (i := 1483) (by decide +kernel) rfl, lw_mem (i := 1482) (by decide +kernel) rfl, lw_memS (List.mem_of_getElem? (i := 143) (by decide +kernel)) rfl, lw_mem (i := 10) (by decide +kernel) rfl, ⟨by decide +kernel, by decide +kernel⟩, by decide +kernel, by decide⟩
theorem ml_RX9_339 : xMl RX9 339 yX9_laysPlan := Or.inl (lw_mem (i := 1488) (by decide +kernel) rfl)
theorem yv_X9_laysPlan : xYv yX9_laysPlan cX9_laysPlan 4 none 1 := ⟨lw_mem (i := 1491) (by decide +kernel) rfl, lw_mem (i := 1490) (by decide +kernel) rfl, lw_memS (List.mem_of_getElem? (i := 145) (by decide +kernel)) rfl, lw_mem (i := 10) (by decide +kernel) rfl, ⟨by decide +kernel, by decide +kernel⟩, by decide +kernel, by decide⟩
theorem fl_RX9_68 : xFl RX9 68 (TX9 33) := Or.inl (lw_mem (i := 1062) (by decide +kernel) rfl)
theorem fl_RX9_71 : xFl RX9 71 (TX9 34) := Or.inl (lw_mem (i := 1063) (by decide +kernel) rfl)
theorem ml_RX9_342 : xMl RX9 342 yX9_isUnlit := Or.inl (lw_mem (i := 1508) (by decide +kernel) rfl)
theorem yv_X9_isUnlit : xYv yX9_isUnlit cX9_isUnlit 2 (some .boolean) 1 := ⟨lw_mem (i := 1511) (by decide +kernel) rfl, lw_mem (i := 1510) (by decide +kernel) rfl, lw_memS (List.mem_of_getElem? (i := 147) (by decide +kernel)) rfl, lw_mem (i := 10) (by decide +kernel) rfl, ⟨by decide +kernel, by decide +kernel⟩, by decide +kernel, by decide⟩
theorem ml_RX9_345 : xMl RX9 345 yX9_laysGains := Or.inl (lw_mem (i := 1512) (by decide +kernel) rfl)
theorem yv_X9_laysGains : xYv yX9_laysGains cX9_laysGains 5 none 3 := ⟨lw_mem (i := 1515) (by decide +kernel) rfl, lw_mem (i := 1514) (by decide +kernel) rfl, lw_memS (List.mem_of_getElem? (i := 148) (by decide +kernel)) rfl, lw_mem (i := 10) (by decide +kernel) rfl, ⟨by decide +kernel, by decide +kernel⟩, by decide +kernel, by decide⟩
theorem ml_RX9_349 : xMl RX9 349 yX9_rests := Or.inl (lw_mem (i := 1516) (by decide +kernel) rfl)
theorem yv_X9_rests : xYv yX9_rests cX9_rests 3 (some .boolean) 1 := ⟨lw_mem (i := 1519) (by decide +kernel) rfl, lw_mem (i := 1518) (by decide +kernel) rfl, lw_memS (List.mem_of_getElem? (i := 149) (by decide +kernel)) rfl, lw_mem (i := 10) (by decide +kernel) rfl, ⟨by decide +kernel, by decide +kernel⟩, by decide +kernel, by decide⟩
theorem fl_RX9_74 : xFl RX9 74 (TX9 35) := Or.inl (lw_mem (i := 1064) (by decide +kernel) rfl)
theorem ml_RX9_352 : xMl RX9 352 yX9_areWithin := Or.inl (lw_mem (i := 1524) (by decide +kernel) rfl)
theorem yv_X9_areWithin : xYv yX9_areWithin cX9_areWithin 2 (some .boolean) 1 := ⟨lw_mem (i := 1527) (by decide +kernel) rfl, lw_mem (i := 1526) (by decide +kernel) rfl, lw_memS (List.mem_of_getElem? (i := 150) (by decide +kernel)) rfl, lw_mem (i := 10) (by decide +kernel) rfl, ⟨by decide +kernel, by decide +kernel⟩, by decide +kernel, by decide⟩
theorem ml_RX9_355 : xMl RX9 355 yX9_unknown := Or.inl (lw_mem (i := 1528) (by decide +kernel) rfl)
theorem yv_X9_unknown : xYv yX9_unknown cX9_unknown 4 (some .int) 0 := ⟨lw_mem (i := 1531) (by decide +kernel) rfl, lw_mem (i := 1530) (by decide +kernel) rfl, lw_memS (List.mem_of_getElem? (i := 151) (by decide +kernel)) rfl, lw_mem (i := 10) (by decide +kernel) rfl, ⟨by decide +kernel, by decide +kernel⟩, by decide +kernel, by decide⟩
theorem ks_4095 : (Int16.ofInt (4095)).toInt32 = (4095 : Int32) := by decide +kernel
theorem ks_4096 : (Int16.ofInt (4096)).toInt32 = (4096 : Int32) := by decide +kernel
theorem ml_RX9_358 : xMl RX9 358 yX9_comesSo := Or.inl (lw_mem (i := 1532) (by decide +kernel) rfl)
theorem yv_X9_comesSo : xYv yX9_comesSo cX9_comesSo 4 (some .boolean) 2 := ⟨lw_mem (i := 1535) (by decide +kernel) rfl, lw_mem (i := 1534) (by decide +kernel) rfl, lw_memS (List.mem_of_getElem? (i := 152) (by decide +kernel)) rfl, lw_mem (i := 10) (by decide +kernel) rfl, ⟨by decide +kernel, by decide +kernel⟩, by decide +kernel, by decide⟩
theorem ml_RX9_361 : xMl RX9 361 yX9_gcd := Or.inl (lw_mem (i := 1544) (by decide +kernel) rfl)
theorem ys_X9_gcd : xYs yX9_gcd cX9_gcd 5 (some .int) 2 := ⟨lw_mem (i := 1546) (by decide +kernel) rfl, lw_mem (i := 1545) (by decide +kernel) rfl, lw_mem (i := 10) (by decide +kernel) rfl, ⟨by decide +kernel, by decide +kernel⟩, by decide +kernel, by decide⟩
theorem co_RX9_364 : Cond.constant RX9 364 (65535) ∈ lw_gt := lw_mem (i := 1551) (by decide +kernel) rfl
theorem fl_RX9_365 : xFl RX9 365 (TX9 36) := Or.inl (lw_mem (i := 1065) (by decide +kernel) rfl)
theorem fl_RX9_16 : xFl RX9 16 (TX9 2) := Or.inl (lw_mem (i := 1031) (by decide +kernel) rfl)
theorem ml_RX9_369 : xMl RX9 369 yX9_tapeNumber := Or.inl (lw_mem (i := 1568) (by decide +kernel) rfl)
theorem yv_X9_tapeNumber : xYv yX9_tapeNumber cX9_tapeNumber 4 (some .int) 1 := ⟨lw_mem (i := 1571) (by decide +kernel) rfl, lw_mem (i := 1570) (by decide +kernel) rfl, lw_memS (List.mem_of_getElem? (i := 153) (by decide +kernel)) rfl, lw_mem (i := 10) (by decide +kernel) rfl, ⟨by decide +kernel, by decide +kernel⟩, by decide +kernel, by decide⟩
theorem ml_RX9_372 : xMl RX9 372 yX9_herdBits := Or.inl (lw_mem (i := 1576) (by decide +kernel) rfl)
theorem yv_X9_herdBits : xYv yX9_herdBits cX9_herdBits 4 (some .int) 1 := ⟨lw_mem (i := 1579) (by decide +kernel) rfl, lw_mem (i := 1578) (by decide +kernel) rfl, lw_memS (List.mem_of_getElem? (i := 154) (by decide +kernel)) rfl, lw_mem (i := 10) (by decide +kernel) rfl, ⟨by decide +kernel, by decide +kernel⟩, by decide +kernel, by decide⟩
theorem ml_RX9_376 : xMl RX9 376 yX9_litBits := Or.inl (lw_mem (i := 1580) (by decide +kernel) rfl)
theorem yv_X9_litBits : xYv yX9_litBits cX9_litBits 3 (some .int) 0 := ⟨lw_mem (i := 1583) (by decide +kernel) rfl, lw_mem (i := 1582) (by decide +kernel) rfl, lw_memS (List.mem_of_getElem? (i := 155) (by decide +kernel)) rfl, lw_mem (i := 10) (by decide +kernel) rfl, ⟨by decide +kernel, by decide +kernel⟩, by decide +kernel, by decide⟩
theorem ml_RL_13 : xMl RL 13 yX8_ground := Or.inl (lw_mem (i := 341) (by decide +kernel) rfl)
theorem yv_X8_ground : xYv yX8_ground cX8_ground 5 (some .boolean) 3 := ⟨lw_mem (i := 344) (by decide +kernel) rfl, lw_mem (i := 342) (by decide +kernel) rfl, lw_mem (i := 343) (by decide +kernel) rfl, lw_mem (i := 1) (by decide +kernel) rfl, ⟨by decide +kernel, by decide +kernel⟩, by decide +kernel, by decide⟩
theorem ml_RL_17 : xMl RL 17 yX9_ground := Or.inl (lw_mem (i := 1141) (by decide +kernel) rfl)
theorem yv_X9_ground : xYv yX9_ground cX9_ground 4 (some .boolean) 3 := ⟨lw_mem (i := 1144) (by decide +kernel) rfl, lw_mem (i := 1142) (by decide +kernel) rfl, lw_mem (i := 1143) (by decide +kernel) rfl, lw_mem (i := 10) (by decide +kernel) rfl, ⟨by decide +kernel, by decide +kernel⟩, by decide +kernel, by decide⟩
theorem ml_RL_18 : xMl RL 18 yX8_inn := Or.inl (lw_mem (i := 363) (by decide +kernel) rfl)
theorem yv_X8_inn : xYv yX8_inn cX8_inn 5 (some .boolean) 4 := ⟨lw_mem (i := 366) (by decide +kernel) rfl, lw_mem (i := 364) (by decide +kernel) rfl, lw_mem (i := 365) (by decide +kernel) rfl, lw_mem (i := 1) (by decide +kernel) rfl, ⟨by decide +kernel, by decide +kernel⟩, by decide +kernel, by decide⟩
theorem ml_RL_22 : xMl RL 22 yX9_inn := Or.inl (lw_mem (i := 1163) (by decide +kernel) rfl)
theorem yv_X9_inn : xYv yX9_inn cX9_inn 5 (some .boolean) 4 := ⟨lw_mem (i := 1166) (by decide +kernel) rfl, lw_mem (i := 1164) (by decide +kernel) rfl, lw_mem (i := 1165) (by decide +kernel) rfl, lw_mem (i := 10) (by decide +kernel) rfl, ⟨by decide +kernel, by decide +kernel⟩, by decide +kernel, by decide⟩
theorem ml_RL_28 : xMl RL 28 yX8_gone := Or.inl (lw_mem (i := 379) (by decide +kernel) rfl)
theorem yv_X8_gone : xYv yX8_gone cX8_gone 2 (some .boolean) 1 := ⟨lw_mem (i := 382) (by decide +kernel) rfl, lw_mem (i := 380) (by decide +kernel) rfl, lw_mem (i := 381) (by decide +kernel) rfl, lw_mem (i := 1) (by decide +kernel) rfl, ⟨by decide +kernel, by decide +kernel⟩, by decide +kernel, by decide⟩
theorem ml_RL_32 : xMl RL 32 yX9_gone := Or.inl (lw_mem (i := 1182) (by decide +kernel) rfl)
theorem yv_X9_gone : xYv yX9_gone cX9_gone 2 (some .boolean) 1 := ⟨lw_mem (i := 1185) (by decide +kernel) rfl, lw_mem (i := 1183) (by decide +kernel) rfl, lw_mem (i := 1184) (by decide +kernel) rfl, lw_mem (i := 10) (by decide +kernel) rfl, ⟨by decide +kernel, by decide +kernel⟩, by decide +kernel, by decide⟩
theorem ml_RL_33 : xMl RL 33 yX8_dog := Or.inl (lw_mem (i := 384) (by decide +kernel) rfl)
theorem yv_X8_dog : xYv yX8_dog cX8_dog 3 (some .boolean) 2 := ⟨lw_mem (i := 387) (by decide +kernel) rfl, lw_mem (i := 385) (by decide +kernel) rfl, lw_mem (i := 386) (by decide +kernel) rfl, lw_mem (i := 1) (by decide +kernel) rfl, ⟨by decide +kernel, by decide +kernel⟩, by decide +kernel, by decide⟩
theorem ml_RL_37 : xMl RL 37 yX9_dog := Or.inl (lw_mem (i := 1190) (by decide +kernel) rfl)
theorem yv_X9_dog : xYv yX9_dog cX9_dog 3 (some .boolean) 2 := ⟨lw_mem (i := 1193) (by decide +kernel) rfl, lw_mem (i := 1191) (by decide +kernel) rfl, lw_mem (i := 1192) (by decide +kernel) rfl, lw_mem (i := 10) (by decide +kernel) rfl, ⟨by decide +kernel, by decide +kernel⟩, by decide +kernel, by decide⟩
theorem ml_RL_38 : xMl RL 38 yX8_herd := Or.inl (lw_mem (i := 392) (by decide +kernel) rfl)
theorem yv_X8_herd : xYv yX8_herd cX8_herd 8 (some .boolean) 6 := ⟨lw_mem (i := 395) (by decide +kernel) rfl, lw_mem (i := 393) (by decide +kernel) rfl, lw_mem (i := 394) (by decide +kernel) rfl, lw_mem (i := 1) (by decide +kernel) rfl, ⟨by decide +kernel, by decide +kernel⟩, by decide +kernel, by decide⟩
theorem ml_RL_42 : xMl RL 42 yX9_herd := Or.inl (lw_mem (i := 1194) (by decide +kernel) rfl)
theorem yv_X9_herd : xYv yX9_herd cX9_herd 7 (some .boolean) 6 := ⟨lw_mem (i := 1197) (by decide +kernel) rfl, lw_mem (i := 1195) (by decide +kernel) rfl, lw_mem (i := 1196) (by decide +kernel) rfl, lw_mem (i := 10) (by decide +kernel) rfl, ⟨by decide +kernel, by decide +kernel⟩, by decide +kernel, by decide⟩
theorem ml_RL_48 : xMl RL 48 yX8_drover := Or.inl (lw_mem (i := 404) (by decide +kernel) rfl)
theorem yv_X8_drover : xYv yX8_drover cX8_drover 3 (some .boolean) 2 := ⟨lw_mem (i := 407) (by decide +kernel) rfl, lw_mem (i := 405) (by decide +kernel) rfl, lw_mem (i := 406) (by decide +kernel) rfl, lw_mem (i := 1) (by decide +kernel) rfl, ⟨by decide +kernel, by decide +kernel⟩, by decide +kernel, by decide⟩
theorem ml_RL_51 : xMl RL 51 yX9_drover := Or.inl (lw_mem (i := 1202) (by decide +kernel) rfl)
theorem yv_X9_drover : xYv yX9_drover cX9_drover 3 (some .boolean) 2 := ⟨lw_mem (i := 1205) (by decide +kernel) rfl, lw_mem (i := 1203) (by decide +kernel) rfl, lw_mem (i := 1204) (by decide +kernel) rfl, lw_mem (i := 10) (by decide +kernel) rfl, ⟨by decide +kernel, by decide +kernel⟩, by decide +kernel, by decide⟩
theorem ml_RL_52 : xMl RL 52 yX8_feed := Or.inl (lw_mem (i := 408) (by decide +kernel) rfl)
theorem yv_X8_feed : xYv yX8_feed cX8_feed 6 (some .int) 5 := ⟨lw_mem (i := 411) (by decide +kernel) rfl, lw_mem (i := 409) (by decide +kernel) rfl, lw_mem (i := 410) (by decide +kernel) rfl, lw_mem (i := 1) (by decide +kernel) rfl, ⟨by decide +kernel, by decide +kernel⟩, by decide +kernel, by decide⟩
theorem ml_RL_56 : xMl RL 56 yX9_feed := Or.inl (lw_mem (i := 1209) (by decide +kernel) rfl)
theorem yv_X9_feed : xYv yX9_feed cX9_feed 6 (some .int) 5 := ⟨lw_mem (i := 1212) (by decide +kernel) rfl, lw_mem (i := 1210) (by decide +kernel) rfl, lw_mem (i := 1211) (by decide +kernel) rfl, lw_mem (i := 10) (by decide +kernel) rfl, ⟨by decide +kernel, by decide +kernel⟩, by decide +kernel, by decide⟩
theorem ml_RL_57 : xMl RL 57 yX8_law := Or.inl (lw_mem (i := 416) (by decide +kernel) rfl)
theorem yv_X8_law : xYv yX8_law cX8_law 3 (some .int) 1 := ⟨lw_mem (i := 419) (by decide +kernel) rfl, lw_mem (i := 417) (by decide +kernel) rfl, lw_mem (i := 418) (by decide +kernel) rfl, lw_mem (i := 1) (by decide +kernel) rfl, ⟨by decide +kernel, by decide +kernel⟩, by decide +kernel, by decide⟩
theorem ml_RL_61 : xMl RL 61 yX9_law := Or.inl (lw_mem (i := 1217) (by decide +kernel) rfl)
theorem yv_X9_law : xYv yX9_law cX9_law 4 (some .int) 1 := ⟨lw_mem (i := 1220) (by decide +kernel) rfl, lw_mem (i := 1218) (by decide +kernel) rfl, lw_mem (i := 1219) (by decide +kernel) rfl, lw_mem (i := 10) (by decide +kernel) rfl, ⟨by decide +kernel, by decide +kernel⟩, by decide +kernel, by decide⟩
theorem ml_RL_62 : xMl RL 62 yX8_price := Or.inl (lw_mem (i := 588) (by decide +kernel) rfl)
theorem yv_X8_price : xYv yX8_price cX8_price 2 (some .int) 1 := ⟨lw_mem (i := 591) (by decide +kernel) rfl, lw_mem (i := 589) (by decide +kernel) rfl, lw_mem (i := 590) (by decide +kernel) rfl, lw_mem (i := 1) (by decide +kernel) rfl, ⟨by decide +kernel, by decide +kernel⟩, by decide +kernel, by decide⟩
theorem ml_RL_65 : xMl RL 65 yX9_price := Or.inl (lw_mem (i := 1303) (by decide +kernel) rfl)
theorem yv_X9_price : xYv yX9_price cX9_price 2 (some .int) 1 := ⟨lw_mem (i := 1306) (by decide +kernel) rfl, lw_mem (i := 1304) (by decide +kernel) rfl, lw_mem (i := 1305) (by decide +kernel) rfl, lw_mem (i := 10) (by decide +kernel) rfl, ⟨by decide +kernel, by decide +kernel⟩, by decide +kernel, by decide⟩
theorem ml_RL_66 : xMl RL 66 yX8_pay := Or.inl (lw_mem (i := 627) (by decide +kernel) rfl)
theorem yv_X8_pay : xYv yX8_pay cX8_pay 5 (some .int) 3 := ⟨lw_mem (i := 630) (by decide +kernel) rfl, lw_mem (i := 628) (by decide +kernel) rfl, lw_mem (i := 629) (by decide +kernel) rfl, lw_mem (i := 1) (by decide +kernel) rfl, ⟨by decide +kernel, by decide +kernel⟩, by decide +kernel, by decide⟩
theorem ml_RL_70 : xMl RL 70 yX9_pay := Or.inl (lw_mem (i := 1326) (by decide +kernel) rfl)
theorem yv_X9_pay : xYv yX9_pay cX9_pay 5 (some .int) 3 := ⟨lw_mem (i := 1329) (by decide +kernel) rfl, lw_mem (i := 1327) (by decide +kernel) rfl, lw_mem (i := 1328) (by decide +kernel) rfl, lw_mem (i := 10) (by decide +kernel) rfl, ⟨by decide +kernel, by decide +kernel⟩, by decide +kernel, by decide⟩
theorem ml_RL_71 : xMl RL 71 yX8_clouds := Or.inl (lw_mem (i := 631) (by decide +kernel) rfl)
theorem yv_X8_clouds : xYv yX8_clouds cX8_clouds 2 (some .boolean) 1 := ⟨lw_mem (i := 634) (by decide +kernel) rfl, lw_mem (i := 632) (by decide +kernel) rfl, lw_mem (i := 633) (by decide +kernel) rfl, lw_mem (i := 1) (by decide +kernel) rfl, ⟨by decide +kernel, by decide +kernel⟩, by decide +kernel, by decide⟩
theorem ml_RL_74 : xMl RL 74 yX9_clouds := Or.inl (lw_mem (i := 1330) (by decide +kernel) rfl)
theorem yv_X9_clouds : xYv yX9_clouds cX9_clouds 2 (some .boolean) 1 := ⟨lw_mem (i := 1333) (by decide +kernel) rfl, lw_mem (i := 1331) (by decide +kernel) rfl, lw_mem (i := 1332) (by decide +kernel) rfl, lw_mem (i := 10) (by decide +kernel) rfl, ⟨by decide +kernel, by decide +kernel⟩, by decide +kernel, by decide⟩
theorem ml_RL_75 : xMl RL 75 yX8_lit := Or.inl (lw_mem (i := 635) (by decide +kernel) rfl)
theorem yv_X8_lit : xYv yX8_lit cX8_lit 2 (some .int) 1 := ⟨lw_mem (i := 638) (by decide +kernel) rfl, lw_mem (i := 636) (by decide +kernel) rfl, lw_mem (i := 637) (by decide +kernel) rfl, lw_mem (i := 1) (by decide +kernel) rfl, ⟨by decide +kernel, by decide +kernel⟩, by decide +kernel, by decide⟩
theorem ml_RL_78 : xMl RL 78 yX9_lit := Or.inl (lw_mem (i := 1334) (by decide +kernel) rfl)
theorem yv_X9_lit : xYv yX9_lit cX9_lit 3 (some .int) 1 := ⟨lw_mem (i := 1337) (by decide +kernel) rfl, lw_mem (i := 1335) (by decide +kernel) rfl, lw_mem (i := 1336) (by decide +kernel) rfl, lw_mem (i := 10) (by decide +kernel) rfl, ⟨by decide +kernel, by decide +kernel⟩, by decide +kernel, by decide⟩
theorem ml_RL_79 : xMl RL 79 yX8_pull := Or.inl (lw_mem (i := 647) (by decide +kernel) rfl)
theorem yv_X8_pull : xYv yX8_pull cX8_pull 3 (some .int) 2 := ⟨lw_mem (i := 650) (by decide +kernel) rfl, lw_mem (i := 648) (by decide +kernel) rfl, lw_mem (i := 649) (by decide +kernel) rfl, lw_mem (i := 1) (by decide +kernel) rfl, ⟨by decide +kernel, by decide +kernel⟩, by decide +kernel, by decide⟩
theorem ml_RL_83 : xMl RL 83 yX9_pull := Or.inl (lw_mem (i := 1342) (by decide +kernel) rfl)
theorem yv_X9_pull : xYv yX9_pull cX9_pull 4 (some .int) 2 := ⟨lw_mem (i := 1345) (by decide +kernel) rfl, lw_mem (i := 1343) (by decide +kernel) rfl, lw_mem (i := 1344) (by decide +kernel) rfl, lw_mem (i := 10) (by decide +kernel) rfl, ⟨by decide +kernel, by decide +kernel⟩, by decide +kernel, by decide⟩
theorem ml_RL_84 : xMl RL 84 yX8_target := Or.inl (lw_mem (i := 680) (by decide +kernel) rfl)
theorem yv_X8_target : xYv yX8_target cX8_target 3 (some .int) 1 := ⟨lw_mem (i := 683) (by decide +kernel) rfl, lw_mem (i := 681) (by decide +kernel) rfl, lw_mem (i := 682) (by decide +kernel) rfl, lw_mem (i := 1) (by decide +kernel) rfl, ⟨by decide +kernel, by decide +kernel⟩, by decide +kernel, by decide⟩
theorem ml_RL_87 : xMl RL 87 yX9_target := Or.inl (lw_mem (i := 1375) (by decide +kernel) rfl)
theorem yv_X9_target : xYv yX9_target cX9_target 3 (some .int) 1 := ⟨lw_mem (i := 1378) (by decide +kernel) rfl, lw_mem (i := 1376) (by decide +kernel) rfl, lw_mem (i := 1377) (by decide +kernel) rfl, lw_mem (i := 10) (by decide +kernel) rfl, ⟨by decide +kernel, by decide +kernel⟩, by decide +kernel, by decide⟩
theorem ml_RL_88 : xMl RL 88 yX8_hours := Or.inl (lw_mem (i := 690) (by decide +kernel) rfl)
theorem yv_X8_hours : xYv yX8_hours cX8_hours 2 (some .int) 1 := ⟨lw_mem (i := 693) (by decide +kernel) rfl, lw_mem (i := 691) (by decide +kernel) rfl, lw_mem (i := 692) (by decide +kernel) rfl, lw_mem (i := 1) (by decide +kernel) rfl, ⟨by decide +kernel, by decide +kernel⟩, by decide +kernel, by decide⟩
theorem ml_RL_91 : xMl RL 91 yX9_hours := Or.inl (lw_mem (i := 1383) (by decide +kernel) rfl)
theorem yv_X9_hours : xYv yX9_hours cX9_hours 2 (some .int) 1 := ⟨lw_mem (i := 1386) (by decide +kernel) rfl, lw_mem (i := 1384) (by decide +kernel) rfl, lw_mem (i := 1385) (by decide +kernel) rfl, lw_mem (i := 10) (by decide +kernel) rfl, ⟨by decide +kernel, by decide +kernel⟩, by decide +kernel, by decide⟩
theorem ml_RL_92 : xMl RL 92 yX8_hour := Or.inl (lw_mem (i := 755) (by decide +kernel) rfl)
theorem yv_X8_hour : xYv yX8_hour cX8_hour 2 (some .int) 1 := ⟨lw_mem (i := 758) (by decide +kernel) rfl, lw_mem (i := 756) (by decide +kernel) rfl, lw_mem (i := 757) (by decide +kernel) rfl, lw_mem (i := 1) (by decide +kernel) rfl, ⟨by decide +kernel, by decide +kernel⟩, by decide +kernel, by decide⟩
theorem ml_RL_95 : xMl RL 95 yX9_hour := Or.inl (lw_mem (i := 1437) (by decide +kernel) rfl)
theorem yv_X9_hour : xYv yX9_hour cX9_hour 2 (some .int) 1 := ⟨lw_mem (i := 1440) (by decide +kernel) rfl, lw_mem (i := 1438) (by decide +kernel) rfl, lw_mem (i := 1439) (by decide +kernel) rfl, lw_mem (i := 10) (by decide +kernel) rfl, ⟨by decide +kernel, by decide +kernel⟩, by decide +kernel, by decide⟩
theorem ml_RL_96 : xMl RL 96 yX8_tried := Or.inl (lw_mem (i := 760) (by decide +kernel) rfl)
theorem yv_X8_tried : xYv yX8_tried cX8_tried 5 (some .int) 2 := ⟨lw_mem (i := 763) (by decide +kernel) rfl, lw_mem (i := 761) (by decide +kernel) rfl, lw_mem (i := 762) (by decide +kernel) rfl, lw_mem (i := 1) (by decide +kernel) rfl, ⟨by decide +kernel, by decide +kernel⟩, by decide +kernel, by decide⟩
theorem ml_RL_99 : xMl RL 99 yX9_tried := Or.inl (lw_mem (i := 1441) (by decide +kernel) rfl)
theorem yv_X9_tried : xYv yX9_tried cX9_tried 7 (some .int) 2 := ⟨lw_mem (i := 1444) (by decide +kernel) rfl, lw_mem (i := 1442) (by decide +kernel) rfl, lw_mem (i := 1443) (by decide +kernel) rfl, lw_mem (i := 10) (by decide +kernel) rfl, ⟨by decide +kernel, by decide +kernel⟩, by decide +kernel, by decide⟩
theorem ml_RL_100 : xMl RL 100 yX8_herdIs := Or.inl (lw_mem (i := 797) (by decide +kernel) rfl)
theorem yv_X8_herdIs : xYv yX8_herdIs cX8_herdIs 3 (some .int) 2 := ⟨lw_mem (i := 800) (by decide +kernel) rfl, lw_mem (i := 798) (by decide +kernel) rfl, lw_mem (i := 799) (by decide +kernel) rfl, lw_mem (i := 1) (by decide +kernel) rfl, ⟨by decide +kernel, by decide +kernel⟩, by decide +kernel, by decide⟩
theorem ml_RL_103 : xMl RL 103 yX9_herdIs := Or.inl (lw_mem (i := 1464) (by decide +kernel) rfl)
theorem yv_X9_herdIs : xYv yX9_herdIs cX9_herdIs 3 (some .int) 2 := ⟨lw_mem (i := 1467) (by decide +kernel) rfl, lw_mem (i := 1465) (by decide +kernel) rfl, lw_mem (i := 1466) (by decide +kernel) rfl, lw_mem (i := 10) (by decide +kernel) rfl, ⟨by decide +kernel, by decide +kernel⟩, by decide +kernel, by decide⟩
theorem ml_RL_104 : xMl RL 104 yX8_lampIs := Or.inl (lw_mem (i := 801) (by decide +kernel) rfl)
theorem yv_X8_lampIs : xYv yX8_lampIs cX8_lampIs 3 (some .int) 2 := ⟨lw_mem (i := 804) (by decide +kernel) rfl, lw_mem (i := 802) (by decide +kernel) rfl, lw_mem (i := 803) (by decide +kernel) rfl, lw_mem (i := 1) (by decide +kernel) rfl, ⟨by decide +kernel, by decide +kernel⟩, by decide +kernel, by decide⟩
theorem ml_RL_107 : xMl RL 107 yX9_lampIs := Or.inl (lw_mem (i := 1468) (by decide +kernel) rfl)
theorem yv_X9_lampIs : xYv yX9_lampIs cX9_lampIs 3 (some .int) 2 := ⟨lw_mem (i := 1471) (by decide +kernel) rfl, lw_mem (i := 1469) (by decide +kernel) rfl, lw_mem (i := 1470) (by decide +kernel) rfl, lw_mem (i := 10) (by decide +kernel) rfl, ⟨by decide +kernel, by decide +kernel⟩, by decide +kernel, by decide⟩
theorem ml_RL_108 : xMl RL 108 yX8_led := Or.inl (lw_mem (i := 806) (by decide +kernel) rfl)
theorem yv_X8_led : xYv yX8_led cX8_led 2 (some .int) 1 := ⟨lw_mem (i := 809) (by decide +kernel) rfl, lw_mem (i := 807) (by decide +kernel) rfl, lw_mem (i := 808) (by decide +kernel) rfl, lw_mem (i := 1) (by decide +kernel) rfl, ⟨by decide +kernel, by decide +kernel⟩, by decide +kernel, by decide⟩
theorem ml_RL_111 : xMl RL 111 yX9_led := Or.inl (lw_mem (i := 1472) (by decide +kernel) rfl)
theorem yv_X9_led : xYv yX9_led cX9_led 2 (some .int) 1 := ⟨lw_mem (i := 1475) (by decide +kernel) rfl, lw_mem (i := 1473) (by decide +kernel) rfl, lw_mem (i := 1474) (by decide +kernel) rfl, lw_mem (i := 10) (by decide +kernel) rfl, ⟨by decide +kernel, by decide +kernel⟩, by decide +kernel, by decide⟩
theorem ml_RL_112 : xMl RL 112 yX8_plan := Or.inl (lw_mem (i := 810) (by decide +kernel) rfl)
theorem yv_X8_plan : xYv yX8_plan cX8_plan 4 (some .int) 2 := ⟨lw_mem (i := 813) (by decide +kernel) rfl, lw_mem (i := 811) (by decide +kernel) rfl, lw_mem (i := 812) (by decide +kernel) rfl, lw_mem (i := 1) (by decide +kernel) rfl, ⟨by decide +kernel, by decide +kernel⟩, by decide +kernel, by decide⟩
theorem ml_RL_115 : xMl RL 115 yX9_plan := Or.inl (lw_mem (i := 1476) (by decide +kernel) rfl)
theorem yv_X9_plan : xYv yX9_plan cX9_plan 3 (some .int) 2 := ⟨lw_mem (i := 1479) (by decide +kernel) rfl, lw_mem (i := 1477) (by decide +kernel) rfl, lw_mem (i := 1478) (by decide +kernel) rfl, lw_mem (i := 10) (by decide +kernel) rfl, ⟨by decide +kernel, by decide +kernel⟩, by decide +kernel, by decide⟩
theorem ml_RL_116 : xMl RL 116 yX8_safe := Or.inl (lw_mem (i := 879) (by decide +kernel) rfl)
theorem yv_X8_safe : xYv yX8_safe cX8_safe 3 (some .int) 1 := ⟨lw_mem (i := 882) (by decide +kernel) rfl, lw_mem (i := 880) (by decide +kernel) rfl, lw_mem (i := 881) (by decide +kernel) rfl, lw_mem (i := 1) (by decide +kernel) rfl, ⟨by decide +kernel, by decide +kernel⟩, by decide +kernel, by decide⟩
theorem ml_RL_119 : xMl RL 119 yX9_safe := Or.inl (lw_mem (i := 1496) (by decide +kernel) rfl)
theorem yv_X9_safe : xYv yX9_safe cX9_safe 4 (some .int) 1 := ⟨lw_mem (i := 1499) (by decide +kernel) rfl, lw_mem (i := 1497) (by decide +kernel) rfl, lw_mem (i := 1498) (by decide +kernel) rfl, lw_mem (i := 10) (by decide +kernel) rfl, ⟨by decide +kernel, by decide +kernel⟩, by decide +kernel, by decide⟩
theorem ml_RL_120 : xMl RL 120 yX8_place := Or.inl (lw_mem (i := 888) (by decide +kernel) rfl)
theorem yv_X8_place : xYv yX8_place cX8_place 3 (some .int) 2 := ⟨lw_mem (i := 891) (by decide +kernel) rfl, lw_mem (i := 889) (by decide +kernel) rfl, lw_mem (i := 890) (by decide +kernel) rfl, lw_mem (i := 1) (by decide +kernel) rfl, ⟨by decide +kernel, by decide +kernel⟩, by decide +kernel, by decide⟩
theorem ml_RL_123 : xMl RL 123 yX9_place := Or.inl (lw_mem (i := 1500) (by decide +kernel) rfl)
theorem yv_X9_place : xYv yX9_place cX9_place 6 (some .int) 2 := ⟨lw_mem (i := 1503) (by decide +kernel) rfl, lw_mem (i := 1501) (by decide +kernel) rfl, lw_mem (i := 1502) (by decide +kernel) rfl, lw_mem (i := 10) (by decide +kernel) rfl, ⟨by decide +kernel, by decide +kernel⟩, by decide +kernel, by decide⟩
theorem ml_RL_124 : xMl RL 124 yX8_prices := Or.inl (lw_mem (i := 901) (by decide +kernel) rfl)
theorem yv_X8_prices : xYv yX8_prices cX8_prices 5 (some .int) 4 := ⟨lw_mem (i := 904) (by decide +kernel) rfl, lw_mem (i := 902) (by decide +kernel) rfl, lw_mem (i := 903) (by decide +kernel) rfl, lw_mem (i := 1) (by decide +kernel) rfl, ⟨by decide +kernel, by decide +kernel⟩, by decide +kernel, by decide⟩
theorem ml_RL_128 : xMl RL 128 yX9_prices := Or.inl (lw_mem (i := 1504) (by decide +kernel) rfl)
theorem yv_X9_prices : xYv yX9_prices cX9_prices 8 (some .int) 4 := ⟨lw_mem (i := 1507) (by decide +kernel) rfl, lw_mem (i := 1505) (by decide +kernel) rfl, lw_mem (i := 1506) (by decide +kernel) rfl, lw_mem (i := 10) (by decide +kernel) rfl, ⟨by decide +kernel, by decide +kernel⟩, by decide +kernel, by decide⟩
theorem ml_RL_129 : xMl RL 129 yX8_whoLit := Or.inl (lw_mem (i := 920) (by decide +kernel) rfl)
theorem yv_X8_whoLit : xYv yX8_whoLit cX8_whoLit 4 (some .int) 2 := ⟨lw_mem (i := 923) (by decide +kernel) rfl, lw_mem (i := 921) (by decide +kernel) rfl, lw_mem (i := 922) (by decide +kernel) rfl, lw_mem (i := 1) (by decide +kernel) rfl, ⟨by decide +kernel, by decide +kernel⟩, by decide +kernel, by decide⟩
theorem ml_RL_132 : xMl RL 132 yX9_whoLit := Or.inl (lw_mem (i := 1520) (by decide +kernel) rfl)
theorem yv_X9_whoLit : xYv yX9_whoLit cX9_whoLit 10 (some .int) 2 := ⟨lw_mem (i := 1523) (by decide +kernel) rfl, lw_mem (i := 1521) (by decide +kernel) rfl, lw_mem (i := 1522) (by decide +kernel) rfl, lw_mem (i := 10) (by decide +kernel) rfl, ⟨by decide +kernel, by decide +kernel⟩, by decide +kernel, by decide⟩
theorem ml_RL_133 : xMl RL 133 yX8_where := Or.inl (lw_mem (i := 955) (by decide +kernel) rfl)
theorem yv_X8_where : xYv yX8_where cX8_where 5 (some .int) 4 := ⟨lw_mem (i := 958) (by decide +kernel) rfl, lw_mem (i := 956) (by decide +kernel) rfl, lw_mem (i := 957) (by decide +kernel) rfl, lw_mem (i := 1) (by decide +kernel) rfl, ⟨by decide +kernel, by decide +kernel⟩, by decide +kernel, by decide⟩
theorem ml_RL_136 : xMl RL 136 yX9_where := Or.inl (lw_mem (i := 1536) (by decide +kernel) rfl)
theorem yv_X9_where : xYv yX9_where cX9_where 8 (some .int) 4 := ⟨lw_mem (i := 1539) (by decide +kernel) rfl, lw_mem (i := 1537) (by decide +kernel) rfl, lw_mem (i := 1538) (by decide +kernel) rfl, lw_mem (i := 10) (by decide +kernel) rfl, ⟨by decide +kernel, by decide +kernel⟩, by decide +kernel, by decide⟩
theorem ml_RL_137 : xMl RL 137 yX8_odds := Or.inl (lw_mem (i := 963) (by decide +kernel) rfl)
theorem yv_X8_odds : xYv yX8_odds cX8_odds 7 (some .int) 3 := ⟨lw_mem (i := 966) (by decide +kernel) rfl, lw_mem (i := 964) (by decide +kernel) rfl, lw_mem (i := 965) (by decide +kernel) rfl, lw_mem (i := 1) (by decide +kernel) rfl, ⟨by decide +kernel, by decide +kernel⟩, by decide +kernel, by decide⟩
theorem ml_RL_140 : xMl RL 140 yX9_odds := Or.inl (lw_mem (i := 1540) (by decide +kernel) rfl)
theorem yv_X9_odds : xYv yX9_odds cX9_odds 9 (some .int) 3 := ⟨lw_mem (i := 1543) (by decide +kernel) rfl, lw_mem (i := 1541) (by decide +kernel) rfl, lw_mem (i := 1542) (by decide +kernel) rfl, lw_mem (i := 10) (by decide +kernel) rfl, ⟨by decide +kernel, by decide +kernel⟩, by decide +kernel, by decide⟩
theorem ml_RL_141 : xMl RL 141 yX8_seed := Or.inl (lw_mem (i := 979) (by decide +kernel) rfl)
theorem yv_X8_seed : xYv yX8_seed cX8_seed 2 (some .boolean) 1 := ⟨lw_mem (i := 982) (by decide +kernel) rfl, lw_mem (i := 980) (by decide +kernel) rfl, lw_mem (i := 981) (by decide +kernel) rfl, lw_mem (i := 1) (by decide +kernel) rfl, ⟨by decide +kernel, by decide +kernel⟩, by decide +kernel, by decide⟩
theorem ml_RL_144 : xMl RL 144 yX9_seed := Or.inl (lw_mem (i := 1547) (by decide +kernel) rfl)
theorem yv_X9_seed : xYv yX9_seed cX9_seed 2 (some .boolean) 1 := ⟨lw_mem (i := 1550) (by decide +kernel) rfl, lw_mem (i := 1548) (by decide +kernel) rfl, lw_mem (i := 1549) (by decide +kernel) rfl, lw_mem (i := 10) (by decide +kernel) rfl, ⟨by decide +kernel, by decide +kernel⟩, by decide +kernel, by decide⟩
theorem ml_RL_145 : xMl RL 145 yX8_clouded := Or.inl (lw_mem (i := 984) (by decide +kernel) rfl)
theorem yv_X8_clouded : xYv yX8_clouded cX8_clouded 4 (some .int) 0 := ⟨lw_mem (i := 987) (by decide +kernel) rfl, lw_mem (i := 985) (by decide +kernel) rfl, lw_mem (i := 986) (by decide +kernel) rfl, lw_mem (i := 1) (by decide +kernel) rfl, ⟨by decide +kernel, by decide +kernel⟩, by decide +kernel, by decide⟩
theorem ml_RL_149 : xMl RL 149 yX9_clouded := Or.inl (lw_mem (i := 1552) (by decide +kernel) rfl)
theorem yv_X9_clouded : xYv yX9_clouded cX9_clouded 3 (some .int) 0 := ⟨lw_mem (i := 1555) (by decide +kernel) rfl, lw_mem (i := 1553) (by decide +kernel) rfl, lw_mem (i := 1554) (by decide +kernel) rfl, lw_mem (i := 10) (by decide +kernel) rfl, ⟨by decide +kernel, by decide +kernel⟩, by decide +kernel, by decide⟩
theorem ml_RL_150 : xMl RL 150 yX8_keep := Or.inl (lw_mem (i := 993) (by decide +kernel) rfl)
theorem yv_X8_keep : xYv yX8_keep cX8_keep 1 (some .int) 0 := ⟨lw_mem (i := 996) (by decide +kernel) rfl, lw_mem (i := 994) (by decide +kernel) rfl, lw_mem (i := 995) (by decide +kernel) rfl, lw_mem (i := 1) (by decide +kernel) rfl, ⟨by decide +kernel, by decide +kernel⟩, by decide +kernel, by decide⟩
theorem ml_RL_153 : xMl RL 153 yX9_keep := Or.inl (lw_mem (i := 1556) (by decide +kernel) rfl)
theorem yv_X9_keep : xYv yX9_keep cX9_keep 1 (some .int) 0 := ⟨lw_mem (i := 1559) (by decide +kernel) rfl, lw_mem (i := 1557) (by decide +kernel) rfl, lw_mem (i := 1558) (by decide +kernel) rfl, lw_mem (i := 10) (by decide +kernel) rfl, ⟨by decide +kernel, by decide +kernel⟩, by decide +kernel, by decide⟩
theorem ml_RL_154 : xMl RL 154 yX8_undo := Or.inl (lw_mem (i := 997) (by decide +kernel) rfl)
theorem yv_X8_undo : xYv yX8_undo cX8_undo 1 (some .boolean) 0 := ⟨lw_mem (i := 1000) (by decide +kernel) rfl, lw_mem (i := 998) (by decide +kernel) rfl, lw_mem (i := 999) (by decide +kernel) rfl, lw_mem (i := 1) (by decide +kernel) rfl, ⟨by decide +kernel, by decide +kernel⟩, by decide +kernel, by decide⟩
theorem ml_RL_158 : xMl RL 158 yX9_undo := Or.inl (lw_mem (i := 1560) (by decide +kernel) rfl)
theorem yv_X9_undo : xYv yX9_undo cX9_undo 1 (some .boolean) 0 := ⟨lw_mem (i := 1563) (by decide +kernel) rfl, lw_mem (i := 1561) (by decide +kernel) rfl, lw_mem (i := 1562) (by decide +kernel) rfl, lw_mem (i := 10) (by decide +kernel) rfl, ⟨by decide +kernel, by decide +kernel⟩, by decide +kernel, by decide⟩
theorem ml_RL_159 : xMl RL 159 yX8_check := Or.inl (lw_mem (i := 1001) (by decide +kernel) rfl)
theorem yv_X8_check : xYv yX8_check cX8_check 4 (some .int) 1 := ⟨lw_mem (i := 1004) (by decide +kernel) rfl, lw_mem (i := 1002) (by decide +kernel) rfl, lw_mem (i := 1003) (by decide +kernel) rfl, lw_mem (i := 1) (by decide +kernel) rfl, ⟨by decide +kernel, by decide +kernel⟩, by decide +kernel, by decide⟩
theorem ml_RL_162 : xMl RL 162 yX9_check := Or.inl (lw_mem (i := 1564) (by decide +kernel) rfl)
theorem yv_X9_check : xYv yX9_check cX9_check 3 (some .int) 1 := ⟨lw_mem (i := 1567) (by decide +kernel) rfl, lw_mem (i := 1565) (by decide +kernel) rfl, lw_mem (i := 1566) (by decide +kernel) rfl, lw_mem (i := 10) (by decide +kernel) rfl, ⟨by decide +kernel, by decide +kernel⟩, by decide +kernel, by decide⟩
theorem ml_RL_163 : xMl RL 163 yX8_count := Or.inl (lw_mem (i := 1010) (by decide +kernel) rfl)
theorem yv_X8_count : xYv yX8_count cX8_count 2 (some .int) 1 := ⟨lw_mem (i := 1013) (by decide +kernel) rfl, lw_mem (i := 1011) (by decide +kernel) rfl, lw_mem (i := 1012) (by decide +kernel) rfl, lw_mem (i := 1) (by decide +kernel) rfl, ⟨by decide +kernel, by decide +kernel⟩, by decide +kernel, by decide⟩
theorem ml_RL_166 : xMl RL 166 yX9_count := Or.inl (lw_mem (i := 1572) (by decide +kernel) rfl)
theorem yv_X9_count : xYv yX9_count cX9_count 2 (some .int) 1 := ⟨lw_mem (i := 1575) (by decide +kernel) rfl, lw_mem (i := 1573) (by decide +kernel) rfl, lw_mem (i := 1574) (by decide +kernel) rfl, lw_mem (i := 10) (by decide +kernel) rfl, ⟨by decide +kernel, by decide +kernel⟩, by decide +kernel, by decide⟩
theorem ml_RL_43 : xMl RL 43 yX8_fire := Or.inl (lw_mem (i := 396) (by decide +kernel) rfl)
theorem yv_X8_fire : xYv yX8_fire cX8_fire 3 (some .boolean) 2 := ⟨lw_mem (i := 399) (by decide +kernel) rfl, lw_mem (i := 397) (by decide +kernel) rfl, lw_mem (i := 398) (by decide +kernel) rfl, lw_mem (i := 1) (by decide +kernel) rfl, ⟨by decide +kernel, by decide +kernel⟩, by decide +kernel, by decide⟩
theorem ml_RL_47 : xMl RL 47 yX9_fire := Or.inl (lw_mem (i := 1198) (by decide +kernel) rfl)
theorem yv_X9_fire : xYv yX9_fire cX9_fire 3 (some .boolean) 2 := ⟨lw_mem (i := 1201) (by decide +kernel) rfl, lw_mem (i := 1199) (by decide +kernel) rfl, lw_mem (i := 1200) (by decide +kernel) rfl, lw_mem (i := 10) (by decide +kernel) rfl, ⟨by decide +kernel, by decide +kernel⟩, by decide +kernel, by decide⟩
theorem ml_RL_23 : xMl RL 23 yX8_stray := Or.inl (lw_mem (i := 375) (by decide +kernel) rfl)
theorem yv_X8_stray : xYv yX8_stray cX8_stray 6 (some .boolean) 5 := ⟨lw_mem (i := 378) (by decide +kernel) rfl, lw_mem (i := 376) (by decide +kernel) rfl, lw_mem (i := 377) (by decide +kernel) rfl, lw_mem (i := 1) (by decide +kernel) rfl, ⟨by decide +kernel, by decide +kernel⟩, by decide +kernel, by decide⟩
theorem ml_RL_27 : xMl RL 27 yX9_stray := Or.inl (lw_mem (i := 1178) (by decide +kernel) rfl)
theorem yv_X9_stray : xYv yX9_stray cX9_stray 6 (some .boolean) 5 := ⟨lw_mem (i := 1181) (by decide +kernel) rfl, lw_mem (i := 1179) (by decide +kernel) rfl, lw_mem (i := 1180) (by decide +kernel) rfl, lw_mem (i := 10) (by decide +kernel) rfl, ⟨by decide +kernel, by decide +kernel⟩, by decide +kernel, by decide⟩
theorem ki_7 : Int32.ofInt (7) = (7 : Int32) := by decide +kernel
