theorem c_X11_wear {l : Launch} {G : Gl} {a1 : Int32} {a2 : Int32} {a3 : Int32} {σ : Mem} {P : Int32 → Mem → Prop} (hw : v_X11_wear a1 a2 a3 σ P) : MetI l yX11_wear cX11_wear 4 .int 3 G [.ref (gA G 0), .int a1, .int a2, .int a3] σ P := by
  refine MetI.of RX11 (by decide +kernel) rfl (Nat.le_of_ble_eq_true rfl) (fun X C r => ?_)
  show V X G 4 0 [(0, .ref (gA G 0)), (1, .int a1), (2, .int a2), (3, .int a3)] [] σ
  unfold v_X11_wear at hw
  refine v_aload_n (pc := 0) 0 C dX11_wear_0 rfl rfl ?_
  refine v_iload_n (pc := 1) 1 C dX11_wear_1 rfl rfl ?_
  refine v_iload_n (pc := 2) 2 C dX11_wear_2 rfl rfl ?_
  refine v_cVi (pc := 3) (o := 0) (As := [.int a1, .int a2]) (rest := []) (ci := 11) C (c_X11_hasFelt hw) pk_X11_hasFelt k_476 rfl (by decide) rfl (by decide) rfl rfl (Nat.le_of_ble_eq_true rfl) dX11_wear_3 (fun r_1 σ_2 hw => ?_)
  refine v_if_ne (pc := 6) (tgt := 11) C dX11_wear_6 (by decide) (fun c => ?_) (fun c => ?_)
  · replace hw := hw.2 c
    refine v_aload_n (pc := 11) 0 C dX11_wear_11 rfl rfl ?_
    refine g_11_1 (pc := 12) C k_351 dX11_wear_12 ?_
    refine g_7_0 (pc := 15) C k_160 dX11_wear_15 ?_
    refine v_iload_n (pc := 18) 1 C dX11_wear_18 rfl rfl ?_
    have q_3 := hw.1
    refine v_aldB (pc := 19) C rfl q_3 dX11_wear_19 ?_
    replace hw := hw.2
    refine v_iload_n (pc := 20) 2 C dX11_wear_20 rfl rfl ?_
    refine v_iload_n (pc := 21) 3 C dX11_wear_21 rfl rfl ?_
    refine v_cVi (pc := 22) (o := bB + Int32.toNatClampNeg a1) (As := [.int a2, .int a3]) (rest := []) (ci := 0) C (c_X0_setWorn (kd_bar (vp_lt q_3)) hw) pk_X0_setWorn k_481 (kd_bar (vp_lt q_3)) (by decide) rfl (by decide) rfl rfl (Nat.le_of_ble_eq_true rfl) dX11_wear_22 (fun r_4 σ_5 hw => ?_)
    refine v_callSi (pc := 25) (As := [.int r_4]) (rest := []) C (c_X11_asNumber hw) pk_X11_asNumber (Or.inl k_469) (by decide) rfl rfl (Nat.le_of_ble_eq_true rfl) dX11_wear_25 (fun r_6 σ_7 hw => ?_)
    exact v_iret (pc := 28) C r hw dX11_wear_28
  · replace hw := hw.1 c
    refine v_iconst (pc := 9) (v := (-1)) C dX11_wear_9 (by decide) ?_
    exact v_iret (pc := 10) C r hw dX11_wear_10

theorem c_X11_ofString {l : Launch} {G : Gl} {a1 : Int32} {a2 : Int32} {σ : Mem} {P : Int32 → Mem → Prop} (hw : v_X11_ofString a1 a2 σ P) : MetI l yX11_ofString cX11_ofString 3 .int 2 G [.ref (gA G 0), .int a1, .int a2] σ P := by
  refine MetI.of RX11 (by decide +kernel) rfl (Nat.le_of_ble_eq_true rfl) (fun X C r => ?_)
  show V X G 3 0 [(0, .ref (gA G 0)), (1, .int a1), (2, .int a2)] [] σ
  unfold v_X11_ofString at hw
  refine v_aload_n (pc := 0) 0 C dX11_ofString_0 rfl rfl ?_
  refine g_11_0 (pc := 1) C k_350 dX11_ofString_1 ?_
  refine v_iload_n (pc := 4) 1 C dX11_ofString_4 rfl rfl ?_
  refine v_cVi (pc := 5) (o := 1) (As := [.int a1]) (rest := []) (ci := 10) C (c_X10_knows hw) pk_X10_knows k_414 rfl (by decide) rfl (by decide) rfl rfl (Nat.le_of_ble_eq_true rfl) dX11_ofString_5 (fun r_1 σ_2 hw => ?_)
  refine v_if_ne (pc := 8) (tgt := 13) C dX11_ofString_8 (by decide) (fun c => ?_) (fun c => ?_)
  · replace hw := hw.2 c
    refine v_iload_n (pc := 13) 2 C dX11_ofString_13 rfl rfl ?_
    by_cases c0 : a2 = 0
    · replace hw := hw.1 c0
      refine v_tableIn (pc := 14) (tgt := 44) (off := 30) C dX11_ofString_14 (by rw [c0]; decide) (by rw [c0]; decide) (by rw [c0]; rfl) (by decide) ?_
      refine v_aload_n (pc := 44) 0 C dX11_ofString_44 rfl rfl ?_
      refine g_11_0 (pc := 45) C k_350 dX11_ofString_45 ?_
      refine g_10_0 (pc := 48) C k_99 dX11_ofString_48 ?_
      refine v_iload_n (pc := 51) 1 C dX11_ofString_51 rfl rfl ?_
      refine v_iald (pc := 52) C rfl hw.1 dX11_ofString_52 ?_
      replace hw := hw.2
      exact v_iret (pc := 53) C r hw dX11_ofString_53
    · replace hw := hw.2 c0
      by_cases c1 : a2 = 1
      · replace hw := hw.1 c1
        refine v_tableIn (pc := 14) (tgt := 54) (off := 40) C dX11_ofString_14 (by rw [c1]; decide) (by rw [c1]; decide) (by rw [c1]; rfl) (by decide) ?_
        refine v_aload_n (pc := 54) 0 C dX11_ofString_54 rfl rfl ?_
        refine g_11_0 (pc := 55) C k_350 dX11_ofString_55 ?_
        refine v_iload_n (pc := 58) 1 C dX11_ofString_58 rfl rfl ?_
        refine v_cVi (pc := 59) (o := 1) (As := [.int a1]) (rest := []) (ci := 10) C (c_X10_isFree hw) pk_X10_isFree k_458 rfl (by decide) rfl (by decide) rfl rfl (Nat.le_of_ble_eq_true rfl) dX11_ofString_59 (fun r_3 σ_4 hw => ?_)
        refine v_callSi (pc := 62) (As := [.int r_3]) (rest := []) C (c_X11_asNumber hw) pk_X11_asNumber (Or.inl k_469) (by decide) rfl rfl (Nat.le_of_ble_eq_true rfl) dX11_ofString_62 (fun r_5 σ_6 hw => ?_)
        exact v_iret (pc := 65) C r hw dX11_ofString_65
      · replace hw := hw.2 c1
        by_cases c2 : a2 = 2
        · replace hw := hw.1 c2
          refine v_tableIn (pc := 14) (tgt := 66) (off := 52) C dX11_ofString_14 (by rw [c2]; decide) (by rw [c2]; decide) (by rw [c2]; rfl) (by decide) ?_
          refine v_aload_n (pc := 66) 0 C dX11_ofString_66 rfl rfl ?_
          refine g_11_0 (pc := 67) C k_350 dX11_ofString_67 ?_
          refine g_10_0 (pc := 70) C k_99 dX11_ofString_70 ?_
          refine v_iload_n (pc := 73) 1 C dX11_ofString_73 rfl rfl ?_
          refine v_iald (pc := 74) C rfl hw.1 dX11_ofString_74 ?_
          replace hw := hw.2
          refine v_bipush (pc := 75) (v := 12) C dX11_ofString_75 (by decide) ?_
          refine v_irem (pc := 77) C dX11_ofString_77 (by decide) ?_
          exact v_iret (pc := 78) C r hw dX11_ofString_78
        · replace hw := hw.2 c2
          by_cases c3 : a2 = 3
          · replace hw := hw.1 c3
            refine v_tableIn (pc := 14) (tgt := 79) (off := 65) C dX11_ofString_14 (by rw [c3]; decide) (by rw [c3]; decide) (by rw [c3]; rfl) (by decide) ?_
            refine v_aload_n (pc := 79) 0 C dX11_ofString_79 rfl rfl ?_
            refine g_11_1 (pc := 80) C k_351 dX11_ofString_80 ?_
            refine v_iload_n (pc := 83) 1 C dX11_ofString_83 rfl rfl ?_
            refine v_cVi (pc := 84) (o := 5) (As := [.int a1]) (rest := []) (ci := 7) C (c_X7_wholeFeltsOn hw) pk_X7_wholeFeltsOn k_493 rfl (by decide) rfl (by decide) rfl rfl (Nat.le_of_ble_eq_true rfl) dX11_ofString_84 (fun r_7 σ_8 hw => ?_)
            exact v_iret (pc := 87) C r hw dX11_ofString_87
          · replace hw := hw.2 c3
            refine v_tableOut (pc := 14) (tgt := 88) C dX11_ofString_14 (by have e0 := ne_toInt (k := 0) c0 (by decide); have e1 := ne_toInt (k := 1) c1 (by decide); have e2 := ne_toInt (k := 2) c2 (by decide); have e3 := ne_toInt (k := 3) c3 (by decide); omega) (by decide) ?_
            refine v_bipush (pc := 88) (v := (-2)) C dX11_ofString_88 (by decide) ?_
            exact v_iret (pc := 90) C r hw dX11_ofString_90
  · replace hw := hw.1 c
    refine v_iconst (pc := 11) (v := (-1)) C dX11_ofString_11 (by decide) ?_
    exact v_iret (pc := 12) C r hw dX11_ofString_12

theorem c_X11_ofBar {l : Launch} {G : Gl} {a1 : Int32} {a2 : Int32} {σ : Mem} {P : Int32 → Mem → Prop} (hw : v_X11_ofBar a1 a2 σ P) : MetI l yX11_ofBar cX11_ofBar 4 .int 2 G [.ref (gA G 0), .int a1, .int a2] σ P := by
  refine MetI.of RX11 (by decide +kernel) rfl (Nat.le_of_ble_eq_true rfl) (fun X C r => ?_)
  show V X G 4 0 [(0, .ref (gA G 0)), (1, .int a1), (2, .int a2)] [] σ
  unfold v_X11_ofBar at hw
  refine v_aload_n (pc := 0) 0 C dX11_ofBar_0 rfl rfl ?_
  refine g_11_1 (pc := 1) C k_351 dX11_ofBar_1 ?_
  refine v_iload_n (pc := 4) 1 C dX11_ofBar_4 rfl rfl ?_
  refine v_cVi (pc := 5) (o := 5) (As := [.int a1]) (rest := []) (ci := 7) C (c_X7_knows hw) pk_X7_knows k_454 rfl (by decide) rfl (by decide) rfl rfl (Nat.le_of_ble_eq_true rfl) dX11_ofBar_5 (fun r_1 σ_2 hw => ?_)
  refine v_if_ne (pc := 8) (tgt := 13) C dX11_ofBar_8 (by decide) (fun c => ?_) (fun c => ?_)
  · replace hw := hw.2 c
    refine v_aload_n (pc := 13) 0 C dX11_ofBar_13 rfl rfl ?_
    refine g_11_1 (pc := 14) C k_351 dX11_ofBar_14 ?_
    refine g_7_0 (pc := 17) C k_160 dX11_ofBar_17 ?_
    refine v_iload_n (pc := 20) 1 C dX11_ofBar_20 rfl rfl ?_
    have q_3 := hw.1
    refine v_aldB (pc := 21) C rfl q_3 dX11_ofBar_21 ?_
    replace hw := hw.2
    refine v_astore_n (pc := 22) C dX11_ofBar_22 rfl (by decide) rfl ?_
    refine v_iload_n (pc := 23) 3 C dX11_ofBar_23 rfl rfl ?_
    by_cases c0 : a2 = 0
    · replace hw := hw.1 c0
      refine v_tableIn (pc := 24) (tgt := 64) (off := 40) C dX11_ofBar_24 (by rw [c0]; decide) (by rw [c0]; decide) (by rw [c0]; rfl) (by decide) ?_
      refine v_aload_n (pc := 64) 0 C dX11_ofBar_64 rfl rfl ?_
      refine v_cVi (pc := 65) (o := bB + Int32.toNatClampNeg a1) (As := []) (rest := []) (ci := 0) C (c_X0_kind (kd_bar (vp_lt q_3)) hw) pk_X0_kind k_506 (kd_bar (vp_lt q_3)) (by decide) rfl (by decide) rfl rfl (Nat.le_of_ble_eq_true rfl) dX11_ofBar_65 (fun r_4 σ_5 hw => ?_)
      exact v_iret (pc := 68) C r hw dX11_ofBar_68
    · replace hw := hw.2 c0
      by_cases c1 : a2 = 1
      · replace hw := hw.1 c1
        refine v_tableIn (pc := 24) (tgt := 69) (off := 45) C dX11_ofBar_24 (by rw [c1]; decide) (by rw [c1]; decide) (by rw [c1]; rfl) (by decide) ?_
        refine v_aload_n (pc := 69) 0 C dX11_ofBar_69 rfl rfl ?_
        refine g_0_0 (pc := 70) (kd_bar (vp_lt q_3)) C k_135 dX11_ofBar_70 ?_
        exact v_iret (pc := 73) C r hw dX11_ofBar_73
      · replace hw := hw.2 c1
        by_cases c2 : a2 = 2
        · replace hw := hw.1 c2
          refine v_tableIn (pc := 24) (tgt := 74) (off := 50) C dX11_ofBar_24 (by rw [c2]; decide) (by rw [c2]; decide) (by rw [c2]; rfl) (by decide) ?_
          refine v_aload_n (pc := 74) 0 C dX11_ofBar_74 rfl rfl ?_
          refine g_0_1 (pc := 75) (kd_bar (vp_lt q_3)) C k_139 dX11_ofBar_75 ?_
          refine v_callSi (pc := 78) (As := [.long (σ_2.2 (bB + Int32.toNatClampNeg a1) 1)]) (rest := []) C (c_J13_bitCount_95d88 hw) pk_J13_bitCount_95d88 (Or.inl k_511) (by decide) rfl rfl (Nat.le_of_ble_eq_true rfl) dX11_ofBar_78 (fun r_6 σ_7 hw => ?_)
          exact v_iret (pc := 81) C r hw dX11_ofBar_81
        · replace hw := hw.2 c2
          by_cases c3 : a2 = 3
          · replace hw := hw.1 c3
            refine v_tableIn (pc := 24) (tgt := 82) (off := 58) C dX11_ofBar_24 (by rw [c3]; decide) (by rw [c3]; decide) (by rw [c3]; rfl) (by decide) ?_
            refine v_aload_n (pc := 82) 0 C dX11_ofBar_82 rfl rfl ?_
            refine g_0_2 (pc := 83) (kd_bar (vp_lt q_3)) C k_142 dX11_ofBar_83 ?_
            refine v_callSi (pc := 86) (As := [.long (σ_2.2 (bB + Int32.toNatClampNeg a1) 2)]) (rest := []) C (c_J13_bitCount_95d88 hw) pk_J13_bitCount_95d88 (Or.inl k_511) (by decide) rfl rfl (Nat.le_of_ble_eq_true rfl) dX11_ofBar_86 (fun r_8 σ_9 hw => ?_)
            exact v_iret (pc := 89) C r hw dX11_ofBar_89
          · replace hw := hw.2 c3
            by_cases c4 : a2 = 4
            · replace hw := hw.1 c4
              refine v_tableIn (pc := 24) (tgt := 90) (off := 66) C dX11_ofBar_24 (by rw [c4]; decide) (by rw [c4]; decide) (by rw [c4]; rfl) (by decide) ?_
              refine v_aload_n (pc := 90) 1 C dX11_ofBar_90 rfl rfl ?_
              refine g_11_0 (pc := 91) C k_350 dX11_ofBar_91 ?_
              refine v_aload_n (pc := 94) 0 C dX11_ofBar_94 rfl rfl ?_
              refine v_cVl (pc := 95) (o := bB + Int32.toNatClampNeg a1) (As := []) (rest := [.ref (gA G 1)]) (ci := 0) C (c_X0_wholeOnes (kd_bar (vp_lt q_3)) hw) pk_X0_wholeOnes k_517 (kd_bar (vp_lt q_3)) (by decide) rfl (by decide) rfl rfl (Nat.le_of_ble_eq_true rfl) dX11_ofBar_95 (fun r_10 σ_11 hw => ?_)
              refine v_ldc2 (pc := 98) C k_518 dX11_ofBar_98 ?_
              refine v_lxor (pc := 101) C dX11_ofBar_101 ?_
              refine v_cVi (pc := 102) (o := 1) (As := [.long (r_10 ^^^ -1)]) (rest := []) (ci := 10) C (c_X10_classesAmong hw) pk_X10_classesAmong k_519 rfl (by decide) rfl (by decide) rfl rfl (Nat.le_of_ble_eq_true rfl) dX11_ofBar_102 (fun r_12 σ_13 hw => ?_)
              exact v_iret (pc := 105) C r hw dX11_ofBar_105
            · replace hw := hw.2 c4
              by_cases c5 : a2 = 5
              · replace hw := hw.1 c5
                refine v_tableIn (pc := 24) (tgt := 106) (off := 82) C dX11_ofBar_24 (by rw [c5]; decide) (by rw [c5]; decide) (by rw [c5]; rfl) (by decide) ?_
                refine v_aload_n (pc := 106) 0 C dX11_ofBar_106 rfl rfl ?_
                refine g_0_3 (pc := 107) (kd_bar (vp_lt q_3)) C k_146 dX11_ofBar_107 ?_
                exact v_iret (pc := 110) C r hw dX11_ofBar_110
              · replace hw := hw.2 c5
                refine v_tableOut (pc := 24) (tgt := 111) C dX11_ofBar_24 (by have e0 := ne_toInt (k := 0) c0 (by decide); have e1 := ne_toInt (k := 1) c1 (by decide); have e2 := ne_toInt (k := 2) c2 (by decide); have e3 := ne_toInt (k := 3) c3 (by decide); have e4 := ne_toInt (k := 4) c4 (by decide); have e5 := ne_toInt (k := 5) c5 (by decide); omega) (by decide) ?_
                refine v_bipush (pc := 111) (v := (-2)) C dX11_ofBar_111 (by decide) ?_
                exact v_iret (pc := 113) C r hw dX11_ofBar_113
  · replace hw := hw.1 c
    refine v_iconst (pc := 11) (v := (-1)) C dX11_ofBar_11 (by decide) ?_
    exact v_iret (pc := 12) C r hw dX11_ofBar_12

theorem c_X11_has {l : Launch} {G : Gl} {a1 : Int32} {a2 : Int32} {σ : Mem} {P : Int32 → Mem → Prop} (hw : v_X11_has a1 a2 σ P) : MetI l yX11_has cX11_has 4 .int 2 G [.ref (gA G 0), .int a1, .int a2] σ P := by
  refine MetI.of RX11 (by decide +kernel) rfl (Nat.le_of_ble_eq_true rfl) (fun X C r => ?_)
  show V X G 4 0 [(0, .ref (gA G 0)), (1, .int a1), (2, .int a2)] [] σ
  unfold v_X11_has at hw
  refine v_aload_n (pc := 0) 0 C dX11_has_0 rfl rfl ?_
  refine g_11_1 (pc := 1) C k_351 dX11_has_1 ?_
  refine v_iload_n (pc := 4) 1 C dX11_has_4 rfl rfl ?_
  refine v_cVi (pc := 5) (o := 5) (As := [.int a1]) (rest := []) (ci := 7) C (c_X7_knows hw) pk_X7_knows k_454 rfl (by decide) rfl (by decide) rfl rfl (Nat.le_of_ble_eq_true rfl) dX11_has_5 (fun r_1 σ_2 hw => ?_)
  refine v_if_eq (pc := 8) (tgt := 22) C dX11_has_8 (by decide) (fun c => ?_) (fun c => ?_)
  · replace hw := hw.1 c
    refine v_iconst (pc := 22) (v := (-1)) C dX11_has_22 (by decide) ?_
    exact v_iret (pc := 23) C r hw dX11_has_23
  · replace hw := hw.2 c
    refine v_aload_n (pc := 11) 0 C dX11_has_11 rfl rfl ?_
    refine g_11_0 (pc := 12) C k_350 dX11_has_12 ?_
    refine v_iload_n (pc := 15) 2 C dX11_has_15 rfl rfl ?_
    refine v_cVi (pc := 16) (o := 1) (As := [.int a2]) (rest := []) (ci := 10) C (c_X10_knows hw) pk_X10_knows k_414 rfl (by decide) rfl (by decide) rfl rfl (Nat.le_of_ble_eq_true rfl) dX11_has_16 (fun r_3 σ_4 hw => ?_)
    refine v_if_ne (pc := 19) (tgt := 24) C dX11_has_19 (by decide) (fun c => ?_) (fun c => ?_)
    · replace hw := hw.2 c
      refine v_aload_n (pc := 24) 0 C dX11_has_24 rfl rfl ?_
      refine g_11_1 (pc := 25) C k_351 dX11_has_25 ?_
      refine g_7_0 (pc := 28) C k_160 dX11_has_28 ?_
      refine v_iload_n (pc := 31) 1 C dX11_has_31 rfl rfl ?_
      have q_5 := hw.1
      refine v_aldB (pc := 32) C rfl q_5 dX11_has_32 ?_
      replace hw := hw.2
      refine v_astore_n (pc := 33) C dX11_has_33 rfl (by decide) rfl ?_
      refine v_aload_n (pc := 34) 0 C dX11_has_34 rfl rfl ?_
      refine v_iload_n (pc := 35) 3 C dX11_has_35 rfl rfl ?_
      refine v_cVi (pc := 36) (o := bB + Int32.toNatClampNeg a1) (As := [.int a2]) (rest := []) (ci := 0) C (c_X0_hasFelt (kd_bar (vp_lt q_5)) hw) pk_X0_hasFelt k_480 (kd_bar (vp_lt q_5)) (by decide) rfl (by decide) rfl rfl (Nat.le_of_ble_eq_true rfl) dX11_has_36 (fun r_6 σ_7 hw => ?_)
      refine v_if_ne (pc := 39) (tgt := 44) C dX11_has_39 (by decide) (fun c => ?_) (fun c => ?_)
      · replace hw := hw.2 c
        refine v_aload_n (pc := 44) 0 C dX11_has_44 rfl rfl ?_
        refine v_iload_n (pc := 45) 3 C dX11_has_45 rfl rfl ?_
        refine v_cVi (pc := 46) (o := bB + Int32.toNatClampNeg a1) (As := [.int a2]) (rest := []) (ci := 0) C (c_X0_isWorn (kd_bar (vp_lt q_5)) hw) pk_X0_isWorn k_527 (kd_bar (vp_lt q_5)) (by decide) rfl (by decide) rfl rfl (Nat.le_of_ble_eq_true rfl) dX11_has_46 (fun r_8 σ_9 hw => ?_)
        refine v_if_eq (pc := 49) (tgt := 56) C dX11_has_49 (by decide) (fun c => ?_) (fun c => ?_)
        · replace hw := hw.1 c
          refine v_iconst (pc := 56) (v := 2) C dX11_has_56 (by decide) ?_
          exact v_iret (pc := 57) C r hw dX11_has_57
        · replace hw := hw.2 c
          refine v_iconst (pc := 52) (v := 1) C dX11_has_52 (by decide) ?_
          refine v_goto (pc := 53) (tgt := 57) C dX11_has_53 (by decide) ?_
          exact v_iret (pc := 57) C r hw dX11_has_57
      · replace hw := hw.1 c
        refine v_iconst (pc := 42) (v := 0) C dX11_has_42 (by decide) ?_
        exact v_iret (pc := 43) C r hw dX11_has_43
    · replace hw := hw.1 c
      refine v_iconst (pc := 22) (v := (-1)) C dX11_has_22 (by decide) ?_
      exact v_iret (pc := 23) C r hw dX11_has_23

theorem w_X11_sounds_J47 {X : Cx} {G : Gl} {P : Int32 → Mem → Prop} (C : Ck X G RX11 cX11_sounds 3 2) (r : RetI X G .int P) (xs0 : Int32) (σ : Mem) (hw : v_X11_sounds_J47 P xs0 σ) : V X G 3 47 [] [.int xs0] σ := by
  unfold v_X11_sounds_J47 at hw
  refine v_callSi (pc := 47) (As := [.int xs0]) (rest := []) C (c_X11_asNumber hw) pk_X11_asNumber (Or.inl k_469) (by decide) rfl rfl (Nat.le_of_ble_eq_true rfl) dX11_sounds_47 (fun r_9 σ_10 hw => ?_)
  exact v_iret (pc := 50) C r hw dX11_sounds_50

theorem c_X11_sounds {l : Launch} {G : Gl} {a1 : Int32} {a2 : Int32} {σ : Mem} {P : Int32 → Mem → Prop} (hw : v_X11_sounds a1 a2 σ P) : MetI l yX11_sounds cX11_sounds 3 .int 2 G [.ref (gA G 0), .int a1, .int a2] σ P := by
  refine MetI.of RX11 (by decide +kernel) rfl (Nat.le_of_ble_eq_true rfl) (fun X C r => ?_)
  show V X G 3 0 [(0, .ref (gA G 0)), (1, .int a1), (2, .int a2)] [] σ
  unfold v_X11_sounds at hw
  refine v_aload_n (pc := 0) 0 C dX11_sounds_0 rfl rfl ?_
  refine g_11_0 (pc := 1) C k_350 dX11_sounds_1 ?_
  refine v_iload_n (pc := 4) 2 C dX11_sounds_4 rfl rfl ?_
  refine v_cVi (pc := 5) (o := 1) (As := [.int a2]) (rest := []) (ci := 10) C (c_X10_knows hw) pk_X10_knows k_414 rfl (by decide) rfl (by decide) rfl rfl (Nat.le_of_ble_eq_true rfl) dX11_sounds_5 (fun r_1 σ_2 hw => ?_)
  refine v_if_ne (pc := 8) (tgt := 13) C dX11_sounds_8 (by decide) (fun c => ?_) (fun c => ?_)
  · replace hw := hw.2 c
    refine v_aload_n (pc := 13) 0 C dX11_sounds_13 rfl rfl ?_
    refine g_11_1 (pc := 14) C k_351 dX11_sounds_14 ?_
    refine v_iload_n (pc := 17) 1 C dX11_sounds_17 rfl rfl ?_
    refine v_cVi (pc := 18) (o := 5) (As := [.int a1]) (rest := []) (ci := 7) C (c_X7_isSet hw) pk_X7_isSet k_532 rfl (by decide) rfl (by decide) rfl rfl (Nat.le_of_ble_eq_true rfl) dX11_sounds_18 (fun r_3 σ_4 hw => ?_)
    refine v_if_ne (pc := 21) (tgt := 27) C dX11_sounds_21 (by decide) (fun c => ?_) (fun c => ?_)
    · replace hw := hw.2 c
      refine v_aload_n (pc := 27) 0 C dX11_sounds_27 rfl rfl ?_
      refine g_11_1 (pc := 28) C k_351 dX11_sounds_28 ?_
      refine v_iload_n (pc := 31) 1 C dX11_sounds_31 rfl rfl ?_
      refine v_cVl (pc := 32) (o := 5) (As := [.int a1]) (rest := []) (ci := 7) C (c_X7_hushed hw) pk_X7_hushed k_536 rfl (by decide) rfl (by decide) rfl rfl (Nat.le_of_ble_eq_true rfl) dX11_sounds_32 (fun r_5 σ_6 hw => ?_)
      refine v_iload_n (pc := 35) 2 C dX11_sounds_35 rfl rfl ?_
      refine v_callSi (pc := 36) (As := [.long r_5, .int a2]) (rest := []) C (c_X11_hasBit hw) pk_X11_hasBit (Or.inl k_540) (by decide) rfl rfl (Nat.le_of_ble_eq_true rfl) dX11_sounds_36 (fun r_7 σ_8 hw => ?_)
      refine v_if_ne (pc := 39) (tgt := 46) C dX11_sounds_39 (by decide) (fun c => ?_) (fun c => ?_)
      · replace hw := hw.2 c
        refine v_iconst (pc := 46) (v := 0) C dX11_sounds_46 (by decide) ?_
        refine v_sub [] rfl ?_
        exact w_X11_sounds_J47 C r _ _ hw
      · replace hw := hw.1 c
        refine v_iconst (pc := 42) (v := 1) C dX11_sounds_42 (by decide) ?_
        refine v_goto (pc := 43) (tgt := 47) C dX11_sounds_43 (by decide) ?_
        refine v_sub [] rfl ?_
        exact w_X11_sounds_J47 C r _ _ hw
    · replace hw := hw.1 c
      refine v_bipush (pc := 24) (v := (-2)) C dX11_sounds_24 (by decide) ?_
      exact v_iret (pc := 26) C r hw dX11_sounds_26
  · replace hw := hw.1 c
    refine v_iconst (pc := 11) (v := (-1)) C dX11_sounds_11 (by decide) ?_
    exact v_iret (pc := 12) C r hw dX11_sounds_12

theorem c_X11_classes {l : Launch} {G : Gl} {a1 : Int32} {σ : Mem} {P : Int32 → Mem → Prop} (hw : v_X11_classes a1 σ P) : MetI l yX11_classes cX11_classes 2 .int 2 G [.ref (gA G 0), .int a1] σ P := by
  refine MetI.of RX11 (by decide +kernel) rfl (Nat.le_of_ble_eq_true rfl) (fun X C r => ?_)
  show V X G 2 0 [(0, .ref (gA G 0)), (1, .int a1)] [] σ
  unfold v_X11_classes at hw
  refine v_aload_n (pc := 0) 0 C dX11_classes_0 rfl rfl ?_
  refine g_11_1 (pc := 1) C k_351 dX11_classes_1 ?_
  refine v_iload_n (pc := 4) 1 C dX11_classes_4 rfl rfl ?_
  refine v_cVi (pc := 5) (o := 5) (As := [.int a1]) (rest := []) (ci := 7) C (c_X7_isSet hw) pk_X7_isSet k_532 rfl (by decide) rfl (by decide) rfl rfl (Nat.le_of_ble_eq_true rfl) dX11_classes_5 (fun r_1 σ_2 hw => ?_)
  refine v_if_ne (pc := 8) (tgt := 14) C dX11_classes_8 (by decide) (fun c => ?_) (fun c => ?_)
  · replace hw := hw.2 c
    refine v_aload_n (pc := 14) 0 C dX11_classes_14 rfl rfl ?_
    refine g_11_0 (pc := 15) C k_350 dX11_classes_15 ?_
    refine v_aload_n (pc := 18) 0 C dX11_classes_18 rfl rfl ?_
    refine g_11_1 (pc := 19) C k_351 dX11_classes_19 ?_
    refine v_iload_n (pc := 22) 1 C dX11_classes_22 rfl rfl ?_
    refine v_cVl (pc := 23) (o := 5) (As := [.int a1]) (rest := [.ref (gA G 1)]) (ci := 7) C (c_X7_hushed hw) pk_X7_hushed k_536 rfl (by decide) rfl (by decide) rfl rfl (Nat.le_of_ble_eq_true rfl) dX11_classes_23 (fun r_3 σ_4 hw => ?_)
    refine v_ldc2 (pc := 26) C k_518 dX11_classes_26 ?_
    refine v_lxor (pc := 29) C dX11_classes_29 ?_
    refine v_cVi (pc := 30) (o := 1) (As := [.long (r_3 ^^^ -1)]) (rest := []) (ci := 10) C (c_X10_classesAmong hw) pk_X10_classesAmong k_519 rfl (by decide) rfl (by decide) rfl rfl (Nat.le_of_ble_eq_true rfl) dX11_classes_30 (fun r_5 σ_6 hw => ?_)
    exact v_iret (pc := 33) C r hw dX11_classes_33
  · replace hw := hw.1 c
    refine v_bipush (pc := 11) (v := (-2)) C dX11_classes_11 (by decide) ?_
    exact v_iret (pc := 13) C r hw dX11_classes_13

theorem c_X11_chord {l : Launch} {G : Gl} {a1 : Int32} {σ : Mem} {P : Int32 → Mem → Prop} (hw : v_X11_chord a1 σ P) : MetI l yX11_chord cX11_chord 2 .int 2 G [.ref (gA G 0), .int a1] σ P := by
  refine MetI.of RX11 (by decide +kernel) rfl (Nat.le_of_ble_eq_true rfl) (fun X C r => ?_)
  show V X G 2 0 [(0, .ref (gA G 0)), (1, .int a1)] [] σ
  unfold v_X11_chord at hw
  refine v_iload_n (pc := 0) 1 C dX11_chord_0 rfl rfl ?_
  refine v_callSi (pc := 1) (As := [.int a1]) (rest := []) C (c_X11_isChord hw) pk_X11_isChord (Or.inl k_426) (by decide) rfl rfl (Nat.le_of_ble_eq_true rfl) dX11_chord_1 (fun r_1 σ_2 hw => ?_)
  refine v_if_ne (pc := 4) (tgt := 10) C dX11_chord_4 (by decide) (fun c => ?_) (fun c => ?_)
  · replace hw := hw.2 c
    refine v_iload_n (pc := 10) 1 C dX11_chord_10 rfl rfl ?_
    refine v_callSi (pc := 11) (As := [.int a1]) (rest := []) C (c_X11_classesOf hw) pk_X11_classesOf (Or.inl k_433) (by decide) rfl rfl (Nat.le_of_ble_eq_true rfl) dX11_chord_11 (fun r_3 σ_4 hw => ?_)
    exact v_iret (pc := 14) C r hw dX11_chord_14
  · replace hw := hw.1 c
    refine v_bipush (pc := 7) (v := (-2)) C dX11_chord_7 (by decide) ?_
    exact v_iret (pc := 9) C r hw dX11_chord_9

theorem w_X11_gives_J52 {X : Cx} {G : Gl} {P : Int32 → Mem → Prop} (C : Ck X G RX11 cX11_gives 3 2) (r : RetI X G .int P) (xs0 : Int32) (σ : Mem) (hw : v_X11_gives_J52 P xs0 σ) : V X G 3 52 [] [.int xs0] σ := by
  unfold v_X11_gives_J52 at hw
  refine v_callSi (pc := 52) (As := [.int xs0]) (rest := []) C (c_X11_asNumber hw) pk_X11_asNumber (Or.inl k_469) (by decide) rfl rfl (Nat.le_of_ble_eq_true rfl) dX11_gives_52 (fun r_11 σ_12 hw => ?_)
  exact v_iret (pc := 55) C r hw dX11_gives_55

theorem c_X11_gives {l : Launch} {G : Gl} {a1 : Int32} {a2 : Int32} {σ : Mem} {P : Int32 → Mem → Prop} (hw : v_X11_gives a1 a2 σ P) : MetI l yX11_gives cX11_gives 3 .int 2 G [.ref (gA G 0), .int a1, .int a2] σ P := by
  refine MetI.of RX11 (by decide +kernel) rfl (Nat.le_of_ble_eq_true rfl) (fun X C r => ?_)
  show V X G 3 0 [(0, .ref (gA G 0)), (1, .int a1), (2, .int a2)] [] σ
  unfold v_X11_gives at hw
  refine v_aload_n (pc := 0) 0 C dX11_gives_0 rfl rfl ?_
  refine g_11_1 (pc := 1) C k_351 dX11_gives_1 ?_
  refine v_iload_n (pc := 4) 1 C dX11_gives_4 rfl rfl ?_
  refine v_cVi (pc := 5) (o := 5) (As := [.int a1]) (rest := []) (ci := 7) C (c_X7_isSet hw) pk_X7_isSet k_532 rfl (by decide) rfl (by decide) rfl rfl (Nat.le_of_ble_eq_true rfl) dX11_gives_5 (fun r_1 σ_2 hw => ?_)
  refine v_if_eq (pc := 8) (tgt := 18) C dX11_gives_8 (by decide) (fun c => ?_) (fun c => ?_)
  · replace hw := hw.1 c
    refine v_bipush (pc := 18) (v := (-2)) C dX11_gives_18 (by decide) ?_
    exact v_iret (pc := 20) C r hw dX11_gives_20
  · replace hw := hw.2 c
    refine v_iload_n (pc := 11) 2 C dX11_gives_11 rfl rfl ?_
    refine v_callSi (pc := 12) (As := [.int a2]) (rest := []) C (c_X11_isChord hw) pk_X11_isChord (Or.inl k_426) (by decide) rfl rfl (Nat.le_of_ble_eq_true rfl) dX11_gives_12 (fun r_3 σ_4 hw => ?_)
    refine v_if_ne (pc := 15) (tgt := 21) C dX11_gives_15 (by decide) (fun c => ?_) (fun c => ?_)
    · replace hw := hw.2 c
      refine v_aload_n (pc := 21) 0 C dX11_gives_21 rfl rfl ?_
      refine g_11_0 (pc := 22) C k_350 dX11_gives_22 ?_
      refine v_aload_n (pc := 25) 0 C dX11_gives_25 rfl rfl ?_
      refine g_11_1 (pc := 26) C k_351 dX11_gives_26 ?_
      refine v_iload_n (pc := 29) 1 C dX11_gives_29 rfl rfl ?_
      refine v_cVl (pc := 30) (o := 5) (As := [.int a1]) (rest := [.ref (gA G 1)]) (ci := 7) C (c_X7_hushed hw) pk_X7_hushed k_536 rfl (by decide) rfl (by decide) rfl rfl (Nat.le_of_ble_eq_true rfl) dX11_gives_30 (fun r_5 σ_6 hw => ?_)
      refine v_ldc2 (pc := 33) C k_518 dX11_gives_33 ?_
      refine v_lxor (pc := 36) C dX11_gives_36 ?_
      refine v_cVi (pc := 37) (o := 1) (As := [.long (r_5 ^^^ -1)]) (rest := []) (ci := 10) C (c_X10_classesAmong hw) pk_X10_classesAmong k_519 rfl (by decide) rfl (by decide) rfl rfl (Nat.le_of_ble_eq_true rfl) dX11_gives_37 (fun r_7 σ_8 hw => ?_)
      refine v_iload_n (pc := 40) 2 C dX11_gives_40 rfl rfl ?_
      refine v_callSi (pc := 41) (As := [.int a2]) (rest := [.int r_7]) C (c_X11_classesOf hw) pk_X11_classesOf (Or.inl k_433) (by decide) rfl rfl (Nat.le_of_ble_eq_true rfl) dX11_gives_41 (fun r_9 σ_10 hw => ?_)
      refine v_icmp_ne (pc := 44) (tgt := 51) C dX11_gives_44 (by decide) (fun c => ?_) (fun c => ?_)
      · replace hw := hw.2 c
        refine v_iconst (pc := 51) (v := 0) C dX11_gives_51 (by decide) ?_
        refine v_sub [] rfl ?_
        exact w_X11_gives_J52 C r _ _ hw
      · replace hw := hw.1 c
        refine v_iconst (pc := 47) (v := 1) C dX11_gives_47 (by decide) ?_
        refine v_goto (pc := 48) (tgt := 52) C dX11_gives_48 (by decide) ?_
        refine v_sub [] rfl ?_
        exact w_X11_gives_J52 C r _ _ hw
    · replace hw := hw.1 c
      refine v_bipush (pc := 18) (v := (-2)) C dX11_gives_18 (by decide) ?_
      exact v_iret (pc := 20) C r hw dX11_gives_20

theorem c_X11_lack {l : Launch} {G : Gl} {a1 : Int32} {σ : Mem} {P : Int32 → Mem → Prop} (hw : v_X11_lack a1 σ P) : MetI l yX11_lack cX11_lack 2 .int 2 G [.ref (gA G 0), .int a1] σ P := by
  refine MetI.of RX11 (by decide +kernel) rfl (Nat.le_of_ble_eq_true rfl) (fun X C r => ?_)
  show V X G 2 0 [(0, .ref (gA G 0)), (1, .int a1)] [] σ
  unfold v_X11_lack at hw
  refine v_iload_n (pc := 0) 1 C dX11_lack_0 rfl rfl ?_
  refine v_callSi (pc := 1) (As := [.int a1]) (rest := []) C (c_X11_isChord hw) pk_X11_isChord (Or.inl k_426) (by decide) rfl rfl (Nat.le_of_ble_eq_true rfl) dX11_lack_1 (fun r_1 σ_2 hw => ?_)
  refine v_if_ne (pc := 4) (tgt := 10) C dX11_lack_4 (by decide) (fun c => ?_) (fun c => ?_)
  · replace hw := hw.2 c
    refine v_iload_n (pc := 10) 1 C dX11_lack_10 rfl rfl ?_
    refine v_callSi (pc := 11) (As := [.int a1]) (rest := []) C (c_X11_classesOf hw) pk_X11_classesOf (Or.inl k_433) (by decide) rfl rfl (Nat.le_of_ble_eq_true rfl) dX11_lack_11 (fun r_3 σ_4 hw => ?_)
    refine v_aload_n (pc := 14) 0 C dX11_lack_14 rfl rfl ?_
    refine g_11_0 (pc := 15) C k_350 dX11_lack_15 ?_
    refine v_aload_n (pc := 18) 0 C dX11_lack_18 rfl rfl ?_
    refine g_11_0 (pc := 19) C k_350 dX11_lack_19 ?_
    refine v_cVl (pc := 22) (o := 1) (As := []) (rest := [.ref (gA G 1), .int r_3]) (ci := 10) C (c_X10_all hw) pk_X10_all k_557 rfl (by decide) rfl (by decide) rfl rfl (Nat.le_of_ble_eq_true rfl) dX11_lack_22 (fun r_5 σ_6 hw => ?_)
    refine v_cVi (pc := 25) (o := 1) (As := [.long r_5]) (rest := [.int r_3]) (ci := 10) C (c_X10_classesAmong hw) pk_X10_classesAmong k_519 rfl (by decide) rfl (by decide) rfl rfl (Nat.le_of_ble_eq_true rfl) dX11_lack_25 (fun r_7 σ_8 hw => ?_)
    refine v_iconst (pc := 28) (v := (-1)) C dX11_lack_28 (by decide) ?_
    refine v_ixor (pc := 29) C dX11_lack_29 ?_
    refine v_iand (pc := 30) C dX11_lack_30 ?_
    exact v_iret (pc := 31) C r hw dX11_lack_31
  · replace hw := hw.1 c
    refine v_bipush (pc := 7) (v := (-2)) C dX11_lack_7 (by decide) ?_
    exact v_iret (pc := 9) C r hw dX11_lack_9

theorem c_X11_lookAtGrips {l : Launch} {G : Gl} {σ : Mem} {P : Mem → Prop} (hw : v_X11_lookAtGrips σ P) : MetV l yX11_lookAtGrips cX11_lookAtGrips 1 3 G [.ref (gA G 0)] σ P := by
  refine MetV.of RX11 (by decide +kernel) rfl (Nat.le_of_ble_eq_true rfl) (fun X C r => ?_)
  show V X G 1 0 [(0, .ref (gA G 0))] [] σ
  unfold v_X11_lookAtGrips at hw
  refine v_aload_n (pc := 0) 0 C dX11_lookAtGrips_0 rfl rfl ?_
  refine g_11_2 (pc := 1) C k_352 dX11_lookAtGrips_1 ?_
  refine v_aload_n (pc := 4) 0 C dX11_lookAtGrips_4 rfl rfl ?_
  refine g_11_0 (pc := 5) C k_350 dX11_lookAtGrips_5 ?_
  refine v_aload_n (pc := 8) 0 C dX11_lookAtGrips_8 rfl rfl ?_
  refine g_11_1 (pc := 9) C k_351 dX11_lookAtGrips_9 ?_
  refine v_cVv (pc := 12) (o := 7) (As := [.ref (gA G 1), .ref (gA G 5)]) (rest := []) (ci := 4) C (c_X4_look hw) pk_X4_look k_569 rfl (by decide) rfl (by decide) rfl rfl (Nat.le_of_ble_eq_true rfl) dX11_lookAtGrips_12 (fun σ_1 hw => ?_)
  exact v_vret (pc := 15) C r hw dX11_lookAtGrips_15

theorem c_X11_hold {l : Launch} {G : Gl} {a1 : Int32} {σ : Mem} {P : Int32 → Mem → Prop} (hw : v_X11_hold a1 σ P) : MetI l yX11_hold cX11_hold 3 .int 4 G [.ref (gA G 0), .int a1] σ P := by
  refine MetI.of RX11 (by decide +kernel) rfl (Nat.le_of_ble_eq_true rfl) (fun X C r => ?_)
  show V X G 3 0 [(0, .ref (gA G 0)), (1, .int a1)] [] σ
  unfold v_X11_hold at hw
  refine v_iload_n (pc := 0) 1 C dX11_hold_0 rfl rfl ?_
  refine v_callSi (pc := 1) (As := [.int a1]) (rest := []) C (c_X11_isChord hw) pk_X11_isChord (Or.inl k_426) (by decide) rfl rfl (Nat.le_of_ble_eq_true rfl) dX11_hold_1 (fun r_1 σ_2 hw => ?_)
  refine v_if_ne (pc := 4) (tgt := 10) C dX11_hold_4 (by decide) (fun c => ?_) (fun c => ?_)
  · replace hw := hw.2 c
    refine v_aload_n (pc := 10) 0 C dX11_hold_10 rfl rfl ?_
    refine v_cVv (pc := 11) (o := 0) (As := []) (rest := []) (ci := 11) C (c_X11_lookAtGrips hw) pk_X11_lookAtGrips k_565 rfl (by decide) rfl (by decide) rfl rfl (Nat.le_of_ble_eq_true rfl) dX11_hold_11 (fun σ_3 hw => ?_)
    refine v_aload_n (pc := 14) 0 C dX11_hold_14 rfl rfl ?_
    refine g_11_2 (pc := 15) C k_352 dX11_hold_15 ?_
    refine v_iload_n (pc := 18) 1 C dX11_hold_18 rfl rfl ?_
    refine v_cVi (pc := 19) (o := 7) (As := [.int a1]) (rest := []) (ci := 4) C (c_X4_holdOf hw) pk_X4_holdOf k_586 rfl (by decide) rfl (by decide) rfl rfl (Nat.le_of_ble_eq_true rfl) dX11_hold_19 (fun r_4 σ_5 hw => ?_)
    refine v_istore_n (pc := 22) C dX11_hold_22 rfl (by decide) rfl ?_
    refine v_iload_n (pc := 23) 0 C dX11_hold_23 rfl rfl ?_
    refine v_if_ne (pc := 24) (tgt := 32) C dX11_hold_24 (by decide) (fun c => ?_) (fun c => ?_)
    · replace hw := hw.2 c
      refine v_aload_n (pc := 32) 1 C dX11_hold_32 rfl rfl ?_
      refine g_11_2 (pc := 33) C k_352 dX11_hold_33 ?_
      refine g_4_0 (pc := 36) C k_179 dX11_hold_36 ?_
      refine v_iload_n (pc := 39) 0 C dX11_hold_39 rfl rfl ?_
      refine v_iald (pc := 40) C rfl hw.1 dX11_hold_40 ?_
      replace hw := hw.2
      exact v_iret (pc := 41) C r hw dX11_hold_41
    · replace hw := hw.1 c
      refine v_bipush (pc := 27) (v := (-9)) C dX11_hold_27 (by decide) ?_
      refine v_goto (pc := 29) (tgt := 41) C dX11_hold_29 (by decide) ?_
      exact v_iret (pc := 41) C r hw dX11_hold_41
  · replace hw := hw.1 c
    refine v_bipush (pc := 7) (v := (-2)) C dX11_hold_7 (by decide) ?_
    exact v_iret (pc := 9) C r hw dX11_hold_9

theorem w_X11_holds_L20 {X : Cx} {G : Gl} {P : Int32 → Mem → Prop} {x1 : Int32} (C : Ck X G RX11 cX11_holds 4 4) (r : RetI X G .int P) : ∀ (n : Nat) (x2 : Int32) (x3 : Int32) (σ : Mem), v_X11_holds_L20 x1 P n x2 x3 σ → V X G 4 20 [(0, .ref (gA G 0)), (1, .int x1), (2, .int x2), (3, .int x3)] [] σ := by
  intro n
  induction n with
  | zero => intro x2 x3 σ hw; exact hw.elim
  | succ n ih =>
    intro x2 x3 σ hw
    refine v_iload_n (pc := 20) 3 C dX11_holds_20 rfl rfl ?_
    refine v_bipush (pc := 21) (v := 96) C dX11_holds_21 (by decide) ?_
    refine v_icmp_ge (pc := 23) (tgt := 58) C dX11_holds_23 (by decide) (fun c => ?_) (fun c => ?_)
    · replace hw := hw.1 c
      refine v_iload_n (pc := 58) 2 C dX11_holds_58 rfl rfl ?_
      exact v_iret (pc := 59) C r hw dX11_holds_59
    · replace hw := hw.2 c
      refine v_aload_n (pc := 26) 0 C dX11_holds_26 rfl rfl ?_
      refine g_11_2 (pc := 27) C k_352 dX11_holds_27 ?_
      refine g_4_0 (pc := 30) C k_179 dX11_holds_30 ?_
      refine v_aload_n (pc := 33) 0 C dX11_holds_33 rfl rfl ?_
      refine g_11_2 (pc := 34) C k_352 dX11_holds_34 ?_
      refine v_iload_n (pc := 37) 3 C dX11_holds_37 rfl rfl ?_
      refine v_cVi (pc := 38) (o := 7) (As := [.int x3]) (rest := [.ref (gA G 8)]) (ci := 4) C (c_X4_holdOf hw) pk_X4_holdOf k_586 rfl (by decide) rfl (by decide) rfl rfl (Nat.le_of_ble_eq_true rfl) dX11_holds_38 (fun r_2 σ_3 hw => ?_)
      refine v_iald (pc := 41) C rfl hw.1 dX11_holds_41 ?_
      replace hw := hw.2
      refine v_callSi (pc := 42) (As := [.int (σ_3.1 8 (Int32.toNatClampNeg r_2))]) (rest := []) C (c_J6_bitCount_0f7a4 hw) pk_J6_bitCount_0f7a4 (Or.inl k_599) (by decide) rfl rfl (Nat.le_of_ble_eq_true rfl) dX11_holds_42 (fun r_4 σ_5 hw => ?_)
      refine v_iload_n (pc := 45) 1 C dX11_holds_45 rfl rfl ?_
      refine v_icmp_ne (pc := 46) (tgt := 52) C dX11_holds_46 (by decide) (fun c => ?_) (fun c => ?_)
      · replace hw := hw.2 c
        refine v_iinc (pc := 52) (v := x3 + 1) 3 C dX11_holds_52 rfl rfl (by decide) rfl ?_
        refine v_goto (pc := 55) (tgt := 20) C dX11_holds_55 (by decide) ?_
        refine v_sub [1, 2, 3, 0] rfl ?_
        exact ih _ _ _ hw
      · replace hw := hw.1 c
        refine v_iinc (pc := 49) (v := x2 + 1) 2 C dX11_holds_49 rfl rfl (by decide) rfl ?_
        refine v_iinc (pc := 52) (v := x3 + 1) 3 C dX11_holds_52 rfl rfl (by decide) rfl ?_
        refine v_goto (pc := 55) (tgt := 20) C dX11_holds_55 (by decide) ?_
        refine v_sub [2, 3, 1, 0] rfl ?_
        exact ih _ _ _ hw

theorem c_X11_holds {l : Launch} {G : Gl} {a1 : Int32} {σ : Mem} {P : Int32 → Mem → Prop} (hw : v_X11_holds a1 σ P) : MetI l yX11_holds cX11_holds 4 .int 4 G [.ref (gA G 0), .int a1] σ P := by
  refine MetI.of RX11 (by decide +kernel) rfl (Nat.le_of_ble_eq_true rfl) (fun X C r => ?_)
  show V X G 4 0 [(0, .ref (gA G 0)), (1, .int a1)] [] σ
  unfold v_X11_holds at hw
  refine v_iload_n (pc := 0) 1 C dX11_holds_0 rfl rfl ?_
  refine v_if_lt (pc := 1) (tgt := 9) C dX11_holds_1 (by decide) (fun c => ?_) (fun c => ?_)
  · replace hw := hw.1 c
    refine v_bipush (pc := 9) (v := (-2)) C dX11_holds_9 (by decide) ?_
    exact v_iret (pc := 11) C r hw dX11_holds_11
  · replace hw := hw.2 c
    refine v_iload_n (pc := 4) 1 C dX11_holds_4 rfl rfl ?_
    refine v_iconst (pc := 5) (v := 2) C dX11_holds_5 (by decide) ?_
    refine v_icmp_le (pc := 6) (tgt := 12) C dX11_holds_6 (by decide) (fun c => ?_) (fun c => ?_)
    · replace hw := hw.1 c
      refine v_aload_n (pc := 12) 0 C dX11_holds_12 rfl rfl ?_
      refine v_cVv (pc := 13) (o := 0) (As := []) (rest := []) (ci := 11) C (c_X11_lookAtGrips hw) pk_X11_lookAtGrips k_565 rfl (by decide) rfl (by decide) rfl rfl (Nat.le_of_ble_eq_true rfl) dX11_holds_13 (fun σ_1 hw => ?_)
      refine v_iconst (pc := 16) (v := 0) C dX11_holds_16 (by decide) ?_
      refine v_istore_n (pc := 17) C dX11_holds_17 rfl (by decide) rfl ?_
      refine v_iconst (pc := 18) (v := 0) C dX11_holds_18 (by decide) ?_
      refine v_istore_n (pc := 19) C dX11_holds_19 rfl (by decide) rfl ?_
      refine v_sub [2, 3, 1, 0] rfl ?_
      refine w_X11_holds_L20 C r 5000 _ _ _ hw
    · replace hw := hw.2 c
      refine v_bipush (pc := 9) (v := (-2)) C dX11_holds_9 (by decide) ?_
      exact v_iret (pc := 11) C r hw dX11_holds_11

theorem c_J13_numberOfTrailingZeros_95d88 {l : Launch} {G : Gl} {a0 : Int64} {σ : Mem} {P : Int32 → Mem → Prop} (hw : v_J13_numberOfTrailingZeros_95d88 a0 σ P) : MetI l yJ13_numberOfTrailingZeros_95d88 cJ13_numberOfTrailingZeros_95d88 3 .int 1 G [.long a0] σ P := by
  refine MetI.of RJ13 (by decide +kernel) rfl (Nat.le_of_ble_eq_true rfl) (fun X C r => ?_)
  show V X G 3 0 [(0, .long a0)] [] σ
  unfold v_J13_numberOfTrailingZeros_95d88 at hw
  refine v_lload_n (pc := 0) 0 C dJ13_numberOfTrailingZeros_95d88_0 rfl rfl ?_
  refine v_l2i (pc := 1) C dJ13_numberOfTrailingZeros_95d88_1 ?_
  refine v_istore_n (pc := 2) C dJ13_numberOfTrailingZeros_95d88_2 rfl (by decide) rfl ?_
  refine v_iload_n (pc := 3) 0 C dJ13_numberOfTrailingZeros_95d88_3 rfl rfl ?_
  refine v_if_ne (pc := 4) (tgt := 21) C dJ13_numberOfTrailingZeros_95d88_4 (by decide) (fun c => ?_) (fun c => ?_)
  · replace hw := hw.2 c
    refine v_iload_n (pc := 21) 0 C dJ13_numberOfTrailingZeros_95d88_21 rfl rfl ?_
    refine v_callSi (pc := 22) (As := [.int (Int64.toInt32 a0)]) (rest := []) C (c_J6_numberOfTrailingZeros_0f7a4 hw) pk_J6_numberOfTrailingZeros_0f7a4 (Or.inl k_616) (by decide) rfl rfl (Nat.le_of_ble_eq_true rfl) dJ13_numberOfTrailingZeros_95d88_22 (fun r_3 σ_4 hw => ?_)
    exact v_iret (pc := 25) C r hw dJ13_numberOfTrailingZeros_95d88_25
  · replace hw := hw.1 c
    refine v_bipush (pc := 7) (v := 32) C dJ13_numberOfTrailingZeros_95d88_7 (by decide) ?_
    refine v_lload_n (pc := 9) 1 C dJ13_numberOfTrailingZeros_95d88_9 rfl rfl ?_
    refine v_bipush (pc := 10) (v := 32) C dJ13_numberOfTrailingZeros_95d88_10 (by decide) ?_
    refine v_lushr (pc := 12) C dJ13_numberOfTrailingZeros_95d88_12 ?_
    refine v_l2i (pc := 13) C dJ13_numberOfTrailingZeros_95d88_13 ?_
    refine v_callSi (pc := 14) (As := [.int (Int64.toInt32 ((Int64.toUInt64 a0 >>> ((Int32.toInt64 32).toUInt64 &&& Int64.toUInt64 63)).toInt64))]) (rest := [.int 32]) C (c_J6_numberOfTrailingZeros_0f7a4 hw) pk_J6_numberOfTrailingZeros_0f7a4 (Or.inl k_616) (by decide) rfl rfl (Nat.le_of_ble_eq_true rfl) dJ13_numberOfTrailingZeros_95d88_14 (fun r_1 σ_2 hw => ?_)
    refine v_iadd (pc := 17) C dJ13_numberOfTrailingZeros_95d88_17 ?_
    refine v_goto (pc := 18) (tgt := 25) C dJ13_numberOfTrailingZeros_95d88_18 (by decide) ?_
    exact v_iret (pc := 25) C r hw dJ13_numberOfTrailingZeros_95d88_25

theorem c_J13_numberOfLeadingZeros_95d88 {l : Launch} {G : Gl} {a0 : Int64} {σ : Mem} {P : Int32 → Mem → Prop} (hw : v_J13_numberOfLeadingZeros_95d88 a0 σ P) : MetI l yJ13_numberOfLeadingZeros_95d88 cJ13_numberOfLeadingZeros_95d88 3 .int 1 G [.long a0] σ P := by
  refine MetI.of RJ13 (by decide +kernel) rfl (Nat.le_of_ble_eq_true rfl) (fun X C r => ?_)
  show V X G 3 0 [(0, .long a0)] [] σ
  unfold v_J13_numberOfLeadingZeros_95d88 at hw
  refine v_lload_n (pc := 0) 0 C dJ13_numberOfLeadingZeros_95d88_0 rfl rfl ?_
  refine v_bipush (pc := 1) (v := 32) C dJ13_numberOfLeadingZeros_95d88_1 (by decide) ?_
  refine v_lushr (pc := 3) C dJ13_numberOfLeadingZeros_95d88_3 ?_
  refine v_l2i (pc := 4) C dJ13_numberOfLeadingZeros_95d88_4 ?_
  refine v_topi (fun y_1 ey_1 => ?_)
  replace hw := hw y_1 ey_1
  refine v_istore_n (pc := 5) C dJ13_numberOfLeadingZeros_95d88_5 rfl (by decide) rfl ?_
  refine v_iload_n (pc := 6) 0 C dJ13_numberOfLeadingZeros_95d88_6 rfl rfl ?_
  refine v_if_ne (pc := 7) (tgt := 21) C dJ13_numberOfLeadingZeros_95d88_7 (by decide) (fun c => ?_) (fun c => ?_)
  · replace hw := hw.2 c
    refine v_iload_n (pc := 21) 0 C dJ13_numberOfLeadingZeros_95d88_21 rfl rfl ?_
    refine v_callSi (pc := 22) (As := [.int y_1]) (rest := []) C (c_J6_numberOfLeadingZeros_0f7a4 hw) pk_J6_numberOfLeadingZeros_0f7a4 (Or.inl k_623) (by decide) rfl rfl (Nat.le_of_ble_eq_true rfl) dJ13_numberOfLeadingZeros_95d88_22 (fun r_4 σ_5 hw => ?_)
    exact v_iret (pc := 25) C r hw dJ13_numberOfLeadingZeros_95d88_25
  · replace hw := hw.1 c
    refine v_bipush (pc := 10) (v := 32) C dJ13_numberOfLeadingZeros_95d88_10 (by decide) ?_
    refine v_lload_n (pc := 12) 1 C dJ13_numberOfLeadingZeros_95d88_12 rfl rfl ?_
    refine v_l2i (pc := 13) C dJ13_numberOfLeadingZeros_95d88_13 ?_
    refine v_callSi (pc := 14) (As := [.int (Int64.toInt32 a0)]) (rest := [.int 32]) C (c_J6_numberOfLeadingZeros_0f7a4 hw) pk_J6_numberOfLeadingZeros_0f7a4 (Or.inl k_623) (by decide) rfl rfl (Nat.le_of_ble_eq_true rfl) dJ13_numberOfLeadingZeros_95d88_14 (fun r_2 σ_3 hw => ?_)
    refine v_iadd (pc := 17) C dJ13_numberOfLeadingZeros_95d88_17 ?_
    refine v_goto (pc := 18) (tgt := 25) C dJ13_numberOfLeadingZeros_95d88_18 (by decide) ?_
    exact v_iret (pc := 25) C r hw dJ13_numberOfLeadingZeros_95d88_25

theorem w_X11_greatestStep_L8 {X : Cx} {G : Gl} {P : Int32 → Mem → Prop} {x0 : Int64} (C : Ck X G RX11 cX11_greatestStep 5 1) (r : RetI X G .int P) : ∀ (n : Nat) (x2 : Int32) (x3 : Int32) (x4 : Int32) (σ : Mem), v_X11_greatestStep_L8 x0 P n x2 x3 x4 σ → V X G 5 8 [(0, .long x0), (2, .int x2), (3, .int x3), (4, .int x4)] [] σ := by
  intro n
  induction n with
  | zero => intro x2 x3 x4 σ hw; exact hw.elim
  | succ n ih =>
    intro x2 x3 x4 σ hw
    refine v_iload (pc := 8) 3 C dX11_greatestStep_8 rfl ?_
    refine v_bipush (pc := 10) (v := 61) C dX11_greatestStep_10 (by decide) ?_
    refine v_icmp_ge (pc := 12) (tgt := 48) C dX11_greatestStep_12 (by decide) (fun c => ?_) (fun c => ?_)
    · replace hw := hw.1 c
      refine v_iload_n (pc := 48) 1 C dX11_greatestStep_48 rfl rfl ?_
      exact v_iret (pc := 49) C r hw dX11_greatestStep_49
    · replace hw := hw.2 c
      refine v_lload_n (pc := 15) 0 C dX11_greatestStep_15 rfl rfl ?_
      refine v_iload (pc := 16) 3 C dX11_greatestStep_16 rfl ?_
      refine v_callSi (pc := 18) (As := [.long x0, .int x4]) (rest := []) C (c_X11_hasBit hw) pk_X11_hasBit (Or.inl k_540) (by decide) rfl rfl (Nat.le_of_ble_eq_true rfl) dX11_greatestStep_18 (fun r_1 σ_2 hw => ?_)
      refine v_if_eq (pc := 21) (tgt := 42) C dX11_greatestStep_21 (by decide) (fun c => ?_) (fun c => ?_)
      · replace hw := hw.1 c
        refine v_iinc (pc := 42) (v := x4 + 1) 3 C dX11_greatestStep_42 rfl rfl (by decide) rfl ?_
        refine v_goto (pc := 45) (tgt := 8) C dX11_greatestStep_45 (by decide) ?_
        refine v_sub [1, 2, 3, 0] rfl ?_
        exact ih _ _ _ _ hw
      · replace hw := hw.2 c
        refine v_iload_n (pc := 24) 2 C dX11_greatestStep_24 rfl rfl ?_
        refine v_bipush (pc := 25) (v := (-9)) C dX11_greatestStep_25 (by decide) ?_
        refine v_icmp_eq (pc := 27) (tgt := 39) C dX11_greatestStep_27 (by decide) (fun c => ?_) (fun c => ?_)
        · replace hw := hw.1 c
          refine v_iload (pc := 39) 3 C dX11_greatestStep_39 rfl ?_
          refine v_istore_n (pc := 41) C dX11_greatestStep_41 rfl (by decide) rfl ?_
          refine v_iinc (pc := 42) (v := x4 + 1) 3 C dX11_greatestStep_42 rfl rfl (by decide) rfl ?_
          refine v_goto (pc := 45) (tgt := 8) C dX11_greatestStep_45 (by decide) ?_
          refine v_sub [2, 3, 1, 0] rfl ?_
          exact ih _ _ _ _ hw
        · replace hw := hw.2 c
          refine v_iload_n (pc := 30) 1 C dX11_greatestStep_30 rfl rfl ?_
          refine v_iload (pc := 31) 3 C dX11_greatestStep_31 rfl ?_
          refine v_iload_n (pc := 33) 2 C dX11_greatestStep_33 rfl rfl ?_
          refine v_isub (pc := 34) C dX11_greatestStep_34 ?_
          refine v_callSi (pc := 35) (As := [.int x2, .int (x4 - x3)]) (rest := []) C (c_J9_max_7cf53 hw) pk_J9_max_7cf53 (Or.inl k_629) (by decide) rfl rfl (Nat.le_of_ble_eq_true rfl) dX11_greatestStep_35 (fun r_3 σ_4 hw => ?_)
          refine v_istore_n (pc := 38) C dX11_greatestStep_38 rfl (by decide) rfl ?_
          refine v_iload (pc := 39) 3 C dX11_greatestStep_39 rfl ?_
          refine v_istore_n (pc := 41) C dX11_greatestStep_41 rfl (by decide) rfl ?_
          refine v_iinc (pc := 42) (v := x4 + 1) 3 C dX11_greatestStep_42 rfl rfl (by decide) rfl ?_
          refine v_goto (pc := 45) (tgt := 8) C dX11_greatestStep_45 (by decide) ?_
          refine v_sub [3, 2, 1, 0] rfl ?_
          exact ih _ _ _ _ hw

theorem c_X11_greatestStep {l : Launch} {G : Gl} {a0 : Int64} {σ : Mem} {P : Int32 → Mem → Prop} (hw : v_X11_greatestStep a0 σ P) : MetI l yX11_greatestStep cX11_greatestStep 5 .int 1 G [.long a0] σ P := by
  refine MetI.of RX11 (by decide +kernel) rfl (Nat.le_of_ble_eq_true rfl) (fun X C r => ?_)
  show V X G 5 0 [(0, .long a0)] [] σ
  unfold v_X11_greatestStep at hw
  refine v_iconst (pc := 0) (v := 0) C dX11_greatestStep_0 (by decide) ?_
  refine v_istore_n (pc := 1) C dX11_greatestStep_1 rfl (by decide) rfl ?_
  refine v_bipush (pc := 2) (v := (-9)) C dX11_greatestStep_2 (by decide) ?_
  refine v_istore_n (pc := 4) C dX11_greatestStep_4 rfl (by decide) rfl ?_
  refine v_iconst (pc := 5) (v := 0) C dX11_greatestStep_5 (by decide) ?_
  refine v_istore (pc := 6) C dX11_greatestStep_6 (by decide) rfl ?_
  refine v_sub [3, 2, 1, 0] rfl ?_
  refine w_X11_greatestStep_L8 C r 5000 _ _ _ _ hw

theorem c_X11_strum {l : Launch} {G : Gl} {a1 : Int32} {a2 : Int32} {σ : Mem} {P : Int32 → Mem → Prop} (hw : v_X11_strum a1 a2 σ P) : MetI l yX11_strum cX11_strum 7 .int 2 G [.ref (gA G 0), .int a1, .int a2] σ P := by
  refine MetI.of RX11 (by decide +kernel) rfl (Nat.le_of_ble_eq_true rfl) (fun X C r => ?_)
  show V X G 7 0 [(0, .ref (gA G 0)), (1, .int a1), (2, .int a2)] [] σ
  unfold v_X11_strum at hw
  refine v_aload_n (pc := 0) 0 C dX11_strum_0 rfl rfl ?_
  refine g_11_1 (pc := 1) C k_351 dX11_strum_1 ?_
  refine v_iload_n (pc := 4) 1 C dX11_strum_4 rfl rfl ?_
  refine v_cVi (pc := 5) (o := 5) (As := [.int a1]) (rest := []) (ci := 7) C (c_X7_isSet hw) pk_X7_isSet k_532 rfl (by decide) rfl (by decide) rfl rfl (Nat.le_of_ble_eq_true rfl) dX11_strum_5 (fun r_1 σ_2 hw => ?_)
  refine v_if_ne (pc := 8) (tgt := 14) C dX11_strum_8 (by decide) (fun c => ?_) (fun c => ?_)
  · replace hw := hw.2 c
    refine v_aload_n (pc := 14) 0 C dX11_strum_14 rfl rfl ?_
    refine g_11_0 (pc := 15) C k_350 dX11_strum_15 ?_
    refine v_cVl (pc := 18) (o := 1) (As := []) (rest := []) (ci := 10) C (c_X10_all hw) pk_X10_all k_557 rfl (by decide) rfl (by decide) rfl rfl (Nat.le_of_ble_eq_true rfl) dX11_strum_18 (fun r_3 σ_4 hw => ?_)
    refine v_aload_n (pc := 21) 0 C dX11_strum_21 rfl rfl ?_
    refine g_11_1 (pc := 22) C k_351 dX11_strum_22 ?_
    refine v_iload_n (pc := 25) 1 C dX11_strum_25 rfl rfl ?_
    refine v_cVl (pc := 26) (o := 5) (As := [.int a1]) (rest := [.long r_3]) (ci := 7) C (c_X7_hushed hw) pk_X7_hushed k_536 rfl (by decide) rfl (by decide) rfl rfl (Nat.le_of_ble_eq_true rfl) dX11_strum_26 (fun r_5 σ_6 hw => ?_)
    refine v_ldc2 (pc := 29) C k_518 dX11_strum_29 ?_
    refine v_lxor (pc := 32) C dX11_strum_32 ?_
    refine v_land (pc := 33) C dX11_strum_33 ?_
    refine v_lstore_n (pc := 34) C dX11_strum_34 rfl (by decide) rfl ?_
    refine v_aload_n (pc := 35) 1 C dX11_strum_35 rfl rfl ?_
    refine g_11_0 (pc := 36) C k_350 dX11_strum_36 ?_
    refine v_lload_n (pc := 39) 0 C dX11_strum_39 rfl rfl ?_
    refine v_cVl (pc := 40) (o := 1) (As := [.long (r_3 &&& (r_5 ^^^ -1))]) (rest := []) (ci := 10) C (c_X10_tonesAmong hw) pk_X10_tonesAmong k_609 rfl (by decide) rfl (by decide) rfl rfl (Nat.le_of_ble_eq_true rfl) dX11_strum_40 (fun r_7 σ_8 hw => ?_)
    refine v_lstore (pc := 43) C dX11_strum_43 (by decide) rfl ?_
    refine v_iload_n (pc := 45) 4 C dX11_strum_45 rfl rfl ?_
    by_cases c0 : a2 = 0
    · replace hw := hw.1 c0
      refine v_tableIn (pc := 46) (tgt := 76) (off := 30) C dX11_strum_46 (by rw [c0]; decide) (by rw [c0]; decide) (by rw [c0]; rfl) (by decide) ?_
      refine v_lload_n (pc := 76) 1 C dX11_strum_76 rfl rfl ?_
      refine v_callSi (pc := 77) (As := [.long (r_3 &&& (r_5 ^^^ -1))]) (rest := []) C (c_J13_bitCount_95d88 hw) pk_J13_bitCount_95d88 (Or.inl k_511) (by decide) rfl rfl (Nat.le_of_ble_eq_true rfl) dX11_strum_77 (fun r_9 σ_10 hw => ?_)
      exact v_iret (pc := 80) C r hw dX11_strum_80
    · replace hw := hw.2 c0
      by_cases c1 : a2 = 1
      · replace hw := hw.1 c1
        refine v_tableIn (pc := 46) (tgt := 81) (off := 35) C dX11_strum_46 (by rw [c1]; decide) (by rw [c1]; decide) (by rw [c1]; rfl) (by decide) ?_
        refine v_lload (pc := 81) 0 C dX11_strum_81 rfl ?_
        refine v_lconst (pc := 83) (v := 0) C dX11_strum_83 rfl ?_
        refine v_lcmp_ne (pc := 84) (tgt := 93) C dX11_strum_84 dX11_strum_85 (by decide) (fun c => ?_) (fun c => ?_)
        · replace hw := hw.2 c
          refine v_lload (pc := 93) 0 C dX11_strum_93 rfl ?_
          refine v_callSi (pc := 95) (As := [.long r_7]) (rest := []) C (c_J13_numberOfTrailingZeros_95d88 hw) pk_J13_numberOfTrailingZeros_95d88 (Or.inl k_613) (by decide) rfl rfl (Nat.le_of_ble_eq_true rfl) dX11_strum_95 (fun r_11 σ_12 hw => ?_)
          exact v_iret (pc := 98) C r hw dX11_strum_98
        · replace hw := hw.1 c
          refine v_bipush (pc := 88) (v := (-9)) C dX11_strum_88 (by decide) ?_
          refine v_goto (pc := 90) (tgt := 98) C dX11_strum_90 (by decide) ?_
          exact v_iret (pc := 98) C r hw dX11_strum_98
      · replace hw := hw.2 c1
        by_cases c2 : a2 = 2
        · replace hw := hw.1 c2
          refine v_tableIn (pc := 46) (tgt := 99) (off := 53) C dX11_strum_46 (by rw [c2]; decide) (by rw [c2]; decide) (by rw [c2]; rfl) (by decide) ?_
          refine v_lload (pc := 99) 0 C dX11_strum_99 rfl ?_
          refine v_lconst (pc := 101) (v := 0) C dX11_strum_101 rfl ?_
          refine v_lcmp_ne (pc := 102) (tgt := 111) C dX11_strum_102 dX11_strum_103 (by decide) (fun c => ?_) (fun c => ?_)
          · replace hw := hw.2 c
            refine v_bipush (pc := 111) (v := 63) C dX11_strum_111 (by decide) ?_
            refine v_lload (pc := 113) 0 C dX11_strum_113 rfl ?_
            refine v_callSi (pc := 115) (As := [.long r_7]) (rest := [.int 63]) C (c_J13_numberOfLeadingZeros_95d88 hw) pk_J13_numberOfLeadingZeros_95d88 (Or.inl k_620) (by decide) rfl rfl (Nat.le_of_ble_eq_true rfl) dX11_strum_115 (fun r_13 σ_14 hw => ?_)
            refine v_isub (pc := 118) C dX11_strum_118 ?_
            exact v_iret (pc := 119) C r hw dX11_strum_119
          · replace hw := hw.1 c
            refine v_bipush (pc := 106) (v := (-9)) C dX11_strum_106 (by decide) ?_
            refine v_goto (pc := 108) (tgt := 119) C dX11_strum_108 (by decide) ?_
            exact v_iret (pc := 119) C r hw dX11_strum_119
        · replace hw := hw.2 c2
          by_cases c3 : a2 = 3
          · replace hw := hw.1 c3
            refine v_tableIn (pc := 46) (tgt := 120) (off := 74) C dX11_strum_46 (by rw [c3]; decide) (by rw [c3]; decide) (by rw [c3]; rfl) (by decide) ?_
            refine v_lload (pc := 120) 0 C dX11_strum_120 rfl ?_
            refine v_callSi (pc := 122) (As := [.long r_7]) (rest := []) C (c_X11_greatestStep hw) pk_X11_greatestStep (Or.inl k_626) (by decide) rfl rfl (Nat.le_of_ble_eq_true rfl) dX11_strum_122 (fun r_15 σ_16 hw => ?_)
            exact v_iret (pc := 125) C r hw dX11_strum_125
          · replace hw := hw.2 c3
            refine v_tableOut (pc := 46) (tgt := 126) C dX11_strum_46 (by have e0 := ne_toInt (k := 0) c0 (by decide); have e1 := ne_toInt (k := 1) c1 (by decide); have e2 := ne_toInt (k := 2) c2 (by decide); have e3 := ne_toInt (k := 3) c3 (by decide); omega) (by decide) ?_
            refine v_bipush (pc := 126) (v := (-2)) C dX11_strum_126 (by decide) ?_
            exact v_iret (pc := 128) C r hw dX11_strum_128
  · replace hw := hw.1 c
    refine v_bipush (pc := 11) (v := (-2)) C dX11_strum_11 (by decide) ?_
    exact v_iret (pc := 13) C r hw dX11_strum_13

theorem c_X11_isSheet {l : Launch} {G : Gl} {a0 : Int32} {σ : Mem} {P : Int32 → Mem → Prop} (hw : v_X11_isSheet a0 σ P) : MetI l yX11_isSheet cX11_isSheet 1 .boolean 0 G [.int a0] σ P := by
  refine MetI.of RX11 (by decide +kernel) rfl (Nat.le_of_ble_eq_true rfl) (fun X C r => ?_)
  show V X G 1 0 [(0, .int a0)] [] σ
  unfold v_X11_isSheet at hw
  refine v_iload_n (pc := 0) 0 C dX11_isSheet_0 rfl rfl ?_
  refine v_if_lt (pc := 1) (tgt := 13) C dX11_isSheet_1 (by decide) (fun c => ?_) (fun c => ?_)
  · replace hw := hw.1 c
    refine v_iconst (pc := 13) (v := 0) C dX11_isSheet_13 (by decide) ?_
    exact v_zret (pc := 14) C r (Or.inl rfl) hw dX11_isSheet_14
  · replace hw := hw.2 c
    refine v_iload_n (pc := 4) 0 C dX11_isSheet_4 rfl rfl ?_
    refine v_iconst (pc := 5) (v := 4) C dX11_isSheet_5 (by decide) ?_
    refine v_icmp_ge (pc := 6) (tgt := 13) C dX11_isSheet_6 (by decide) (fun c => ?_) (fun c => ?_)
    · replace hw := hw.1 c
      refine v_iconst (pc := 13) (v := 0) C dX11_isSheet_13 (by decide) ?_
      exact v_zret (pc := 14) C r (Or.inl rfl) hw dX11_isSheet_14
    · replace hw := hw.2 c
      refine v_iconst (pc := 9) (v := 1) C dX11_isSheet_9 (by decide) ?_
      refine v_goto (pc := 10) (tgt := 14) C dX11_isSheet_10 (by decide) ?_
      exact v_zret (pc := 14) C r (Or.inr rfl) hw dX11_isSheet_14

theorem c_X11_isLane {l : Launch} {G : Gl} {a0 : Int32} {σ : Mem} {P : Int32 → Mem → Prop} (hw : v_X11_isLane a0 σ P) : MetI l yX11_isLane cX11_isLane 1 .boolean 0 G [.int a0] σ P := by
  refine MetI.of RX11 (by decide +kernel) rfl (Nat.le_of_ble_eq_true rfl) (fun X C r => ?_)
  show V X G 1 0 [(0, .int a0)] [] σ
  unfold v_X11_isLane at hw
  refine v_iload_n (pc := 0) 0 C dX11_isLane_0 rfl rfl ?_
  refine v_if_lt (pc := 1) (tgt := 13) C dX11_isLane_1 (by decide) (fun c => ?_) (fun c => ?_)
  · replace hw := hw.1 c
    refine v_iconst (pc := 13) (v := 0) C dX11_isLane_13 (by decide) ?_
    exact v_zret (pc := 14) C r (Or.inl rfl) hw dX11_isLane_14
  · replace hw := hw.2 c
    refine v_iload_n (pc := 4) 0 C dX11_isLane_4 rfl rfl ?_
    refine v_iconst (pc := 5) (v := 3) C dX11_isLane_5 (by decide) ?_
    refine v_icmp_ge (pc := 6) (tgt := 13) C dX11_isLane_6 (by decide) (fun c => ?_) (fun c => ?_)
    · replace hw := hw.1 c
      refine v_iconst (pc := 13) (v := 0) C dX11_isLane_13 (by decide) ?_
      exact v_zret (pc := 14) C r (Or.inl rfl) hw dX11_isLane_14
    · replace hw := hw.2 c
      refine v_iconst (pc := 9) (v := 1) C dX11_isLane_9 (by decide) ?_
      refine v_goto (pc := 10) (tgt := 14) C dX11_isLane_10 (by decide) ?_
      exact v_zret (pc := 14) C r (Or.inr rfl) hw dX11_isLane_14

theorem c_X11_fail {l : Launch} {G : Gl} {a1 : Int32} {σ : Mem} {P : Int32 → Mem → Prop} (hw : v_X11_fail a1 σ P) : MetI l yX11_fail cX11_fail 2 .int 0 G [.ref (gA G 0), .int a1] σ P := by
  refine MetI.of RX11 (by decide +kernel) rfl (Nat.le_of_ble_eq_true rfl) (fun X C r => ?_)
  show V X G 2 0 [(0, .ref (gA G 0)), (1, .int a1)] [] σ
  unfold v_X11_fail at hw
  refine v_aload_n (pc := 0) 0 C dX11_fail_0 rfl rfl ?_
  refine v_iload_n (pc := 1) 1 C dX11_fail_1 rfl rfl ?_
  refine p_11_10 (pc := 2) C k_360 dX11_fail_2 ?_
  refine v_bipush (pc := 5) (v := (-10)) C dX11_fail_5 (by decide) ?_
  refine v_iload_n (pc := 7) 1 C dX11_fail_7 rfl rfl ?_
  refine v_isub (pc := 8) C dX11_fail_8 ?_
  exact v_iret (pc := 9) C r hw dX11_fail_9

theorem w_X11_hasSong_L2 {X : Cx} {G : Gl} {P : Int32 → Mem → Prop} {o0 : Nat} {x1 : Int32} {x2 : Int32} (C : Ck X G RX11 cX11_hasSong 5 1) (r : RetI X G .boolean P) (h0 : kd o0 = (8, 0)) : ∀ (n : Nat) (x3 : Int32) (σ : Mem), v_X11_hasSong_L2 o0 x1 x2 P n x3 σ → V X G 5 2 [(0, .ref (gA G o0)), (1, .int x1), (2, .int x2), (3, .int x3)] [] σ := by
  intro n
  induction n with
  | zero => intro x3 σ hw; exact hw.elim
  | succ n ih =>
    intro x3 σ hw
    refine v_iload_n (pc := 2) 3 C dX11_hasSong_2 rfl rfl ?_
    refine v_iload_n (pc := 3) 2 C dX11_hasSong_3 rfl rfl ?_
    refine v_icmp_ge (pc := 4) (tgt := 59) C dX11_hasSong_4 (by decide) (fun c => ?_) (fun c => ?_)
    · replace hw := hw.1 c
      refine v_iconst (pc := 59) (v := 1) C dX11_hasSong_59 (by decide) ?_
      exact v_zret (pc := 60) C r (Or.inr rfl) hw dX11_hasSong_60
    · replace hw := hw.2 c
      refine v_aload_n (pc := 7) 0 C dX11_hasSong_7 rfl rfl ?_
      refine g_8_0 (pc := 8) h0 C k_340 dX11_hasSong_8 ?_
      refine v_iload_n (pc := 11) 1 C dX11_hasSong_11 rfl rfl ?_
      refine v_iconst (pc := 12) (v := 2) C dX11_hasSong_12 (by decide) ?_
      refine v_iload_n (pc := 13) 3 C dX11_hasSong_13 rfl rfl ?_
      refine v_imul (pc := 14) C dX11_hasSong_14 ?_
      refine v_iadd (pc := 15) C dX11_hasSong_15 ?_
      refine v_iconst (pc := 16) (v := 1) C dX11_hasSong_16 (by decide) ?_
      refine v_iadd (pc := 17) C dX11_hasSong_17 ?_
      refine v_iald (pc := 18) C (kds_8 _ (kd_lt h0 (by decide)) h0) hw.1 dX11_hasSong_18 ?_
      replace hw := hw.2
      refine v_istore (pc := 19) C dX11_hasSong_19 (by decide) rfl ?_
      refine v_aload_n (pc := 21) 1 C dX11_hasSong_21 rfl rfl ?_
      refine g_8_0 (pc := 22) h0 C k_340 dX11_hasSong_22 ?_
      refine v_iload_n (pc := 25) 2 C dX11_hasSong_25 rfl rfl ?_
      refine v_iconst (pc := 26) (v := 2) C dX11_hasSong_26 (by decide) ?_
      refine v_iload_n (pc := 27) 4 C dX11_hasSong_27 rfl rfl ?_
      refine v_imul (pc := 28) C dX11_hasSong_28 ?_
      refine v_iadd (pc := 29) C dX11_hasSong_29 ?_
      refine v_iald (pc := 30) C (kds_8 _ (kd_lt h0 (by decide)) h0) hw.1 dX11_hasSong_30 ?_
      replace hw := hw.2
      refine v_callSi (pc := 31) (As := [.int (σ.1 (o0 + 4) (Int32.toNatClampNeg (x1 + (2 * x3))))]) (rest := []) C (c_X11_isChord hw) pk_X11_isChord (Or.inl k_426) (by decide) rfl rfl (Nat.le_of_ble_eq_true rfl) dX11_hasSong_31 (fun r_1 σ_2 hw => ?_)
      refine v_if_eq (pc := 34) (tgt := 51) C dX11_hasSong_34 (by decide) (fun c => ?_) (fun c => ?_)
      · replace hw := hw.1 c
        refine v_iconst (pc := 51) (v := 0) C dX11_hasSong_51 (by decide) ?_
        exact v_zret (pc := 52) C r (Or.inl rfl) hw dX11_hasSong_52
      · replace hw := hw.2 c
        refine v_iload (pc := 37) 0 C dX11_hasSong_37 rfl ?_
        refine v_iconst (pc := 39) (v := (-1)) C dX11_hasSong_39 (by decide) ?_
        refine v_icmp_eq (pc := 40) (tgt := 53) C dX11_hasSong_40 (by decide) (fun c => ?_) (fun c => ?_)
        · replace hw := hw.1 c
          refine v_iinc (pc := 53) (v := x3 + 1) 4 C dX11_hasSong_53 rfl rfl (by decide) rfl ?_
          refine v_goto (pc := 56) (tgt := 2) C dX11_hasSong_56 (by decide) ?_
          refine v_sub [2, 3, 4, 0] rfl ?_
          exact ih _ _ hw
        · replace hw := hw.2 c
          refine v_iload (pc := 43) 0 C dX11_hasSong_43 rfl ?_
          refine v_callSi (pc := 45) (As := [.int (σ.1 (o0 + 4) (Int32.toNatClampNeg ((x1 + (2 * x3)) + 1)))]) (rest := []) C (c_X11_isTone hw) pk_X11_isTone (Or.inl k_388) (by decide) rfl rfl (Nat.le_of_ble_eq_true rfl) dX11_hasSong_45 (fun r_3 σ_4 hw => ?_)
          refine v_if_ne (pc := 48) (tgt := 53) C dX11_hasSong_48 (by decide) (fun c => ?_) (fun c => ?_)
          · replace hw := hw.2 c
            refine v_iinc (pc := 53) (v := x3 + 1) 4 C dX11_hasSong_53 rfl rfl (by decide) rfl ?_
            refine v_goto (pc := 56) (tgt := 2) C dX11_hasSong_56 (by decide) ?_
            refine v_sub [2, 3, 4, 0] rfl ?_
            exact ih _ _ hw
          · replace hw := hw.1 c
            refine v_iconst (pc := 51) (v := 0) C dX11_hasSong_51 (by decide) ?_
            exact v_zret (pc := 52) C r (Or.inl rfl) hw dX11_hasSong_52

theorem c_X11_hasSong {l : Launch} {G : Gl} {o0 : Nat} {a1 : Int32} {a2 : Int32} {σ : Mem} {P : Int32 → Mem → Prop} (h0 : kd o0 = (8, 0)) (hw : v_X11_hasSong o0 a1 a2 σ P) : MetI l yX11_hasSong cX11_hasSong 5 .boolean 1 G [.ref (gA G o0), .int a1, .int a2] σ P := by
  refine MetI.of RX11 (by decide +kernel) rfl (Nat.le_of_ble_eq_true rfl) (fun X C r => ?_)
  show V X G 5 0 [(0, .ref (gA G o0)), (1, .int a1), (2, .int a2)] [] σ
  unfold v_X11_hasSong at hw
  refine v_iconst (pc := 0) (v := 0) C dX11_hasSong_0 (by decide) ?_
  refine v_istore_n (pc := 1) C dX11_hasSong_1 rfl (by decide) rfl ?_
  refine v_sub [1, 2, 3, 0] rfl ?_
  refine w_X11_hasSong_L2 C r h0 5000 _ _ hw

theorem w_X11_song_J77 {X : Cx} {G : Gl} {P : Int32 → Mem → Prop} (C : Ck X G RX11 cX11_song 7 2) (r : RetI X G .int P) (x3 : Int32) (x4 : Int32) (o5 : Nat) (x6 : Int32) (h5 : kd o5 = (8, 0)) (σ : Mem) (hw : v_X11_song_J77 P x3 x4 o5 x6 σ) : V X G 7 77 [(0, .ref (gA G 0)), (3, .int x3), (4, .int x4), (5, .ref (gA G o5)), (6, .int x6)] [] σ := by
  unfold v_X11_song_J77 at hw
  refine v_iload (pc := 77) 4 C dX11_song_77 rfl ?_
  refine v_if_eq (pc := 79) (tgt := 89) C dX11_song_79 (by decide) (fun c => ?_) (fun c => ?_)
  · replace hw := hw.1 c
    refine v_iload (pc := 89) 2 C dX11_song_89 rfl ?_
    refine v_iconst (pc := 91) (v := 1) C dX11_song_91 (by decide) ?_
    refine v_icmp_lt (pc := 92) (tgt := 113) C dX11_song_92 (by decide) (fun c => ?_) (fun c => ?_)
    · replace hw := hw.1 c
      refine v_bipush (pc := 113) (v := (-2)) C dX11_song_113 (by decide) ?_
      exact v_iret (pc := 115) C r hw dX11_song_115
    · replace hw := hw.2 c
      refine v_iload (pc := 95) 2 C dX11_song_95 rfl ?_
      refine v_bipush (pc := 97) (v := 24) C dX11_song_97 (by decide) ?_
      refine v_icmp_gt (pc := 99) (tgt := 113) C dX11_song_99 (by decide) (fun c => ?_) (fun c => ?_)
      · replace hw := hw.1 c
        refine v_bipush (pc := 113) (v := (-2)) C dX11_song_113 (by decide) ?_
        exact v_iret (pc := 115) C r hw dX11_song_115
      · replace hw := hw.2 c
        refine v_aload (pc := 102) 3 C dX11_song_102 rfl ?_
        refine v_iload_n (pc := 104) 1 C dX11_song_104 rfl rfl ?_
        refine v_iload (pc := 105) 2 C dX11_song_105 rfl ?_
        refine v_callSi (pc := 107) (As := [.ref (gA G o5), .int x3, .int x4]) (rest := []) C (c_X11_hasSong h5 hw) pk_X11_hasSong (Or.inl k_659) (by decide) rfl rfl (Nat.le_of_ble_eq_true rfl) dX11_song_107 (fun r_10 σ_11 hw => ?_)
        refine v_if_ne (pc := 110) (tgt := 116) C dX11_song_110 (by decide) (fun c => ?_) (fun c => ?_)
        · replace hw := hw.2 c
          refine v_aload_n (pc := 116) 0 C dX11_song_116 rfl rfl ?_
          refine g_11_3 (pc := 117) C k_353 dX11_song_117 ?_
          refine v_cVi (pc := 120) (o := 13) (As := []) (rest := []) (ci := 1) C (c_X1_isFull hw) pk_X1_isFull k_662 rfl (by decide) rfl (by decide) rfl rfl (Nat.le_of_ble_eq_true rfl) dX11_song_120 (fun r_12 σ_13 hw => ?_)
          refine v_if_eq (pc := 123) (tgt := 129) C dX11_song_123 (by decide) (fun c => ?_) (fun c => ?_)
          · replace hw := hw.1 c
            refine v_aload_n (pc := 129) 0 C dX11_song_129 rfl rfl ?_
            refine g_11_3 (pc := 130) C k_353 dX11_song_130 ?_
            refine v_aload (pc := 133) 3 C dX11_song_133 rfl ?_
            refine v_iload_n (pc := 135) 1 C dX11_song_135 rfl rfl ?_
            refine v_iload (pc := 136) 2 C dX11_song_136 rfl ?_
            refine v_cVi (pc := 138) (o := 13) (As := [.ref (gA G o5), .int x3, .int x4]) (rest := []) (ci := 1) C (c_X1_add h5 hw) pk_X1_add k_666 rfl (by decide) rfl (by decide) rfl rfl (Nat.le_of_ble_eq_true rfl) dX11_song_138 (fun r_14 σ_15 hw => ?_)
            exact v_iret (pc := 141) C r hw dX11_song_141
          · replace hw := hw.2 c
            refine v_bipush (pc := 126) (v := (-4)) C dX11_song_126 (by decide) ?_
            exact v_iret (pc := 128) C r hw dX11_song_128
        · replace hw := hw.1 c
          refine v_bipush (pc := 113) (v := (-2)) C dX11_song_113 (by decide) ?_
          exact v_iret (pc := 115) C r hw dX11_song_115
  · replace hw := hw.2 c
    refine v_aload_n (pc := 82) 0 C dX11_song_82 rfl rfl ?_
    refine v_iload (pc := 83) 4 C dX11_song_83 rfl ?_
    refine v_cVi (pc := 85) (o := 0) (As := [.int x6]) (rest := []) (ci := 11) C (c_X11_fail hw) pk_X11_fail k_655 rfl (by decide) rfl (by decide) rfl rfl (Nat.le_of_ble_eq_true rfl) dX11_song_85 (fun r_16 σ_17 hw => ?_)
    exact v_iret (pc := 88) C r hw dX11_song_88

theorem w_X11_song_J53 {X : Cx} {G : Gl} {P : Int32 → Mem → Prop} (C : Ck X G RX11 cX11_song 7 2) (r : RetI X G .int P) (x3 : Int32) (x4 : Int32) (o5 : Nat) (x6 : Int32) (h5 : kd o5 = (8, 0)) (σ : Mem) (hw : v_X11_song_J53 P x3 x4 o5 x6 σ) : V X G 7 53 [(0, .ref (gA G 0)), (3, .int x3), (4, .int x4), (5, .ref (gA G o5)), (6, .int x6)] [] σ := by
  unfold v_X11_song_J53 at hw
  refine v_iload (pc := 53) 4 C dX11_song_53 rfl ?_
  refine v_if_ne (pc := 55) (tgt := 77) C dX11_song_55 (by decide) (fun c => ?_) (fun c => ?_)
  · replace hw := hw.2 c
    refine v_sub [0, 1, 2, 3, 4] rfl ?_
    exact w_X11_song_J77 C r _ _ _ _ h5 _ hw
  · replace hw := hw.1 c
    refine v_aload (pc := 58) 3 C dX11_song_58 rfl ?_
    refine v_iload_n (pc := 60) 1 C dX11_song_60 rfl rfl ?_
    refine v_ldc2 (pc := 61) C k_650 dX11_song_61 ?_
    refine v_iload (pc := 64) 2 C dX11_song_64 rfl ?_
    refine v_i2l (pc := 66) C dX11_song_66 ?_
    refine v_lmul (pc := 67) C dX11_song_67 ?_
    refine v_cVi (pc := 68) (o := o5) (As := [.int x3, .long (2 * (Int32.toInt64 x4))]) (rest := []) (ci := 8) C (c_X8_hasCells h5 hw) pk_X8_hasCells k_651 h5 (by decide) rfl (by decide) rfl rfl (Nat.le_of_ble_eq_true rfl) dX11_song_68 (fun r_8 σ_9 hw => ?_)
    refine v_if_ne (pc := 71) (tgt := 77) C dX11_song_71 (by decide) (fun c => ?_) (fun c => ?_)
    · replace hw := hw.2 c
      refine v_sub [0, 1, 2, 3, 4] rfl ?_
      exact w_X11_song_J77 C r _ _ _ _ h5 _ hw
    · replace hw := hw.1 c
      refine v_iconst (pc := 74) (v := 3) C dX11_song_74 (by decide) ?_
      refine v_istore (pc := 75) C dX11_song_75 (by decide) rfl ?_
      refine v_sub [1, 2, 3, 4, 0] rfl ?_
      exact w_X11_song_J77 C r _ _ _ _ h5 _ hw

theorem c_X11_song {l : Launch} {G : Gl} {a1 : Int32} {a2 : Int32} {a3 : Int32} {a4 : Int32} {σ : Mem} {P : Int32 → Mem → Prop} (hw : v_X11_song a1 a2 a3 a4 σ P) : MetI l yX11_song cX11_song 7 .int 2 G [.ref (gA G 0), .int a1, .int a2, .int a3, .int a4] σ P := by
  refine MetI.of RX11 (by decide +kernel) rfl (Nat.le_of_ble_eq_true rfl) (fun X C r => ?_)
  show V X G 7 0 [(0, .ref (gA G 0)), (1, .int a1), (2, .int a2), (3, .int a3), (4, .int a4)] [] σ
  unfold v_X11_song at hw
  refine v_aload_n (pc := 0) 0 C dX11_song_0 rfl rfl ?_
  refine v_iconst (pc := 1) (v := 0) C dX11_song_1 (by decide) ?_
  refine p_11_10 (pc := 2) C k_360 dX11_song_2 ?_
  refine v_iload_n (pc := 5) 1 C dX11_song_5 rfl rfl ?_
  refine v_callSi (pc := 6) (As := [.int a1]) (rest := []) C (c_X11_isSheet hw) pk_X11_isSheet (Or.inl k_636) (by decide) rfl rfl (Nat.le_of_ble_eq_true rfl) dX11_song_6 (fun r_1 σ_2 hw => ?_)
  refine v_if_ne (pc := 9) (tgt := 14) C dX11_song_9 (by decide) (fun c => ?_) (fun c => ?_)
  · replace hw := hw.2 c
    refine v_iload_n (pc := 14) 2 C dX11_song_14 rfl rfl ?_
    refine v_callSi (pc := 15) (As := [.int a2]) (rest := []) C (c_X11_isLane hw) pk_X11_isLane (Or.inl k_639) (by decide) rfl rfl (Nat.le_of_ble_eq_true rfl) dX11_song_15 (fun r_3 σ_4 hw => ?_)
    refine v_if_ne (pc := 18) (tgt := 24) C dX11_song_18 (by decide) (fun c => ?_) (fun c => ?_)
    · replace hw := hw.2 c
      refine v_aload_n (pc := 24) 0 C dX11_song_24 rfl rfl ?_
      refine g_11_8 (pc := 25) C k_358 dX11_song_25 ?_
      refine v_iload_n (pc := 28) 1 C dX11_song_28 rfl rfl ?_
      have q_5 := hw.1
      refine v_aldT (pc := 29) C rfl q_5 dX11_song_29 ?_
      replace hw := hw.2
      refine v_astore (pc := 30) C dX11_song_30 (by decide) rfl ?_
      refine v_aload (pc := 32) 0 C dX11_song_32 rfl ?_
      refine v_iload_n (pc := 34) 3 C dX11_song_34 rfl rfl ?_
      refine v_cVi (pc := 35) (o := bT + Int32.toNatClampNeg a1) (As := [.int a2]) (rest := []) (ci := 8) C (c_X8_faultAs ((kd_sheet (vp_lt q_5)).1) hw) pk_X8_faultAs k_642 ((kd_sheet (vp_lt q_5)).1) (by decide) rfl (by decide) rfl rfl (Nat.le_of_ble_eq_true rfl) dX11_song_35 (fun r_6 σ_7 hw => ?_)
      refine v_istore (pc := 38) C dX11_song_38 (by decide) rfl ?_
      refine v_iload (pc := 40) 0 C dX11_song_40 rfl ?_
      refine v_if_ne (pc := 42) (tgt := 53) C dX11_song_42 (by decide) (fun c => ?_) (fun c => ?_)
      · replace hw := hw.2 c
        refine v_sub [2, 5, 6, 1, 0] rfl ?_
        exact w_X11_song_J53 C r _ _ _ _ ((kd_sheet (vp_lt q_5)).1) _ hw
      · replace hw := hw.1 c
        refine v_iload (pc := 45) 6 C dX11_song_45 rfl ?_
        refine v_if_ge (pc := 47) (tgt := 53) C dX11_song_47 (by decide) (fun c => ?_) (fun c => ?_)
        · replace hw := hw.1 c
          refine v_sub [2, 5, 6, 1, 0] rfl ?_
          exact w_X11_song_J53 C r _ _ _ _ ((kd_sheet (vp_lt q_5)).1) _ hw
        · replace hw := hw.2 c
          refine v_iconst (pc := 50) (v := 4) C dX11_song_50 (by decide) ?_
          refine v_istore (pc := 51) C dX11_song_51 (by decide) rfl ?_
          refine v_sub [2, 5, 6, 1, 0] rfl ?_
          exact w_X11_song_J53 C r _ _ _ _ ((kd_sheet (vp_lt q_5)).1) _ hw
    · replace hw := hw.1 c
      refine v_bipush (pc := 21) (v := (-2)) C dX11_song_21 (by decide) ?_
      exact v_iret (pc := 23) C r hw dX11_song_23
  · replace hw := hw.1 c
    refine v_iconst (pc := 12) (v := (-1)) C dX11_song_12 (by decide) ?_
    exact v_iret (pc := 13) C r hw dX11_song_13

theorem c_X11_hasStep {l : Launch} {G : Gl} {a1 : Int32} {a2 : Int32} {σ : Mem} {P : Int32 → Mem → Prop} (hw : v_X11_hasStep a1 a2 σ P) : MetI l yX11_hasStep cX11_hasStep 3 .boolean 1 G [.ref (gA G 0), .int a1, .int a2] σ P := by
  refine MetI.of RX11 (by decide +kernel) rfl (Nat.le_of_ble_eq_true rfl) (fun X C r => ?_)
  show V X G 3 0 [(0, .ref (gA G 0)), (1, .int a1), (2, .int a2)] [] σ
  unfold v_X11_hasStep at hw
  refine v_aload_n (pc := 0) 0 C dX11_hasStep_0 rfl rfl ?_
  refine g_11_3 (pc := 1) C k_353 dX11_hasStep_1 ?_
  refine v_iload_n (pc := 4) 1 C dX11_hasStep_4 rfl rfl ?_
  refine v_cVi (pc := 5) (o := 13) (As := [.int a1]) (rest := []) (ci := 1) C (c_X1_knows hw) pk_X1_knows k_678 rfl (by decide) rfl (by decide) rfl rfl (Nat.le_of_ble_eq_true rfl) dX11_hasStep_5 (fun r_1 σ_2 hw => ?_)
  refine v_if_eq (pc := 8) (tgt := 35) C dX11_hasStep_8 (by decide) (fun c => ?_) (fun c => ?_)
  · replace hw := hw.1 c
    refine v_iconst (pc := 35) (v := 0) C dX11_hasStep_35 (by decide) ?_
    exact v_zret (pc := 36) C r (Or.inl rfl) hw dX11_hasStep_36
  · replace hw := hw.2 c
    refine v_iload_n (pc := 11) 2 C dX11_hasStep_11 rfl rfl ?_
    refine v_if_lt (pc := 12) (tgt := 35) C dX11_hasStep_12 (by decide) (fun c => ?_) (fun c => ?_)
    · replace hw := hw.1 c
      refine v_iconst (pc := 35) (v := 0) C dX11_hasStep_35 (by decide) ?_
      exact v_zret (pc := 36) C r (Or.inl rfl) hw dX11_hasStep_36
    · replace hw := hw.2 c
      refine v_iload_n (pc := 15) 2 C dX11_hasStep_15 rfl rfl ?_
      refine v_aload_n (pc := 16) 0 C dX11_hasStep_16 rfl rfl ?_
      refine g_11_3 (pc := 17) C k_353 dX11_hasStep_17 ?_
      refine g_1_0 (pc := 20) C k_242 dX11_hasStep_20 ?_
      refine v_iload_n (pc := 23) 1 C dX11_hasStep_23 rfl rfl ?_
      have q_3 := hw.1
      refine v_aldG (pc := 24) C rfl q_3 dX11_hasStep_24 ?_
      replace hw := hw.2
      refine g_9_2 (pc := 25) ((kd_song (vp_lt q_3)).1) C k_223 dX11_hasStep_25 ?_
      refine v_icmp_ge (pc := 28) (tgt := 35) C dX11_hasStep_28 (by decide) (fun c => ?_) (fun c => ?_)
      · replace hw := hw.1 c
        refine v_iconst (pc := 35) (v := 0) C dX11_hasStep_35 (by decide) ?_
        exact v_zret (pc := 36) C r (Or.inl rfl) hw dX11_hasStep_36
      · replace hw := hw.2 c
        refine v_iconst (pc := 31) (v := 1) C dX11_hasStep_31 (by decide) ?_
        refine v_goto (pc := 32) (tgt := 36) C dX11_hasStep_32 (by decide) ?_
        exact v_zret (pc := 36) C r (Or.inr rfl) hw dX11_hasStep_36

theorem c_X11_step {l : Launch} {G : Gl} {a1 : Int32} {a2 : Int32} {a3 : Int32} {σ : Mem} {P : Int32 → Mem → Prop} (hw : v_X11_step a1 a2 a3 σ P) : MetI l yX11_step cX11_step 5 .int 4 G [.ref (gA G 0), .int a1, .int a2, .int a3] σ P := by
  refine MetI.of RX11 (by decide +kernel) rfl (Nat.le_of_ble_eq_true rfl) (fun X C r => ?_)
  show V X G 5 0 [(0, .ref (gA G 0)), (1, .int a1), (2, .int a2), (3, .int a3)] [] σ
  unfold v_X11_step at hw
  refine v_aload_n (pc := 0) 0 C dX11_step_0 rfl rfl ?_
  refine v_iload_n (pc := 1) 1 C dX11_step_1 rfl rfl ?_
  refine v_iload_n (pc := 2) 2 C dX11_step_2 rfl rfl ?_
  refine v_cVi (pc := 3) (o := 0) (As := [.int a1, .int a2]) (rest := []) (ci := 11) C (c_X11_hasStep hw) pk_X11_hasStep k_674 rfl (by decide) rfl (by decide) rfl rfl (Nat.le_of_ble_eq_true rfl) dX11_step_3 (fun r_1 σ_2 hw => ?_)
  refine v_if_ne (pc := 6) (tgt := 11) C dX11_step_6 (by decide) (fun c => ?_) (fun c => ?_)
  · replace hw := hw.2 c
    refine v_aload_n (pc := 11) 0 C dX11_step_11 rfl rfl ?_
    refine g_11_3 (pc := 12) C k_353 dX11_step_12 ?_
    refine g_1_0 (pc := 15) C k_242 dX11_step_15 ?_
    refine v_iload_n (pc := 18) 1 C dX11_step_18 rfl rfl ?_
    have q_3 := hw.1
    refine v_aldG (pc := 19) C rfl q_3 dX11_step_19 ?_
    replace hw := hw.2
    refine v_astore (pc := 20) C dX11_step_20 (by decide) rfl ?_
    refine v_iload_n (pc := 22) 4 C dX11_step_22 rfl rfl ?_
    by_cases c0 : a3 = 0
    · replace hw := hw.1 c0
      refine v_tableIn (pc := 23) (tgt := 52) (off := 29) C dX11_step_23 (by rw [c0]; decide) (by rw [c0]; decide) (by rw [c0]; rfl) (by decide) ?_
      refine v_aload (pc := 52) 0 C dX11_step_52 rfl ?_
      refine v_aload (pc := 54) 0 C dX11_step_54 rfl ?_
      refine g_9_3 (pc := 56) ((kd_song (vp_lt q_3)).1) C k_229 dX11_step_56 ?_
      refine v_iload_n (pc := 59) 3 C dX11_step_59 rfl rfl ?_
      refine v_cVi (pc := 60) (o := bG + Int32.toNatClampNeg a1) (As := [.int (σ_2.1 (bG + Int32.toNatClampNeg a1) 3), .int a2]) (rest := []) (ci := 9) C (c_X9_chordIn ((kd_song (vp_lt q_3)).1) hw) pk_X9_chordIn k_682 ((kd_song (vp_lt q_3)).1) (by decide) rfl (by decide) rfl rfl (Nat.le_of_ble_eq_true rfl) dX11_step_60 (fun r_4 σ_5 hw => ?_)
      exact v_iret (pc := 63) C r hw dX11_step_63
    · replace hw := hw.2 c0
      by_cases c1 : a3 = 1
      · replace hw := hw.1 c1
        refine v_tableIn (pc := 23) (tgt := 64) (off := 41) C dX11_step_23 (by rw [c1]; decide) (by rw [c1]; decide) (by rw [c1]; rfl) (by decide) ?_
        refine v_aload (pc := 64) 0 C dX11_step_64 rfl ?_
        refine v_iload_n (pc := 66) 3 C dX11_step_66 rfl rfl ?_
        refine v_cVi (pc := 67) (o := bG + Int32.toNatClampNeg a1) (As := [.int a2]) (rest := []) (ci := 9) C (c_X9_hasNote ((kd_song (vp_lt q_3)).1) hw) pk_X9_hasNote k_689 ((kd_song (vp_lt q_3)).1) (by decide) rfl (by decide) rfl rfl (Nat.le_of_ble_eq_true rfl) dX11_step_67 (fun r_6 σ_7 hw => ?_)
        refine v_if_eq (pc := 70) (tgt := 87) C dX11_step_70 (by decide) (fun c => ?_) (fun c => ?_)
        · replace hw := hw.1 c
          refine v_bipush (pc := 87) (v := (-9)) C dX11_step_87 (by decide) ?_
          exact v_iret (pc := 89) C r hw dX11_step_89
        · replace hw := hw.2 c
          refine v_aload (pc := 73) 0 C dX11_step_73 rfl ?_
          refine v_aload (pc := 75) 0 C dX11_step_75 rfl ?_
          refine g_9_3 (pc := 77) ((kd_song (vp_lt q_3)).1) C k_229 dX11_step_77 ?_
          refine v_iload_n (pc := 80) 3 C dX11_step_80 rfl rfl ?_
          refine v_cVi (pc := 81) (o := bG + Int32.toNatClampNeg a1) (As := [.int (σ_7.1 (bG + Int32.toNatClampNeg a1) 3), .int a2]) (rest := []) (ci := 9) C (c_X9_noteIn ((kd_song (vp_lt q_3)).1) hw) pk_X9_noteIn k_693 ((kd_song (vp_lt q_3)).1) (by decide) rfl (by decide) rfl rfl (Nat.le_of_ble_eq_true rfl) dX11_step_81 (fun r_8 σ_9 hw => ?_)
          refine v_goto (pc := 84) (tgt := 89) C dX11_step_84 (by decide) ?_
          exact v_iret (pc := 89) C r hw dX11_step_89
      · replace hw := hw.2 c1
        by_cases c2 : a3 = 2
        · replace hw := hw.1 c2
          refine v_tableIn (pc := 23) (tgt := 90) (off := 67) C dX11_step_23 (by rw [c2]; decide) (by rw [c2]; decide) (by rw [c2]; rfl) (by decide) ?_
          refine v_aload_n (pc := 90) 1 C dX11_step_90 rfl rfl ?_
          refine v_cVv (pc := 91) (o := 0) (As := []) (rest := []) (ci := 11) C (c_X11_lookAtGrips hw) pk_X11_lookAtGrips k_565 rfl (by decide) rfl (by decide) rfl rfl (Nat.le_of_ble_eq_true rfl) dX11_step_91 (fun σ_10 hw => ?_)
          refine v_aload_n (pc := 94) 1 C dX11_step_94 rfl rfl ?_
          refine g_11_2 (pc := 95) C k_352 dX11_step_95 ?_
          refine v_aload (pc := 98) 0 C dX11_step_98 rfl ?_
          refine v_aload (pc := 100) 0 C dX11_step_100 rfl ?_
          refine g_9_3 (pc := 102) ((kd_song (vp_lt q_3)).1) C k_229 dX11_step_102 ?_
          refine v_iload_n (pc := 105) 3 C dX11_step_105 rfl rfl ?_
          refine v_cVi (pc := 106) (o := 7) (As := [.ref (gA G (bG + Int32.toNatClampNeg a1)), .int (σ_10.1 (bG + Int32.toNatClampNeg a1) 3), .int a2]) (rest := []) (ci := 4) C (c_X4_missesChord ((kd_song (vp_lt q_3)).1) hw) pk_X4_missesChord k_697 rfl (by decide) rfl (by decide) rfl rfl (Nat.le_of_ble_eq_true rfl) dX11_step_106 (fun r_11 σ_12 hw => ?_)
          refine v_callSi (pc := 109) (As := [.int r_11]) (rest := []) C (c_X11_asNumber hw) pk_X11_asNumber (Or.inl k_469) (by decide) rfl rfl (Nat.le_of_ble_eq_true rfl) dX11_step_109 (fun r_13 σ_14 hw => ?_)
          exact v_iret (pc := 112) C r hw dX11_step_112
        · replace hw := hw.2 c2
          by_cases c3 : a3 = 3
          · replace hw := hw.1 c3
            refine v_tableIn (pc := 23) (tgt := 113) (off := 90) C dX11_step_23 (by rw [c3]; decide) (by rw [c3]; decide) (by rw [c3]; rfl) (by decide) ?_
            refine v_aload_n (pc := 113) 1 C dX11_step_113 rfl rfl ?_
            refine v_cVv (pc := 114) (o := 0) (As := []) (rest := []) (ci := 11) C (c_X11_lookAtGrips hw) pk_X11_lookAtGrips k_565 rfl (by decide) rfl (by decide) rfl rfl (Nat.le_of_ble_eq_true rfl) dX11_step_114 (fun σ_15 hw => ?_)
            refine v_aload_n (pc := 117) 1 C dX11_step_117 rfl rfl ?_
            refine g_11_2 (pc := 118) C k_352 dX11_step_118 ?_
            refine v_aload (pc := 121) 0 C dX11_step_121 rfl ?_
            refine v_aload (pc := 123) 0 C dX11_step_123 rfl ?_
            refine g_9_3 (pc := 125) ((kd_song (vp_lt q_3)).1) C k_229 dX11_step_125 ?_
            refine v_iload_n (pc := 128) 3 C dX11_step_128 rfl rfl ?_
            refine v_cVi (pc := 129) (o := 7) (As := [.ref (gA G (bG + Int32.toNatClampNeg a1)), .int (σ_15.1 (bG + Int32.toNatClampNeg a1) 3), .int a2]) (rest := []) (ci := 4) C (c_X4_missesNote ((kd_song (vp_lt q_3)).1) hw) pk_X4_missesNote k_703 rfl (by decide) rfl (by decide) rfl rfl (Nat.le_of_ble_eq_true rfl) dX11_step_129 (fun r_16 σ_17 hw => ?_)
            refine v_callSi (pc := 132) (As := [.int r_16]) (rest := []) C (c_X11_asNumber hw) pk_X11_asNumber (Or.inl k_469) (by decide) rfl rfl (Nat.le_of_ble_eq_true rfl) dX11_step_132 (fun r_18 σ_19 hw => ?_)
            exact v_iret (pc := 135) C r hw dX11_step_135
          · replace hw := hw.2 c3
            refine v_tableOut (pc := 23) (tgt := 136) C dX11_step_23 (by have e0 := ne_toInt (k := 0) c0 (by decide); have e1 := ne_toInt (k := 1) c1 (by decide); have e2 := ne_toInt (k := 2) c2 (by decide); have e3 := ne_toInt (k := 3) c3 (by decide); omega) (by decide) ?_
            refine v_bipush (pc := 136) (v := (-2)) C dX11_step_136 (by decide) ?_
            exact v_iret (pc := 138) C r hw dX11_step_138
  · replace hw := hw.1 c
    refine v_iconst (pc := 9) (v := (-1)) C dX11_step_9 (by decide) ?_
    exact v_iret (pc := 10) C r hw dX11_step_10

theorem c_X11_key {l : Launch} {G : Gl} {a1 : Int32} {a2 : Int32} {σ : Mem} {P : Int32 → Mem → Prop} (hw : v_X11_key a1 a2 σ P) : MetI l yX11_key cX11_key 4 .int 1 G [.ref (gA G 0), .int a1, .int a2] σ P := by
  refine MetI.of RX11 (by decide +kernel) rfl (Nat.le_of_ble_eq_true rfl) (fun X C r => ?_)
  show V X G 4 0 [(0, .ref (gA G 0)), (1, .int a1), (2, .int a2)] [] σ
  unfold v_X11_key at hw
  refine v_aload_n (pc := 0) 0 C dX11_key_0 rfl rfl ?_
  refine g_11_3 (pc := 1) C k_353 dX11_key_1 ?_
  refine v_iload_n (pc := 4) 1 C dX11_key_4 rfl rfl ?_
  refine v_cVi (pc := 5) (o := 13) (As := [.int a1]) (rest := []) (ci := 1) C (c_X1_knows hw) pk_X1_knows k_678 rfl (by decide) rfl (by decide) rfl rfl (Nat.le_of_ble_eq_true rfl) dX11_key_5 (fun r_1 σ_2 hw => ?_)
  refine v_if_ne (pc := 8) (tgt := 13) C dX11_key_8 (by decide) (fun c => ?_) (fun c => ?_)
  · replace hw := hw.2 c
    refine v_iload_n (pc := 13) 2 C dX11_key_13 rfl rfl ?_
    refine v_bipush (pc := 14) (v := (-6)) C dX11_key_14 (by decide) ?_
    refine v_icmp_lt (pc := 16) (tgt := 24) C dX11_key_16 (by decide) (fun c => ?_) (fun c => ?_)
    · replace hw := hw.1 c
      refine v_bipush (pc := 24) (v := (-2)) C dX11_key_24 (by decide) ?_
      exact v_iret (pc := 26) C r hw dX11_key_26
    · replace hw := hw.2 c
      refine v_iload_n (pc := 19) 2 C dX11_key_19 rfl rfl ?_
      refine v_iconst (pc := 20) (v := 5) C dX11_key_20 (by decide) ?_
      refine v_icmp_le (pc := 21) (tgt := 27) C dX11_key_21 (by decide) (fun c => ?_) (fun c => ?_)
      · replace hw := hw.1 c
        refine v_aload_n (pc := 27) 0 C dX11_key_27 rfl rfl ?_
        refine g_11_3 (pc := 28) C k_353 dX11_key_28 ?_
        refine g_1_0 (pc := 31) C k_242 dX11_key_31 ?_
        refine v_iload_n (pc := 34) 1 C dX11_key_34 rfl rfl ?_
        have q_3 := hw.1
        refine v_aldG (pc := 35) C rfl q_3 dX11_key_35 ?_
        replace hw := hw.2
        refine g_9_3 (pc := 36) ((kd_song (vp_lt q_3)).1) C k_229 dX11_key_36 ?_
        refine v_istore_n (pc := 39) C dX11_key_39 rfl (by decide) rfl ?_
        refine v_aload_n (pc := 40) 1 C dX11_key_40 rfl rfl ?_
        refine g_11_3 (pc := 41) C k_353 dX11_key_41 ?_
        refine g_1_0 (pc := 44) C k_242 dX11_key_44 ?_
        refine v_iload_n (pc := 47) 2 C dX11_key_47 rfl rfl ?_
        have q_4 := hw.1
        refine v_aldG (pc := 48) C rfl q_4 dX11_key_48 ?_
        replace hw := hw.2
        refine v_iload_n (pc := 49) 3 C dX11_key_49 rfl rfl ?_
        refine p_9_3 (pc := 50) ((kd_song (vp_lt q_4)).1) C k_229 dX11_key_50 ?_
        refine v_iload_n (pc := 53) 0 C dX11_key_53 rfl rfl ?_
        exact v_iret (pc := 54) C r hw dX11_key_54
      · replace hw := hw.2 c
        refine v_bipush (pc := 24) (v := (-2)) C dX11_key_24 (by decide) ?_
        exact v_iret (pc := 26) C r hw dX11_key_26
  · replace hw := hw.1 c
    refine v_iconst (pc := 11) (v := (-1)) C dX11_key_11 (by decide) ?_
    exact v_iret (pc := 12) C r hw dX11_key_12

theorem c_X11_misses {l : Launch} {G : Gl} {a1 : Int32} {a2 : Int32} {σ : Mem} {P : Int32 → Mem → Prop} (hw : v_X11_misses a1 a2 σ P) : MetI l yX11_misses cX11_misses 4 .int 6 G [.ref (gA G 0), .int a1, .int a2] σ P := by
  refine MetI.of RX11 (by decide +kernel) rfl (Nat.le_of_ble_eq_true rfl) (fun X C r => ?_)
  show V X G 4 0 [(0, .ref (gA G 0)), (1, .int a1), (2, .int a2)] [] σ
  unfold v_X11_misses at hw
  refine v_aload_n (pc := 0) 0 C dX11_misses_0 rfl rfl ?_
  refine g_11_3 (pc := 1) C k_353 dX11_misses_1 ?_
  refine v_iload_n (pc := 4) 1 C dX11_misses_4 rfl rfl ?_
  refine v_cVi (pc := 5) (o := 13) (As := [.int a1]) (rest := []) (ci := 1) C (c_X1_knows hw) pk_X1_knows k_678 rfl (by decide) rfl (by decide) rfl rfl (Nat.le_of_ble_eq_true rfl) dX11_misses_5 (fun r_1 σ_2 hw => ?_)
  refine v_if_ne (pc := 8) (tgt := 13) C dX11_misses_8 (by decide) (fun c => ?_) (fun c => ?_)
  · replace hw := hw.2 c
    refine v_aload_n (pc := 13) 0 C dX11_misses_13 rfl rfl ?_
    refine g_11_3 (pc := 14) C k_353 dX11_misses_14 ?_
    refine g_1_0 (pc := 17) C k_242 dX11_misses_17 ?_
    refine v_iload_n (pc := 20) 1 C dX11_misses_20 rfl rfl ?_
    have q_3 := hw.1
    refine v_aldG (pc := 21) C rfl q_3 dX11_misses_21 ?_
    replace hw := hw.2
    refine v_astore_n (pc := 22) C dX11_misses_22 rfl (by decide) rfl ?_
    refine v_aload_n (pc := 23) 1 C dX11_misses_23 rfl rfl ?_
    refine v_cVv (pc := 24) (o := 0) (As := []) (rest := []) (ci := 11) C (c_X11_lookAtGrips hw) pk_X11_lookAtGrips k_565 rfl (by decide) rfl (by decide) rfl rfl (Nat.le_of_ble_eq_true rfl) dX11_misses_24 (fun σ_4 hw => ?_)
    refine v_iload_n (pc := 27) 3 C dX11_misses_27 rfl rfl ?_
    by_cases c0 : a2 = 0
    · replace hw := hw.1 c0
      refine v_tableIn (pc := 28) (tgt := 64) (off := 36) C dX11_misses_28 (by rw [c0]; decide) (by rw [c0]; decide) (by rw [c0]; rfl) (by decide) ?_
      refine v_aload_n (pc := 64) 1 C dX11_misses_64 rfl rfl ?_
      refine g_11_2 (pc := 65) C k_352 dX11_misses_65 ?_
      refine v_aload_n (pc := 68) 0 C dX11_misses_68 rfl rfl ?_
      refine v_aload_n (pc := 69) 0 C dX11_misses_69 rfl rfl ?_
      refine g_9_3 (pc := 70) ((kd_song (vp_lt q_3)).1) C k_229 dX11_misses_70 ?_
      refine v_cVi (pc := 73) (o := 7) (As := [.ref (gA G (bG + Int32.toNatClampNeg a1)), .int (σ_4.1 (bG + Int32.toNatClampNeg a1) 3)]) (rest := []) (ci := 4) C (c_X4_missedChords ((kd_song (vp_lt q_3)).1) hw) pk_X4_missedChords k_722 rfl (by decide) rfl (by decide) rfl rfl (Nat.le_of_ble_eq_true rfl) dX11_misses_73 (fun r_5 σ_6 hw => ?_)
      exact v_iret (pc := 76) C r hw dX11_misses_76
    · replace hw := hw.2 c0
      by_cases c1 : a2 = 1
      · replace hw := hw.1 c1
        refine v_tableIn (pc := 28) (tgt := 77) (off := 49) C dX11_misses_28 (by rw [c1]; decide) (by rw [c1]; decide) (by rw [c1]; rfl) (by decide) ?_
        refine v_aload_n (pc := 77) 1 C dX11_misses_77 rfl rfl ?_
        refine g_11_2 (pc := 78) C k_352 dX11_misses_78 ?_
        refine v_aload_n (pc := 81) 0 C dX11_misses_81 rfl rfl ?_
        refine v_aload_n (pc := 82) 0 C dX11_misses_82 rfl rfl ?_
        refine g_9_3 (pc := 83) ((kd_song (vp_lt q_3)).1) C k_229 dX11_misses_83 ?_
        refine v_cVi (pc := 86) (o := 7) (As := [.ref (gA G (bG + Int32.toNatClampNeg a1)), .int (σ_4.1 (bG + Int32.toNatClampNeg a1) 3)]) (rest := []) (ci := 4) C (c_X4_missedNotes ((kd_song (vp_lt q_3)).1) hw) pk_X4_missedNotes k_727 rfl (by decide) rfl (by decide) rfl rfl (Nat.le_of_ble_eq_true rfl) dX11_misses_86 (fun r_7 σ_8 hw => ?_)
        exact v_iret (pc := 89) C r hw dX11_misses_89
      · replace hw := hw.2 c1
        by_cases c2 : a2 = 2
        · replace hw := hw.1 c2
          refine v_tableIn (pc := 28) (tgt := 90) (off := 62) C dX11_misses_28 (by rw [c2]; decide) (by rw [c2]; decide) (by rw [c2]; rfl) (by decide) ?_
          refine v_aload_n (pc := 90) 1 C dX11_misses_90 rfl rfl ?_
          refine g_11_2 (pc := 91) C k_352 dX11_misses_91 ?_
          refine v_aload_n (pc := 94) 0 C dX11_misses_94 rfl rfl ?_
          refine v_aload_n (pc := 95) 0 C dX11_misses_95 rfl rfl ?_
          refine g_9_3 (pc := 96) ((kd_song (vp_lt q_3)).1) C k_229 dX11_misses_96 ?_
          refine v_cVi (pc := 99) (o := 7) (As := [.ref (gA G (bG + Int32.toNatClampNeg a1)), .int (σ_4.1 (bG + Int32.toNatClampNeg a1) 3)]) (rest := []) (ci := 4) C (c_X4_missed ((kd_song (vp_lt q_3)).1) hw) pk_X4_missed k_732 rfl (by decide) rfl (by decide) rfl rfl (Nat.le_of_ble_eq_true rfl) dX11_misses_99 (fun r_9 σ_10 hw => ?_)
          exact v_iret (pc := 102) C r hw dX11_misses_102
        · replace hw := hw.2 c2
          by_cases c3 : a2 = 3
          · replace hw := hw.1 c3
            refine v_tableIn (pc := 28) (tgt := 103) (off := 75) C dX11_misses_28 (by rw [c3]; decide) (by rw [c3]; decide) (by rw [c3]; rfl) (by decide) ?_
            refine v_aload_n (pc := 103) 0 C dX11_misses_103 rfl rfl ?_
            refine g_9_2 (pc := 104) ((kd_song (vp_lt q_3)).1) C k_223 dX11_misses_104 ?_
            exact v_iret (pc := 107) C r hw dX11_misses_107
          · replace hw := hw.2 c3
            by_cases c4 : a2 = 4
            · replace hw := hw.1 c4
              refine v_tableIn (pc := 28) (tgt := 108) (off := 80) C dX11_misses_28 (by rw [c4]; decide) (by rw [c4]; decide) (by rw [c4]; rfl) (by decide) ?_
              refine v_aload_n (pc := 108) 0 C dX11_misses_108 rfl rfl ?_
              refine g_9_3 (pc := 109) ((kd_song (vp_lt q_3)).1) C k_229 dX11_misses_109 ?_
              exact v_iret (pc := 112) C r hw dX11_misses_112
            · replace hw := hw.2 c4
              refine v_tableOut (pc := 28) (tgt := 113) C dX11_misses_28 (by have e0 := ne_toInt (k := 0) c0 (by decide); have e1 := ne_toInt (k := 1) c1 (by decide); have e2 := ne_toInt (k := 2) c2 (by decide); have e3 := ne_toInt (k := 3) c3 (by decide); have e4 := ne_toInt (k := 4) c4 (by decide); omega) (by decide) ?_
              refine v_bipush (pc := 113) (v := (-2)) C dX11_misses_113 (by decide) ?_
              exact v_iret (pc := 115) C r hw dX11_misses_115
  · replace hw := hw.1 c
    refine v_iconst (pc := 11) (v := (-1)) C dX11_misses_11 (by decide) ?_
    exact v_iret (pc := 12) C r hw dX11_misses_12

theorem c_X11_bestKey {l : Launch} {G : Gl} {a1 : Int32} {σ : Mem} {P : Int32 → Mem → Prop} (hw : v_X11_bestKey a1 σ P) : MetI l yX11_bestKey cX11_bestKey 2 .int 7 G [.ref (gA G 0), .int a1] σ P := by
  refine MetI.of RX11 (by decide +kernel) rfl (Nat.le_of_ble_eq_true rfl) (fun X C r => ?_)
  show V X G 2 0 [(0, .ref (gA G 0)), (1, .int a1)] [] σ
  unfold v_X11_bestKey at hw
  refine v_aload_n (pc := 0) 0 C dX11_bestKey_0 rfl rfl ?_
  refine g_11_3 (pc := 1) C k_353 dX11_bestKey_1 ?_
  refine v_iload_n (pc := 4) 1 C dX11_bestKey_4 rfl rfl ?_
  refine v_cVi (pc := 5) (o := 13) (As := [.int a1]) (rest := []) (ci := 1) C (c_X1_knows hw) pk_X1_knows k_678 rfl (by decide) rfl (by decide) rfl rfl (Nat.le_of_ble_eq_true rfl) dX11_bestKey_5 (fun r_1 σ_2 hw => ?_)
  refine v_if_ne (pc := 8) (tgt := 14) C dX11_bestKey_8 (by decide) (fun c => ?_) (fun c => ?_)
  · replace hw := hw.2 c
    refine v_aload_n (pc := 14) 0 C dX11_bestKey_14 rfl rfl ?_
    refine v_cVv (pc := 15) (o := 0) (As := []) (rest := []) (ci := 11) C (c_X11_lookAtGrips hw) pk_X11_lookAtGrips k_565 rfl (by decide) rfl (by decide) rfl rfl (Nat.le_of_ble_eq_true rfl) dX11_bestKey_15 (fun σ_3 hw => ?_)
    refine v_aload_n (pc := 18) 0 C dX11_bestKey_18 rfl rfl ?_
    refine g_11_2 (pc := 19) C k_352 dX11_bestKey_19 ?_
    refine v_aload_n (pc := 22) 0 C dX11_bestKey_22 rfl rfl ?_
    refine g_11_3 (pc := 23) C k_353 dX11_bestKey_23 ?_
    refine g_1_0 (pc := 26) C k_242 dX11_bestKey_26 ?_
    refine v_iload_n (pc := 29) 1 C dX11_bestKey_29 rfl rfl ?_
    have q_4 := hw.1
    refine v_aldG (pc := 30) C rfl q_4 dX11_bestKey_30 ?_
    replace hw := hw.2
    refine v_cVi (pc := 31) (o := 7) (As := [.ref (gA G (bG + Int32.toNatClampNeg a1))]) (rest := []) (ci := 4) C (c_X4_bestKeyOf ((kd_song (vp_lt q_4)).1) hw) pk_X4_bestKeyOf k_742 rfl (by decide) rfl (by decide) rfl rfl (Nat.le_of_ble_eq_true rfl) dX11_bestKey_31 (fun r_5 σ_6 hw => ?_)
    exact v_iret (pc := 34) C r hw dX11_bestKey_34
  · replace hw := hw.1 c
    refine v_bipush (pc := 11) (v := 99) C dX11_bestKey_11 (by decide) ?_
    exact v_iret (pc := 13) C r hw dX11_bestKey_13

theorem c_X11_playable {l : Launch} {G : Gl} {σ : Mem} {P : Int32 → Mem → Prop} (hw : v_X11_playable σ P) : MetI l yX11_playable cX11_playable 1 .int 5 G [.ref (gA G 0)] σ P := by
  refine MetI.of RX11 (by decide +kernel) rfl (Nat.le_of_ble_eq_true rfl) (fun X C r => ?_)
  show V X G 1 0 [(0, .ref (gA G 0))] [] σ
  unfold v_X11_playable at hw
  refine v_aload_n (pc := 0) 0 C dX11_playable_0 rfl rfl ?_
  refine v_cVv (pc := 1) (o := 0) (As := []) (rest := []) (ci := 11) C (c_X11_lookAtGrips hw) pk_X11_lookAtGrips k_565 rfl (by decide) rfl (by decide) rfl rfl (Nat.le_of_ble_eq_true rfl) dX11_playable_1 (fun σ_1 hw => ?_)
  refine v_aload_n (pc := 4) 0 C dX11_playable_4 rfl rfl ?_
  refine g_11_3 (pc := 5) C k_353 dX11_playable_5 ?_
  refine v_aload_n (pc := 8) 0 C dX11_playable_8 rfl rfl ?_
  refine g_11_2 (pc := 9) C k_352 dX11_playable_9 ?_
  refine v_cVi (pc := 12) (o := 13) (As := [.ref (gA G 7)]) (rest := []) (ci := 1) C (c_X1_playedWith hw) pk_X1_playedWith k_751 rfl (by decide) rfl (by decide) rfl rfl (Nat.le_of_ble_eq_true rfl) dX11_playable_12 (fun r_2 σ_3 hw => ?_)
  exact v_iret (pc := 15) C r hw dX11_playable_15

theorem c_X11_offer {l : Launch} {G : Gl} {a1 : Int32} {σ : Mem} {P : Int32 → Mem → Prop} (hw : v_X11_offer a1 σ P) : MetI l yX11_offer cX11_offer 2 .int 1 G [.ref (gA G 0), .int a1] σ P := by
  refine MetI.of RX11 (by decide +kernel) rfl (Nat.le_of_ble_eq_true rfl) (fun X C r => ?_)
  show V X G 2 0 [(0, .ref (gA G 0)), (1, .int a1)] [] σ
  unfold v_X11_offer at hw
  refine v_iload_n (pc := 0) 1 C dX11_offer_0 rfl rfl ?_
  refine v_callSi (pc := 1) (As := [.int a1]) (rest := []) C (c_X11_isChord hw) pk_X11_isChord (Or.inl k_426) (by decide) rfl rfl (Nat.le_of_ble_eq_true rfl) dX11_offer_1 (fun r_1 σ_2 hw => ?_)
  refine v_if_ne (pc := 4) (tgt := 10) C dX11_offer_4 (by decide) (fun c => ?_) (fun c => ?_)
  · replace hw := hw.2 c
    refine v_aload_n (pc := 10) 0 C dX11_offer_10 rfl rfl ?_
    refine g_11_4 (pc := 11) C k_354 dX11_offer_11 ?_
    refine v_iload_n (pc := 14) 1 C dX11_offer_14 rfl rfl ?_
    refine v_cVi (pc := 15) (o := 15) (As := [.int a1]) (rest := []) (ci := 5) C (c_X5_hasChord hw) pk_X5_hasChord k_763 rfl (by decide) rfl (by decide) rfl rfl (Nat.le_of_ble_eq_true rfl) dX11_offer_15 (fun r_3 σ_4 hw => ?_)
    refine v_if_eq (pc := 18) (tgt := 24) C dX11_offer_18 (by decide) (fun c => ?_) (fun c => ?_)
    · replace hw := hw.1 c
      refine v_aload_n (pc := 24) 0 C dX11_offer_24 rfl rfl ?_
      refine g_11_4 (pc := 25) C k_354 dX11_offer_25 ?_
      refine v_cVi (pc := 28) (o := 15) (As := []) (rest := []) (ci := 5) C (c_X5_isFull hw) pk_X5_isFull k_767 rfl (by decide) rfl (by decide) rfl rfl (Nat.le_of_ble_eq_true rfl) dX11_offer_28 (fun r_5 σ_6 hw => ?_)
      refine v_if_eq (pc := 31) (tgt := 37) C dX11_offer_31 (by decide) (fun c => ?_) (fun c => ?_)
      · replace hw := hw.1 c
        refine v_aload_n (pc := 37) 0 C dX11_offer_37 rfl rfl ?_
        refine g_11_4 (pc := 38) C k_354 dX11_offer_38 ?_
        refine v_iload_n (pc := 41) 1 C dX11_offer_41 rfl rfl ?_
        refine v_cVi (pc := 42) (o := 15) (As := [.int a1]) (rest := []) (ci := 5) C (c_X5_add hw) pk_X5_add k_771 rfl (by decide) rfl (by decide) rfl rfl (Nat.le_of_ble_eq_true rfl) dX11_offer_42 (fun r_7 σ_8 hw => ?_)
        exact v_iret (pc := 45) C r hw dX11_offer_45
      · replace hw := hw.2 c
        refine v_bipush (pc := 34) (v := (-4)) C dX11_offer_34 (by decide) ?_
        exact v_iret (pc := 36) C r hw dX11_offer_36
    · replace hw := hw.2 c
      refine v_bipush (pc := 21) (v := (-3)) C dX11_offer_21 (by decide) ?_
      exact v_iret (pc := 23) C r hw dX11_offer_23
  · replace hw := hw.1 c
    refine v_bipush (pc := 7) (v := (-2)) C dX11_offer_7 (by decide) ?_
    exact v_iret (pc := 9) C r hw dX11_offer_9

theorem c_X11_lookAtOffers {l : Launch} {G : Gl} {σ : Mem} {P : Mem → Prop} (hw : v_X11_lookAtOffers σ P) : MetV l yX11_lookAtOffers cX11_lookAtOffers 1 4 G [.ref (gA G 0)] σ P := by
  refine MetV.of RX11 (by decide +kernel) rfl (Nat.le_of_ble_eq_true rfl) (fun X C r => ?_)
  show V X G 1 0 [(0, .ref (gA G 0))] [] σ
  unfold v_X11_lookAtOffers at hw
  refine v_aload_n (pc := 0) 0 C dX11_lookAtOffers_0 rfl rfl ?_
  refine g_11_4 (pc := 1) C k_354 dX11_lookAtOffers_1 ?_
  refine v_aload_n (pc := 4) 0 C dX11_lookAtOffers_4 rfl rfl ?_
  refine g_11_3 (pc := 5) C k_353 dX11_lookAtOffers_5 ?_
  refine v_cVv (pc := 8) (o := 15) (As := [.ref (gA G 13)]) (rest := []) (ci := 5) C (c_X5_lookAtSongs hw) pk_X5_lookAtSongs k_787 rfl (by decide) rfl (by decide) rfl rfl (Nat.le_of_ble_eq_true rfl) dX11_lookAtOffers_8 (fun σ_1 hw => ?_)
  refine v_aload_n (pc := 11) 0 C dX11_lookAtOffers_11 rfl rfl ?_
  refine g_11_4 (pc := 12) C k_354 dX11_lookAtOffers_12 ?_
  refine v_aload_n (pc := 15) 0 C dX11_lookAtOffers_15 rfl rfl ?_
  refine g_11_0 (pc := 16) C k_350 dX11_lookAtOffers_16 ?_
  refine v_aload_n (pc := 19) 0 C dX11_lookAtOffers_19 rfl rfl ?_
  refine g_11_0 (pc := 20) C k_350 dX11_lookAtOffers_20 ?_
  refine v_cVl (pc := 23) (o := 1) (As := []) (rest := [.ref (gA G 1), .ref (gA G 15)]) (ci := 10) C (c_X10_all hw) pk_X10_all k_557 rfl (by decide) rfl (by decide) rfl rfl (Nat.le_of_ble_eq_true rfl) dX11_lookAtOffers_23 (fun r_2 σ_3 hw => ?_)
  refine v_cVi (pc := 26) (o := 1) (As := [.long r_2]) (rest := [.ref (gA G 15)]) (ci := 10) C (c_X10_classesAmong hw) pk_X10_classesAmong k_519 rfl (by decide) rfl (by decide) rfl rfl (Nat.le_of_ble_eq_true rfl) dX11_lookAtOffers_26 (fun r_4 σ_5 hw => ?_)
  refine v_cVv (pc := 29) (o := 15) (As := [.int r_4]) (rest := []) (ci := 5) C (c_X5_lookAtClasses hw) pk_X5_lookAtClasses k_798 rfl (by decide) rfl (by decide) rfl rfl (Nat.le_of_ble_eq_true rfl) dX11_lookAtOffers_29 (fun σ_6 hw => ?_)
  exact v_vret (pc := 32) C r hw dX11_lookAtOffers_32

theorem c_X11_serves {l : Launch} {G : Gl} {a1 : Int32} {σ : Mem} {P : Int32 → Mem → Prop} (hw : v_X11_serves a1 σ P) : MetI l yX11_serves cX11_serves 2 .int 5 G [.ref (gA G 0), .int a1] σ P := by
  refine MetI.of RX11 (by decide +kernel) rfl (Nat.le_of_ble_eq_true rfl) (fun X C r => ?_)
  show V X G 2 0 [(0, .ref (gA G 0)), (1, .int a1)] [] σ
  unfold v_X11_serves at hw
  refine v_aload_n (pc := 0) 0 C dX11_serves_0 rfl rfl ?_
  refine g_11_4 (pc := 1) C k_354 dX11_serves_1 ?_
  refine v_iload_n (pc := 4) 1 C dX11_serves_4 rfl rfl ?_
  refine v_cVi (pc := 5) (o := 15) (As := [.int a1]) (rest := []) (ci := 5) C (c_X5_isSet hw) pk_X5_isSet k_779 rfl (by decide) rfl (by decide) rfl rfl (Nat.le_of_ble_eq_true rfl) dX11_serves_5 (fun r_1 σ_2 hw => ?_)
  refine v_if_ne (pc := 8) (tgt := 14) C dX11_serves_8 (by decide) (fun c => ?_) (fun c => ?_)
  · replace hw := hw.2 c
    refine v_aload_n (pc := 14) 0 C dX11_serves_14 rfl rfl ?_
    refine v_cVv (pc := 15) (o := 0) (As := []) (rest := []) (ci := 11) C (c_X11_lookAtOffers hw) pk_X11_lookAtOffers k_783 rfl (by decide) rfl (by decide) rfl rfl (Nat.le_of_ble_eq_true rfl) dX11_serves_15 (fun σ_3 hw => ?_)
    refine v_aload_n (pc := 18) 0 C dX11_serves_18 rfl rfl ?_
    refine g_11_4 (pc := 19) C k_354 dX11_serves_19 ?_
    refine v_iload_n (pc := 22) 1 C dX11_serves_22 rfl rfl ?_
    refine v_cVi (pc := 23) (o := 15) (As := [.int a1]) (rest := []) (ci := 5) C (c_X5_servedBy hw) pk_X5_servedBy k_807 rfl (by decide) rfl (by decide) rfl rfl (Nat.le_of_ble_eq_true rfl) dX11_serves_23 (fun r_4 σ_5 hw => ?_)
    exact v_iret (pc := 26) C r hw dX11_serves_26
  · replace hw := hw.1 c
    refine v_bipush (pc := 11) (v := (-2)) C dX11_serves_11 (by decide) ?_
    exact v_iret (pc := 13) C r hw dX11_serves_13

theorem c_X11_fewest {l : Launch} {G : Gl} {σ : Mem} {P : Int32 → Mem → Prop} (hw : v_X11_fewest σ P) : MetI l yX11_fewest cX11_fewest 2 .int 5 G [.ref (gA G 0)] σ P := by
  refine MetI.of RX11 (by decide +kernel) rfl (Nat.le_of_ble_eq_true rfl) (fun X C r => ?_)
  show V X G 2 0 [(0, .ref (gA G 0))] [] σ
  unfold v_X11_fewest at hw
  refine v_aload_n (pc := 0) 0 C dX11_fewest_0 rfl rfl ?_
  refine v_cVv (pc := 1) (o := 0) (As := []) (rest := []) (ci := 11) C (c_X11_lookAtOffers hw) pk_X11_lookAtOffers k_783 rfl (by decide) rfl (by decide) rfl rfl (Nat.le_of_ble_eq_true rfl) dX11_fewest_1 (fun σ_1 hw => ?_)
  refine v_aload_n (pc := 4) 0 C dX11_fewest_4 rfl rfl ?_
  refine g_11_4 (pc := 5) C k_354 dX11_fewest_5 ?_
  refine v_bipush (pc := 8) (v := 12) C dX11_fewest_8 (by decide) ?_
  refine v_cVi (pc := 10) (o := 15) (As := [.int 12]) (rest := []) (ci := 5) C (c_X5_mostServing hw) pk_X5_mostServing k_821 rfl (by decide) rfl (by decide) rfl rfl (Nat.le_of_ble_eq_true rfl) dX11_fewest_10 (fun r_2 σ_3 hw => ?_)
  refine v_istore_n (pc := 13) C dX11_fewest_13 rfl (by decide) rfl ?_
  refine v_aload_n (pc := 14) 1 C dX11_fewest_14 rfl rfl ?_
  refine g_11_4 (pc := 15) C k_354 dX11_fewest_15 ?_
  refine v_iload_n (pc := 18) 0 C dX11_fewest_18 rfl rfl ?_
  refine v_cVi (pc := 19) (o := 15) (As := [.int r_2]) (rest := []) (ci := 5) C (c_X5_servedBy hw) pk_X5_servedBy k_807 rfl (by decide) rfl (by decide) rfl rfl (Nat.le_of_ble_eq_true rfl) dX11_fewest_19 (fun r_4 σ_5 hw => ?_)
  refine v_aload_n (pc := 22) 1 C dX11_fewest_22 rfl rfl ?_
  refine g_11_3 (pc := 23) C k_353 dX11_fewest_23 ?_
  refine v_cVi (pc := 26) (o := 13) (As := []) (rest := [.int r_4]) (ci := 1) C (c_X1_all hw) pk_X1_all k_828 rfl (by decide) rfl (by decide) rfl rfl (Nat.le_of_ble_eq_true rfl) dX11_fewest_26 (fun r_6 σ_7 hw => ?_)
  refine v_icmp_ne (pc := 29) (tgt := 36) C dX11_fewest_29 (by decide) (fun c => ?_) (fun c => ?_)
  · replace hw := hw.2 c
    refine v_bipush (pc := 36) (v := (-9)) C dX11_fewest_36 (by decide) ?_
    exact v_iret (pc := 38) C r hw dX11_fewest_38
  · replace hw := hw.1 c
    refine v_iload_n (pc := 32) 0 C dX11_fewest_32 rfl rfl ?_
    refine v_goto (pc := 33) (tgt := 38) C dX11_fewest_33 (by decide) ?_
    exact v_iret (pc := 38) C r hw dX11_fewest_38

theorem c_X11_most {l : Launch} {G : Gl} {a1 : Int32} {σ : Mem} {P : Int32 → Mem → Prop} (hw : v_X11_most a1 σ P) : MetI l yX11_most cX11_most 2 .int 5 G [.ref (gA G 0), .int a1] σ P := by
  refine MetI.of RX11 (by decide +kernel) rfl (Nat.le_of_ble_eq_true rfl) (fun X C r => ?_)
  show V X G 2 0 [(0, .ref (gA G 0)), (1, .int a1)] [] σ
  unfold v_X11_most at hw
  refine v_iload_n (pc := 0) 1 C dX11_most_0 rfl rfl ?_
  refine v_if_lt (pc := 1) (tgt := 10) C dX11_most_1 (by decide) (fun c => ?_) (fun c => ?_)
  · replace hw := hw.1 c
    refine v_bipush (pc := 10) (v := (-2)) C dX11_most_10 (by decide) ?_
    exact v_iret (pc := 12) C r hw dX11_most_12
  · replace hw := hw.2 c
    refine v_iload_n (pc := 4) 1 C dX11_most_4 rfl rfl ?_
    refine v_bipush (pc := 5) (v := 12) C dX11_most_5 (by decide) ?_
    refine v_icmp_le (pc := 7) (tgt := 13) C dX11_most_7 (by decide) (fun c => ?_) (fun c => ?_)
    · replace hw := hw.1 c
      refine v_aload_n (pc := 13) 0 C dX11_most_13 rfl rfl ?_
      refine v_cVv (pc := 14) (o := 0) (As := []) (rest := []) (ci := 11) C (c_X11_lookAtOffers hw) pk_X11_lookAtOffers k_783 rfl (by decide) rfl (by decide) rfl rfl (Nat.le_of_ble_eq_true rfl) dX11_most_14 (fun σ_1 hw => ?_)
      refine v_aload_n (pc := 17) 0 C dX11_most_17 rfl rfl ?_
      refine g_11_4 (pc := 18) C k_354 dX11_most_18 ?_
      refine v_iload_n (pc := 21) 1 C dX11_most_21 rfl rfl ?_
      refine v_cVi (pc := 22) (o := 15) (As := [.int a1]) (rest := []) (ci := 5) C (c_X5_mostServing hw) pk_X5_mostServing k_821 rfl (by decide) rfl (by decide) rfl rfl (Nat.le_of_ble_eq_true rfl) dX11_most_22 (fun r_2 σ_3 hw => ?_)
      exact v_iret (pc := 25) C r hw dX11_most_25
    · replace hw := hw.2 c
      refine v_bipush (pc := 10) (v := (-2)) C dX11_most_10 (by decide) ?_
      exact v_iret (pc := 12) C r hw dX11_most_12

theorem w_X11_build_L30 {X : Cx} {G : Gl} {P : Int32 → Mem → Prop} {x1 : Int32} (C : Ck X G RX11 cX11_build 3 3) (r : RetI X G .int P) : ∀ (n : Nat) (x2 : Int32) (σ : Mem), v_X11_build_L30 x1 P n x2 σ → V X G 3 30 [(0, .ref (gA G 0)), (1, .int x1), (2, .int x2)] [] σ := by
  intro n
  induction n with
  | zero => intro x2 σ hw; exact hw.elim
  | succ n ih =>
    intro x2 σ hw
    refine v_iload_n (pc := 30) 2 C dX11_build_30 rfl rfl ?_
    refine v_aload_n (pc := 31) 0 C dX11_build_31 rfl rfl ?_
    refine g_11_4 (pc := 32) C k_354 dX11_build_32 ?_
    refine g_5_6 (pc := 35) C k_266 dX11_build_35 ?_
    refine v_icmp_ge (pc := 38) (tgt := 70) C dX11_build_38 (by decide) (fun c => ?_) (fun c => ?_)
    · replace hw := hw.1 c
      refine v_aload_n (pc := 70) 0 C dX11_build_70 rfl rfl ?_
      refine g_11_1 (pc := 71) C k_351 dX11_build_71 ?_
      refine g_7_1 (pc := 74) C k_164 dX11_build_74 ?_
      exact v_iret (pc := 77) C r hw dX11_build_77
    · replace hw := hw.2 c
      refine v_iload_n (pc := 41) 1 C dX11_build_41 rfl rfl ?_
      refine v_i2l (pc := 42) C dX11_build_42 ?_
      refine v_iload_n (pc := 43) 2 C dX11_build_43 rfl rfl ?_
      refine v_callSi (pc := 44) (As := [.long (Int32.toInt64 x1), .int x2]) (rest := []) C (c_X11_hasBit hw) pk_X11_hasBit (Or.inl k_540) (by decide) rfl rfl (Nat.le_of_ble_eq_true rfl) dX11_build_44 (fun r_5 σ_6 hw => ?_)
      refine v_if_eq (pc := 47) (tgt := 64) C dX11_build_47 (by decide) (fun c => ?_) (fun c => ?_)
      · replace hw := hw.1 c
        refine v_iinc (pc := 64) (v := x2 + 1) 2 C dX11_build_64 rfl rfl (by decide) rfl ?_
        refine v_goto (pc := 67) (tgt := 30) C dX11_build_67 (by decide) ?_
        refine v_sub [1, 2, 0] rfl ?_
        exact ih _ _ hw
      · replace hw := hw.2 c
        refine v_aload_n (pc := 50) 0 C dX11_build_50 rfl rfl ?_
        refine v_aload_n (pc := 51) 0 C dX11_build_51 rfl rfl ?_
        refine g_11_4 (pc := 52) C k_354 dX11_build_52 ?_
        refine g_5_0 (pc := 55) C k_259 dX11_build_55 ?_
        refine v_iload_n (pc := 58) 2 C dX11_build_58 rfl rfl ?_
        refine v_iald (pc := 59) C rfl hw.1 dX11_build_59 ?_
        replace hw := hw.2
        refine v_cVi (pc := 60) (o := 0) (As := [.int (σ_6.1 16 (Int32.toNatClampNeg x2))]) (rest := []) (ci := 11) C (c_X11_bar hw) pk_X11_bar k_848 rfl (by decide) rfl (by decide) rfl rfl (Nat.le_of_ble_eq_true rfl) dX11_build_60 (fun r_7 σ_8 hw => ?_)
        refine v_pop (pc := 63) C dX11_build_63 rfl ?_
        refine v_iinc (pc := 64) (v := x2 + 1) 2 C dX11_build_64 rfl rfl (by decide) rfl ?_
        refine v_goto (pc := 67) (tgt := 30) C dX11_build_67 (by decide) ?_
        refine v_sub [1, 2, 0] rfl ?_
        exact ih _ _ hw

theorem c_X11_build {l : Launch} {G : Gl} {a1 : Int32} {σ : Mem} {P : Int32 → Mem → Prop} (hw : v_X11_build a1 σ P) : MetI l yX11_build cX11_build 3 .int 3 G [.ref (gA G 0), .int a1] σ P := by
  refine MetI.of RX11 (by decide +kernel) rfl (Nat.le_of_ble_eq_true rfl) (fun X C r => ?_)
  show V X G 3 0 [(0, .ref (gA G 0)), (1, .int a1)] [] σ
  unfold v_X11_build at hw
  refine v_aload_n (pc := 0) 0 C dX11_build_0 rfl rfl ?_
  refine g_11_4 (pc := 1) C k_354 dX11_build_1 ?_
  refine v_iload_n (pc := 4) 1 C dX11_build_4 rfl rfl ?_
  refine v_cVi (pc := 5) (o := 15) (As := [.int a1]) (rest := []) (ci := 5) C (c_X5_isSet hw) pk_X5_isSet k_779 rfl (by decide) rfl (by decide) rfl rfl (Nat.le_of_ble_eq_true rfl) dX11_build_5 (fun r_1 σ_2 hw => ?_)
  refine v_if_ne (pc := 8) (tgt := 14) C dX11_build_8 (by decide) (fun c => ?_) (fun c => ?_)
  · replace hw := hw.2 c
    refine v_aload_n (pc := 14) 0 C dX11_build_14 rfl rfl ?_
    refine g_11_1 (pc := 15) C k_351 dX11_build_15 ?_
    refine v_cVv (pc := 18) (o := 5) (As := []) (rest := []) (ci := 7) C (c_X7_clear hw) pk_X7_clear k_840 rfl (by decide) rfl (by decide) rfl rfl (Nat.le_of_ble_eq_true rfl) dX11_build_18 (fun σ_3 hw => ?_)
    refine v_aload_n (pc := 21) 0 C dX11_build_21 rfl rfl ?_
    refine g_11_7 (pc := 22) C k_357 dX11_build_22 ?_
    refine v_cVv (pc := 25) (o := 27) (As := []) (rest := []) (ci := 2) C (c_X2_clear hw) pk_X2_clear k_844 rfl (by decide) rfl (by decide) rfl rfl (Nat.le_of_ble_eq_true rfl) dX11_build_25 (fun σ_4 hw => ?_)
    refine v_iconst (pc := 28) (v := 0) C dX11_build_28 (by decide) ?_
    refine v_istore_n (pc := 29) C dX11_build_29 rfl (by decide) rfl ?_
    refine v_sub [1, 2, 0] rfl ?_
    refine w_X11_build_L30 C r 5000 _ _ hw
  · replace hw := hw.1 c
    refine v_bipush (pc := 11) (v := (-2)) C dX11_build_11 (by decide) ?_
    exact v_iret (pc := 13) C r hw dX11_build_13

theorem c_X11_change {l : Launch} {G : Gl} {a1 : Int32} {a2 : Int32} {σ : Mem} {P : Int32 → Mem → Prop} (hw : v_X11_change a1 a2 σ P) : MetI l yX11_change cX11_change 4 .int 1 G [.ref (gA G 0), .int a1, .int a2] σ P := by
  refine MetI.of RX11 (by decide +kernel) rfl (Nat.le_of_ble_eq_true rfl) (fun X C r => ?_)
  show V X G 4 0 [(0, .ref (gA G 0)), (1, .int a1), (2, .int a2)] [] σ
  unfold v_X11_change at hw
  refine v_aload_n (pc := 0) 0 C dX11_change_0 rfl rfl ?_
  refine g_11_1 (pc := 1) C k_351 dX11_change_1 ?_
  refine v_iload_n (pc := 4) 1 C dX11_change_4 rfl rfl ?_
  refine v_cVi (pc := 5) (o := 5) (As := [.int a1]) (rest := []) (ci := 7) C (c_X7_knows hw) pk_X7_knows k_454 rfl (by decide) rfl (by decide) rfl rfl (Nat.le_of_ble_eq_true rfl) dX11_change_5 (fun r_1 σ_2 hw => ?_)
  refine v_if_eq (pc := 8) (tgt := 22) C dX11_change_8 (by decide) (fun c => ?_) (fun c => ?_)
  · replace hw := hw.1 c
    refine v_iconst (pc := 22) (v := (-1)) C dX11_change_22 (by decide) ?_
    exact v_iret (pc := 23) C r hw dX11_change_23
  · replace hw := hw.2 c
    refine v_aload_n (pc := 11) 0 C dX11_change_11 rfl rfl ?_
    refine g_11_1 (pc := 12) C k_351 dX11_change_12 ?_
    refine v_iload_n (pc := 15) 2 C dX11_change_15 rfl rfl ?_
    refine v_cVi (pc := 16) (o := 5) (As := [.int a2]) (rest := []) (ci := 7) C (c_X7_knows hw) pk_X7_knows k_454 rfl (by decide) rfl (by decide) rfl rfl (Nat.le_of_ble_eq_true rfl) dX11_change_16 (fun r_3 σ_4 hw => ?_)
    refine v_if_ne (pc := 19) (tgt := 24) C dX11_change_19 (by decide) (fun c => ?_) (fun c => ?_)
    · replace hw := hw.2 c
      refine v_iload_n (pc := 24) 1 C dX11_change_24 rfl rfl ?_
      refine v_iload_n (pc := 25) 2 C dX11_change_25 rfl rfl ?_
      refine v_icmp_ne (pc := 26) (tgt := 31) C dX11_change_26 (by decide) (fun c => ?_) (fun c => ?_)
      · replace hw := hw.2 c
        refine v_aload_n (pc := 31) 0 C dX11_change_31 rfl rfl ?_
        refine g_11_1 (pc := 32) C k_351 dX11_change_32 ?_
        refine g_7_0 (pc := 35) C k_160 dX11_change_35 ?_
        refine v_iload_n (pc := 38) 1 C dX11_change_38 rfl rfl ?_
        have q_5 := hw.1
        refine v_aldB (pc := 39) C rfl q_5 dX11_change_39 ?_
        replace hw := hw.2
        refine g_0_3 (pc := 40) (kd_bar (vp_lt q_5)) C k_146 dX11_change_40 ?_
        refine v_istore_n (pc := 43) C dX11_change_43 rfl (by decide) rfl ?_
        refine v_aload_n (pc := 44) 1 C dX11_change_44 rfl rfl ?_
        refine g_11_1 (pc := 45) C k_351 dX11_change_45 ?_
        refine g_7_0 (pc := 48) C k_160 dX11_change_48 ?_
        refine v_iload_n (pc := 51) 2 C dX11_change_51 rfl rfl ?_
        have q_6 := hw.1
        refine v_aldB (pc := 52) C rfl q_6 dX11_change_52 ?_
        replace hw := hw.2
        refine v_aload_n (pc := 53) 1 C dX11_change_53 rfl rfl ?_
        refine g_11_1 (pc := 54) C k_351 dX11_change_54 ?_
        refine g_7_0 (pc := 57) C k_160 dX11_change_57 ?_
        refine v_iload_n (pc := 60) 3 C dX11_change_60 rfl rfl ?_
        have q_7 := hw.1
        refine v_aldB (pc := 61) C rfl q_7 dX11_change_61 ?_
        replace hw := hw.2
        refine g_0_3 (pc := 62) (kd_bar (vp_lt q_7)) C k_146 dX11_change_62 ?_
        refine p_0_3 (pc := 65) (kd_bar (vp_lt q_6)) C k_146 dX11_change_65 ?_
        refine v_aload_n (pc := 68) 1 C dX11_change_68 rfl rfl ?_
        refine g_11_1 (pc := 69) C k_351 dX11_change_69 ?_
        refine g_7_0 (pc := 72) C k_160 dX11_change_72 ?_
        refine v_iload_n (pc := 75) 3 C dX11_change_75 rfl rfl ?_
        have q_8 := hw.1
        refine v_aldB (pc := 76) C rfl q_8 dX11_change_76 ?_
        replace hw := hw.2
        refine v_iload_n (pc := 77) 0 C dX11_change_77 rfl rfl ?_
        refine p_0_3 (pc := 78) (kd_bar (vp_lt q_8)) C k_146 dX11_change_78 ?_
        refine v_iconst (pc := 81) (v := 1) C dX11_change_81 (by decide) ?_
        exact v_iret (pc := 82) C r hw dX11_change_82
      · replace hw := hw.1 c
        refine v_iconst (pc := 29) (v := 0) C dX11_change_29 (by decide) ?_
        exact v_iret (pc := 30) C r hw dX11_change_30
    · replace hw := hw.1 c
      refine v_iconst (pc := 22) (v := (-1)) C dX11_change_22 (by decide) ?_
      exact v_iret (pc := 23) C r hw dX11_change_23

theorem c_X11_lookAtFrame {l : Launch} {G : Gl} {σ : Mem} {P : Mem → Prop} (hw : v_X11_lookAtFrame σ P) : MetV l yX11_lookAtFrame cX11_lookAtFrame 1 4 G [.ref (gA G 0)] σ P := by
  refine MetV.of RX11 (by decide +kernel) rfl (Nat.le_of_ble_eq_true rfl) (fun X C r => ?_)
  show V X G 1 0 [(0, .ref (gA G 0))] [] σ
  unfold v_X11_lookAtFrame at hw
  refine v_aload_n (pc := 0) 0 C dX11_lookAtFrame_0 rfl rfl ?_
  refine v_cVv (pc := 1) (o := 0) (As := []) (rest := []) (ci := 11) C (c_X11_lookAtGrips hw) pk_X11_lookAtGrips k_565 rfl (by decide) rfl (by decide) rfl rfl (Nat.le_of_ble_eq_true rfl) dX11_lookAtFrame_1 (fun σ_1 hw => ?_)
  refine v_aload_n (pc := 4) 0 C dX11_lookAtFrame_4 rfl rfl ?_
  refine g_11_5 (pc := 5) C k_355 dX11_lookAtFrame_5 ?_
  refine v_aload_n (pc := 8) 0 C dX11_lookAtFrame_8 rfl rfl ?_
  refine g_11_3 (pc := 9) C k_353 dX11_lookAtFrame_9 ?_
  refine v_aload_n (pc := 12) 0 C dX11_lookAtFrame_12 rfl rfl ?_
  refine g_11_2 (pc := 13) C k_352 dX11_lookAtFrame_13 ?_
  refine v_cVv (pc := 16) (o := 21) (As := [.ref (gA G 13), .ref (gA G 7)]) (rest := []) (ci := 3) C (c_X3_countMoves hw) pk_X3_countMoves k_861 rfl (by decide) rfl (by decide) rfl rfl (Nat.le_of_ble_eq_true rfl) dX11_lookAtFrame_16 (fun σ_2 hw => ?_)
  exact v_vret (pc := 19) C r hw dX11_lookAtFrame_19

theorem c_X11_way {l : Launch} {G : Gl} {σ : Mem} {P : Int32 → Mem → Prop} (hw : v_X11_way σ P) : MetI l yX11_way cX11_way 1 .int 5 G [.ref (gA G 0)] σ P := by
  refine MetI.of RX11 (by decide +kernel) rfl (Nat.le_of_ble_eq_true rfl) (fun X C r => ?_)
  show V X G 1 0 [(0, .ref (gA G 0))] [] σ
  unfold v_X11_way at hw
  refine v_aload_n (pc := 0) 0 C dX11_way_0 rfl rfl ?_
  refine v_cVv (pc := 1) (o := 0) (As := []) (rest := []) (ci := 11) C (c_X11_lookAtFrame hw) pk_X11_lookAtFrame k_857 rfl (by decide) rfl (by decide) rfl rfl (Nat.le_of_ble_eq_true rfl) dX11_way_1 (fun σ_1 hw => ?_)
  refine v_aload_n (pc := 4) 0 C dX11_way_4 rfl rfl ?_
  refine g_11_5 (pc := 5) C k_355 dX11_way_5 ?_
  refine v_aload_n (pc := 8) 0 C dX11_way_8 rfl rfl ?_
  refine g_11_1 (pc := 9) C k_351 dX11_way_9 ?_
  refine v_cVi (pc := 12) (o := 21) (As := [.ref (gA G 5)]) (rest := []) (ci := 3) C (c_X3_wayOf hw) pk_X3_wayOf k_873 rfl (by decide) rfl (by decide) rfl rfl (Nat.le_of_ble_eq_true rfl) dX11_way_12 (fun r_2 σ_3 hw => ?_)
  exact v_iret (pc := 15) C r hw dX11_way_15

theorem c_X11_least {l : Launch} {G : Gl} {σ : Mem} {P : Int32 → Mem → Prop} (hw : v_X11_least σ P) : MetI l yX11_least cX11_least 1 .int 5 G [.ref (gA G 0)] σ P := by
  refine MetI.of RX11 (by decide +kernel) rfl (Nat.le_of_ble_eq_true rfl) (fun X C r => ?_)
  show V X G 1 0 [(0, .ref (gA G 0))] [] σ
  unfold v_X11_least at hw
  refine v_aload_n (pc := 0) 0 C dX11_least_0 rfl rfl ?_
  refine v_cVv (pc := 1) (o := 0) (As := []) (rest := []) (ci := 11) C (c_X11_lookAtFrame hw) pk_X11_lookAtFrame k_857 rfl (by decide) rfl (by decide) rfl rfl (Nat.le_of_ble_eq_true rfl) dX11_least_1 (fun σ_1 hw => ?_)
  refine v_aload_n (pc := 4) 0 C dX11_least_4 rfl rfl ?_
  refine g_11_5 (pc := 5) C k_355 dX11_least_5 ?_
  refine v_aload_n (pc := 8) 0 C dX11_least_8 rfl rfl ?_
  refine g_11_1 (pc := 9) C k_351 dX11_least_9 ?_
  refine g_7_1 (pc := 12) C k_164 dX11_least_12 ?_
  refine v_cVi (pc := 15) (o := 21) (As := [.int (σ_1.1 5 1)]) (rest := []) (ci := 3) C (c_X3_leastWay hw) pk_X3_leastWay k_884 rfl (by decide) rfl (by decide) rfl rfl (Nat.le_of_ble_eq_true rfl) dX11_least_15 (fun r_2 σ_3 hw => ?_)
  exact v_iret (pc := 18) C r hw dX11_least_18

theorem c_X11_arrange {l : Launch} {G : Gl} {σ : Mem} {P : Int32 → Mem → Prop} (hw : v_X11_arrange σ P) : MetI l yX11_arrange cX11_arrange 1 .int 5 G [.ref (gA G 0)] σ P := by
  refine MetI.of RX11 (by decide +kernel) rfl (Nat.le_of_ble_eq_true rfl) (fun X C r => ?_)
  show V X G 1 0 [(0, .ref (gA G 0))] [] σ
  unfold v_X11_arrange at hw
  refine v_aload_n (pc := 0) 0 C dX11_arrange_0 rfl rfl ?_
  refine v_cVv (pc := 1) (o := 0) (As := []) (rest := []) (ci := 11) C (c_X11_lookAtFrame hw) pk_X11_lookAtFrame k_857 rfl (by decide) rfl (by decide) rfl rfl (Nat.le_of_ble_eq_true rfl) dX11_arrange_1 (fun σ_1 hw => ?_)
  refine v_aload_n (pc := 4) 0 C dX11_arrange_4 rfl rfl ?_
  refine g_11_5 (pc := 5) C k_355 dX11_arrange_5 ?_
  refine v_aload_n (pc := 8) 0 C dX11_arrange_8 rfl rfl ?_
  refine g_11_1 (pc := 9) C k_351 dX11_arrange_9 ?_
  refine g_7_1 (pc := 12) C k_164 dX11_arrange_12 ?_
  refine v_cVi (pc := 15) (o := 21) (As := [.int (σ_1.1 5 1)]) (rest := []) (ci := 3) C (c_X3_leastWay hw) pk_X3_leastWay k_884 rfl (by decide) rfl (by decide) rfl rfl (Nat.le_of_ble_eq_true rfl) dX11_arrange_15 (fun r_2 σ_3 hw => ?_)
  refine v_pop (pc := 18) C dX11_arrange_18 rfl ?_
  refine v_aload_n (pc := 19) 0 C dX11_arrange_19 rfl rfl ?_
  refine g_11_5 (pc := 20) C k_355 dX11_arrange_20 ?_
  refine v_aload_n (pc := 23) 0 C dX11_arrange_23 rfl rfl ?_
  refine g_11_1 (pc := 24) C k_351 dX11_arrange_24 ?_
  refine v_cVi (pc := 27) (o := 21) (As := [.ref (gA G 5)]) (rest := []) (ci := 3) C (c_X3_putInOrder hw) pk_X3_putInOrder k_902 rfl (by decide) rfl (by decide) rfl rfl (Nat.le_of_ble_eq_true rfl) dX11_arrange_27 (fun r_4 σ_5 hw => ?_)
  exact v_iret (pc := 30) C r hw dX11_arrange_30

theorem c_X11_trouble {l : Launch} {G : Gl} {a1 : Int32} {σ : Mem} {P : Int32 → Mem → Prop} (hw : v_X11_trouble a1 σ P) : MetI l yX11_trouble cX11_trouble 2 .int 4 G [.ref (gA G 0), .int a1] σ P := by
  refine MetI.of RX11 (by decide +kernel) rfl (Nat.le_of_ble_eq_true rfl) (fun X C r => ?_)
  show V X G 2 0 [(0, .ref (gA G 0)), (1, .int a1)] [] σ
  unfold v_X11_trouble at hw
  refine v_aload_n (pc := 0) 0 C dX11_trouble_0 rfl rfl ?_
  refine g_11_3 (pc := 1) C k_353 dX11_trouble_1 ?_
  refine v_iload_n (pc := 4) 1 C dX11_trouble_4 rfl rfl ?_
  refine v_cVi (pc := 5) (o := 13) (As := [.int a1]) (rest := []) (ci := 1) C (c_X1_knows hw) pk_X1_knows k_678 rfl (by decide) rfl (by decide) rfl rfl (Nat.le_of_ble_eq_true rfl) dX11_trouble_5 (fun r_1 σ_2 hw => ?_)
  refine v_if_ne (pc := 8) (tgt := 13) C dX11_trouble_8 (by decide) (fun c => ?_) (fun c => ?_)
  · replace hw := hw.2 c
    refine v_aload_n (pc := 13) 0 C dX11_trouble_13 rfl rfl ?_
    refine v_cVv (pc := 14) (o := 0) (As := []) (rest := []) (ci := 11) C (c_X11_lookAtGrips hw) pk_X11_lookAtGrips k_565 rfl (by decide) rfl (by decide) rfl rfl (Nat.le_of_ble_eq_true rfl) dX11_trouble_14 (fun σ_3 hw => ?_)
    refine v_aload_n (pc := 17) 0 C dX11_trouble_17 rfl rfl ?_
    refine g_11_6 (pc := 18) C k_356 dX11_trouble_18 ?_
    refine v_aload_n (pc := 21) 0 C dX11_trouble_21 rfl rfl ?_
    refine g_11_3 (pc := 22) C k_353 dX11_trouble_22 ?_
    refine g_1_0 (pc := 25) C k_242 dX11_trouble_25 ?_
    refine v_iload_n (pc := 28) 1 C dX11_trouble_28 rfl rfl ?_
    have q_4 := hw.1
    refine v_aldG (pc := 29) C rfl q_4 dX11_trouble_29 ?_
    replace hw := hw.2
    refine v_aload_n (pc := 30) 0 C dX11_trouble_30 rfl rfl ?_
    refine g_11_2 (pc := 31) C k_352 dX11_trouble_31 ?_
    refine v_cVv (pc := 34) (o := 24) (As := [.ref (gA G (bG + Int32.toNatClampNeg a1)), .ref (gA G 7)]) (rest := []) (ci := 6) C (c_X6_plan ((kd_song (vp_lt q_4)).1) hw) pk_X6_plan k_910 rfl (by decide) rfl (by decide) rfl rfl (Nat.le_of_ble_eq_true rfl) dX11_trouble_34 (fun σ_5 hw => ?_)
    refine v_aload_n (pc := 37) 0 C dX11_trouble_37 rfl rfl ?_
    refine g_11_6 (pc := 38) C k_356 dX11_trouble_38 ?_
    refine v_aload_n (pc := 41) 0 C dX11_trouble_41 rfl rfl ?_
    refine g_11_2 (pc := 42) C k_352 dX11_trouble_42 ?_
    refine v_cVi (pc := 45) (o := 24) (As := [.ref (gA G 7)]) (rest := []) (ci := 6) C (c_X6_leastTrouble hw) pk_X6_leastTrouble k_942 rfl (by decide) rfl (by decide) rfl rfl (Nat.le_of_ble_eq_true rfl) dX11_trouble_45 (fun r_6 σ_7 hw => ?_)
    exact v_iret (pc := 48) C r hw dX11_trouble_48
  · replace hw := hw.1 c
    refine v_iconst (pc := 11) (v := (-1)) C dX11_trouble_11 (by decide) ?_
    exact v_iret (pc := 12) C r hw dX11_trouble_12

theorem c_X11_grip {l : Launch} {G : Gl} {a1 : Int32} {a2 : Int32} {σ : Mem} {P : Int32 → Mem → Prop} (hw : v_X11_grip a1 a2 σ P) : MetI l yX11_grip cX11_grip 3 .int 4 G [.ref (gA G 0), .int a1, .int a2] σ P := by
  refine MetI.of RX11 (by decide +kernel) rfl (Nat.le_of_ble_eq_true rfl) (fun X C r => ?_)
  show V X G 3 0 [(0, .ref (gA G 0)), (1, .int a1), (2, .int a2)] [] σ
  unfold v_X11_grip at hw
  refine v_aload_n (pc := 0) 0 C dX11_grip_0 rfl rfl ?_
  refine v_iload_n (pc := 1) 1 C dX11_grip_1 rfl rfl ?_
  refine v_iload_n (pc := 2) 2 C dX11_grip_2 rfl rfl ?_
  refine v_cVi (pc := 3) (o := 0) (As := [.int a1, .int a2]) (rest := []) (ci := 11) C (c_X11_hasStep hw) pk_X11_hasStep k_674 rfl (by decide) rfl (by decide) rfl rfl (Nat.le_of_ble_eq_true rfl) dX11_grip_3 (fun r_1 σ_2 hw => ?_)
  refine v_if_ne (pc := 6) (tgt := 11) C dX11_grip_6 (by decide) (fun c => ?_) (fun c => ?_)
  · replace hw := hw.2 c
    refine v_aload_n (pc := 11) 0 C dX11_grip_11 rfl rfl ?_
    refine v_cVv (pc := 12) (o := 0) (As := []) (rest := []) (ci := 11) C (c_X11_lookAtGrips hw) pk_X11_lookAtGrips k_565 rfl (by decide) rfl (by decide) rfl rfl (Nat.le_of_ble_eq_true rfl) dX11_grip_12 (fun σ_3 hw => ?_)
    refine v_aload_n (pc := 15) 0 C dX11_grip_15 rfl rfl ?_
    refine g_11_6 (pc := 16) C k_356 dX11_grip_16 ?_
    refine v_aload_n (pc := 19) 0 C dX11_grip_19 rfl rfl ?_
    refine g_11_3 (pc := 20) C k_353 dX11_grip_20 ?_
    refine g_1_0 (pc := 23) C k_242 dX11_grip_23 ?_
    refine v_iload_n (pc := 26) 1 C dX11_grip_26 rfl rfl ?_
    have q_4 := hw.1
    refine v_aldG (pc := 27) C rfl q_4 dX11_grip_27 ?_
    replace hw := hw.2
    refine v_aload_n (pc := 28) 0 C dX11_grip_28 rfl rfl ?_
    refine g_11_2 (pc := 29) C k_352 dX11_grip_29 ?_
    refine v_cVv (pc := 32) (o := 24) (As := [.ref (gA G (bG + Int32.toNatClampNeg a1)), .ref (gA G 7)]) (rest := []) (ci := 6) C (c_X6_plan ((kd_song (vp_lt q_4)).1) hw) pk_X6_plan k_910 rfl (by decide) rfl (by decide) rfl rfl (Nat.le_of_ble_eq_true rfl) dX11_grip_32 (fun σ_5 hw => ?_)
    refine v_aload_n (pc := 35) 0 C dX11_grip_35 rfl rfl ?_
    refine g_11_6 (pc := 36) C k_356 dX11_grip_36 ?_
    refine v_iload_n (pc := 39) 2 C dX11_grip_39 rfl rfl ?_
    refine v_aload_n (pc := 40) 0 C dX11_grip_40 rfl rfl ?_
    refine g_11_2 (pc := 41) C k_352 dX11_grip_41 ?_
    refine v_cVi (pc := 44) (o := 24) (As := [.int a2, .ref (gA G 7)]) (rest := []) (ci := 6) C (c_X6_setAt hw) pk_X6_setAt k_958 rfl (by decide) rfl (by decide) rfl rfl (Nat.le_of_ble_eq_true rfl) dX11_grip_44 (fun r_6 σ_7 hw => ?_)
    exact v_iret (pc := 47) C r hw dX11_grip_47
  · replace hw := hw.1 c
    refine v_iconst (pc := 9) (v := (-1)) C dX11_grip_9 (by decide) ?_
    exact v_iret (pc := 10) C r hw dX11_grip_10

theorem w_X11_hasHearing_L2 {X : Cx} {G : Gl} {P : Int32 → Mem → Prop} {o0 : Nat} {x1 : Int32} {x2 : Int32} (C : Ck X G RX11 cX11_hasHearing 5 0) (r : RetI X G .boolean P) (h0 : kd o0 = (8, 0)) : ∀ (n : Nat) (x3 : Int32) (σ : Mem), v_X11_hasHearing_L2 o0 x1 x2 P n x3 σ → V X G 5 2 [(0, .ref (gA G o0)), (1, .int x1), (2, .int x2), (3, .int x3)] [] σ := by
  intro n
  induction n with
  | zero => intro x3 σ hw; exact hw.elim
  | succ n ih =>
    intro x3 σ hw
    refine v_iload_n (pc := 2) 3 C dX11_hasHearing_2 rfl rfl ?_
    refine v_iload_n (pc := 3) 2 C dX11_hasHearing_3 rfl rfl ?_
    refine v_icmp_ge (pc := 4) (tgt := 36) C dX11_hasHearing_4 (by decide) (fun c => ?_) (fun c => ?_)
    · replace hw := hw.1 c
      refine v_iconst (pc := 36) (v := 1) C dX11_hasHearing_36 (by decide) ?_
      exact v_zret (pc := 37) C r (Or.inr rfl) hw dX11_hasHearing_37
    · replace hw := hw.2 c
      refine v_aload_n (pc := 7) 0 C dX11_hasHearing_7 rfl rfl ?_
      refine g_8_0 (pc := 8) h0 C k_340 dX11_hasHearing_8 ?_
      refine v_iload_n (pc := 11) 1 C dX11_hasHearing_11 rfl rfl ?_
      refine v_iload_n (pc := 12) 3 C dX11_hasHearing_12 rfl rfl ?_
      refine v_iadd (pc := 13) C dX11_hasHearing_13 ?_
      refine v_iald (pc := 14) C (kds_8 _ (kd_lt h0 (by decide)) h0) hw.1 dX11_hasHearing_14 ?_
      replace hw := hw.2
      refine v_istore (pc := 15) C dX11_hasHearing_15 (by decide) rfl ?_
      refine v_iload (pc := 17) 0 C dX11_hasHearing_17 rfl ?_
      refine v_if_lt (pc := 19) (tgt := 28) C dX11_hasHearing_19 (by decide) (fun c => ?_) (fun c => ?_)
      · replace hw := hw.1 c
        refine v_iconst (pc := 28) (v := 0) C dX11_hasHearing_28 (by decide) ?_
        exact v_zret (pc := 29) C r (Or.inl rfl) hw dX11_hasHearing_29
      · replace hw := hw.2 c
        refine v_iload (pc := 22) 0 C dX11_hasHearing_22 rfl ?_
        refine v_iconst (pc := 24) (v := 2) C dX11_hasHearing_24 (by decide) ?_
        refine v_icmp_le (pc := 25) (tgt := 30) C dX11_hasHearing_25 (by decide) (fun c => ?_) (fun c => ?_)
        · replace hw := hw.1 c
          refine v_iinc (pc := 30) (v := x3 + 1) 4 C dX11_hasHearing_30 rfl rfl (by decide) rfl ?_
          refine v_goto (pc := 33) (tgt := 2) C dX11_hasHearing_33 (by decide) ?_
          refine v_sub [2, 3, 4, 0] rfl ?_
          exact ih _ _ hw
        · replace hw := hw.2 c
          refine v_iconst (pc := 28) (v := 0) C dX11_hasHearing_28 (by decide) ?_
          exact v_zret (pc := 29) C r (Or.inl rfl) hw dX11_hasHearing_29

theorem c_X11_hasHearing {l : Launch} {G : Gl} {o0 : Nat} {a1 : Int32} {a2 : Int32} {σ : Mem} {P : Int32 → Mem → Prop} (h0 : kd o0 = (8, 0)) (hw : v_X11_hasHearing o0 a1 a2 σ P) : MetI l yX11_hasHearing cX11_hasHearing 5 .boolean 0 G [.ref (gA G o0), .int a1, .int a2] σ P := by
  refine MetI.of RX11 (by decide +kernel) rfl (Nat.le_of_ble_eq_true rfl) (fun X C r => ?_)
  show V X G 5 0 [(0, .ref (gA G o0)), (1, .int a1), (2, .int a2)] [] σ
  unfold v_X11_hasHearing at hw
  refine v_iconst (pc := 0) (v := 0) C dX11_hasHearing_0 (by decide) ?_
  refine v_istore_n (pc := 1) C dX11_hasHearing_1 rfl (by decide) rfl ?_
  refine v_sub [1, 2, 3, 0] rfl ?_
  refine w_X11_hasHearing_L2 C r h0 5000 _ _ hw

theorem w_X11_heard_J77 {X : Cx} {G : Gl} {P : Int32 → Mem → Prop} (C : Ck X G RX11 cX11_heard 7 2) (r : RetI X G .int P) (x1 : Int32) (x4 : Int32) (o5 : Nat) (x6 : Int32) (h5 : kd o5 = (8, 0)) (σ : Mem) (hw : v_X11_heard_J77 P x1 x4 o5 x6 σ) : V X G 7 77 [(0, .ref (gA G 0)), (1, .int x1), (4, .int x4), (5, .ref (gA G o5)), (6, .int x6)] [] σ := by
  unfold v_X11_heard_J77 at hw
  refine v_iload (pc := 77) 4 C dX11_heard_77 rfl ?_
  refine v_if_eq (pc := 79) (tgt := 89) C dX11_heard_79 (by decide) (fun c => ?_) (fun c => ?_)
  · replace hw := hw.1 c
    refine v_aload (pc := 89) 3 C dX11_heard_89 rfl ?_
    refine v_iload (pc := 91) 2 C dX11_heard_91 rfl ?_
    refine v_aload_n (pc := 93) 0 C dX11_heard_93 rfl rfl ?_
    refine g_11_0 (pc := 94) C k_350 dX11_heard_94 ?_
    refine g_10_4 (pc := 97) C k_106 dX11_heard_97 ?_
    refine v_callSi (pc := 100) (As := [.ref (gA G o5), .int x4, .int (σ.1 1 4)]) (rest := []) C (c_X11_hasHearing h5 hw) pk_X11_hasHearing (Or.inl k_966) (by decide) rfl rfl (Nat.le_of_ble_eq_true rfl) dX11_heard_100 (fun r_12 σ_13 hw => ?_)
    refine v_if_ne (pc := 103) (tgt := 109) C dX11_heard_103 (by decide) (fun c => ?_) (fun c => ?_)
    · replace hw := hw.2 c
      refine v_aload_n (pc := 109) 0 C dX11_heard_109 rfl rfl ?_
      refine g_11_7 (pc := 110) C k_357 dX11_heard_110 ?_
      refine v_cVi (pc := 113) (o := 27) (As := []) (rest := []) (ci := 2) C (c_X2_isFull hw) pk_X2_isFull k_969 rfl (by decide) rfl (by decide) rfl rfl (Nat.le_of_ble_eq_true rfl) dX11_heard_113 (fun r_14 σ_15 hw => ?_)
      refine v_if_eq (pc := 116) (tgt := 122) C dX11_heard_116 (by decide) (fun c => ?_) (fun c => ?_)
      · replace hw := hw.1 c
        refine v_aload_n (pc := 122) 0 C dX11_heard_122 rfl rfl ?_
        refine g_11_7 (pc := 123) C k_357 dX11_heard_123 ?_
        refine v_iload_n (pc := 126) 1 C dX11_heard_126 rfl rfl ?_
        refine v_aload (pc := 127) 3 C dX11_heard_127 rfl ?_
        refine v_iload (pc := 129) 2 C dX11_heard_129 rfl ?_
        refine v_aload_n (pc := 131) 0 C dX11_heard_131 rfl rfl ?_
        refine g_11_0 (pc := 132) C k_350 dX11_heard_132 ?_
        refine g_10_4 (pc := 135) C k_106 dX11_heard_135 ?_
        refine v_cVi (pc := 138) (o := 27) (As := [.int x1, .ref (gA G o5), .int x4, .int (σ_15.1 1 4)]) (rest := []) (ci := 2) C (c_X2_add h5 hw) pk_X2_add k_973 rfl (by decide) rfl (by decide) rfl rfl (Nat.le_of_ble_eq_true rfl) dX11_heard_138 (fun r_16 σ_17 hw => ?_)
        exact v_iret (pc := 141) C r hw dX11_heard_141
      · replace hw := hw.2 c
        refine v_bipush (pc := 119) (v := (-4)) C dX11_heard_119 (by decide) ?_
        exact v_iret (pc := 121) C r hw dX11_heard_121
    · replace hw := hw.1 c
      refine v_bipush (pc := 106) (v := (-2)) C dX11_heard_106 (by decide) ?_
      exact v_iret (pc := 108) C r hw dX11_heard_108
  · replace hw := hw.2 c
    refine v_aload_n (pc := 82) 0 C dX11_heard_82 rfl rfl ?_
    refine v_iload (pc := 83) 4 C dX11_heard_83 rfl ?_
    refine v_cVi (pc := 85) (o := 0) (As := [.int x6]) (rest := []) (ci := 11) C (c_X11_fail hw) pk_X11_fail k_655 rfl (by decide) rfl (by decide) rfl rfl (Nat.le_of_ble_eq_true rfl) dX11_heard_85 (fun r_18 σ_19 hw => ?_)
    exact v_iret (pc := 88) C r hw dX11_heard_88

theorem c_X11_heard {l : Launch} {G : Gl} {a1 : Int32} {a2 : Int32} {a3 : Int32} {a4 : Int32} {σ : Mem} {P : Int32 → Mem → Prop} (hw : v_X11_heard a1 a2 a3 a4 σ P) : MetI l yX11_heard cX11_heard 7 .int 2 G [.ref (gA G 0), .int a1, .int a2, .int a3, .int a4] σ P := by
  refine MetI.of RX11 (by decide +kernel) rfl (Nat.le_of_ble_eq_true rfl) (fun X C r => ?_)
  show V X G 7 0 [(0, .ref (gA G 0)), (1, .int a1), (2, .int a2), (3, .int a3), (4, .int a4)] [] σ
  unfold v_X11_heard at hw
  refine v_aload_n (pc := 0) 0 C dX11_heard_0 rfl rfl ?_
  refine v_iconst (pc := 1) (v := 0) C dX11_heard_1 (by decide) ?_
  refine p_11_10 (pc := 2) C k_360 dX11_heard_2 ?_
  refine v_iload_n (pc := 5) 2 C dX11_heard_5 rfl rfl ?_
  refine v_callSi (pc := 6) (As := [.int a2]) (rest := []) C (c_X11_isSheet hw) pk_X11_isSheet (Or.inl k_636) (by decide) rfl rfl (Nat.le_of_ble_eq_true rfl) dX11_heard_6 (fun r_1 σ_2 hw => ?_)
  refine v_if_ne (pc := 9) (tgt := 14) C dX11_heard_9 (by decide) (fun c => ?_) (fun c => ?_)
  · replace hw := hw.2 c
    refine v_aload_n (pc := 14) 0 C dX11_heard_14 rfl rfl ?_
    refine g_11_1 (pc := 15) C k_351 dX11_heard_15 ?_
    refine v_iload_n (pc := 18) 1 C dX11_heard_18 rfl rfl ?_
    refine v_cVi (pc := 19) (o := 5) (As := [.int a1]) (rest := []) (ci := 7) C (c_X7_isSet hw) pk_X7_isSet k_532 rfl (by decide) rfl (by decide) rfl rfl (Nat.le_of_ble_eq_true rfl) dX11_heard_19 (fun r_3 σ_4 hw => ?_)
    refine v_if_eq (pc := 22) (tgt := 32) C dX11_heard_22 (by decide) (fun c => ?_) (fun c => ?_)
    · replace hw := hw.1 c
      refine v_bipush (pc := 32) (v := (-2)) C dX11_heard_32 (by decide) ?_
      exact v_iret (pc := 34) C r hw dX11_heard_34
    · replace hw := hw.2 c
      refine v_iload_n (pc := 25) 3 C dX11_heard_25 rfl rfl ?_
      refine v_callSi (pc := 26) (As := [.int a3]) (rest := []) C (c_X11_isLane hw) pk_X11_isLane (Or.inl k_639) (by decide) rfl rfl (Nat.le_of_ble_eq_true rfl) dX11_heard_26 (fun r_5 σ_6 hw => ?_)
      refine v_if_ne (pc := 29) (tgt := 35) C dX11_heard_29 (by decide) (fun c => ?_) (fun c => ?_)
      · replace hw := hw.2 c
        refine v_aload_n (pc := 35) 0 C dX11_heard_35 rfl rfl ?_
        refine g_11_8 (pc := 36) C k_358 dX11_heard_36 ?_
        refine v_iload_n (pc := 39) 2 C dX11_heard_39 rfl rfl ?_
        have q_7 := hw.1
        refine v_aldT (pc := 40) C rfl q_7 dX11_heard_40 ?_
        replace hw := hw.2
        refine v_astore (pc := 41) C dX11_heard_41 (by decide) rfl ?_
        refine v_aload (pc := 43) 0 C dX11_heard_43 rfl ?_
        refine v_iload_n (pc := 45) 4 C dX11_heard_45 rfl rfl ?_
        refine v_cVi (pc := 46) (o := bT + Int32.toNatClampNeg a2) (As := [.int a3]) (rest := []) (ci := 8) C (c_X8_faultAs ((kd_sheet (vp_lt q_7)).1) hw) pk_X8_faultAs k_642 ((kd_sheet (vp_lt q_7)).1) (by decide) rfl (by decide) rfl rfl (Nat.le_of_ble_eq_true rfl) dX11_heard_46 (fun r_8 σ_9 hw => ?_)
        refine v_istore (pc := 49) C dX11_heard_49 (by decide) rfl ?_
        refine v_iload (pc := 51) 0 C dX11_heard_51 rfl ?_
        refine v_if_ne (pc := 53) (tgt := 77) C dX11_heard_53 (by decide) (fun c => ?_) (fun c => ?_)
        · replace hw := hw.2 c
          refine v_sub [2, 3, 6, 1, 0] rfl ?_
          exact w_X11_heard_J77 C r _ _ _ _ ((kd_sheet (vp_lt q_7)).1) _ hw
        · replace hw := hw.1 c
          refine v_aload (pc := 56) 1 C dX11_heard_56 rfl ?_
          refine v_iload (pc := 58) 6 C dX11_heard_58 rfl ?_
          refine v_aload_n (pc := 60) 2 C dX11_heard_60 rfl rfl ?_
          refine g_11_0 (pc := 61) C k_350 dX11_heard_61 ?_
          refine g_10_4 (pc := 64) C k_106 dX11_heard_64 ?_
          refine v_i2l (pc := 67) C dX11_heard_67 ?_
          refine v_cVi (pc := 68) (o := bT + Int32.toNatClampNeg a2) (As := [.int a4, .long (Int32.toInt64 (σ_9.1 1 4))]) (rest := []) (ci := 8) C (c_X8_hasCells ((kd_sheet (vp_lt q_7)).1) hw) pk_X8_hasCells k_651 ((kd_sheet (vp_lt q_7)).1) (by decide) rfl (by decide) rfl rfl (Nat.le_of_ble_eq_true rfl) dX11_heard_68 (fun r_10 σ_11 hw => ?_)
          refine v_if_ne (pc := 71) (tgt := 77) C dX11_heard_71 (by decide) (fun c => ?_) (fun c => ?_)
          · replace hw := hw.2 c
            refine v_sub [2, 3, 6, 1, 0] rfl ?_
            exact w_X11_heard_J77 C r _ _ _ _ ((kd_sheet (vp_lt q_7)).1) _ hw
          · replace hw := hw.1 c
            refine v_iconst (pc := 74) (v := 3) C dX11_heard_74 (by decide) ?_
            refine v_istore (pc := 75) C dX11_heard_75 (by decide) rfl ?_
            refine v_sub [2, 3, 6, 1, 0] rfl ?_
            exact w_X11_heard_J77 C r _ _ _ _ ((kd_sheet (vp_lt q_7)).1) _ hw
      · replace hw := hw.1 c
        refine v_bipush (pc := 32) (v := (-2)) C dX11_heard_32 (by decide) ?_
        exact v_iret (pc := 34) C r hw dX11_heard_34
  · replace hw := hw.1 c
    refine v_iconst (pc := 12) (v := (-1)) C dX11_heard_12 (by decide) ?_
    exact v_iret (pc := 13) C r hw dX11_heard_13

theorem c_X11_worn {l : Launch} {G : Gl} {σ : Mem} {P : Int32 → Mem → Prop} (hw : v_X11_worn σ P) : MetI l yX11_worn cX11_worn 1 .int 2 G [.ref (gA G 0)] σ P := by
  refine MetI.of RX11 (by decide +kernel) rfl (Nat.le_of_ble_eq_true rfl) (fun X C r => ?_)
  show V X G 1 0 [(0, .ref (gA G 0))] [] σ
  unfold v_X11_worn at hw
  refine v_aload_n (pc := 0) 0 C dX11_worn_0 rfl rfl ?_
  refine g_11_7 (pc := 1) C k_357 dX11_worn_1 ?_
  refine v_aload_n (pc := 4) 0 C dX11_worn_4 rfl rfl ?_
  refine g_11_1 (pc := 5) C k_351 dX11_worn_5 ?_
  refine v_cVv (pc := 8) (o := 27) (As := [.ref (gA G 5)]) (rest := []) (ci := 2) C (c_X2_findWorn hw) pk_X2_findWorn k_985 rfl (by decide) rfl (by decide) rfl rfl (Nat.le_of_ble_eq_true rfl) dX11_worn_8 (fun σ_1 hw => ?_)
  refine v_aload_n (pc := 11) 0 C dX11_worn_11 rfl rfl ?_
  refine g_11_7 (pc := 12) C k_357 dX11_worn_12 ?_
  refine v_aload_n (pc := 15) 0 C dX11_worn_15 rfl rfl ?_
  refine g_11_1 (pc := 16) C k_351 dX11_worn_16 ?_
  refine v_cVi (pc := 19) (o := 27) (As := [.ref (gA G 5)]) (rest := []) (ci := 2) C (c_X2_explains hw) pk_X2_explains k_990 rfl (by decide) rfl (by decide) rfl rfl (Nat.le_of_ble_eq_true rfl) dX11_worn_19 (fun r_2 σ_3 hw => ?_)
  refine v_if_eq (pc := 22) (tgt := 35) C dX11_worn_22 (by decide) (fun c => ?_) (fun c => ?_)
  · replace hw := hw.1 c
    refine v_bipush (pc := 35) (v := (-9)) C dX11_worn_35 (by decide) ?_
    exact v_iret (pc := 37) C r hw dX11_worn_37
  · replace hw := hw.2 c
    refine v_aload_n (pc := 25) 0 C dX11_worn_25 rfl rfl ?_
    refine g_11_7 (pc := 26) C k_357 dX11_worn_26 ?_
    refine v_cVi (pc := 29) (o := 27) (As := []) (rest := []) (ci := 2) C (c_X2_howManyWorn hw) pk_X2_howManyWorn k_995 rfl (by decide) rfl (by decide) rfl rfl (Nat.le_of_ble_eq_true rfl) dX11_worn_29 (fun r_4 σ_5 hw => ?_)
    refine v_goto (pc := 32) (tgt := 37) C dX11_worn_32 (by decide) ?_
    exact v_iret (pc := 37) C r hw dX11_worn_37

theorem c_X11_sure {l : Launch} {G : Gl} {a1 : Int32} {a2 : Int32} {σ : Mem} {P : Int32 → Mem → Prop} (hw : v_X11_sure a1 a2 σ P) : MetI l yX11_sure cX11_sure 3 .int 3 G [.ref (gA G 0), .int a1, .int a2] σ P := by
  refine MetI.of RX11 (by decide +kernel) rfl (Nat.le_of_ble_eq_true rfl) (fun X C r => ?_)
  show V X G 3 0 [(0, .ref (gA G 0)), (1, .int a1), (2, .int a2)] [] σ
  unfold v_X11_sure at hw
  refine v_aload_n (pc := 0) 0 C dX11_sure_0 rfl rfl ?_
  refine v_iload_n (pc := 1) 1 C dX11_sure_1 rfl rfl ?_
  refine v_iload_n (pc := 2) 2 C dX11_sure_2 rfl rfl ?_
  refine v_cVi (pc := 3) (o := 0) (As := [.int a1, .int a2]) (rest := []) (ci := 11) C (c_X11_hasFelt hw) pk_X11_hasFelt k_476 rfl (by decide) rfl (by decide) rfl rfl (Nat.le_of_ble_eq_true rfl) dX11_sure_3 (fun r_1 σ_2 hw => ?_)
  refine v_if_ne (pc := 6) (tgt := 11) C dX11_sure_6 (by decide) (fun c => ?_) (fun c => ?_)
  · replace hw := hw.2 c
    refine v_aload_n (pc := 11) 0 C dX11_sure_11 rfl rfl ?_
    refine g_11_7 (pc := 12) C k_357 dX11_sure_12 ?_
    refine v_aload_n (pc := 15) 0 C dX11_sure_15 rfl rfl ?_
    refine g_11_1 (pc := 16) C k_351 dX11_sure_16 ?_
    refine v_cVv (pc := 19) (o := 27) (As := [.ref (gA G 5)]) (rest := []) (ci := 2) C (c_X2_findWorn hw) pk_X2_findWorn k_985 rfl (by decide) rfl (by decide) rfl rfl (Nat.le_of_ble_eq_true rfl) dX11_sure_19 (fun σ_3 hw => ?_)
    refine v_aload_n (pc := 22) 0 C dX11_sure_22 rfl rfl ?_
    refine g_11_7 (pc := 23) C k_357 dX11_sure_23 ?_
    refine v_aload_n (pc := 26) 0 C dX11_sure_26 rfl rfl ?_
    refine g_11_1 (pc := 27) C k_351 dX11_sure_27 ?_
    refine v_cVi (pc := 30) (o := 27) (As := [.ref (gA G 5)]) (rest := []) (ci := 2) C (c_X2_explains hw) pk_X2_explains k_990 rfl (by decide) rfl (by decide) rfl rfl (Nat.le_of_ble_eq_true rfl) dX11_sure_30 (fun r_4 σ_5 hw => ?_)
    refine v_if_ne (pc := 33) (tgt := 39) C dX11_sure_33 (by decide) (fun c => ?_) (fun c => ?_)
    · replace hw := hw.2 c
      refine v_aload_n (pc := 39) 0 C dX11_sure_39 rfl rfl ?_
      refine g_11_7 (pc := 40) C k_357 dX11_sure_40 ?_
      refine v_iload_n (pc := 43) 1 C dX11_sure_43 rfl rfl ?_
      refine v_iload_n (pc := 44) 2 C dX11_sure_44 rfl rfl ?_
      refine v_cVi (pc := 45) (o := 27) (As := [.int a1, .int a2]) (rest := []) (ci := 2) C (c_X2_takesAsWorn hw) pk_X2_takesAsWorn k_1004 rfl (by decide) rfl (by decide) rfl rfl (Nat.le_of_ble_eq_true rfl) dX11_sure_45 (fun r_6 σ_7 hw => ?_)
      refine v_if_eq (pc := 48) (tgt := 53) C dX11_sure_48 (by decide) (fun c => ?_) (fun c => ?_)
      · replace hw := hw.1 c
        refine v_aload_n (pc := 53) 0 C dX11_sure_53 rfl rfl ?_
        refine g_11_7 (pc := 54) C k_357 dX11_sure_54 ?_
        refine v_iload_n (pc := 57) 1 C dX11_sure_57 rfl rfl ?_
        refine v_iload_n (pc := 58) 2 C dX11_sure_58 rfl rfl ?_
        refine v_cVv (pc := 59) (o := 27) (As := [.int a1, .int a2]) (rest := []) (ci := 2) C (c_X2_takeAsWorn hw) pk_X2_takeAsWorn k_1008 rfl (by decide) rfl (by decide) rfl rfl (Nat.le_of_ble_eq_true rfl) dX11_sure_59 (fun σ_8 hw => ?_)
        refine v_aload_n (pc := 62) 0 C dX11_sure_62 rfl rfl ?_
        refine g_11_7 (pc := 63) C k_357 dX11_sure_63 ?_
        refine v_aload_n (pc := 66) 0 C dX11_sure_66 rfl rfl ?_
        refine g_11_1 (pc := 67) C k_351 dX11_sure_67 ?_
        refine v_cVi (pc := 70) (o := 27) (As := [.ref (gA G 5)]) (rest := []) (ci := 2) C (c_X2_explains hw) pk_X2_explains k_990 rfl (by decide) rfl (by decide) rfl rfl (Nat.le_of_ble_eq_true rfl) dX11_sure_70 (fun r_9 σ_10 hw => ?_)
        refine v_if_eq (pc := 73) (tgt := 80) C dX11_sure_73 (by decide) (fun c => ?_) (fun c => ?_)
        · replace hw := hw.1 c
          refine v_iconst (pc := 80) (v := 0) C dX11_sure_80 (by decide) ?_
          exact v_iret (pc := 81) C r hw dX11_sure_81
        · replace hw := hw.2 c
          refine v_iconst (pc := 76) (v := 2) C dX11_sure_76 (by decide) ?_
          refine v_goto (pc := 77) (tgt := 81) C dX11_sure_77 (by decide) ?_
          exact v_iret (pc := 81) C r hw dX11_sure_81
      · replace hw := hw.2 c
        refine v_iconst (pc := 51) (v := 1) C dX11_sure_51 (by decide) ?_
        exact v_iret (pc := 52) C r hw dX11_sure_52
    · replace hw := hw.1 c
      refine v_bipush (pc := 36) (v := (-3)) C dX11_sure_36 (by decide) ?_
      exact v_iret (pc := 38) C r hw dX11_sure_38
  · replace hw := hw.1 c
    refine v_iconst (pc := 9) (v := (-1)) C dX11_sure_9 (by decide) ?_
    exact v_iret (pc := 10) C r hw dX11_sure_10

theorem c_X11_unhear {l : Launch} {G : Gl} {σ : Mem} {P : Int32 → Mem → Prop} (hw : v_X11_unhear σ P) : MetI l yX11_unhear cX11_unhear 2 .int 1 G [.ref (gA G 0)] σ P := by
  refine MetI.of RX11 (by decide +kernel) rfl (Nat.le_of_ble_eq_true rfl) (fun X C r => ?_)
  show V X G 2 0 [(0, .ref (gA G 0))] [] σ
  unfold v_X11_unhear at hw
  refine v_aload_n (pc := 0) 0 C dX11_unhear_0 rfl rfl ?_
  refine g_11_7 (pc := 1) C k_357 dX11_unhear_1 ?_
  refine g_2_4 (pc := 4) C k_319 dX11_unhear_4 ?_
  refine v_istore_n (pc := 7) C dX11_unhear_7 rfl (by decide) rfl ?_
  refine v_aload_n (pc := 8) 1 C dX11_unhear_8 rfl rfl ?_
  refine g_11_7 (pc := 9) C k_357 dX11_unhear_9 ?_
  refine v_cVv (pc := 12) (o := 27) (As := []) (rest := []) (ci := 2) C (c_X2_clear hw) pk_X2_clear k_844 rfl (by decide) rfl (by decide) rfl rfl (Nat.le_of_ble_eq_true rfl) dX11_unhear_12 (fun σ_1 hw => ?_)
  refine v_iload_n (pc := 15) 0 C dX11_unhear_15 rfl rfl ?_
  exact v_iret (pc := 16) C r hw dX11_unhear_16

theorem c_X11_isShift {l : Launch} {G : Gl} {a0 : Int32} {σ : Mem} {P : Int32 → Mem → Prop} (hw : v_X11_isShift a0 σ P) : MetI l yX11_isShift cX11_isShift 1 .boolean 0 G [.int a0] σ P := by
  refine MetI.of RX11 (by decide +kernel) rfl (Nat.le_of_ble_eq_true rfl) (fun X C r => ?_)
  show V X G 1 0 [(0, .int a0)] [] σ
  unfold v_X11_isShift at hw
  refine v_iload_n (pc := 0) 0 C dX11_isShift_0 rfl rfl ?_
  refine v_bipush (pc := 1) (v := (-2)) C dX11_isShift_1 (by decide) ?_
  refine v_icmp_lt (pc := 3) (tgt := 19) C dX11_isShift_3 (by decide) (fun c => ?_) (fun c => ?_)
  · replace hw := hw.1 c
    refine v_iconst (pc := 19) (v := 0) C dX11_isShift_19 (by decide) ?_
    exact v_zret (pc := 20) C r (Or.inl rfl) hw dX11_isShift_20
  · replace hw := hw.2 c
    refine v_iload_n (pc := 6) 0 C dX11_isShift_6 rfl rfl ?_
    refine v_iconst (pc := 7) (v := 2) C dX11_isShift_7 (by decide) ?_
    refine v_icmp_gt (pc := 8) (tgt := 19) C dX11_isShift_8 (by decide) (fun c => ?_) (fun c => ?_)
    · replace hw := hw.1 c
      refine v_iconst (pc := 19) (v := 0) C dX11_isShift_19 (by decide) ?_
      exact v_zret (pc := 20) C r (Or.inl rfl) hw dX11_isShift_20
    · replace hw := hw.2 c
      refine v_iload_n (pc := 11) 0 C dX11_isShift_11 rfl rfl ?_
      refine v_if_eq (pc := 12) (tgt := 19) C dX11_isShift_12 (by decide) (fun c => ?_) (fun c => ?_)
      · replace hw := hw.1 c
        refine v_iconst (pc := 19) (v := 0) C dX11_isShift_19 (by decide) ?_
        exact v_zret (pc := 20) C r (Or.inl rfl) hw dX11_isShift_20
      · replace hw := hw.2 c
        refine v_iconst (pc := 15) (v := 1) C dX11_isShift_15 (by decide) ?_
        refine v_goto (pc := 16) (tgt := 20) C dX11_isShift_16 (by decide) ?_
        exact v_zret (pc := 20) C r (Or.inr rfl) hw dX11_isShift_20

theorem c_X11_songsWith {l : Launch} {G : Gl} {a1 : Int32} {a2 : Int32} {σ : Mem} {P : Int32 → Mem → Prop} (hw : v_X11_songsWith a1 a2 σ P) : MetI l yX11_songsWith cX11_songsWith 5 .int 5 G [.ref (gA G 0), .int a1, .int a2] σ P := by
  refine MetI.of RX11 (by decide +kernel) rfl (Nat.le_of_ble_eq_true rfl) (fun X C r => ?_)
  show V X G 5 0 [(0, .ref (gA G 0)), (1, .int a1), (2, .int a2)] [] σ
  unfold v_X11_songsWith at hw
  refine v_aload_n (pc := 0) 0 C dX11_songsWith_0 rfl rfl ?_
  refine g_11_0 (pc := 1) C k_350 dX11_songsWith_1 ?_
  refine g_10_0 (pc := 4) C k_99 dX11_songsWith_4 ?_
  refine v_iload_n (pc := 7) 1 C dX11_songsWith_7 rfl rfl ?_
  refine v_iald (pc := 8) C rfl hw.1 dX11_songsWith_8 ?_
  replace hw := hw.2
  refine v_istore_n (pc := 9) C dX11_songsWith_9 rfl (by decide) rfl ?_
  refine v_aload_n (pc := 10) 1 C dX11_songsWith_10 rfl rfl ?_
  refine g_11_0 (pc := 11) C k_350 dX11_songsWith_11 ?_
  refine v_iload_n (pc := 14) 2 C dX11_songsWith_14 rfl rfl ?_
  refine v_iload_n (pc := 15) 0 C dX11_songsWith_15 rfl rfl ?_
  refine v_iload_n (pc := 16) 3 C dX11_songsWith_16 rfl rfl ?_
  refine v_iadd (pc := 17) C dX11_songsWith_17 ?_
  refine v_cVv (pc := 18) (o := 1) (As := [.int a1, .int ((σ.1 2 (Int32.toNatClampNeg a1)) + a2)]) (rest := []) (ci := 10) C (c_X10_retune hw) pk_X10_retune k_418 rfl (by decide) rfl (by decide) rfl rfl (Nat.le_of_ble_eq_true rfl) dX11_songsWith_18 (fun σ_1 hw => ?_)
  refine v_aload_n (pc := 21) 1 C dX11_songsWith_21 rfl rfl ?_
  refine v_cVv (pc := 22) (o := 0) (As := []) (rest := []) (ci := 11) C (c_X11_lookAtGrips hw) pk_X11_lookAtGrips k_565 rfl (by decide) rfl (by decide) rfl rfl (Nat.le_of_ble_eq_true rfl) dX11_songsWith_22 (fun σ_2 hw => ?_)
  refine v_aload_n (pc := 25) 1 C dX11_songsWith_25 rfl rfl ?_
  refine g_11_3 (pc := 26) C k_353 dX11_songsWith_26 ?_
  refine v_aload_n (pc := 29) 1 C dX11_songsWith_29 rfl rfl ?_
  refine g_11_2 (pc := 30) C k_352 dX11_songsWith_30 ?_
  refine v_cVi (pc := 33) (o := 13) (As := [.ref (gA G 7)]) (rest := []) (ci := 1) C (c_X1_playedWith hw) pk_X1_playedWith k_751 rfl (by decide) rfl (by decide) rfl rfl (Nat.le_of_ble_eq_true rfl) dX11_songsWith_33 (fun r_3 σ_4 hw => ?_)
  refine v_callSi (pc := 36) (As := [.int r_3]) (rest := []) C (c_J6_bitCount_0f7a4 hw) pk_J6_bitCount_0f7a4 (Or.inl k_599) (by decide) rfl rfl (Nat.le_of_ble_eq_true rfl) dX11_songsWith_36 (fun r_5 σ_6 hw => ?_)
  refine v_istore (pc := 39) C dX11_songsWith_39 (by decide) rfl ?_
  refine v_aload_n (pc := 41) 2 C dX11_songsWith_41 rfl rfl ?_
  refine g_11_0 (pc := 42) C k_350 dX11_songsWith_42 ?_
  refine v_iload_n (pc := 45) 3 C dX11_songsWith_45 rfl rfl ?_
  refine v_iload_n (pc := 46) 1 C dX11_songsWith_46 rfl rfl ?_
  refine v_cVv (pc := 47) (o := 1) (As := [.int a1, .int (σ.1 2 (Int32.toNatClampNeg a1))]) (rest := []) (ci := 10) C (c_X10_retune hw) pk_X10_retune k_418 rfl (by decide) rfl (by decide) rfl rfl (Nat.le_of_ble_eq_true rfl) dX11_songsWith_47 (fun σ_7 hw => ?_)
  refine v_iload (pc := 50) 0 C dX11_songsWith_50 rfl ?_
  exact v_iret (pc := 52) C r hw dX11_songsWith_52

theorem c_X11_otherwise {l : Launch} {G : Gl} {a1 : Int32} {a2 : Int32} {σ : Mem} {P : Int32 → Mem → Prop} (hw : v_X11_otherwise a1 a2 σ P) : MetI l yX11_otherwise cX11_otherwise 3 .int 6 G [.ref (gA G 0), .int a1, .int a2] σ P := by
  refine MetI.of RX11 (by decide +kernel) rfl (Nat.le_of_ble_eq_true rfl) (fun X C r => ?_)
  show V X G 3 0 [(0, .ref (gA G 0)), (1, .int a1), (2, .int a2)] [] σ
  unfold v_X11_otherwise at hw
  refine v_aload_n (pc := 0) 0 C dX11_otherwise_0 rfl rfl ?_
  refine g_11_0 (pc := 1) C k_350 dX11_otherwise_1 ?_
  refine v_iload_n (pc := 4) 1 C dX11_otherwise_4 rfl rfl ?_
  refine v_cVi (pc := 5) (o := 1) (As := [.int a1]) (rest := []) (ci := 10) C (c_X10_knows hw) pk_X10_knows k_414 rfl (by decide) rfl (by decide) rfl rfl (Nat.le_of_ble_eq_true rfl) dX11_otherwise_5 (fun r_1 σ_2 hw => ?_)
  refine v_if_ne (pc := 8) (tgt := 13) C dX11_otherwise_8 (by decide) (fun c => ?_) (fun c => ?_)
  · replace hw := hw.2 c
    refine v_iload_n (pc := 13) 2 C dX11_otherwise_13 rfl rfl ?_
    refine v_callSi (pc := 14) (As := [.int a2]) (rest := []) C (c_X11_isShift hw) pk_X11_isShift (Or.inl k_1020) (by decide) rfl rfl (Nat.le_of_ble_eq_true rfl) dX11_otherwise_14 (fun r_3 σ_4 hw => ?_)
    refine v_if_eq (pc := 17) (tgt := 37) C dX11_otherwise_17 (by decide) (fun c => ?_) (fun c => ?_)
    · replace hw := hw.1 c
      refine v_bipush (pc := 37) (v := (-2)) C dX11_otherwise_37 (by decide) ?_
      exact v_iret (pc := 39) C r hw dX11_otherwise_39
    · replace hw := hw.2 c
      refine v_aload_n (pc := 20) 0 C dX11_otherwise_20 rfl rfl ?_
      refine g_11_0 (pc := 21) C k_350 dX11_otherwise_21 ?_
      refine g_10_0 (pc := 24) C k_99 dX11_otherwise_24 ?_
      refine v_iload_n (pc := 27) 1 C dX11_otherwise_27 rfl rfl ?_
      refine v_iald (pc := 28) C rfl hw.1 dX11_otherwise_28 ?_
      replace hw := hw.2
      refine v_iload_n (pc := 29) 2 C dX11_otherwise_29 rfl rfl ?_
      refine v_iadd (pc := 30) C dX11_otherwise_30 ?_
      refine v_callSi (pc := 31) (As := [.int ((σ_4.1 2 (Int32.toNatClampNeg a1)) + a2)]) (rest := []) C (c_X11_isTone hw) pk_X11_isTone (Or.inl k_388) (by decide) rfl rfl (Nat.le_of_ble_eq_true rfl) dX11_otherwise_31 (fun r_5 σ_6 hw => ?_)
      refine v_if_ne (pc := 34) (tgt := 40) C dX11_otherwise_34 (by decide) (fun c => ?_) (fun c => ?_)
      · replace hw := hw.2 c
        refine v_aload_n (pc := 40) 0 C dX11_otherwise_40 rfl rfl ?_
        refine v_iload_n (pc := 41) 1 C dX11_otherwise_41 rfl rfl ?_
        refine v_iload_n (pc := 42) 2 C dX11_otherwise_42 rfl rfl ?_
        refine v_cVi (pc := 43) (o := 0) (As := [.int a1, .int a2]) (rest := []) (ci := 11) C (c_X11_songsWith hw) pk_X11_songsWith k_1023 rfl (by decide) rfl (by decide) rfl rfl (Nat.le_of_ble_eq_true rfl) dX11_otherwise_43 (fun r_7 σ_8 hw => ?_)
        exact v_iret (pc := 46) C r hw dX11_otherwise_46
      · replace hw := hw.1 c
        refine v_bipush (pc := 37) (v := (-2)) C dX11_otherwise_37 (by decide) ?_
        exact v_iret (pc := 39) C r hw dX11_otherwise_39
  · replace hw := hw.1 c
    refine v_iconst (pc := 11) (v := (-1)) C dX11_otherwise_11 (by decide) ?_
    exact v_iret (pc := 12) C r hw dX11_otherwise_12

theorem w_X11_best_J110 {X : Cx} {G : Gl} {P : Int32 → Mem → Prop} {kb : Int32 → Int32 → Int32 → Int32 → Mem → Prop} {K134 : Int32 → Int32 → Int32 → Mem → Prop} (C : Ck X G RX11 cX11_best 11 6) (r : RetI X G .int P) (x1 : Int32) (x2 : Int32) (x3 : Int32) (x4 : Int32) (x5 : Int32) (x7 : Int32) (x8 : Int32) (x9 : Int32) (xs0 : Int32) (hkb : ∀ (x2 : Int32) (x3 : Int32) (x4 : Int32) (x8 : Int32) (σ : Mem), kb x2 x3 x4 x8 σ → V X G 11 65 [(0, .ref (gA G 0)), (1, .int x1), (2, .int x2), (3, .int x3), (4, .int x4), (5, .int x5), (6, .ref (gH G)), (7, .int x7), (8, .int x8)] [] σ) (hK134 : ∀ (x2 : Int32) (x3 : Int32) (x4 : Int32) (σ : Mem), K134 x2 x3 x4 σ → V X G 11 134 [(0, .ref (gA G 0)), (1, .int x1), (2, .int x2), (3, .int x3), (4, .int x4), (5, .int x5)] [] σ) (σ : Mem) (hw : v_X11_best_J110 kb K134 P x1 x2 x3 x4 x5 x7 x8 x9 xs0 σ) : V X G 11 110 [(0, .ref (gA G 0)), (1, .int x1), (2, .int x2), (3, .int x3), (4, .int x4), (5, .int x5), (6, .ref (gH G)), (7, .int x7), (8, .int x8), (9, .int x9)] [.int xs0] σ := by
  unfold v_X11_best_J110 at hw
  refine v_istore (pc := 110) C dX11_best_110 (by decide) rfl ?_
  refine v_iload (pc := 112) 0 C dX11_best_112 rfl ?_
  refine v_iload_n (pc := 114) 3 C dX11_best_114 rfl rfl ?_
  refine v_icmp_le (pc := 115) (tgt := 128) C dX11_best_115 (by decide) (fun c => ?_) (fun c => ?_)
  · replace hw := hw.1 c
    refine v_iinc (pc := 128) (v := x8 + 1) 9 C dX11_best_128 rfl rfl (by decide) rfl ?_
    refine v_goto (pc := 131) (tgt := 65) C dX11_best_131 (by decide) ?_
    refine v_sub [2, 3, 4, 5, 6, 7, 8, 9, 0] rfl ?_
    exact hkb _ _ _ _ _ hw
  · replace hw := hw.2 c
    refine v_iload (pc := 118) 0 C dX11_best_118 rfl ?_
    refine v_istore_n (pc := 120) C dX11_best_120 rfl (by decide) rfl ?_
    refine v_iload (pc := 121) 6 C dX11_best_121 rfl ?_
    refine v_istore_n (pc := 123) C dX11_best_123 rfl (by decide) rfl ?_
    refine v_iload (pc := 124) 10 C dX11_best_124 rfl ?_
    refine v_istore (pc := 126) C dX11_best_126 (by decide) rfl ?_
    refine v_iinc (pc := 128) (v := x8 + 1) 9 C dX11_best_128 rfl rfl (by decide) rfl ?_
    refine v_goto (pc := 131) (tgt := 65) C dX11_best_131 (by decide) ?_
    refine v_sub [5, 6, 3, 2, 1, 7, 8, 9, 0] rfl ?_
    exact hkb _ _ _ _ _ hw

theorem w_X11_best_L65 {X : Cx} {G : Gl} {P : Int32 → Mem → Prop} {x1 : Int32} {x5 : Int32} {x7 : Int32} {K134 : Int32 → Int32 → Int32 → Mem → Prop} (C : Ck X G RX11 cX11_best 11 6) (r : RetI X G .int P) (hK134 : ∀ (x2 : Int32) (x3 : Int32) (x4 : Int32) (σ : Mem), K134 x2 x3 x4 σ → V X G 11 134 [(0, .ref (gA G 0)), (1, .int x1), (2, .int x2), (3, .int x3), (4, .int x4), (5, .int x5)] [] σ) : ∀ (n : Nat) (x2 : Int32) (x3 : Int32) (x4 : Int32) (x8 : Int32) (σ : Mem), v_X11_best_L65 x1 x5 x7 K134 P n x2 x3 x4 x8 σ → V X G 11 65 [(0, .ref (gA G 0)), (1, .int x1), (2, .int x2), (3, .int x3), (4, .int x4), (5, .int x5), (6, .ref (gH G)), (7, .int x7), (8, .int x8)] [] σ := by
  intro n
  induction n with
  | zero => intro x2 x3 x4 x8 σ hw; exact hw.elim
  | succ n ih =>
    intro x2 x3 x4 x8 σ hw
    refine v_iload (pc := 65) 8 C dX11_best_65 rfl ?_
    refine v_iload (pc := 67) 7 C dX11_best_67 rfl ?_
    refine v_icmp_ge (pc := 69) (tgt := 134) C dX11_best_69 (by decide) (fun c => ?_) (fun c => ?_)
    · replace hw := hw.1 c
      refine v_sub [0, 1, 2, 3, 4, 5] rfl ?_
      exact hK134 _ _ _ _ hw
    · replace hw := hw.2 c
      refine v_aload (pc := 72) 6 C dX11_best_72 rfl ?_
      refine v_iload (pc := 74) 8 C dX11_best_74 rfl ?_
      refine v_sld (pc := 76) C C.S.2 hw.1 dX11_best_76 ?_
      replace hw := hw.2
      refine v_istore (pc := 77) C dX11_best_77 (by decide) rfl ?_
      refine v_aload_n (pc := 79) 1 C dX11_best_79 rfl rfl ?_
      refine g_11_0 (pc := 80) C k_350 dX11_best_80 ?_
      refine g_10_0 (pc := 83) C k_99 dX11_best_83 ?_
      refine v_iload (pc := 86) 6 C dX11_best_86 rfl ?_
      refine v_iald (pc := 88) C rfl hw.1 dX11_best_88 ?_
      replace hw := hw.2
      refine v_iload (pc := 89) 0 C dX11_best_89 rfl ?_
      refine v_iadd (pc := 91) C dX11_best_91 ?_
      refine v_callSi (pc := 92) (As := [.int ((σ.1 2 (Int32.toNatClampNeg x5)) + (tShifts (Int32.toNatClampNeg x8)))]) (rest := []) C (c_X11_isTone hw) pk_X11_isTone (Or.inl k_388) (by decide) rfl rfl (Nat.le_of_ble_eq_true rfl) dX11_best_92 (fun r_6 σ_7 hw => ?_)
      refine v_if_eq (pc := 95) (tgt := 109) C dX11_best_95 (by decide) (fun c => ?_) (fun c => ?_)
      · replace hw := hw.1 c
        refine v_iconst (pc := 109) (v := 0) C dX11_best_109 (by decide) ?_
        refine v_sub [1, 2, 3, 4, 5, 6, 7, 8, 9, 0] rfl ?_
        exact w_X11_best_J110 C r _ _ _ _ _ _ _ _ _ ih hK134 _ hw
      · replace hw := hw.2 c
        refine v_aload_n (pc := 98) 1 C dX11_best_98 rfl rfl ?_
        refine v_iload (pc := 99) 6 C dX11_best_99 rfl ?_
        refine v_iload (pc := 101) 0 C dX11_best_101 rfl ?_
        refine v_cVi (pc := 103) (o := 0) (As := [.int x5, .int (tShifts (Int32.toNatClampNeg x8))]) (rest := []) (ci := 11) C (c_X11_songsWith hw) pk_X11_songsWith k_1023 rfl (by decide) rfl (by decide) rfl rfl (Nat.le_of_ble_eq_true rfl) dX11_best_103 (fun r_8 σ_9 hw => ?_)
        refine v_goto (pc := 106) (tgt := 110) C dX11_best_106 (by decide) ?_
        refine v_sub [1, 2, 3, 4, 5, 6, 7, 8, 9, 0] rfl ?_
        exact w_X11_best_J110 C r _ _ _ _ _ _ _ _ _ ih hK134 _ hw

theorem w_X11_best_L40 {X : Cx} {G : Gl} {P : Int32 → Mem → Prop} {x1 : Int32} {K140 : Int32 → Int32 → Int32 → Mem → Prop} (C : Ck X G RX11 cX11_best 11 6) (r : RetI X G .int P) (hK140 : ∀ (x2 : Int32) (x3 : Int32) (x4 : Int32) (σ : Mem), K140 x2 x3 x4 σ → V X G 11 140 [(1, .int x1), (2, .int x2), (3, .int x3), (4, .int x4)] [] σ) : ∀ (n : Nat) (x2 : Int32) (x3 : Int32) (x4 : Int32) (x5 : Int32) (σ : Mem), v_X11_best_L40 x1 K140 P n x2 x3 x4 x5 σ → V X G 11 40 [(0, .ref (gA G 0)), (1, .int x1), (2, .int x2), (3, .int x3), (4, .int x4), (5, .int x5)] [] σ := by
  intro n
  induction n with
  | zero => intro x2 x3 x4 x5 σ hw; exact hw.elim
  | succ n ih =>
    intro x2 x3 x4 x5 σ hw
    refine v_iload (pc := 40) 5 C dX11_best_40 rfl ?_
    refine v_aload_n (pc := 42) 0 C dX11_best_42 rfl rfl ?_
    refine g_11_0 (pc := 43) C k_350 dX11_best_43 ?_
    refine g_10_4 (pc := 46) C k_106 dX11_best_46 ?_
    refine v_icmp_ge (pc := 49) (tgt := 140) C dX11_best_49 (by decide) (fun c => ?_) (fun c => ?_)
    · replace hw := hw.1 c
      refine v_sub [1, 2, 3, 4] rfl ?_
      exact hK140 _ _ _ _ hw
    · replace hw := hw.2 c
      refine v_shifts (pc := 52) C k_1031 dX11_best_52 ?_
      refine v_astore (pc := 55) C dX11_best_55 (by decide) rfl ?_
      refine v_aload (pc := 57) 0 C dX11_best_57 rfl ?_
      refine v_slen (pc := 59) C C.S.2 dX11_best_59 ?_
      refine v_istore (pc := 60) C dX11_best_60 (by decide) rfl ?_
      refine v_iconst (pc := 62) (v := 0) C dX11_best_62 (by decide) ?_
      refine v_istore (pc := 63) C dX11_best_63 (by decide) rfl ?_
      refine v_sub [3, 4, 5, 6, 7, 8, 2, 1, 0] rfl ?_
      refine w_X11_best_L65 C r ?_ 5000 _ _ _ _ _ hw
      · intro x2_10 x3_10 x4_10 σ_11 hw
        refine v_iinc (pc := 134) (v := x5 + 1) 5 C dX11_best_134 rfl rfl (by decide) rfl ?_
        refine v_goto (pc := 137) (tgt := 40) C dX11_best_137 (by decide) ?_
        refine v_sub [1, 2, 3, 4, 5, 0] rfl ?_
        exact ih _ _ _ _ _ hw

theorem c_X11_best {l : Launch} {G : Gl} {a1 : Int32} {σ : Mem} {P : Int32 → Mem → Prop} (hw : v_X11_best a1 σ P) : MetI l yX11_best cX11_best 11 .int 6 G [.ref (gA G 0), .int a1] σ P := by
  refine MetI.of RX11 (by decide +kernel) rfl (Nat.le_of_ble_eq_true rfl) (fun X C r => ?_)
  show V X G 11 0 [(0, .ref (gA G 0)), (1, .int a1)] [] σ
  unfold v_X11_best at hw
  refine v_iload_n (pc := 0) 1 C dX11_best_0 rfl rfl ?_
  refine v_if_lt (pc := 1) (tgt := 9) C dX11_best_1 (by decide) (fun c => ?_) (fun c => ?_)
  · replace hw := hw.1 c
    refine v_bipush (pc := 9) (v := 99) C dX11_best_9 (by decide) ?_
    exact v_iret (pc := 11) C r hw dX11_best_11
  · replace hw := hw.2 c
    refine v_iload_n (pc := 4) 1 C dX11_best_4 rfl rfl ?_
    refine v_iconst (pc := 5) (v := 2) C dX11_best_5 (by decide) ?_
    refine v_icmp_le (pc := 6) (tgt := 12) C dX11_best_6 (by decide) (fun c => ?_) (fun c => ?_)
    · replace hw := hw.1 c
      refine v_aload_n (pc := 12) 0 C dX11_best_12 rfl rfl ?_
      refine v_cVv (pc := 13) (o := 0) (As := []) (rest := []) (ci := 11) C (c_X11_lookAtGrips hw) pk_X11_lookAtGrips k_565 rfl (by decide) rfl (by decide) rfl rfl (Nat.le_of_ble_eq_true rfl) dX11_best_13 (fun σ_1 hw => ?_)
      refine v_aload_n (pc := 16) 0 C dX11_best_16 rfl rfl ?_
      refine g_11_3 (pc := 17) C k_353 dX11_best_17 ?_
      refine v_aload_n (pc := 20) 0 C dX11_best_20 rfl rfl ?_
      refine g_11_2 (pc := 21) C k_352 dX11_best_21 ?_
      refine v_cVi (pc := 24) (o := 13) (As := [.ref (gA G 7)]) (rest := []) (ci := 1) C (c_X1_playedWith hw) pk_X1_playedWith k_751 rfl (by decide) rfl (by decide) rfl rfl (Nat.le_of_ble_eq_true rfl) dX11_best_24 (fun r_2 σ_3 hw => ?_)
      refine v_callSi (pc := 27) (As := [.int r_2]) (rest := []) C (c_J6_bitCount_0f7a4 hw) pk_J6_bitCount_0f7a4 (Or.inl k_599) (by decide) rfl rfl (Nat.le_of_ble_eq_true rfl) dX11_best_27 (fun r_4 σ_5 hw => ?_)
      refine v_istore_n (pc := 30) C dX11_best_30 rfl (by decide) rfl ?_
      refine v_bipush (pc := 31) (v := (-9)) C dX11_best_31 (by decide) ?_
      refine v_istore_n (pc := 33) C dX11_best_33 rfl (by decide) rfl ?_
      refine v_iconst (pc := 34) (v := 0) C dX11_best_34 (by decide) ?_
      refine v_istore (pc := 35) C dX11_best_35 (by decide) rfl ?_
      refine v_iconst (pc := 37) (v := 0) C dX11_best_37 (by decide) ?_
      refine v_istore (pc := 38) C dX11_best_38 (by decide) rfl ?_
      refine v_sub [4, 5, 3, 2, 1, 0] rfl ?_
      refine w_X11_best_L40 C r ?_ 5000 _ _ _ _ _ hw
      · intro x2_12 x3_12 x4_12 σ_13 hw
        refine v_iload_n (pc := 140) 0 C dX11_best_140 rfl rfl ?_
        refine v_if_ne (pc := 141) (tgt := 146) C dX11_best_141 (by decide) (fun c => ?_) (fun c => ?_)
        · replace hw := hw.2 c
          refine v_iload_n (pc := 146) 0 C dX11_best_146 rfl rfl ?_
          refine v_iconst (pc := 147) (v := 1) C dX11_best_147 (by decide) ?_
          refine v_icmp_ne (pc := 148) (tgt := 154) C dX11_best_148 (by decide) (fun c => ?_) (fun c => ?_)
          · replace hw := hw.2 c
            refine v_iload_n (pc := 154) 2 C dX11_best_154 rfl rfl ?_
            refine v_bipush (pc := 155) (v := (-9)) C dX11_best_155 (by decide) ?_
            refine v_icmp_ne (pc := 157) (tgt := 165) C dX11_best_157 (by decide) (fun c => ?_) (fun c => ?_)
            · replace hw := hw.2 c
              refine v_iload_n (pc := 165) 1 C dX11_best_165 rfl rfl ?_
              exact v_iret (pc := 166) C r hw dX11_best_166
            · replace hw := hw.1 c
              refine v_bipush (pc := 160) (v := (-9)) C dX11_best_160 (by decide) ?_
              refine v_goto (pc := 162) (tgt := 166) C dX11_best_162 (by decide) ?_
              exact v_iret (pc := 166) C r hw dX11_best_166
          · replace hw := hw.1 c
            refine v_iload (pc := 151) 3 C dX11_best_151 rfl ?_
            exact v_iret (pc := 153) C r hw dX11_best_153
        · replace hw := hw.1 c
          refine v_iload_n (pc := 144) 2 C dX11_best_144 rfl rfl ?_
          exact v_iret (pc := 145) C r hw dX11_best_145
    · replace hw := hw.2 c
      refine v_bipush (pc := 9) (v := 99) C dX11_best_9 (by decide) ?_
      exact v_iret (pc := 11) C r hw dX11_best_11

theorem c_X11_sheet {l : Launch} {G : Gl} {a1 : Int32} {a2 : Int32} {a3 : Int32} {σ : Mem} {P : Int32 → Mem → Prop} (hw : v_X11_sheet a1 a2 a3 σ P) : MetI l yX11_sheet cX11_sheet 4 .int 2 G [.ref (gA G 0), .int a1, .int a2, .int a3] σ P := by
  refine MetI.of RX11 (by decide +kernel) rfl (Nat.le_of_ble_eq_true rfl) (fun X C r => ?_)
  show V X G 4 0 [(0, .ref (gA G 0)), (1, .int a1), (2, .int a2), (3, .int a3)] [] σ
  unfold v_X11_sheet at hw
  refine v_aload_n (pc := 0) 0 C dX11_sheet_0 rfl rfl ?_
  refine v_iconst (pc := 1) (v := 0) C dX11_sheet_1 (by decide) ?_
  refine p_11_10 (pc := 2) C k_360 dX11_sheet_2 ?_
  refine v_iload_n (pc := 5) 1 C dX11_sheet_5 rfl rfl ?_
  refine v_callSi (pc := 6) (As := [.int a1]) (rest := []) C (c_X11_isSheet hw) pk_X11_isSheet (Or.inl k_636) (by decide) rfl rfl (Nat.le_of_ble_eq_true rfl) dX11_sheet_6 (fun r_1 σ_2 hw => ?_)
  refine v_if_ne (pc := 9) (tgt := 14) C dX11_sheet_9 (by decide) (fun c => ?_) (fun c => ?_)
  · replace hw := hw.2 c
    refine v_iload_n (pc := 14) 2 C dX11_sheet_14 rfl rfl ?_
    refine v_callSi (pc := 15) (As := [.int a2]) (rest := []) C (c_X11_isLane hw) pk_X11_isLane (Or.inl k_639) (by decide) rfl rfl (Nat.le_of_ble_eq_true rfl) dX11_sheet_15 (fun r_3 σ_4 hw => ?_)
    refine v_if_eq (pc := 18) (tgt := 27) C dX11_sheet_18 (by decide) (fun c => ?_) (fun c => ?_)
    · replace hw := hw.1 c
      refine v_bipush (pc := 27) (v := (-2)) C dX11_sheet_27 (by decide) ?_
      exact v_iret (pc := 29) C r hw dX11_sheet_29
    · replace hw := hw.2 c
      refine v_iload_n (pc := 21) 3 C dX11_sheet_21 rfl rfl ?_
      refine v_bipush (pc := 22) (v := 64) C dX11_sheet_22 (by decide) ?_
      refine v_icmp_le (pc := 24) (tgt := 30) C dX11_sheet_24 (by decide) (fun c => ?_) (fun c => ?_)
      · replace hw := hw.1 c
        refine v_iload_n (pc := 30) 3 C dX11_sheet_30 rfl rfl ?_
        refine v_if_ge (pc := 31) (tgt := 40) C dX11_sheet_31 (by decide) (fun c => ?_) (fun c => ?_)
        · replace hw := hw.1 c
          refine v_aload_n (pc := 40) 0 C dX11_sheet_40 rfl rfl ?_
          refine g_11_8 (pc := 41) C k_358 dX11_sheet_41 ?_
          refine v_iload_n (pc := 44) 1 C dX11_sheet_44 rfl rfl ?_
          have q_5 := hw.1
          refine v_aldT (pc := 45) C rfl q_5 dX11_sheet_45 ?_
          replace hw := hw.2
          refine v_iload_n (pc := 46) 2 C dX11_sheet_46 rfl rfl ?_
          refine v_iload_n (pc := 47) 3 C dX11_sheet_47 rfl rfl ?_
          refine v_cVv (pc := 48) (o := bT + Int32.toNatClampNeg a1) (As := [.int a2, .int a3]) (rest := []) (ci := 8) C (c_X8_begin ((kd_sheet (vp_lt q_5)).1) hw) pk_X8_begin k_1037 ((kd_sheet (vp_lt q_5)).1) (by decide) rfl (by decide) rfl rfl (Nat.le_of_ble_eq_true rfl) dX11_sheet_48 (fun σ_6 hw => ?_)
          refine v_iconst (pc := 51) (v := 1) C dX11_sheet_51 (by decide) ?_
          exact v_iret (pc := 52) C r hw dX11_sheet_52
        · replace hw := hw.2 c
          refine v_aload_n (pc := 34) 0 C dX11_sheet_34 rfl rfl ?_
          refine v_iconst (pc := 35) (v := 4) C dX11_sheet_35 (by decide) ?_
          refine v_cVi (pc := 36) (o := 0) (As := [.int 4]) (rest := []) (ci := 11) C (c_X11_fail hw) pk_X11_fail k_655 rfl (by decide) rfl (by decide) rfl rfl (Nat.le_of_ble_eq_true rfl) dX11_sheet_36 (fun r_7 σ_8 hw => ?_)
          exact v_iret (pc := 39) C r hw dX11_sheet_39
      · replace hw := hw.2 c
        refine v_bipush (pc := 27) (v := (-2)) C dX11_sheet_27 (by decide) ?_
        exact v_iret (pc := 29) C r hw dX11_sheet_29
  · replace hw := hw.1 c
    refine v_iconst (pc := 12) (v := (-1)) C dX11_sheet_12 (by decide) ?_
    exact v_iret (pc := 13) C r hw dX11_sheet_13

theorem c_X11_lose {l : Launch} {G : Gl} {a1 : Int32} {σ : Mem} {P : Int32 → Mem → Prop} (hw : v_X11_lose a1 σ P) : MetI l yX11_lose cX11_lose 2 .int 2 G [.ref (gA G 0), .int a1] σ P := by
  refine MetI.of RX11 (by decide +kernel) rfl (Nat.le_of_ble_eq_true rfl) (fun X C r => ?_)
  show V X G 2 0 [(0, .ref (gA G 0)), (1, .int a1)] [] σ
  unfold v_X11_lose at hw
  refine v_iload_n (pc := 0) 1 C dX11_lose_0 rfl rfl ?_
  refine v_callSi (pc := 1) (As := [.int a1]) (rest := []) C (c_X11_isSheet hw) pk_X11_isSheet (Or.inl k_636) (by decide) rfl rfl (Nat.le_of_ble_eq_true rfl) dX11_lose_1 (fun r_1 σ_2 hw => ?_)
  refine v_if_ne (pc := 4) (tgt := 9) C dX11_lose_4 (by decide) (fun c => ?_) (fun c => ?_)
  · replace hw := hw.2 c
    refine v_aload_n (pc := 9) 0 C dX11_lose_9 rfl rfl ?_
    refine g_11_8 (pc := 10) C k_358 dX11_lose_10 ?_
    refine v_iload_n (pc := 13) 1 C dX11_lose_13 rfl rfl ?_
    have q_3 := hw.1
    refine v_aldT (pc := 14) C rfl q_3 dX11_lose_14 ?_
    replace hw := hw.2
    refine v_cVi (pc := 15) (o := bT + Int32.toNatClampNeg a1) (As := []) (rest := []) (ci := 8) C (c_X8_drop ((kd_sheet (vp_lt q_3)).1) hw) pk_X8_drop k_1046 ((kd_sheet (vp_lt q_3)).1) (by decide) rfl (by decide) rfl rfl (Nat.le_of_ble_eq_true rfl) dX11_lose_15 (fun r_4 σ_5 hw => ?_)
    refine v_callSi (pc := 18) (As := [.int r_4]) (rest := []) C (c_X11_asNumber hw) pk_X11_asNumber (Or.inl k_469) (by decide) rfl rfl (Nat.le_of_ble_eq_true rfl) dX11_lose_18 (fun r_6 σ_7 hw => ?_)
    exact v_iret (pc := 21) C r hw dX11_lose_21
  · replace hw := hw.1 c
    refine v_iconst (pc := 7) (v := (-1)) C dX11_lose_7 (by decide) ?_
    exact v_iret (pc := 8) C r hw dX11_lose_8

theorem c_X11_put {l : Launch} {G : Gl} {a1 : Int32} {a2 : Int32} {a3 : Int32} {σ : Mem} {P : Int32 → Mem → Prop} (hw : v_X11_put a1 a2 a3 σ P) : MetI l yX11_put cX11_put 4 .int 1 G [.ref (gA G 0), .int a1, .int a2, .int a3] σ P := by
  refine MetI.of RX11 (by decide +kernel) rfl (Nat.le_of_ble_eq_true rfl) (fun X C r => ?_)
  show V X G 4 0 [(0, .ref (gA G 0)), (1, .int a1), (2, .int a2), (3, .int a3)] [] σ
  unfold v_X11_put at hw
  refine v_aload_n (pc := 0) 0 C dX11_put_0 rfl rfl ?_
  refine v_iconst (pc := 1) (v := 0) C dX11_put_1 (by decide) ?_
  refine p_11_10 (pc := 2) C k_360 dX11_put_2 ?_
  refine v_iload_n (pc := 5) 1 C dX11_put_5 rfl rfl ?_
  refine v_callSi (pc := 6) (As := [.int a1]) (rest := []) C (c_X11_isSheet hw) pk_X11_isSheet (Or.inl k_636) (by decide) rfl rfl (Nat.le_of_ble_eq_true rfl) dX11_put_6 (fun r_1 σ_2 hw => ?_)
  refine v_if_ne (pc := 9) (tgt := 14) C dX11_put_9 (by decide) (fun c => ?_) (fun c => ?_)
  · replace hw := hw.2 c
    refine v_aload_n (pc := 14) 0 C dX11_put_14 rfl rfl ?_
    refine g_11_8 (pc := 15) C k_358 dX11_put_15 ?_
    refine v_iload_n (pc := 18) 1 C dX11_put_18 rfl rfl ?_
    have q_3 := hw.1
    refine v_aldT (pc := 19) C rfl q_3 dX11_put_19 ?_
    replace hw := hw.2
    refine v_cVi (pc := 20) (o := bT + Int32.toNatClampNeg a1) (As := []) (rest := []) (ci := 8) C (c_X8_isNothing ((kd_sheet (vp_lt q_3)).1) hw) pk_X8_isNothing k_1054 ((kd_sheet (vp_lt q_3)).1) (by decide) rfl (by decide) rfl rfl (Nat.le_of_ble_eq_true rfl) dX11_put_20 (fun r_4 σ_5 hw => ?_)
    refine v_if_eq (pc := 23) (tgt := 32) C dX11_put_23 (by decide) (fun c => ?_) (fun c => ?_)
    · replace hw := hw.1 c
      refine v_aload_n (pc := 32) 0 C dX11_put_32 rfl rfl ?_
      refine g_11_8 (pc := 33) C k_358 dX11_put_33 ?_
      refine v_iload_n (pc := 36) 1 C dX11_put_36 rfl rfl ?_
      have q_6 := hw.1
      refine v_aldT (pc := 37) C rfl q_6 dX11_put_37 ?_
      replace hw := hw.2
      refine v_iload_n (pc := 38) 2 C dX11_put_38 rfl rfl ?_
      refine v_cVi (pc := 39) (o := bT + Int32.toNatClampNeg a1) (As := [.int a2]) (rest := []) (ci := 8) C (c_X8_hasCell ((kd_sheet (vp_lt q_6)).1) hw) pk_X8_hasCell k_1055 ((kd_sheet (vp_lt q_6)).1) (by decide) rfl (by decide) rfl rfl (Nat.le_of_ble_eq_true rfl) dX11_put_39 (fun r_7 σ_8 hw => ?_)
      refine v_if_ne (pc := 42) (tgt := 51) C dX11_put_42 (by decide) (fun c => ?_) (fun c => ?_)
      · replace hw := hw.2 c
        refine v_aload_n (pc := 51) 0 C dX11_put_51 rfl rfl ?_
        refine g_11_8 (pc := 52) C k_358 dX11_put_52 ?_
        refine v_iload_n (pc := 55) 1 C dX11_put_55 rfl rfl ?_
        have q_11 := hw.1
        refine v_aldT (pc := 56) C rfl q_11 dX11_put_56 ?_
        replace hw := hw.2
        refine v_iload_n (pc := 57) 2 C dX11_put_57 rfl rfl ?_
        refine v_iload_n (pc := 58) 3 C dX11_put_58 rfl rfl ?_
        refine v_cVv (pc := 59) (o := bT + Int32.toNatClampNeg a1) (As := [.int a2, .int a3]) (rest := []) (ci := 8) C (c_X8_write ((kd_sheet (vp_lt q_11)).1) hw) pk_X8_write k_1059 ((kd_sheet (vp_lt q_11)).1) (by decide) rfl (by decide) rfl rfl (Nat.le_of_ble_eq_true rfl) dX11_put_59 (fun σ_12 hw => ?_)
        refine v_iconst (pc := 62) (v := 1) C dX11_put_62 (by decide) ?_
        exact v_iret (pc := 63) C r hw dX11_put_63
      · replace hw := hw.1 c
        refine v_aload_n (pc := 45) 0 C dX11_put_45 rfl rfl ?_
        refine v_iconst (pc := 46) (v := 3) C dX11_put_46 (by decide) ?_
        refine v_cVi (pc := 47) (o := 0) (As := [.int 3]) (rest := []) (ci := 11) C (c_X11_fail hw) pk_X11_fail k_655 rfl (by decide) rfl (by decide) rfl rfl (Nat.le_of_ble_eq_true rfl) dX11_put_47 (fun r_9 σ_10 hw => ?_)
        exact v_iret (pc := 50) C r hw dX11_put_50
    · replace hw := hw.2 c
      refine v_aload_n (pc := 26) 0 C dX11_put_26 rfl rfl ?_
      refine v_iconst (pc := 27) (v := 1) C dX11_put_27 (by decide) ?_
      refine v_cVi (pc := 28) (o := 0) (As := [.int 1]) (rest := []) (ci := 11) C (c_X11_fail hw) pk_X11_fail k_655 rfl (by decide) rfl (by decide) rfl rfl (Nat.le_of_ble_eq_true rfl) dX11_put_28 (fun r_13 σ_14 hw => ?_)
      exact v_iret (pc := 31) C r hw dX11_put_31
  · replace hw := hw.1 c
    refine v_iconst (pc := 12) (v := (-1)) C dX11_put_12 (by decide) ?_
    exact v_iret (pc := 13) C r hw dX11_put_13

