theorem w_X11_at_J62 {X : Cx} {G : Gl} {P : Int64 → Mem → Prop} (C : Ck X G RX11 cX11_at 4 2) (r : RetJ X G P) (x1 : Int32) (x2 : Int32) (σ : Mem) (hw : v_X11_at_J62 P x1 x2 σ) : V X G 4 62 [(0, .ref (gA G 0)), (1, .int x1), (2, .int x2)] [] σ := by
  unfold v_X11_at_J62 at hw
  refine v_aload_n (pc := 62) 0 C dX11_at_62 rfl rfl ?_
  refine g_11_10 (pc := 63) C k_360 dX11_at_63 ?_
  refine v_if_ne (pc := 66) (tgt := 84) C dX11_at_66 (by decide) (fun c => ?_) (fun c => ?_)
  · replace hw := hw.2 c
    refine v_ldc2 (pc := 84) C k_1067 dX11_at_84 ?_
    exact v_lret (pc := 87) C r hw dX11_at_87
  · replace hw := hw.1 c
    refine v_aload_n (pc := 69) 0 C dX11_at_69 rfl rfl ?_
    refine g_11_8 (pc := 70) C k_358 dX11_at_70 ?_
    refine v_iload_n (pc := 73) 1 C dX11_at_73 rfl rfl ?_
    have q_11 := hw.1
    refine v_aldT (pc := 74) C rfl q_11 dX11_at_74 ?_
    replace hw := hw.2
    refine g_8_0 (pc := 75) ((kd_sheet (vp_lt q_11)).1) C k_340 dX11_at_75 ?_
    refine v_iload_n (pc := 78) 2 C dX11_at_78 rfl rfl ?_
    refine v_iald (pc := 79) C (kds_8 _ (kd_lt ((kd_sheet (vp_lt q_11)).1) (by decide)) ((kd_sheet (vp_lt q_11)).1)) hw.1 dX11_at_79 ?_
    replace hw := hw.2
    refine v_i2l (pc := 80) C dX11_at_80 ?_
    refine v_goto (pc := 81) (tgt := 87) C dX11_at_81 (by decide) ?_
    exact v_lret (pc := 87) C r hw dX11_at_87

theorem c_X11_at {l : Launch} {G : Gl} {a1 : Int32} {a2 : Int32} {a3 : Int32} {σ : Mem} {P : Int64 → Mem → Prop} (hw : v_X11_at a1 a2 a3 σ P) : MetJ l yX11_at cX11_at 4 2 G [.ref (gA G 0), .int a1, .int a2, .int a3] σ P := by
  refine MetJ.of RX11 (by decide +kernel) rfl (Nat.le_of_ble_eq_true rfl) (fun X C r => ?_)
  show V X G 4 0 [(0, .ref (gA G 0)), (1, .int a1), (2, .int a2), (3, .int a3)] [] σ
  unfold v_X11_at at hw
  refine v_aload_n (pc := 0) 0 C dX11_at_0 rfl rfl ?_
  refine v_iconst (pc := 1) (v := 0) C dX11_at_1 (by decide) ?_
  refine p_11_10 (pc := 2) C k_360 dX11_at_2 ?_
  refine v_iload_n (pc := 5) 1 C dX11_at_5 rfl rfl ?_
  refine v_callSi (pc := 6) (As := [.int a1]) (rest := []) C (c_X11_isSheet hw) pk_X11_isSheet (Or.inl k_636) (by decide) rfl rfl (Nat.le_of_ble_eq_true rfl) dX11_at_6 (fun r_1 σ_2 hw => ?_)
  refine v_if_eq (pc := 9) (tgt := 19) C dX11_at_9 (by decide) (fun c => ?_) (fun c => ?_)
  · replace hw := hw.1 c
    refine v_ldc2 (pc := 19) C k_1067 dX11_at_19 ?_
    exact v_lret (pc := 22) C r hw dX11_at_22
  · replace hw := hw.2 c
    refine v_iload_n (pc := 12) 3 C dX11_at_12 rfl rfl ?_
    refine v_callSi (pc := 13) (As := [.int a3]) (rest := []) C (c_X11_isLane hw) pk_X11_isLane (Or.inl k_639) (by decide) rfl rfl (Nat.le_of_ble_eq_true rfl) dX11_at_13 (fun r_3 σ_4 hw => ?_)
    refine v_if_ne (pc := 16) (tgt := 23) C dX11_at_16 (by decide) (fun c => ?_) (fun c => ?_)
    · replace hw := hw.2 c
      refine v_aload_n (pc := 23) 0 C dX11_at_23 rfl rfl ?_
      refine v_aload_n (pc := 24) 0 C dX11_at_24 rfl rfl ?_
      refine g_11_8 (pc := 25) C k_358 dX11_at_25 ?_
      refine v_iload_n (pc := 28) 1 C dX11_at_28 rfl rfl ?_
      have q_5 := hw.1
      refine v_aldT (pc := 29) C rfl q_5 dX11_at_29 ?_
      replace hw := hw.2
      refine v_iload_n (pc := 30) 3 C dX11_at_30 rfl rfl ?_
      refine v_cVi (pc := 31) (o := bT + Int32.toNatClampNeg a1) (As := [.int a3]) (rest := [.ref (gA G 0)]) (ci := 8) C (c_X8_faultAs ((kd_sheet (vp_lt q_5)).1) hw) pk_X8_faultAs k_642 ((kd_sheet (vp_lt q_5)).1) (by decide) rfl (by decide) rfl rfl (Nat.le_of_ble_eq_true rfl) dX11_at_31 (fun r_6 σ_7 hw => ?_)
      refine p_11_10 (pc := 34) C k_360 dX11_at_34 ?_
      refine v_aload_n (pc := 37) 0 C dX11_at_37 rfl rfl ?_
      refine g_11_10 (pc := 38) C k_360 dX11_at_38 ?_
      refine v_if_ne (pc := 41) (tgt := 62) C dX11_at_41 (by decide) (fun c => ?_) (fun c => ?_)
      · replace hw := hw.2 c
        refine v_sub [0, 1, 2] rfl ?_
        exact w_X11_at_J62 C r _ _ _ hw
      · replace hw := hw.1 c
        refine v_aload_n (pc := 44) 0 C dX11_at_44 rfl rfl ?_
        refine g_11_8 (pc := 45) C k_358 dX11_at_45 ?_
        refine v_iload_n (pc := 48) 1 C dX11_at_48 rfl rfl ?_
        have q_8 := hw.1
        refine v_aldT (pc := 49) C rfl q_8 dX11_at_49 ?_
        replace hw := hw.2
        refine v_iload_n (pc := 50) 2 C dX11_at_50 rfl rfl ?_
        refine v_cVi (pc := 51) (o := bT + Int32.toNatClampNeg a1) (As := [.int a2]) (rest := []) (ci := 8) C (c_X8_hasCell ((kd_sheet (vp_lt q_8)).1) hw) pk_X8_hasCell k_1055 ((kd_sheet (vp_lt q_8)).1) (by decide) rfl (by decide) rfl rfl (Nat.le_of_ble_eq_true rfl) dX11_at_51 (fun r_9 σ_10 hw => ?_)
        refine v_if_ne (pc := 54) (tgt := 62) C dX11_at_54 (by decide) (fun c => ?_) (fun c => ?_)
        · replace hw := hw.2 c
          refine v_sub [0, 1, 2] rfl ?_
          exact w_X11_at_J62 C r _ _ _ hw
        · replace hw := hw.1 c
          refine v_aload_n (pc := 57) 0 C dX11_at_57 rfl rfl ?_
          refine v_iconst (pc := 58) (v := 3) C dX11_at_58 (by decide) ?_
          refine p_11_10 (pc := 59) C k_360 dX11_at_59 ?_
          refine v_sub [0, 1, 2] rfl ?_
          exact w_X11_at_J62 C r _ _ _ hw
    · replace hw := hw.1 c
      refine v_ldc2 (pc := 19) C k_1067 dX11_at_19 ?_
      exact v_lret (pc := 22) C r hw dX11_at_22

theorem c_X11_leaveInTrace {l : Launch} {G : Gl} {a1 : Int32} {σ : Mem} {P : Mem → Prop} (hw : v_X11_leaveInTrace a1 σ P) : MetV l yX11_leaveInTrace cX11_leaveInTrace 2 0 G [.ref (gA G 0), .int a1] σ P := by
  refine MetV.of RX11 (by decide +kernel) rfl (Nat.le_of_ble_eq_true rfl) (fun X C r => ?_)
  show V X G 2 0 [(0, .ref (gA G 0)), (1, .int a1)] [] σ
  unfold v_X11_leaveInTrace at hw
  refine v_aload_n (pc := 0) 0 C dX11_leaveInTrace_0 rfl rfl ?_
  refine v_bipush (pc := 1) (v := 31) C dX11_leaveInTrace_1 (by decide) ?_
  refine v_aload_n (pc := 3) 0 C dX11_leaveInTrace_3 rfl rfl ?_
  refine g_11_9 (pc := 4) C k_359 dX11_leaveInTrace_4 ?_
  refine v_imul (pc := 7) C dX11_leaveInTrace_7 ?_
  refine v_iload_n (pc := 8) 1 C dX11_leaveInTrace_8 rfl rfl ?_
  refine v_iadd (pc := 9) C dX11_leaveInTrace_9 ?_
  refine p_11_9 (pc := 10) C k_359 dX11_leaveInTrace_10 ?_
  exact v_vret (pc := 13) C r hw dX11_leaveInTrace_13

theorem c_X11_tellByHand {l : Launch} {G : Gl} {o1 : Nat} {σ : Mem} {P : Int32 → Mem → Prop} (h1 : kd o1 = (0, 0)) (hw : v_X11_tellByHand o1 σ P) : MetI l yX11_tellByHand cX11_tellByHand 2 .int 1 G [.ref (gA G 0), .ref (gA G o1)] σ P := by
  refine MetI.of RX11 (by decide +kernel) rfl (Nat.le_of_ble_eq_true rfl) (fun X C r => ?_)
  show V X G 2 0 [(0, .ref (gA G 0)), (1, .ref (gA G o1))] [] σ
  unfold v_X11_tellByHand at hw
  refine v_aload_n (pc := 0) 0 C dX11_tellByHand_0 rfl rfl ?_
  refine v_iconst (pc := 1) (v := 1) C dX11_tellByHand_1 (by decide) ?_
  refine v_cVv (pc := 2) (o := 0) (As := [.int 1]) (rest := []) (ci := 11) C (c_X11_leaveInTrace hw) pk_X11_leaveInTrace k_1076 rfl (by decide) rfl (by decide) rfl rfl (Nat.le_of_ble_eq_true rfl) dX11_tellByHand_2 (fun σ_1 hw => ?_)
  refine v_aload_n (pc := 5) 1 C dX11_tellByHand_5 rfl rfl ?_
  refine g_0_1 (pc := 6) h1 C k_139 dX11_tellByHand_6 ?_
  refine v_callSi (pc := 9) (As := [.long (σ_1.2 o1 1)]) (rest := []) C (c_J13_bitCount_95d88 hw) pk_J13_bitCount_95d88 (Or.inl k_511) (by decide) rfl rfl (Nat.le_of_ble_eq_true rfl) dX11_tellByHand_9 (fun r_2 σ_3 hw => ?_)
  exact v_iret (pc := 12) C r hw dX11_tellByHand_12

theorem c_X11_tellChord {l : Launch} {G : Gl} {o1 : Nat} {σ : Mem} {P : Int32 → Mem → Prop} (h1 : kd o1 = (0, 0)) (hw : v_X11_tellChord o1 σ P) : MetI l yX11_tellChord cX11_tellChord 2 .int 2 G [.ref (gA G 0), .ref (gA G o1)] σ P := by
  refine MetI.of RX11 (by decide +kernel) rfl (Nat.le_of_ble_eq_true rfl) (fun X C r => ?_)
  show V X G 2 0 [(0, .ref (gA G 0)), (1, .ref (gA G o1))] [] σ
  unfold v_X11_tellChord at hw
  refine v_aload_n (pc := 0) 0 C dX11_tellChord_0 rfl rfl ?_
  refine v_iconst (pc := 1) (v := 2) C dX11_tellChord_1 (by decide) ?_
  refine v_cVv (pc := 2) (o := 0) (As := [.int 2]) (rest := []) (ci := 11) C (c_X11_leaveInTrace hw) pk_X11_leaveInTrace k_1076 rfl (by decide) rfl (by decide) rfl rfl (Nat.le_of_ble_eq_true rfl) dX11_tellChord_2 (fun σ_1 hw => ?_)
  refine v_aload_n (pc := 5) 0 C dX11_tellChord_5 rfl rfl ?_
  refine v_aload_n (pc := 6) 1 C dX11_tellChord_6 rfl rfl ?_
  refine v_cVi (pc := 7) (o := 0) (As := [.ref (gA G o1)]) (rest := []) (ci := 11) C (c_X11_tellByHand h1 hw) pk_X11_tellByHand k_1084 rfl (by decide) rfl (by decide) rfl rfl (Nat.le_of_ble_eq_true rfl) dX11_tellChord_7 (fun r_2 σ_3 hw => ?_)
  refine v_aload_n (pc := 10) 1 C dX11_tellChord_10 rfl rfl ?_
  refine g_0_0 (pc := 11) h1 C k_135 dX11_tellChord_11 ?_
  refine v_iadd (pc := 14) C dX11_tellChord_14 ?_
  exact v_iret (pc := 15) C r hw dX11_tellChord_15

theorem c_X11_tellSeventh {l : Launch} {G : Gl} {o1 : Nat} {σ : Mem} {P : Int32 → Mem → Prop} (h1 : kd o1 = (0, 0)) (hw : v_X11_tellSeventh o1 σ P) : MetI l yX11_tellSeventh cX11_tellSeventh 3 .int 3 G [.ref (gA G 0), .ref (gA G o1)] σ P := by
  refine MetI.of RX11 (by decide +kernel) rfl (Nat.le_of_ble_eq_true rfl) (fun X C r => ?_)
  show V X G 3 0 [(0, .ref (gA G 0)), (1, .ref (gA G o1))] [] σ
  unfold v_X11_tellSeventh at hw
  refine v_aload_n (pc := 0) 0 C dX11_tellSeventh_0 rfl rfl ?_
  refine v_iconst (pc := 1) (v := 3) C dX11_tellSeventh_1 (by decide) ?_
  refine v_cVv (pc := 2) (o := 0) (As := [.int 3]) (rest := []) (ci := 11) C (c_X11_leaveInTrace hw) pk_X11_leaveInTrace k_1076 rfl (by decide) rfl (by decide) rfl rfl (Nat.le_of_ble_eq_true rfl) dX11_tellSeventh_2 (fun σ_1 hw => ?_)
  refine v_aload_n (pc := 5) 0 C dX11_tellSeventh_5 rfl rfl ?_
  refine v_aload_n (pc := 6) 1 C dX11_tellSeventh_6 rfl rfl ?_
  refine v_cVi (pc := 7) (o := 0) (As := [.ref (gA G o1)]) (rest := []) (ci := 11) C (c_X11_tellChord h1 hw) pk_X11_tellChord k_1080 rfl (by decide) rfl (by decide) rfl rfl (Nat.le_of_ble_eq_true rfl) dX11_tellSeventh_7 (fun r_2 σ_3 hw => ?_)
  refine v_istore_n (pc := 10) C dX11_tellSeventh_10 rfl (by decide) rfl ?_
  refine v_iload_n (pc := 11) 0 C dX11_tellSeventh_11 rfl rfl ?_
  refine v_aload_n (pc := 12) 1 C dX11_tellSeventh_12 rfl rfl ?_
  refine v_aload_n (pc := 13) 2 C dX11_tellSeventh_13 rfl rfl ?_
  refine v_cVi (pc := 14) (o := 0) (As := [.ref (gA G o1)]) (rest := [.int r_2]) (ci := 11) C (c_X11_tellByHand h1 hw) pk_X11_tellByHand k_1084 rfl (by decide) rfl (by decide) rfl rfl (Nat.le_of_ble_eq_true rfl) dX11_tellSeventh_14 (fun r_4 σ_5 hw => ?_)
  refine v_iadd (pc := 17) C dX11_tellSeventh_17 ?_
  exact v_iret (pc := 18) C r hw dX11_tellSeventh_18

theorem c_X11_tell {l : Launch} {G : Gl} {a1 : Int32} {σ : Mem} {P : Int32 → Mem → Prop} (hw : v_X11_tell a1 σ P) : MetI l yX11_tell cX11_tell 3 .int 4 G [.ref (gA G 0), .int a1] σ P := by
  refine MetI.of RX11 (by decide +kernel) rfl (Nat.le_of_ble_eq_true rfl) (fun X C r => ?_)
  show V X G 3 0 [(0, .ref (gA G 0)), (1, .int a1)] [] σ
  unfold v_X11_tell at hw
  refine v_aload_n (pc := 0) 0 C dX11_tell_0 rfl rfl ?_
  refine g_11_1 (pc := 1) C k_351 dX11_tell_1 ?_
  refine v_iload_n (pc := 4) 1 C dX11_tell_4 rfl rfl ?_
  refine v_cVi (pc := 5) (o := 5) (As := [.int a1]) (rest := []) (ci := 7) C (c_X7_knows hw) pk_X7_knows k_454 rfl (by decide) rfl (by decide) rfl rfl (Nat.le_of_ble_eq_true rfl) dX11_tell_5 (fun r_1 σ_2 hw => ?_)
  refine v_if_ne (pc := 8) (tgt := 13) C dX11_tell_8 (by decide) (fun c => ?_) (fun c => ?_)
  · replace hw := hw.2 c
    refine v_aload_n (pc := 13) 0 C dX11_tell_13 rfl rfl ?_
    refine g_11_1 (pc := 14) C k_351 dX11_tell_14 ?_
    refine g_7_0 (pc := 17) C k_160 dX11_tell_17 ?_
    refine v_iload_n (pc := 20) 1 C dX11_tell_20 rfl rfl ?_
    have q_3 := hw.1
    refine v_aldB (pc := 21) C rfl q_3 dX11_tell_21 ?_
    replace hw := hw.2
    refine v_astore_n (pc := 22) C dX11_tell_22 rfl (by decide) rfl ?_
    refine v_aload_n (pc := 23) 0 C dX11_tell_23 rfl rfl ?_
    refine v_cVi (pc := 24) (o := bB + Int32.toNatClampNeg a1) (As := []) (rest := []) (ci := 0) C (c_X0_kind (kd_bar (vp_lt q_3)) hw) pk_X0_kind k_506 (kd_bar (vp_lt q_3)) (by decide) rfl (by decide) rfl rfl (Nat.le_of_ble_eq_true rfl) dX11_tell_24 (fun r_4 σ_5 hw => ?_)
    by_cases c1 : r_4 = 1
    · replace hw := hw.1 c1
      refine v_lookup (pc := 27) (tgt := 58) (off := 31) C dX11_tell_27 (by decide) (by rw [c1]; rfl) (by decide) ?_
      refine v_aload_n (pc := 58) 1 C dX11_tell_58 rfl rfl ?_
      refine v_aload_n (pc := 59) 0 C dX11_tell_59 rfl rfl ?_
      refine v_cVi (pc := 60) (o := 0) (As := [.ref (gA G (bB + Int32.toNatClampNeg a1))]) (rest := []) (ci := 11) C (c_X11_tellChord (kd_bar (vp_lt q_3)) hw) pk_X11_tellChord k_1080 rfl (by decide) rfl (by decide) rfl rfl (Nat.le_of_ble_eq_true rfl) dX11_tell_60 (fun r_6 σ_7 hw => ?_)
      exact v_iret (pc := 63) C r hw dX11_tell_63
    · replace hw := hw.2 c1
      by_cases c2 : r_4 = 2
      · replace hw := hw.1 c2
        refine v_lookup (pc := 27) (tgt := 52) (off := 25) C dX11_tell_27 (by decide) (by rw [c2]; rfl) (by decide) ?_
        refine v_aload_n (pc := 52) 1 C dX11_tell_52 rfl rfl ?_
        refine v_aload_n (pc := 53) 0 C dX11_tell_53 rfl rfl ?_
        refine v_cVi (pc := 54) (o := 0) (As := [.ref (gA G (bB + Int32.toNatClampNeg a1))]) (rest := []) (ci := 11) C (c_X11_tellSeventh (kd_bar (vp_lt q_3)) hw) pk_X11_tellSeventh k_1072 rfl (by decide) rfl (by decide) rfl rfl (Nat.le_of_ble_eq_true rfl) dX11_tell_54 (fun r_8 σ_9 hw => ?_)
        exact v_iret (pc := 57) C r hw dX11_tell_57
      · replace hw := hw.2 c2
        refine v_lookup (pc := 27) (tgt := 64) (off := 37) C dX11_tell_27 (by decide) (by have e1 := ne_toInt (k := 1) c1 (by decide); have e2 := ne_toInt (k := 2) c2 (by decide); simp [Op.lookupswitch.offset, e1, Ne.symm e1, e2, Ne.symm e2]) (by decide) ?_
        refine v_aload_n (pc := 64) 1 C dX11_tell_64 rfl rfl ?_
        refine v_aload_n (pc := 65) 0 C dX11_tell_65 rfl rfl ?_
        refine v_cVi (pc := 66) (o := 0) (As := [.ref (gA G (bB + Int32.toNatClampNeg a1))]) (rest := []) (ci := 11) C (c_X11_tellByHand (kd_bar (vp_lt q_3)) hw) pk_X11_tellByHand k_1084 rfl (by decide) rfl (by decide) rfl rfl (Nat.le_of_ble_eq_true rfl) dX11_tell_66 (fun r_10 σ_11 hw => ?_)
        exact v_iret (pc := 69) C r hw dX11_tell_69
  · replace hw := hw.1 c
    refine v_iconst (pc := 11) (v := (-1)) C dX11_tell_11 (by decide) ?_
    exact v_iret (pc := 12) C r hw dX11_tell_12

theorem c_X11_name {l : Launch} {G : Gl} {a1 : Int32} {σ : Mem} {P : Int32 → Mem → Prop} (hw : v_X11_name a1 σ P) : MetI l yX11_name cX11_name 2 .int 2 G [.ref (gA G 0), .int a1] σ P := by
  refine MetI.of RX11 (by decide +kernel) rfl (Nat.le_of_ble_eq_true rfl) (fun X C r => ?_)
  show V X G 2 0 [(0, .ref (gA G 0)), (1, .int a1)] [] σ
  unfold v_X11_name at hw
  refine v_aload_n (pc := 0) 0 C dX11_name_0 rfl rfl ?_
  refine g_11_1 (pc := 1) C k_351 dX11_name_1 ?_
  refine v_iload_n (pc := 4) 1 C dX11_name_4 rfl rfl ?_
  refine v_cVi (pc := 5) (o := 5) (As := [.int a1]) (rest := []) (ci := 7) C (c_X7_knows hw) pk_X7_knows k_454 rfl (by decide) rfl (by decide) rfl rfl (Nat.le_of_ble_eq_true rfl) dX11_name_5 (fun r_1 σ_2 hw => ?_)
  refine v_if_ne (pc := 8) (tgt := 13) C dX11_name_8 (by decide) (fun c => ?_) (fun c => ?_)
  · replace hw := hw.2 c
    refine v_aload_n (pc := 13) 0 C dX11_name_13 rfl rfl ?_
    refine g_11_1 (pc := 14) C k_351 dX11_name_14 ?_
    refine g_7_0 (pc := 17) C k_160 dX11_name_17 ?_
    refine v_iload_n (pc := 20) 1 C dX11_name_20 rfl rfl ?_
    have q_3 := hw.1
    refine v_aldB (pc := 21) C rfl q_3 dX11_name_21 ?_
    replace hw := hw.2
    refine v_cVi (pc := 22) (o := bB + Int32.toNatClampNeg a1) (As := []) (rest := []) (ci := 0) C (c_X0_kind (kd_bar (vp_lt q_3)) hw) pk_X0_kind k_506 (kd_bar (vp_lt q_3)) (by decide) rfl (by decide) rfl rfl (Nat.le_of_ble_eq_true rfl) dX11_name_22 (fun r_4 σ_5 hw => ?_)
    refine v_iconst (pc := 25) (v := 2) C dX11_name_25 (by decide) ?_
    refine v_icmp_ne (pc := 26) (tgt := 37) C dX11_name_26 (by decide) (fun c => ?_) (fun c => ?_)
    · replace hw := hw.2 c
      refine v_aload_n (pc := 37) 0 C dX11_name_37 rfl rfl ?_
      refine v_iconst (pc := 38) (v := 4) C dX11_name_38 (by decide) ?_
      refine v_cVv (pc := 39) (o := 0) (As := [.int 4]) (rest := []) (ci := 11) C (c_X11_leaveInTrace hw) pk_X11_leaveInTrace k_1076 rfl (by decide) rfl (by decide) rfl rfl (Nat.le_of_ble_eq_true rfl) dX11_name_39 (fun σ_7 hw => ?_)
      refine v_iload_n (pc := 42) 1 C dX11_name_42 rfl rfl ?_
      refine v_bipush (pc := 43) (v := 10) C dX11_name_43 (by decide) ?_
      refine v_iadd (pc := 45) C dX11_name_45 ?_
      exact v_iret (pc := 46) C r hw dX11_name_46
    · replace hw := hw.1 c
      refine v_aload_n (pc := 29) 0 C dX11_name_29 rfl rfl ?_
      refine v_iconst (pc := 30) (v := 5) C dX11_name_30 (by decide) ?_
      refine v_cVv (pc := 31) (o := 0) (As := [.int 5]) (rest := []) (ci := 11) C (c_X11_leaveInTrace hw) pk_X11_leaveInTrace k_1076 rfl (by decide) rfl (by decide) rfl rfl (Nat.le_of_ble_eq_true rfl) dX11_name_31 (fun σ_6 hw => ?_)
      refine v_bipush (pc := 34) (v := 77) C dX11_name_34 (by decide) ?_
      exact v_iret (pc := 36) C r hw dX11_name_36
  · replace hw := hw.1 c
    refine v_iconst (pc := 11) (v := (-1)) C dX11_name_11 (by decide) ?_
    exact v_iret (pc := 12) C r hw dX11_name_12

theorem c_X11_as {l : Launch} {G : Gl} {a1 : Int32} {a2 : Int32} {σ : Mem} {P : Int32 → Mem → Prop} (hw : v_X11_as a1 a2 σ P) : MetI l yX11_as cX11_as 3 .int 2 G [.ref (gA G 0), .int a1, .int a2] σ P := by
  refine MetI.of RX11 (by decide +kernel) rfl (Nat.le_of_ble_eq_true rfl) (fun X C r => ?_)
  show V X G 3 0 [(0, .ref (gA G 0)), (1, .int a1), (2, .int a2)] [] σ
  unfold v_X11_as at hw
  refine v_aload_n (pc := 0) 0 C dX11_as_0 rfl rfl ?_
  refine v_iconst (pc := 1) (v := 0) C dX11_as_1 (by decide) ?_
  refine p_11_10 (pc := 2) C k_360 dX11_as_2 ?_
  refine v_aload_n (pc := 5) 0 C dX11_as_5 rfl rfl ?_
  refine g_11_1 (pc := 6) C k_351 dX11_as_6 ?_
  refine v_iload_n (pc := 9) 1 C dX11_as_9 rfl rfl ?_
  refine v_cVi (pc := 10) (o := 5) (As := [.int a1]) (rest := []) (ci := 7) C (c_X7_knows hw) pk_X7_knows k_454 rfl (by decide) rfl (by decide) rfl rfl (Nat.le_of_ble_eq_true rfl) dX11_as_10 (fun r_1 σ_2 hw => ?_)
  refine v_if_ne (pc := 13) (tgt := 18) C dX11_as_13 (by decide) (fun c => ?_) (fun c => ?_)
  · replace hw := hw.2 c
    refine v_iload_n (pc := 18) 2 C dX11_as_18 rfl rfl ?_
    refine v_if_lt (pc := 19) (tgt := 27) C dX11_as_19 (by decide) (fun c => ?_) (fun c => ?_)
    · replace hw := hw.1 c
      refine v_bipush (pc := 27) (v := (-2)) C dX11_as_27 (by decide) ?_
      exact v_iret (pc := 29) C r hw dX11_as_29
    · replace hw := hw.2 c
      refine v_iload_n (pc := 22) 2 C dX11_as_22 rfl rfl ?_
      refine v_iconst (pc := 23) (v := 2) C dX11_as_23 (by decide) ?_
      refine v_icmp_le (pc := 24) (tgt := 30) C dX11_as_24 (by decide) (fun c => ?_) (fun c => ?_)
      · replace hw := hw.1 c
        refine v_aload_n (pc := 30) 0 C dX11_as_30 rfl rfl ?_
        refine g_11_1 (pc := 31) C k_351 dX11_as_31 ?_
        refine g_7_0 (pc := 34) C k_160 dX11_as_34 ?_
        refine v_iload_n (pc := 37) 1 C dX11_as_37 rfl rfl ?_
        have q_3 := hw.1
        refine v_aldB (pc := 38) C rfl q_3 dX11_as_38 ?_
        replace hw := hw.2
        refine v_cVi (pc := 39) (o := bB + Int32.toNatClampNeg a1) (As := []) (rest := []) (ci := 0) C (c_X0_kind (kd_bar (vp_lt q_3)) hw) pk_X0_kind k_506 (kd_bar (vp_lt q_3)) (by decide) rfl (by decide) rfl rfl (Nat.le_of_ble_eq_true rfl) dX11_as_39 (fun r_4 σ_5 hw => ?_)
        refine v_iload_n (pc := 42) 2 C dX11_as_42 rfl rfl ?_
        refine v_icmp_ge (pc := 43) (tgt := 54) C dX11_as_43 (by decide) (fun c => ?_) (fun c => ?_)
        · replace hw := hw.1 c
          refine v_iconst (pc := 54) (v := 1) C dX11_as_54 (by decide) ?_
          exact v_iret (pc := 55) C r hw dX11_as_55
        · replace hw := hw.2 c
          refine v_aload_n (pc := 46) 0 C dX11_as_46 rfl rfl ?_
          refine v_iconst (pc := 47) (v := 2) C dX11_as_47 (by decide) ?_
          refine v_cVi (pc := 48) (o := 0) (As := [.int 2]) (rest := []) (ci := 11) C (c_X11_fail hw) pk_X11_fail k_655 rfl (by decide) rfl (by decide) rfl rfl (Nat.le_of_ble_eq_true rfl) dX11_as_48 (fun r_6 σ_7 hw => ?_)
          refine v_goto (pc := 51) (tgt := 55) C dX11_as_51 (by decide) ?_
          exact v_iret (pc := 55) C r hw dX11_as_55
      · replace hw := hw.2 c
        refine v_bipush (pc := 27) (v := (-2)) C dX11_as_27 (by decide) ?_
        exact v_iret (pc := 29) C r hw dX11_as_29
  · replace hw := hw.1 c
    refine v_iconst (pc := 16) (v := (-1)) C dX11_as_16 (by decide) ?_
    exact v_iret (pc := 17) C r hw dX11_as_17

theorem c_X11_trace {l : Launch} {G : Gl} {σ : Mem} {P : Int32 → Mem → Prop} (hw : v_X11_trace σ P) : MetI l yX11_trace cX11_trace 1 .int 0 G [.ref (gA G 0)] σ P := by
  refine MetI.of RX11 (by decide +kernel) rfl (Nat.le_of_ble_eq_true rfl) (fun X C r => ?_)
  show V X G 1 0 [(0, .ref (gA G 0))] [] σ
  unfold v_X11_trace at hw
  refine v_aload_n (pc := 0) 0 C dX11_trace_0 rfl rfl ?_
  refine g_11_9 (pc := 1) C k_359 dX11_trace_1 ?_
  exact v_iret (pc := 4) C r hw dX11_trace_4

theorem c_X11_fault {l : Launch} {G : Gl} {σ : Mem} {P : Int32 → Mem → Prop} (hw : v_X11_fault σ P) : MetI l yX11_fault cX11_fault 1 .int 0 G [.ref (gA G 0)] σ P := by
  refine MetI.of RX11 (by decide +kernel) rfl (Nat.le_of_ble_eq_true rfl) (fun X C r => ?_)
  show V X G 1 0 [(0, .ref (gA G 0))] [] σ
  unfold v_X11_fault at hw
  refine v_aload_n (pc := 0) 0 C dX11_fault_0 rfl rfl ?_
  refine g_11_10 (pc := 1) C k_360 dX11_fault_1 ?_
  exact v_iret (pc := 4) C r hw dX11_fault_4

theorem c_X11_told {l : Launch} {G : Gl} {a1 : Int32} {σ : Mem} {P : Int32 → Mem → Prop} (hw : v_X11_told a1 σ P) : MetI l yX11_told cX11_told 2 .int 1 G [.ref (gA G 0), .int a1] σ P := by
  refine MetI.of RX11 (by decide +kernel) rfl (Nat.le_of_ble_eq_true rfl) (fun X C r => ?_)
  show V X G 2 0 [(0, .ref (gA G 0)), (1, .int a1)] [] σ
  unfold v_X11_told at hw
  refine v_iload_n (pc := 0) 1 C dX11_told_0 rfl rfl ?_
  by_cases c0 : a1 = 0
  · replace hw := hw.1 c0
    refine v_tableIn (pc := 1) (tgt := 44) (off := 43) C dX11_told_1 (by rw [c0]; decide) (by rw [c0]; decide) (by rw [c0]; rfl) (by decide) ?_
    refine v_aload_n (pc := 44) 0 C dX11_told_44 rfl rfl ?_
    refine g_11_0 (pc := 45) C k_350 dX11_told_45 ?_
    refine g_10_4 (pc := 48) C k_106 dX11_told_48 ?_
    exact v_iret (pc := 51) C r hw dX11_told_51
  · replace hw := hw.2 c0
    by_cases c1 : a1 = 1
    · replace hw := hw.1 c1
      refine v_tableIn (pc := 1) (tgt := 52) (off := 51) C dX11_told_1 (by rw [c1]; decide) (by rw [c1]; decide) (by rw [c1]; rfl) (by decide) ?_
      refine v_aload_n (pc := 52) 0 C dX11_told_52 rfl rfl ?_
      refine g_11_0 (pc := 53) C k_350 dX11_told_53 ?_
      refine g_10_3 (pc := 56) C k_104 dX11_told_56 ?_
      refine v_callSi (pc := 59) (As := [.long (σ.2 1 3)]) (rest := []) C (c_J13_bitCount_95d88 hw) pk_J13_bitCount_95d88 (Or.inl k_511) (by decide) rfl rfl (Nat.le_of_ble_eq_true rfl) dX11_told_59 (fun r_1 σ_2 hw => ?_)
      exact v_iret (pc := 62) C r hw dX11_told_62
    · replace hw := hw.2 c1
      by_cases c2 : a1 = 2
      · replace hw := hw.1 c2
        refine v_tableIn (pc := 1) (tgt := 63) (off := 62) C dX11_told_1 (by rw [c2]; decide) (by rw [c2]; decide) (by rw [c2]; rfl) (by decide) ?_
        refine v_aload_n (pc := 63) 0 C dX11_told_63 rfl rfl ?_
        refine g_11_1 (pc := 64) C k_351 dX11_told_64 ?_
        refine g_7_1 (pc := 67) C k_164 dX11_told_67 ?_
        exact v_iret (pc := 70) C r hw dX11_told_70
      · replace hw := hw.2 c2
        by_cases c3 : a1 = 3
        · replace hw := hw.1 c3
          refine v_tableIn (pc := 1) (tgt := 71) (off := 70) C dX11_told_1 (by rw [c3]; decide) (by rw [c3]; decide) (by rw [c3]; rfl) (by decide) ?_
          refine v_aload_n (pc := 71) 0 C dX11_told_71 rfl rfl ?_
          refine g_11_3 (pc := 72) C k_353 dX11_told_72 ?_
          refine g_1_1 (pc := 75) C k_246 dX11_told_75 ?_
          exact v_iret (pc := 78) C r hw dX11_told_78
        · replace hw := hw.2 c3
          by_cases c4 : a1 = 4
          · replace hw := hw.1 c4
            refine v_tableIn (pc := 1) (tgt := 79) (off := 78) C dX11_told_1 (by rw [c4]; decide) (by rw [c4]; decide) (by rw [c4]; rfl) (by decide) ?_
            refine v_aload_n (pc := 79) 0 C dX11_told_79 rfl rfl ?_
            refine g_11_4 (pc := 80) C k_354 dX11_told_80 ?_
            refine g_5_6 (pc := 83) C k_266 dX11_told_83 ?_
            exact v_iret (pc := 86) C r hw dX11_told_86
          · replace hw := hw.2 c4
            by_cases c5 : a1 = 5
            · replace hw := hw.1 c5
              refine v_tableIn (pc := 1) (tgt := 87) (off := 86) C dX11_told_1 (by rw [c5]; decide) (by rw [c5]; decide) (by rw [c5]; rfl) (by decide) ?_
              refine v_aload_n (pc := 87) 0 C dX11_told_87 rfl rfl ?_
              refine g_11_7 (pc := 88) C k_357 dX11_told_88 ?_
              refine g_2_4 (pc := 91) C k_319 dX11_told_91 ?_
              exact v_iret (pc := 94) C r hw dX11_told_94
            · replace hw := hw.2 c5
              by_cases c6 : a1 = 6
              · replace hw := hw.1 c6
                refine v_tableIn (pc := 1) (tgt := 95) (off := 94) C dX11_told_1 (by rw [c6]; decide) (by rw [c6]; decide) (by rw [c6]; rfl) (by decide) ?_
                refine v_aload_n (pc := 95) 0 C dX11_told_95 rfl rfl ?_
                refine g_11_0 (pc := 96) C k_350 dX11_told_96 ?_
                refine v_aload_n (pc := 99) 0 C dX11_told_99 rfl rfl ?_
                refine g_11_0 (pc := 100) C k_350 dX11_told_100 ?_
                refine v_cVl (pc := 103) (o := 1) (As := []) (rest := [.ref (gA G 1)]) (ci := 10) C (c_X10_all hw) pk_X10_all k_557 rfl (by decide) rfl (by decide) rfl rfl (Nat.le_of_ble_eq_true rfl) dX11_told_103 (fun r_3 σ_4 hw => ?_)
                refine v_cVi (pc := 106) (o := 1) (As := [.long r_3]) (rest := []) (ci := 10) C (c_X10_classesAmong hw) pk_X10_classesAmong k_519 rfl (by decide) rfl (by decide) rfl rfl (Nat.le_of_ble_eq_true rfl) dX11_told_106 (fun r_5 σ_6 hw => ?_)
                refine v_callSi (pc := 109) (As := [.int r_5]) (rest := []) C (c_J6_bitCount_0f7a4 hw) pk_J6_bitCount_0f7a4 (Or.inl k_599) (by decide) rfl rfl (Nat.le_of_ble_eq_true rfl) dX11_told_109 (fun r_7 σ_8 hw => ?_)
                exact v_iret (pc := 112) C r hw dX11_told_112
              · replace hw := hw.2 c6
                refine v_tableOut (pc := 1) (tgt := 113) C dX11_told_1 (by have e0 := ne_toInt (k := 0) c0 (by decide); have e1 := ne_toInt (k := 1) c1 (by decide); have e2 := ne_toInt (k := 2) c2 (by decide); have e3 := ne_toInt (k := 3) c3 (by decide); have e4 := ne_toInt (k := 4) c4 (by decide); have e5 := ne_toInt (k := 5) c5 (by decide); have e6 := ne_toInt (k := 6) c6 (by decide); omega) (by decide) ?_
                refine v_bipush (pc := 113) (v := (-2)) C dX11_told_113 (by decide) ?_
                exact v_iret (pc := 115) C r hw dX11_told_115

theorem c_X12_fails {l : Launch} {G : Gl} {a1 : Int32} {σ : Mem} {P : Int32 → Mem → Prop} (hw : v_X12_fails a1 σ P) : MetI l yX12_fails cX12_fails 2 .int 0 G [.ref (gA G 33), .int a1] σ P := by
  refine MetI.of RX12 (by decide +kernel) rfl (Nat.le_of_ble_eq_true rfl) (fun X C r => ?_)
  show V X G 2 0 [(0, .ref (gA G 33)), (1, .int a1)] [] σ
  unfold v_X12_fails at hw
  refine v_aload_n (pc := 0) 0 C dX12_fails_0 rfl rfl ?_
  refine v_iload_n (pc := 1) 1 C dX12_fails_1 rfl rfl ?_
  refine p_12_0 (pc := 2) C k_1114 dX12_fails_2 ?_
  refine v_bipush (pc := 5) (v := (-10)) C dX12_fails_5 (by decide) ?_
  refine v_iload_n (pc := 7) 1 C dX12_fails_7 rfl rfl ?_
  refine v_isub (pc := 8) C dX12_fails_8 ?_
  exact v_iret (pc := 9) C r hw dX12_fails_9

theorem c_X12_lost {l : Launch} {G : Gl} {a1 : Int32} {σ : Mem} {P : Int64 → Mem → Prop} (hw : v_X12_lost a1 σ P) : MetJ l yX12_lost cX12_lost 2 0 G [.ref (gA G 33), .int a1] σ P := by
  refine MetJ.of RX12 (by decide +kernel) rfl (Nat.le_of_ble_eq_true rfl) (fun X C r => ?_)
  show V X G 2 0 [(0, .ref (gA G 33)), (1, .int a1)] [] σ
  unfold v_X12_lost at hw
  refine v_aload_n (pc := 0) 0 C dX12_lost_0 rfl rfl ?_
  refine v_iload_n (pc := 1) 1 C dX12_lost_1 rfl rfl ?_
  refine p_12_0 (pc := 2) C k_1114 dX12_lost_2 ?_
  refine v_ldc2 (pc := 5) C k_1588 dX12_lost_5 ?_
  exact v_lret (pc := 8) C r hw dX12_lost_8

theorem c_X12_within {l : Launch} {G : Gl} {a0 : Int32} {a1 : Int32} {a2 : Int32} {σ : Mem} {P : Int32 → Mem → Prop} (hw : v_X12_within a0 a1 a2 σ P) : MetI l yX12_within cX12_within 3 .boolean 0 G [.int a0, .int a1, .int a2] σ P := by
  refine MetI.of RX12 (by decide +kernel) rfl (Nat.le_of_ble_eq_true rfl) (fun X C r => ?_)
  show V X G 3 0 [(0, .int a0), (1, .int a1), (2, .int a2)] [] σ
  unfold v_X12_within at hw
  refine v_iload_n (pc := 0) 0 C dX12_within_0 rfl rfl ?_
  refine v_iload_n (pc := 1) 1 C dX12_within_1 rfl rfl ?_
  refine v_icmp_lt (pc := 2) (tgt := 14) C dX12_within_2 (by decide) (fun c => ?_) (fun c => ?_)
  · replace hw := hw.1 c
    refine v_iconst (pc := 14) (v := 0) C dX12_within_14 (by decide) ?_
    exact v_zret (pc := 15) C r (Or.inl rfl) hw dX12_within_15
  · replace hw := hw.2 c
    refine v_iload_n (pc := 5) 0 C dX12_within_5 rfl rfl ?_
    refine v_iload_n (pc := 6) 2 C dX12_within_6 rfl rfl ?_
    refine v_icmp_gt (pc := 7) (tgt := 14) C dX12_within_7 (by decide) (fun c => ?_) (fun c => ?_)
    · replace hw := hw.1 c
      refine v_iconst (pc := 14) (v := 0) C dX12_within_14 (by decide) ?_
      exact v_zret (pc := 15) C r (Or.inl rfl) hw dX12_within_15
    · replace hw := hw.2 c
      refine v_iconst (pc := 10) (v := 1) C dX12_within_10 (by decide) ?_
      refine v_goto (pc := 11) (tgt := 15) C dX12_within_11 (by decide) ?_
      exact v_zret (pc := 15) C r (Or.inr rfl) hw dX12_within_15

theorem w_X12_countOf_L4 {X : Cx} {G : Gl} {P : Int32 → Mem → Prop} {x0 : Int32} (C : Ck X G RX12 cX12_countOf 3 0) (r : RetI X G .int P) : ∀ (n : Nat) (x1 : Int32) (x2 : Int32) (σ : Mem), v_X12_countOf_L4 x0 P n x1 x2 σ → V X G 3 4 [(0, .int x0), (1, .int x1), (2, .int x2)] [] σ := by
  intro n
  induction n with
  | zero => intro x1 x2 σ hw; exact hw.elim
  | succ n ih =>
    intro x1 x2 σ hw
    refine v_iload_n (pc := 4) 2 C dX12_countOf_4 rfl rfl ?_
    refine v_bipush (pc := 5) (v := 12) C dX12_countOf_5 (by decide) ?_
    refine v_icmp_ge (pc := 7) (tgt := 24) C dX12_countOf_7 (by decide) (fun c => ?_) (fun c => ?_)
    · replace hw := hw.1 c
      refine v_iload_n (pc := 24) 1 C dX12_countOf_24 rfl rfl ?_
      exact v_iret (pc := 25) C r hw dX12_countOf_25
    · replace hw := hw.2 c
      refine v_iload_n (pc := 10) 1 C dX12_countOf_10 rfl rfl ?_
      refine v_iload_n (pc := 11) 0 C dX12_countOf_11 rfl rfl ?_
      refine v_iload_n (pc := 12) 2 C dX12_countOf_12 rfl rfl ?_
      refine v_ishr (pc := 13) C dX12_countOf_13 ?_
      refine v_iconst (pc := 14) (v := 1) C dX12_countOf_14 (by decide) ?_
      refine v_iand (pc := 15) C dX12_countOf_15 ?_
      refine v_iadd (pc := 16) C dX12_countOf_16 ?_
      refine v_istore_n (pc := 17) C dX12_countOf_17 rfl (by decide) rfl ?_
      refine v_iinc (pc := 18) (v := x2 + 1) 2 C dX12_countOf_18 rfl rfl (by decide) rfl ?_
      refine v_goto (pc := 21) (tgt := 4) C dX12_countOf_21 (by decide) ?_
      refine v_sub [2, 1, 0] rfl ?_
      exact ih _ _ _ hw

theorem c_X12_countOf {l : Launch} {G : Gl} {a0 : Int32} {σ : Mem} {P : Int32 → Mem → Prop} (hw : v_X12_countOf a0 σ P) : MetI l yX12_countOf cX12_countOf 3 .int 0 G [.int a0] σ P := by
  refine MetI.of RX12 (by decide +kernel) rfl (Nat.le_of_ble_eq_true rfl) (fun X C r => ?_)
  show V X G 3 0 [(0, .int a0)] [] σ
  unfold v_X12_countOf at hw
  refine v_iconst (pc := 0) (v := 0) C dX12_countOf_0 (by decide) ?_
  refine v_istore_n (pc := 1) C dX12_countOf_1 rfl (by decide) rfl ?_
  refine v_iconst (pc := 2) (v := 0) C dX12_countOf_2 (by decide) ?_
  refine v_istore_n (pc := 3) C dX12_countOf_3 rfl (by decide) rfl ?_
  refine v_sub [2, 1, 0] rfl ?_
  refine w_X12_countOf_L4 C r 5000 _ _ _ hw

theorem c_X12_isString {l : Launch} {G : Gl} {a1 : Int32} {σ : Mem} {P : Int32 → Mem → Prop} (hw : v_X12_isString a1 σ P) : MetI l yX12_isString cX12_isString 2 .boolean 0 G [.ref (gA G 33), .int a1] σ P := by
  refine MetI.of RX12 (by decide +kernel) rfl (Nat.le_of_ble_eq_true rfl) (fun X C r => ?_)
  show V X G 2 0 [(0, .ref (gA G 33)), (1, .int a1)] [] σ
  unfold v_X12_isString at hw
  refine v_iload_n (pc := 0) 1 C dX12_isString_0 rfl rfl ?_
  refine v_if_lt (pc := 1) (tgt := 16) C dX12_isString_1 (by decide) (fun c => ?_) (fun c => ?_)
  · replace hw := hw.1 c
    refine v_iconst (pc := 16) (v := 0) C dX12_isString_16 (by decide) ?_
    exact v_zret (pc := 17) C r (Or.inl rfl) hw dX12_isString_17
  · replace hw := hw.2 c
    refine v_iload_n (pc := 4) 1 C dX12_isString_4 rfl rfl ?_
    refine v_aload_n (pc := 5) 0 C dX12_isString_5 rfl rfl ?_
    refine g_12_2 (pc := 6) C k_1116 dX12_isString_6 ?_
    refine v_icmp_ge (pc := 9) (tgt := 16) C dX12_isString_9 (by decide) (fun c => ?_) (fun c => ?_)
    · replace hw := hw.1 c
      refine v_iconst (pc := 16) (v := 0) C dX12_isString_16 (by decide) ?_
      exact v_zret (pc := 17) C r (Or.inl rfl) hw dX12_isString_17
    · replace hw := hw.2 c
      refine v_iconst (pc := 12) (v := 1) C dX12_isString_12 (by decide) ?_
      refine v_goto (pc := 13) (tgt := 17) C dX12_isString_13 (by decide) ?_
      exact v_zret (pc := 17) C r (Or.inr rfl) hw dX12_isString_17

theorem c_X12_isBar {l : Launch} {G : Gl} {a1 : Int32} {σ : Mem} {P : Int32 → Mem → Prop} (hw : v_X12_isBar a1 σ P) : MetI l yX12_isBar cX12_isBar 2 .boolean 0 G [.ref (gA G 33), .int a1] σ P := by
  refine MetI.of RX12 (by decide +kernel) rfl (Nat.le_of_ble_eq_true rfl) (fun X C r => ?_)
  show V X G 2 0 [(0, .ref (gA G 33)), (1, .int a1)] [] σ
  unfold v_X12_isBar at hw
  refine v_iload_n (pc := 0) 1 C dX12_isBar_0 rfl rfl ?_
  refine v_if_lt (pc := 1) (tgt := 16) C dX12_isBar_1 (by decide) (fun c => ?_) (fun c => ?_)
  · replace hw := hw.1 c
    refine v_iconst (pc := 16) (v := 0) C dX12_isBar_16 (by decide) ?_
    exact v_zret (pc := 17) C r (Or.inl rfl) hw dX12_isBar_17
  · replace hw := hw.2 c
    refine v_iload_n (pc := 4) 1 C dX12_isBar_4 rfl rfl ?_
    refine v_aload_n (pc := 5) 0 C dX12_isBar_5 rfl rfl ?_
    refine g_12_5 (pc := 6) C k_1119 dX12_isBar_6 ?_
    refine v_icmp_ge (pc := 9) (tgt := 16) C dX12_isBar_9 (by decide) (fun c => ?_) (fun c => ?_)
    · replace hw := hw.1 c
      refine v_iconst (pc := 16) (v := 0) C dX12_isBar_16 (by decide) ?_
      exact v_zret (pc := 17) C r (Or.inl rfl) hw dX12_isBar_17
    · replace hw := hw.2 c
      refine v_iconst (pc := 12) (v := 1) C dX12_isBar_12 (by decide) ?_
      refine v_goto (pc := 13) (tgt := 17) C dX12_isBar_13 (by decide) ?_
      exact v_zret (pc := 17) C r (Or.inr rfl) hw dX12_isBar_17

theorem c_X12_isSet {l : Launch} {G : Gl} {a1 : Int32} {σ : Mem} {P : Int32 → Mem → Prop} (hw : v_X12_isSet a1 σ P) : MetI l yX12_isSet cX12_isSet 2 .boolean 1 G [.ref (gA G 33), .int a1] σ P := by
  refine MetI.of RX12 (by decide +kernel) rfl (Nat.le_of_ble_eq_true rfl) (fun X C r => ?_)
  show V X G 2 0 [(0, .ref (gA G 33)), (1, .int a1)] [] σ
  unfold v_X12_isSet at hw
  refine v_iload_n (pc := 0) 1 C dX12_isSet_0 rfl rfl ?_
  refine v_iconst (pc := 1) (v := 0) C dX12_isSet_1 (by decide) ?_
  refine v_iconst (pc := 2) (v := 1) C dX12_isSet_2 (by decide) ?_
  refine v_aload_n (pc := 3) 0 C dX12_isSet_3 rfl rfl ?_
  refine g_12_5 (pc := 4) C k_1119 dX12_isSet_4 ?_
  refine v_ishl (pc := 7) C dX12_isSet_7 ?_
  refine v_iconst (pc := 8) (v := 1) C dX12_isSet_8 (by decide) ?_
  refine v_isub (pc := 9) C dX12_isSet_9 ?_
  refine v_callSi (pc := 10) (As := [.int a1, .int 0, .int (((1 : Int32) <<< ((σ.1 33 5) &&& 31)) - 1)]) (rest := []) C (c_X12_within hw) pk_X12_within (Or.inl k_1234) (by decide) rfl rfl (Nat.le_of_ble_eq_true rfl) dX12_isSet_10 (fun r_1 σ_2 hw => ?_)
  exact v_zret (pc := 13) C r hw.1 hw.2 dX12_isSet_13

theorem c_X12_isChord {l : Launch} {G : Gl} {a0 : Int32} {σ : Mem} {P : Int32 → Mem → Prop} (hw : v_X12_isChord a0 σ P) : MetI l yX12_isChord cX12_isChord 1 .boolean 1 G [.int a0] σ P := by
  refine MetI.of RX12 (by decide +kernel) rfl (Nat.le_of_ble_eq_true rfl) (fun X C r => ?_)
  show V X G 1 0 [(0, .int a0)] [] σ
  unfold v_X12_isChord at hw
  refine v_iload_n (pc := 0) 0 C dX12_isChord_0 rfl rfl ?_
  refine v_iconst (pc := 1) (v := 0) C dX12_isChord_1 (by decide) ?_
  refine v_bipush (pc := 2) (v := 95) C dX12_isChord_2 (by decide) ?_
  refine v_callSi (pc := 4) (As := [.int a0, .int 0, .int 95]) (rest := []) C (c_X12_within hw) pk_X12_within (Or.inl k_1234) (by decide) rfl rfl (Nat.le_of_ble_eq_true rfl) dX12_isChord_4 (fun r_1 σ_2 hw => ?_)
  exact v_zret (pc := 7) C r hw.1 hw.2 dX12_isChord_7

theorem c_X12_classOf {l : Launch} {G : Gl} {a1 : Int32} {σ : Mem} {P : Int32 → Mem → Prop} (hw : v_X12_classOf a1 σ P) : MetI l yX12_classOf cX12_classOf 2 .int 0 G [.ref (gA G 33), .int a1] σ P := by
  refine MetI.of RX12 (by decide +kernel) rfl (Nat.le_of_ble_eq_true rfl) (fun X C r => ?_)
  show V X G 2 0 [(0, .ref (gA G 33)), (1, .int a1)] [] σ
  unfold v_X12_classOf at hw
  refine v_aload_n (pc := 0) 0 C dX12_classOf_0 rfl rfl ?_
  refine g_12_3 (pc := 1) C k_1117 dX12_classOf_1 ?_
  refine v_iload_n (pc := 4) 1 C dX12_classOf_4 rfl rfl ?_
  refine v_iald (pc := 5) C rfl hw.1 dX12_classOf_5 ?_
  replace hw := hw.2
  refine v_bipush (pc := 6) (v := 12) C dX12_classOf_6 (by decide) ?_
  refine v_irem (pc := 8) C dX12_classOf_8 (by decide) ?_
  exact v_iret (pc := 9) C r hw dX12_classOf_9

theorem c_X12_string {l : Launch} {G : Gl} {a1 : Int32} {a2 : Int32} {σ : Mem} {P : Int32 → Mem → Prop} (hw : v_X12_string a1 a2 σ P) : MetI l yX12_string cX12_string 3 .int 1 G [.ref (gA G 33), .int a1, .int a2] σ P := by
  refine MetI.of RX12 (by decide +kernel) rfl (Nat.le_of_ble_eq_true rfl) (fun X C r => ?_)
  show V X G 3 0 [(0, .ref (gA G 33)), (1, .int a1), (2, .int a2)] [] σ
  unfold v_X12_string at hw
  refine v_iload_n (pc := 0) 1 C dX12_string_0 rfl rfl ?_
  refine v_iconst (pc := 1) (v := 0) C dX12_string_1 (by decide) ?_
  refine v_bipush (pc := 2) (v := 60) C dX12_string_2 (by decide) ?_
  refine v_callSi (pc := 4) (As := [.int a1, .int 0, .int 60]) (rest := []) C (c_X12_within hw) pk_X12_within (Or.inl k_1234) (by decide) rfl rfl (Nat.le_of_ble_eq_true rfl) dX12_string_4 (fun r_1 σ_2 hw => ?_)
  refine v_if_ne (pc := 7) (tgt := 13) C dX12_string_7 (by decide) (fun c => ?_) (fun c => ?_)
  · replace hw := hw.2 c
    refine v_aload_n (pc := 13) 0 C dX12_string_13 rfl rfl ?_
    refine g_12_2 (pc := 14) C k_1116 dX12_string_14 ?_
    refine v_bipush (pc := 17) (v := 36) C dX12_string_17 (by decide) ?_
    refine v_icmp_ne (pc := 19) (tgt := 25) C dX12_string_19 (by decide) (fun c => ?_) (fun c => ?_)
    · replace hw := hw.2 c
      refine v_aload_n (pc := 25) 0 C dX12_string_25 rfl rfl ?_
      refine g_12_3 (pc := 26) C k_1117 dX12_string_26 ?_
      refine v_aload_n (pc := 29) 0 C dX12_string_29 rfl rfl ?_
      refine g_12_2 (pc := 30) C k_1116 dX12_string_30 ?_
      refine v_iload_n (pc := 33) 1 C dX12_string_33 rfl rfl ?_
      refine v_iast (pc := 34) C rfl hw.1 dX12_string_34 ?_
      replace hw := hw.2
      refine v_aload_n (pc := 35) 0 C dX12_string_35 rfl rfl ?_
      refine g_12_4 (pc := 36) C k_1118 dX12_string_36 ?_
      refine v_aload_n (pc := 39) 0 C dX12_string_39 rfl rfl ?_
      refine g_12_2 (pc := 40) C k_1116 dX12_string_40 ?_
      refine v_iload_n (pc := 43) 2 C dX12_string_43 rfl rfl ?_
      refine v_zast (pc := 44) C rfl hw.1 dX12_string_44 ?_
      replace hw := hw.2
      refine v_aload_n (pc := 45) 0 C dX12_string_45 rfl rfl ?_
      refine v_dup (pc := 46) C dX12_string_46 rfl ?_
      refine g_12_2 (pc := 47) C k_1116 dX12_string_47 ?_
      refine v_iconst (pc := 50) (v := 1) C dX12_string_50 (by decide) ?_
      refine v_iadd (pc := 51) C dX12_string_51 ?_
      refine p_12_2 (pc := 52) C k_1116 dX12_string_52 ?_
      refine v_aload_n (pc := 55) 0 C dX12_string_55 rfl rfl ?_
      refine g_12_2 (pc := 56) C k_1116 dX12_string_56 ?_
      refine v_iconst (pc := 59) (v := 1) C dX12_string_59 (by decide) ?_
      refine v_isub (pc := 60) C dX12_string_60 ?_
      exact v_iret (pc := 61) C r hw dX12_string_61
    · replace hw := hw.1 c
      refine v_bipush (pc := 22) (v := (-4)) C dX12_string_22 (by decide) ?_
      exact v_iret (pc := 24) C r hw dX12_string_24
  · replace hw := hw.1 c
    refine v_bipush (pc := 10) (v := (-2)) C dX12_string_10 (by decide) ?_
    exact v_iret (pc := 12) C r hw dX12_string_12

theorem c_X12_tune {l : Launch} {G : Gl} {a1 : Int32} {a2 : Int32} {σ : Mem} {P : Int32 → Mem → Prop} (hw : v_X12_tune a1 a2 σ P) : MetI l yX12_tune cX12_tune 4 .int 1 G [.ref (gA G 33), .int a1, .int a2] σ P := by
  refine MetI.of RX12 (by decide +kernel) rfl (Nat.le_of_ble_eq_true rfl) (fun X C r => ?_)
  show V X G 4 0 [(0, .ref (gA G 33)), (1, .int a1), (2, .int a2)] [] σ
  unfold v_X12_tune at hw
  refine v_aload_n (pc := 0) 0 C dX12_tune_0 rfl rfl ?_
  refine v_iload_n (pc := 1) 1 C dX12_tune_1 rfl rfl ?_
  refine v_cVi (pc := 2) (o := 33) (As := [.int a1]) (rest := []) (ci := 12) C (c_X12_isString hw) pk_X12_isString k_1241 rfl (by decide) rfl (by decide) rfl rfl (Nat.le_of_ble_eq_true rfl) dX12_tune_2 (fun r_1 σ_2 hw => ?_)
  refine v_if_ne (pc := 5) (tgt := 10) C dX12_tune_5 (by decide) (fun c => ?_) (fun c => ?_)
  · replace hw := hw.2 c
    refine v_iload_n (pc := 10) 2 C dX12_tune_10 rfl rfl ?_
    refine v_iconst (pc := 11) (v := 0) C dX12_tune_11 (by decide) ?_
    refine v_bipush (pc := 12) (v := 60) C dX12_tune_12 (by decide) ?_
    refine v_callSi (pc := 14) (As := [.int a2, .int 0, .int 60]) (rest := []) C (c_X12_within hw) pk_X12_within (Or.inl k_1234) (by decide) rfl rfl (Nat.le_of_ble_eq_true rfl) dX12_tune_14 (fun r_3 σ_4 hw => ?_)
    refine v_if_ne (pc := 17) (tgt := 23) C dX12_tune_17 (by decide) (fun c => ?_) (fun c => ?_)
    · replace hw := hw.2 c
      refine v_aload_n (pc := 23) 0 C dX12_tune_23 rfl rfl ?_
      refine g_12_3 (pc := 24) C k_1117 dX12_tune_24 ?_
      refine v_iload_n (pc := 27) 1 C dX12_tune_27 rfl rfl ?_
      refine v_iald (pc := 28) C rfl hw.1 dX12_tune_28 ?_
      replace hw := hw.2
      refine v_istore_n (pc := 29) C dX12_tune_29 rfl (by decide) rfl ?_
      refine v_aload_n (pc := 30) 1 C dX12_tune_30 rfl rfl ?_
      refine g_12_3 (pc := 31) C k_1117 dX12_tune_31 ?_
      refine v_iload_n (pc := 34) 2 C dX12_tune_34 rfl rfl ?_
      refine v_iload_n (pc := 35) 3 C dX12_tune_35 rfl rfl ?_
      refine v_iast (pc := 36) C rfl hw.1 dX12_tune_36 ?_
      replace hw := hw.2
      refine v_iload_n (pc := 37) 0 C dX12_tune_37 rfl rfl ?_
      exact v_iret (pc := 38) C r hw dX12_tune_38
    · replace hw := hw.1 c
      refine v_bipush (pc := 20) (v := (-2)) C dX12_tune_20 (by decide) ?_
      exact v_iret (pc := 22) C r hw dX12_tune_22
  · replace hw := hw.1 c
    refine v_iconst (pc := 8) (v := (-1)) C dX12_tune_8 (by decide) ?_
    exact v_iret (pc := 9) C r hw dX12_tune_9

theorem c_X12_above {l : Launch} {G : Gl} {a0 : Int32} {a1 : Int32} {σ : Mem} {P : Int32 → Mem → Prop} (hw : v_X12_above a0 a1 σ P) : MetI l yX12_above cX12_above 2 .int 0 G [.int a0, .int a1] σ P := by
  refine MetI.of RX12 (by decide +kernel) rfl (Nat.le_of_ble_eq_true rfl) (fun X C r => ?_)
  show V X G 2 0 [(0, .int a0), (1, .int a1)] [] σ
  unfold v_X12_above at hw
  refine v_iconst (pc := 0) (v := 1) C dX12_above_0 (by decide) ?_
  refine v_iload_n (pc := 1) 0 C dX12_above_1 rfl rfl ?_
  refine v_iload_n (pc := 2) 1 C dX12_above_2 rfl rfl ?_
  refine v_iadd (pc := 3) C dX12_above_3 ?_
  refine v_bipush (pc := 4) (v := 12) C dX12_above_4 (by decide) ?_
  refine v_irem (pc := 6) C dX12_above_6 (by decide) ?_
  refine v_ishl (pc := 7) C dX12_above_7 ?_
  exact v_iret (pc := 8) C r hw dX12_above_8

theorem c_X12_classesOf {l : Launch} {G : Gl} {a0 : Int32} {σ : Mem} {P : Int32 → Mem → Prop} (hw : v_X12_classesOf a0 σ P) : MetI l yX12_classesOf cX12_classesOf 3 .int 1 G [.int a0] σ P := by
  refine MetI.of RX12 (by decide +kernel) rfl (Nat.le_of_ble_eq_true rfl) (fun X C r => ?_)
  show V X G 3 0 [(0, .int a0)] [] σ
  unfold v_X12_classesOf at hw
  refine v_iload_n (pc := 0) 0 C dX12_classesOf_0 rfl rfl ?_
  refine v_bipush (pc := 1) (v := 12) C dX12_classesOf_1 (by decide) ?_
  refine v_irem (pc := 3) C dX12_classesOf_3 (by decide) ?_
  refine v_istore_n (pc := 4) C dX12_classesOf_4 rfl (by decide) rfl ?_
  refine v_iload_n (pc := 5) 0 C dX12_classesOf_5 rfl rfl ?_
  refine v_iconst (pc := 6) (v := 0) C dX12_classesOf_6 (by decide) ?_
  refine v_callSi (pc := 7) (As := [.int (a0 - a0 / 12 * 12), .int 0]) (rest := []) C (c_X12_above hw) pk_X12_above (Or.inl k_1270) (by decide) rfl rfl (Nat.le_of_ble_eq_true rfl) dX12_classesOf_7 (fun r_1 σ_2 hw => ?_)
  refine v_istore_n (pc := 10) C dX12_classesOf_10 rfl (by decide) rfl ?_
  refine v_iload_n (pc := 11) 2 C dX12_classesOf_11 rfl rfl ?_
  refine v_bipush (pc := 12) (v := 12) C dX12_classesOf_12 (by decide) ?_
  refine v_idiv (pc := 14) C dX12_classesOf_14 (by decide) ?_
  by_cases c0 : (a0 / 12) = 0
  · replace hw := hw.1 c0
    refine v_tableIn (pc := 15) (tgt := 56) (off := 41) C dX12_classesOf_15 (by rw [c0]; decide) (by rw [c0]; decide) (by rw [c0]; rfl) (by decide) ?_
    refine v_iload_n (pc := 56) 0 C dX12_classesOf_56 rfl rfl ?_
    refine v_iload_n (pc := 57) 1 C dX12_classesOf_57 rfl rfl ?_
    refine v_iconst (pc := 58) (v := 4) C dX12_classesOf_58 (by decide) ?_
    refine v_callSi (pc := 59) (As := [.int (a0 - a0 / 12 * 12), .int 4]) (rest := [.int r_1]) C (c_X12_above hw) pk_X12_above (Or.inl k_1270) (by decide) rfl rfl (Nat.le_of_ble_eq_true rfl) dX12_classesOf_59 (fun r_3 σ_4 hw => ?_)
    refine v_ior (pc := 62) C dX12_classesOf_62 ?_
    refine v_iload_n (pc := 63) 1 C dX12_classesOf_63 rfl rfl ?_
    refine v_bipush (pc := 64) (v := 7) C dX12_classesOf_64 (by decide) ?_
    refine v_callSi (pc := 66) (As := [.int (a0 - a0 / 12 * 12), .int 7]) (rest := [.int (r_1 ||| r_3)]) C (c_X12_above hw) pk_X12_above (Or.inl k_1270) (by decide) rfl rfl (Nat.le_of_ble_eq_true rfl) dX12_classesOf_66 (fun r_5 σ_6 hw => ?_)
    refine v_ior (pc := 69) C dX12_classesOf_69 ?_
    exact v_iret (pc := 70) C r hw dX12_classesOf_70
  · replace hw := hw.2 c0
    by_cases c1 : (a0 / 12) = 1
    · replace hw := hw.1 c1
      refine v_tableIn (pc := 15) (tgt := 71) (off := 56) C dX12_classesOf_15 (by rw [c1]; decide) (by rw [c1]; decide) (by rw [c1]; rfl) (by decide) ?_
      refine v_iload_n (pc := 71) 0 C dX12_classesOf_71 rfl rfl ?_
      refine v_iload_n (pc := 72) 1 C dX12_classesOf_72 rfl rfl ?_
      refine v_iconst (pc := 73) (v := 3) C dX12_classesOf_73 (by decide) ?_
      refine v_callSi (pc := 74) (As := [.int (a0 - a0 / 12 * 12), .int 3]) (rest := [.int r_1]) C (c_X12_above hw) pk_X12_above (Or.inl k_1270) (by decide) rfl rfl (Nat.le_of_ble_eq_true rfl) dX12_classesOf_74 (fun r_7 σ_8 hw => ?_)
      refine v_ior (pc := 77) C dX12_classesOf_77 ?_
      refine v_iload_n (pc := 78) 1 C dX12_classesOf_78 rfl rfl ?_
      refine v_bipush (pc := 79) (v := 7) C dX12_classesOf_79 (by decide) ?_
      refine v_callSi (pc := 81) (As := [.int (a0 - a0 / 12 * 12), .int 7]) (rest := [.int (r_1 ||| r_7)]) C (c_X12_above hw) pk_X12_above (Or.inl k_1270) (by decide) rfl rfl (Nat.le_of_ble_eq_true rfl) dX12_classesOf_81 (fun r_9 σ_10 hw => ?_)
      refine v_ior (pc := 84) C dX12_classesOf_84 ?_
      exact v_iret (pc := 85) C r hw dX12_classesOf_85
    · replace hw := hw.2 c1
      by_cases c2 : (a0 / 12) = 2
      · replace hw := hw.1 c2
        refine v_tableIn (pc := 15) (tgt := 86) (off := 71) C dX12_classesOf_15 (by rw [c2]; decide) (by rw [c2]; decide) (by rw [c2]; rfl) (by decide) ?_
        refine v_iload_n (pc := 86) 0 C dX12_classesOf_86 rfl rfl ?_
        refine v_iload_n (pc := 87) 1 C dX12_classesOf_87 rfl rfl ?_
        refine v_iconst (pc := 88) (v := 4) C dX12_classesOf_88 (by decide) ?_
        refine v_callSi (pc := 89) (As := [.int (a0 - a0 / 12 * 12), .int 4]) (rest := [.int r_1]) C (c_X12_above hw) pk_X12_above (Or.inl k_1270) (by decide) rfl rfl (Nat.le_of_ble_eq_true rfl) dX12_classesOf_89 (fun r_11 σ_12 hw => ?_)
        refine v_ior (pc := 92) C dX12_classesOf_92 ?_
        refine v_iload_n (pc := 93) 1 C dX12_classesOf_93 rfl rfl ?_
        refine v_bipush (pc := 94) (v := 7) C dX12_classesOf_94 (by decide) ?_
        refine v_callSi (pc := 96) (As := [.int (a0 - a0 / 12 * 12), .int 7]) (rest := [.int (r_1 ||| r_11)]) C (c_X12_above hw) pk_X12_above (Or.inl k_1270) (by decide) rfl rfl (Nat.le_of_ble_eq_true rfl) dX12_classesOf_96 (fun r_13 σ_14 hw => ?_)
        refine v_ior (pc := 99) C dX12_classesOf_99 ?_
        refine v_iload_n (pc := 100) 1 C dX12_classesOf_100 rfl rfl ?_
        refine v_bipush (pc := 101) (v := 10) C dX12_classesOf_101 (by decide) ?_
        refine v_callSi (pc := 103) (As := [.int (a0 - a0 / 12 * 12), .int 10]) (rest := [.int ((r_1 ||| r_11) ||| r_13)]) C (c_X12_above hw) pk_X12_above (Or.inl k_1270) (by decide) rfl rfl (Nat.le_of_ble_eq_true rfl) dX12_classesOf_103 (fun r_15 σ_16 hw => ?_)
        refine v_ior (pc := 106) C dX12_classesOf_106 ?_
        exact v_iret (pc := 107) C r hw dX12_classesOf_107
      · replace hw := hw.2 c2
        by_cases c3 : (a0 / 12) = 3
        · replace hw := hw.1 c3
          refine v_tableIn (pc := 15) (tgt := 108) (off := 93) C dX12_classesOf_15 (by rw [c3]; decide) (by rw [c3]; decide) (by rw [c3]; rfl) (by decide) ?_
          refine v_iload_n (pc := 108) 0 C dX12_classesOf_108 rfl rfl ?_
          refine v_iload_n (pc := 109) 1 C dX12_classesOf_109 rfl rfl ?_
          refine v_iconst (pc := 110) (v := 3) C dX12_classesOf_110 (by decide) ?_
          refine v_callSi (pc := 111) (As := [.int (a0 - a0 / 12 * 12), .int 3]) (rest := [.int r_1]) C (c_X12_above hw) pk_X12_above (Or.inl k_1270) (by decide) rfl rfl (Nat.le_of_ble_eq_true rfl) dX12_classesOf_111 (fun r_17 σ_18 hw => ?_)
          refine v_ior (pc := 114) C dX12_classesOf_114 ?_
          refine v_iload_n (pc := 115) 1 C dX12_classesOf_115 rfl rfl ?_
          refine v_bipush (pc := 116) (v := 7) C dX12_classesOf_116 (by decide) ?_
          refine v_callSi (pc := 118) (As := [.int (a0 - a0 / 12 * 12), .int 7]) (rest := [.int (r_1 ||| r_17)]) C (c_X12_above hw) pk_X12_above (Or.inl k_1270) (by decide) rfl rfl (Nat.le_of_ble_eq_true rfl) dX12_classesOf_118 (fun r_19 σ_20 hw => ?_)
          refine v_ior (pc := 121) C dX12_classesOf_121 ?_
          refine v_iload_n (pc := 122) 1 C dX12_classesOf_122 rfl rfl ?_
          refine v_bipush (pc := 123) (v := 10) C dX12_classesOf_123 (by decide) ?_
          refine v_callSi (pc := 125) (As := [.int (a0 - a0 / 12 * 12), .int 10]) (rest := [.int ((r_1 ||| r_17) ||| r_19)]) C (c_X12_above hw) pk_X12_above (Or.inl k_1270) (by decide) rfl rfl (Nat.le_of_ble_eq_true rfl) dX12_classesOf_125 (fun r_21 σ_22 hw => ?_)
          refine v_ior (pc := 128) C dX12_classesOf_128 ?_
          exact v_iret (pc := 129) C r hw dX12_classesOf_129
        · replace hw := hw.2 c3
          by_cases c4 : (a0 / 12) = 4
          · replace hw := hw.1 c4
            refine v_tableIn (pc := 15) (tgt := 130) (off := 115) C dX12_classesOf_15 (by rw [c4]; decide) (by rw [c4]; decide) (by rw [c4]; rfl) (by decide) ?_
            refine v_iload_n (pc := 130) 0 C dX12_classesOf_130 rfl rfl ?_
            refine v_iload_n (pc := 131) 1 C dX12_classesOf_131 rfl rfl ?_
            refine v_iconst (pc := 132) (v := 3) C dX12_classesOf_132 (by decide) ?_
            refine v_callSi (pc := 133) (As := [.int (a0 - a0 / 12 * 12), .int 3]) (rest := [.int r_1]) C (c_X12_above hw) pk_X12_above (Or.inl k_1270) (by decide) rfl rfl (Nat.le_of_ble_eq_true rfl) dX12_classesOf_133 (fun r_23 σ_24 hw => ?_)
            refine v_ior (pc := 136) C dX12_classesOf_136 ?_
            refine v_iload_n (pc := 137) 1 C dX12_classesOf_137 rfl rfl ?_
            refine v_bipush (pc := 138) (v := 6) C dX12_classesOf_138 (by decide) ?_
            refine v_callSi (pc := 140) (As := [.int (a0 - a0 / 12 * 12), .int 6]) (rest := [.int (r_1 ||| r_23)]) C (c_X12_above hw) pk_X12_above (Or.inl k_1270) (by decide) rfl rfl (Nat.le_of_ble_eq_true rfl) dX12_classesOf_140 (fun r_25 σ_26 hw => ?_)
            refine v_ior (pc := 143) C dX12_classesOf_143 ?_
            exact v_iret (pc := 144) C r hw dX12_classesOf_144
          · replace hw := hw.2 c4
            by_cases c5 : (a0 / 12) = 5
            · replace hw := hw.1 c5
              refine v_tableIn (pc := 15) (tgt := 145) (off := 130) C dX12_classesOf_15 (by rw [c5]; decide) (by rw [c5]; decide) (by rw [c5]; rfl) (by decide) ?_
              refine v_iload_n (pc := 145) 0 C dX12_classesOf_145 rfl rfl ?_
              refine v_iload_n (pc := 146) 1 C dX12_classesOf_146 rfl rfl ?_
              refine v_iconst (pc := 147) (v := 5) C dX12_classesOf_147 (by decide) ?_
              refine v_callSi (pc := 148) (As := [.int (a0 - a0 / 12 * 12), .int 5]) (rest := [.int r_1]) C (c_X12_above hw) pk_X12_above (Or.inl k_1270) (by decide) rfl rfl (Nat.le_of_ble_eq_true rfl) dX12_classesOf_148 (fun r_27 σ_28 hw => ?_)
              refine v_ior (pc := 151) C dX12_classesOf_151 ?_
              refine v_iload_n (pc := 152) 1 C dX12_classesOf_152 rfl rfl ?_
              refine v_bipush (pc := 153) (v := 7) C dX12_classesOf_153 (by decide) ?_
              refine v_callSi (pc := 155) (As := [.int (a0 - a0 / 12 * 12), .int 7]) (rest := [.int (r_1 ||| r_27)]) C (c_X12_above hw) pk_X12_above (Or.inl k_1270) (by decide) rfl rfl (Nat.le_of_ble_eq_true rfl) dX12_classesOf_155 (fun r_29 σ_30 hw => ?_)
              refine v_ior (pc := 158) C dX12_classesOf_158 ?_
              exact v_iret (pc := 159) C r hw dX12_classesOf_159
            · replace hw := hw.2 c5
              by_cases c6 : (a0 / 12) = 6
              · replace hw := hw.1 c6
                refine v_tableIn (pc := 15) (tgt := 160) (off := 145) C dX12_classesOf_15 (by rw [c6]; decide) (by rw [c6]; decide) (by rw [c6]; rfl) (by decide) ?_
                refine v_iload_n (pc := 160) 0 C dX12_classesOf_160 rfl rfl ?_
                refine v_iload_n (pc := 161) 1 C dX12_classesOf_161 rfl rfl ?_
                refine v_iconst (pc := 162) (v := 4) C dX12_classesOf_162 (by decide) ?_
                refine v_callSi (pc := 163) (As := [.int (a0 - a0 / 12 * 12), .int 4]) (rest := [.int r_1]) C (c_X12_above hw) pk_X12_above (Or.inl k_1270) (by decide) rfl rfl (Nat.le_of_ble_eq_true rfl) dX12_classesOf_163 (fun r_31 σ_32 hw => ?_)
                refine v_ior (pc := 166) C dX12_classesOf_166 ?_
                refine v_iload_n (pc := 167) 1 C dX12_classesOf_167 rfl rfl ?_
                refine v_bipush (pc := 168) (v := 7) C dX12_classesOf_168 (by decide) ?_
                refine v_callSi (pc := 170) (As := [.int (a0 - a0 / 12 * 12), .int 7]) (rest := [.int (r_1 ||| r_31)]) C (c_X12_above hw) pk_X12_above (Or.inl k_1270) (by decide) rfl rfl (Nat.le_of_ble_eq_true rfl) dX12_classesOf_170 (fun r_33 σ_34 hw => ?_)
                refine v_ior (pc := 173) C dX12_classesOf_173 ?_
                refine v_iload_n (pc := 174) 1 C dX12_classesOf_174 rfl rfl ?_
                refine v_bipush (pc := 175) (v := 11) C dX12_classesOf_175 (by decide) ?_
                refine v_callSi (pc := 177) (As := [.int (a0 - a0 / 12 * 12), .int 11]) (rest := [.int ((r_1 ||| r_31) ||| r_33)]) C (c_X12_above hw) pk_X12_above (Or.inl k_1270) (by decide) rfl rfl (Nat.le_of_ble_eq_true rfl) dX12_classesOf_177 (fun r_35 σ_36 hw => ?_)
                refine v_ior (pc := 180) C dX12_classesOf_180 ?_
                exact v_iret (pc := 181) C r hw dX12_classesOf_181
              · replace hw := hw.2 c6
                refine v_tableOut (pc := 15) (tgt := 182) C dX12_classesOf_15 (by have e0 := ne_toInt (k := 0) c0 (by decide); have e1 := ne_toInt (k := 1) c1 (by decide); have e2 := ne_toInt (k := 2) c2 (by decide); have e3 := ne_toInt (k := 3) c3 (by decide); have e4 := ne_toInt (k := 4) c4 (by decide); have e5 := ne_toInt (k := 5) c5 (by decide); have e6 := ne_toInt (k := 6) c6 (by decide); omega) (by decide) ?_
                refine v_iload_n (pc := 182) 0 C dX12_classesOf_182 rfl rfl ?_
                refine v_iload_n (pc := 183) 1 C dX12_classesOf_183 rfl rfl ?_
                refine v_iconst (pc := 184) (v := 4) C dX12_classesOf_184 (by decide) ?_
                refine v_callSi (pc := 185) (As := [.int (a0 - a0 / 12 * 12), .int 4]) (rest := [.int r_1]) C (c_X12_above hw) pk_X12_above (Or.inl k_1270) (by decide) rfl rfl (Nat.le_of_ble_eq_true rfl) dX12_classesOf_185 (fun r_37 σ_38 hw => ?_)
                refine v_ior (pc := 188) C dX12_classesOf_188 ?_
                refine v_iload_n (pc := 189) 1 C dX12_classesOf_189 rfl rfl ?_
                refine v_bipush (pc := 190) (v := 8) C dX12_classesOf_190 (by decide) ?_
                refine v_callSi (pc := 192) (As := [.int (a0 - a0 / 12 * 12), .int 8]) (rest := [.int (r_1 ||| r_37)]) C (c_X12_above hw) pk_X12_above (Or.inl k_1270) (by decide) rfl rfl (Nat.le_of_ble_eq_true rfl) dX12_classesOf_192 (fun r_39 σ_40 hw => ?_)
                refine v_ior (pc := 195) C dX12_classesOf_195 ?_
                exact v_iret (pc := 196) C r hw dX12_classesOf_196

theorem c_X12_isSeventh {l : Launch} {G : Gl} {a0 : Int32} {σ : Mem} {P : Int32 → Mem → Prop} (hw : v_X12_isSeventh a0 σ P) : MetI l yX12_isSeventh cX12_isSeventh 2 .boolean 0 G [.int a0] σ P := by
  refine MetI.of RX12 (by decide +kernel) rfl (Nat.le_of_ble_eq_true rfl) (fun X C r => ?_)
  show V X G 2 0 [(0, .int a0)] [] σ
  unfold v_X12_isSeventh at hw
  refine v_iload_n (pc := 0) 0 C dX12_isSeventh_0 rfl rfl ?_
  refine v_bipush (pc := 1) (v := 12) C dX12_isSeventh_1 (by decide) ?_
  refine v_idiv (pc := 3) C dX12_isSeventh_3 (by decide) ?_
  refine v_istore_n (pc := 4) C dX12_isSeventh_4 rfl (by decide) rfl ?_
  refine v_iload_n (pc := 5) 0 C dX12_isSeventh_5 rfl rfl ?_
  refine v_iconst (pc := 6) (v := 2) C dX12_isSeventh_6 (by decide) ?_
  refine v_icmp_eq (pc := 7) (tgt := 21) C dX12_isSeventh_7 (by decide) (fun c => ?_) (fun c => ?_)
  · replace hw := hw.1 c
    refine v_iconst (pc := 21) (v := 1) C dX12_isSeventh_21 (by decide) ?_
    refine v_goto (pc := 22) (tgt := 26) C dX12_isSeventh_22 (by decide) ?_
    exact v_zret (pc := 26) C r (Or.inr rfl) hw dX12_isSeventh_26
  · replace hw := hw.2 c
    refine v_iload_n (pc := 10) 0 C dX12_isSeventh_10 rfl rfl ?_
    refine v_iconst (pc := 11) (v := 3) C dX12_isSeventh_11 (by decide) ?_
    refine v_icmp_eq (pc := 12) (tgt := 21) C dX12_isSeventh_12 (by decide) (fun c => ?_) (fun c => ?_)
    · replace hw := hw.1 c
      refine v_iconst (pc := 21) (v := 1) C dX12_isSeventh_21 (by decide) ?_
      refine v_goto (pc := 22) (tgt := 26) C dX12_isSeventh_22 (by decide) ?_
      exact v_zret (pc := 26) C r (Or.inr rfl) hw dX12_isSeventh_26
    · replace hw := hw.2 c
      refine v_iload_n (pc := 15) 0 C dX12_isSeventh_15 rfl rfl ?_
      refine v_bipush (pc := 16) (v := 6) C dX12_isSeventh_16 (by decide) ?_
      refine v_icmp_ne (pc := 18) (tgt := 25) C dX12_isSeventh_18 (by decide) (fun c => ?_) (fun c => ?_)
      · replace hw := hw.2 c
        refine v_iconst (pc := 25) (v := 0) C dX12_isSeventh_25 (by decide) ?_
        exact v_zret (pc := 26) C r (Or.inl rfl) hw dX12_isSeventh_26
      · replace hw := hw.1 c
        refine v_iconst (pc := 21) (v := 1) C dX12_isSeventh_21 (by decide) ?_
        refine v_goto (pc := 22) (tgt := 26) C dX12_isSeventh_22 (by decide) ?_
        exact v_zret (pc := 26) C r (Or.inr rfl) hw dX12_isSeventh_26

theorem w_X12_newBar_L35 {X : Cx} {G : Gl} {P : Int32 → Mem → Prop} {K62 : Mem → Prop} (C : Ck X G RX12 cX12_newBar 4 0) (r : RetI X G .int P) (hK62 : ∀ (σ : Mem), K62 σ → V X G 4 62 [(0, .ref (gA G 33))] [] σ) : ∀ (n : Nat) (x3 : Int32) (σ : Mem), v_X12_newBar_L35 K62 P n x3 σ → V X G 4 35 [(0, .ref (gA G 33)), (3, .int x3)] [] σ := by
  intro n
  induction n with
  | zero => intro x3 σ hw; exact hw.elim
  | succ n ih =>
    intro x3 σ hw
    refine v_iload_n (pc := 35) 1 C dX12_newBar_35 rfl rfl ?_
    refine v_bipush (pc := 36) (v := 36) C dX12_newBar_36 (by decide) ?_
    refine v_icmp_ge (pc := 38) (tgt := 62) C dX12_newBar_38 (by decide) (fun c => ?_) (fun c => ?_)
    · replace hw := hw.1 c
      refine v_sub [0] rfl ?_
      exact hK62 _ hw
    · replace hw := hw.2 c
      refine v_aload_n (pc := 41) 0 C dX12_newBar_41 rfl rfl ?_
      refine g_12_9 (pc := 42) C k_1123 dX12_newBar_42 ?_
      refine v_bipush (pc := 45) (v := 36) C dX12_newBar_45 (by decide) ?_
      refine v_aload_n (pc := 47) 0 C dX12_newBar_47 rfl rfl ?_
      refine g_12_5 (pc := 48) C k_1119 dX12_newBar_48 ?_
      refine v_imul (pc := 51) C dX12_newBar_51 ?_
      refine v_iload_n (pc := 52) 1 C dX12_newBar_52 rfl rfl ?_
      refine v_iadd (pc := 53) C dX12_newBar_53 ?_
      refine v_iconst (pc := 54) (v := 0) C dX12_newBar_54 (by decide) ?_
      refine v_iast (pc := 55) C rfl hw.1 dX12_newBar_55 ?_
      replace hw := hw.2
      refine v_iinc (pc := 56) (v := x3 + 1) 1 C dX12_newBar_56 rfl rfl (by decide) rfl ?_
      refine v_goto (pc := 59) (tgt := 35) C dX12_newBar_59 (by decide) ?_
      refine v_sub [1, 0] rfl ?_
      exact ih _ _ hw

theorem c_X12_newBar {l : Launch} {G : Gl} {a1 : Int32} {a2 : Int32} {σ : Mem} {P : Int32 → Mem → Prop} (hw : v_X12_newBar a1 a2 σ P) : MetI l yX12_newBar cX12_newBar 4 .int 0 G [.ref (gA G 33), .int a1, .int a2] σ P := by
  refine MetI.of RX12 (by decide +kernel) rfl (Nat.le_of_ble_eq_true rfl) (fun X C r => ?_)
  show V X G 4 0 [(0, .ref (gA G 33)), (1, .int a1), (2, .int a2)] [] σ
  unfold v_X12_newBar at hw
  refine v_aload_n (pc := 0) 0 C dX12_newBar_0 rfl rfl ?_
  refine g_12_6 (pc := 1) C k_1120 dX12_newBar_1 ?_
  refine v_aload_n (pc := 4) 0 C dX12_newBar_4 rfl rfl ?_
  refine g_12_5 (pc := 5) C k_1119 dX12_newBar_5 ?_
  refine v_iload_n (pc := 8) 1 C dX12_newBar_8 rfl rfl ?_
  refine v_iast (pc := 9) C rfl hw.1 dX12_newBar_9 ?_
  replace hw := hw.2
  refine v_aload_n (pc := 10) 0 C dX12_newBar_10 rfl rfl ?_
  refine g_12_7 (pc := 11) C k_1121 dX12_newBar_11 ?_
  refine v_aload_n (pc := 14) 0 C dX12_newBar_14 rfl rfl ?_
  refine g_12_5 (pc := 15) C k_1119 dX12_newBar_15 ?_
  refine v_iload_n (pc := 18) 2 C dX12_newBar_18 rfl rfl ?_
  refine v_iast (pc := 19) C rfl hw.1 dX12_newBar_19 ?_
  replace hw := hw.2
  refine v_aload_n (pc := 20) 0 C dX12_newBar_20 rfl rfl ?_
  refine g_12_8 (pc := 21) C k_1122 dX12_newBar_21 ?_
  refine v_aload_n (pc := 24) 0 C dX12_newBar_24 rfl rfl ?_
  refine g_12_5 (pc := 25) C k_1119 dX12_newBar_25 ?_
  refine v_aload_n (pc := 28) 0 C dX12_newBar_28 rfl rfl ?_
  refine g_12_5 (pc := 29) C k_1119 dX12_newBar_29 ?_
  refine v_iast (pc := 32) C rfl hw.1 dX12_newBar_32 ?_
  replace hw := hw.2
  refine v_iconst (pc := 33) (v := 0) C dX12_newBar_33 (by decide) ?_
  refine v_istore_n (pc := 34) C dX12_newBar_34 rfl (by decide) rfl ?_
  refine v_sub [1, 0] rfl ?_
  refine w_X12_newBar_L35 C r ?_ 5000 _ _ hw
  · intro σ_2 hw
    refine v_aload_n (pc := 62) 0 C dX12_newBar_62 rfl rfl ?_
    refine v_dup (pc := 63) C dX12_newBar_63 rfl ?_
    refine g_12_5 (pc := 64) C k_1119 dX12_newBar_64 ?_
    refine v_iconst (pc := 67) (v := 1) C dX12_newBar_67 (by decide) ?_
    refine v_iadd (pc := 68) C dX12_newBar_68 ?_
    refine p_12_5 (pc := 69) C k_1119 dX12_newBar_69 ?_
    refine v_aload_n (pc := 72) 0 C dX12_newBar_72 rfl rfl ?_
    refine g_12_5 (pc := 73) C k_1119 dX12_newBar_73 ?_
    refine v_iconst (pc := 76) (v := 1) C dX12_newBar_76 (by decide) ?_
    refine v_isub (pc := 77) C dX12_newBar_77 ?_
    exact v_iret (pc := 78) C r hw dX12_newBar_78

theorem c_X12_hushes {l : Launch} {G : Gl} {a1 : Int32} {a2 : Int32} {σ : Mem} {P : Int32 → Mem → Prop} (hw : v_X12_hushes a1 a2 σ P) : MetI l yX12_hushes cX12_hushes 3 .boolean 2 G [.ref (gA G 33), .int a1, .int a2] σ P := by
  refine MetI.of RX12 (by decide +kernel) rfl (Nat.le_of_ble_eq_true rfl) (fun X C r => ?_)
  show V X G 3 0 [(0, .ref (gA G 33)), (1, .int a1), (2, .int a2)] [] σ
  unfold v_X12_hushes at hw
  refine v_aload_n (pc := 0) 0 C dX12_hushes_0 rfl rfl ?_
  refine g_12_4 (pc := 1) C k_1118 dX12_hushes_1 ?_
  refine v_iload_n (pc := 4) 2 C dX12_hushes_4 rfl rfl ?_
  refine v_zald (pc := 5) C rfl hw.1 dX12_hushes_5 ?_
  replace hw := hw.2
  refine v_if_ne (pc := 6) (tgt := 28) C dX12_hushes_6 (by decide) (fun c => ?_) (fun c => ?_)
  · replace hw := hw.2 c
    refine v_iconst (pc := 28) (v := 0) C dX12_hushes_28 (by decide) ?_
    exact v_zret (pc := 29) C r (Or.inl rfl) hw dX12_hushes_29
  · replace hw := hw.1 c
    refine v_iload_n (pc := 9) 1 C dX12_hushes_9 rfl rfl ?_
    refine v_callSi (pc := 10) (As := [.int a1]) (rest := []) C (c_X12_classesOf hw) pk_X12_classesOf (Or.inl k_1267) (by decide) rfl rfl (Nat.le_of_ble_eq_true rfl) dX12_hushes_10 (fun r_1 σ_2 hw => ?_)
    refine v_aload_n (pc := 13) 0 C dX12_hushes_13 rfl rfl ?_
    refine v_iload_n (pc := 14) 2 C dX12_hushes_14 rfl rfl ?_
    refine v_cVi (pc := 15) (o := 33) (As := [.int a2]) (rest := [.int r_1]) (ci := 12) C (c_X12_classOf hw) pk_X12_classOf k_1273 rfl (by decide) rfl (by decide) rfl rfl (Nat.le_of_ble_eq_true rfl) dX12_hushes_15 (fun r_3 σ_4 hw => ?_)
    refine v_ishr (pc := 18) C dX12_hushes_18 ?_
    refine v_iconst (pc := 19) (v := 1) C dX12_hushes_19 (by decide) ?_
    refine v_iand (pc := 20) C dX12_hushes_20 ?_
    refine v_if_ne (pc := 21) (tgt := 28) C dX12_hushes_21 (by decide) (fun c => ?_) (fun c => ?_)
    · replace hw := hw.2 c
      refine v_iconst (pc := 28) (v := 0) C dX12_hushes_28 (by decide) ?_
      exact v_zret (pc := 29) C r (Or.inl rfl) hw dX12_hushes_29
    · replace hw := hw.1 c
      refine v_iconst (pc := 24) (v := 1) C dX12_hushes_24 (by decide) ?_
      refine v_goto (pc := 25) (tgt := 29) C dX12_hushes_25 (by decide) ?_
      exact v_zret (pc := 29) C r (Or.inr rfl) hw dX12_hushes_29

theorem w_X12_cutFor_L20 {X : Cx} {G : Gl} {P : Int32 → Mem → Prop} {x1 : Int32} {x2 : Int32} (C : Ck X G RX12 cX12_cutFor 4 3) (r : RetI X G .int P) : ∀ (n : Nat) (x3 : Int32) (σ : Mem), v_X12_cutFor_L20 x1 x2 P n x3 σ → V X G 4 20 [(0, .ref (gA G 33)), (1, .int x1), (2, .int x2), (3, .int x3)] [] σ := by
  intro n
  induction n with
  | zero => intro x3 σ hw; exact hw.elim
  | succ n ih =>
    intro x3 σ hw
    refine v_iload_n (pc := 20) 3 C dX12_cutFor_20 rfl rfl ?_
    refine v_aload_n (pc := 21) 0 C dX12_cutFor_21 rfl rfl ?_
    refine g_12_2 (pc := 22) C k_1116 dX12_cutFor_22 ?_
    refine v_icmp_ge (pc := 25) (tgt := 59) C dX12_cutFor_25 (by decide) (fun c => ?_) (fun c => ?_)
    · replace hw := hw.1 c
      refine v_iload_n (pc := 59) 2 C dX12_cutFor_59 rfl rfl ?_
      exact v_iret (pc := 60) C r hw dX12_cutFor_60
    · replace hw := hw.2 c
      refine v_aload_n (pc := 28) 0 C dX12_cutFor_28 rfl rfl ?_
      refine g_12_9 (pc := 29) C k_1123 dX12_cutFor_29 ?_
      refine v_bipush (pc := 32) (v := 36) C dX12_cutFor_32 (by decide) ?_
      refine v_iload_n (pc := 34) 2 C dX12_cutFor_34 rfl rfl ?_
      refine v_imul (pc := 35) C dX12_cutFor_35 ?_
      refine v_iload_n (pc := 36) 3 C dX12_cutFor_36 rfl rfl ?_
      refine v_iadd (pc := 37) C dX12_cutFor_37 ?_
      refine v_aload_n (pc := 38) 0 C dX12_cutFor_38 rfl rfl ?_
      refine v_iload_n (pc := 39) 1 C dX12_cutFor_39 rfl rfl ?_
      refine v_iload_n (pc := 40) 3 C dX12_cutFor_40 rfl rfl ?_
      refine v_cVi (pc := 41) (o := 33) (As := [.int x1, .int x3]) (rest := [.int ((36 * x2) + x3), .ref (gA G 39)]) (ci := 12) C (c_X12_hushes hw) pk_X12_hushes k_1263 rfl (by decide) rfl (by decide) rfl rfl (Nat.le_of_ble_eq_true rfl) dX12_cutFor_41 (fun r_5 σ_6 hw => ?_)
      refine v_if_eq (pc := 44) (tgt := 51) C dX12_cutFor_44 (by decide) (fun c => ?_) (fun c => ?_)
      · replace hw := hw.1 c
        refine v_iconst (pc := 51) (v := 0) C dX12_cutFor_51 (by decide) ?_
        refine v_iast (pc := 52) C rfl hw.1 dX12_cutFor_52 ?_
        replace hw := hw.2
        refine v_iinc (pc := 53) (v := x3 + 1) 3 C dX12_cutFor_53 rfl rfl (by decide) rfl ?_
        refine v_goto (pc := 56) (tgt := 20) C dX12_cutFor_56 (by decide) ?_
        refine v_sub [1, 2, 3, 0] rfl ?_
        exact ih _ _ hw
      · replace hw := hw.2 c
        refine v_iconst (pc := 47) (v := 2) C dX12_cutFor_47 (by decide) ?_
        refine v_goto (pc := 48) (tgt := 52) C dX12_cutFor_48 (by decide) ?_
        refine v_iast (pc := 52) C rfl hw.1 dX12_cutFor_52 ?_
        replace hw := hw.2
        refine v_iinc (pc := 53) (v := x3 + 1) 3 C dX12_cutFor_53 rfl rfl (by decide) rfl ?_
        refine v_goto (pc := 56) (tgt := 20) C dX12_cutFor_56 (by decide) ?_
        refine v_sub [1, 2, 3, 0] rfl ?_
        exact ih _ _ hw

theorem w_X12_cutFor_J13 {X : Cx} {G : Gl} {P : Int32 → Mem → Prop} (C : Ck X G RX12 cX12_cutFor 4 3) (r : RetI X G .int P) (x1 : Int32) (xs0 : Int32) (σ : Mem) (hw : v_X12_cutFor_J13 P x1 xs0 σ) : V X G 4 13 [(0, .ref (gA G 33)), (1, .int x1)] [.int xs0, .ref (gA G 33)] σ := by
  unfold v_X12_cutFor_J13 at hw
  refine v_iload_n (pc := 13) 1 C dX12_cutFor_13 rfl rfl ?_
  refine v_cVi (pc := 14) (o := 33) (As := [.int xs0, .int x1]) (rest := []) (ci := 12) C (c_X12_newBar hw) pk_X12_newBar k_1259 rfl (by decide) rfl (by decide) rfl rfl (Nat.le_of_ble_eq_true rfl) dX12_cutFor_14 (fun r_3 σ_4 hw => ?_)
  refine v_istore_n (pc := 17) C dX12_cutFor_17 rfl (by decide) rfl ?_
  refine v_iconst (pc := 18) (v := 0) C dX12_cutFor_18 (by decide) ?_
  refine v_istore_n (pc := 19) C dX12_cutFor_19 rfl (by decide) rfl ?_
  refine v_sub [2, 3, 1, 0] rfl ?_
  refine w_X12_cutFor_L20 C r 5000 _ _ hw

theorem c_X12_cutFor {l : Launch} {G : Gl} {a1 : Int32} {σ : Mem} {P : Int32 → Mem → Prop} (hw : v_X12_cutFor a1 σ P) : MetI l yX12_cutFor cX12_cutFor 4 .int 3 G [.ref (gA G 33), .int a1] σ P := by
  refine MetI.of RX12 (by decide +kernel) rfl (Nat.le_of_ble_eq_true rfl) (fun X C r => ?_)
  show V X G 4 0 [(0, .ref (gA G 33)), (1, .int a1)] [] σ
  unfold v_X12_cutFor at hw
  refine v_aload_n (pc := 0) 0 C dX12_cutFor_0 rfl rfl ?_
  refine v_iload_n (pc := 1) 1 C dX12_cutFor_1 rfl rfl ?_
  refine v_callSi (pc := 2) (As := [.int a1]) (rest := [.ref (gA G 33)]) C (c_X12_isSeventh hw) pk_X12_isSeventh (Or.inl k_1256) (by decide) rfl rfl (Nat.le_of_ble_eq_true rfl) dX12_cutFor_2 (fun r_1 σ_2 hw => ?_)
  refine v_if_eq (pc := 5) (tgt := 12) C dX12_cutFor_5 (by decide) (fun c => ?_) (fun c => ?_)
  · replace hw := hw.1 c
    refine v_iconst (pc := 12) (v := 1) C dX12_cutFor_12 (by decide) ?_
    refine v_sub [0, 1] rfl ?_
    exact w_X12_cutFor_J13 C r _ _ _ hw
  · replace hw := hw.2 c
    refine v_iconst (pc := 8) (v := 2) C dX12_cutFor_8 (by decide) ?_
    refine v_goto (pc := 9) (tgt := 13) C dX12_cutFor_9 (by decide) ?_
    refine v_sub [0, 1] rfl ?_
    exact w_X12_cutFor_J13 C r _ _ _ hw

theorem c_X12_bar {l : Launch} {G : Gl} {a1 : Int32} {σ : Mem} {P : Int32 → Mem → Prop} (hw : v_X12_bar a1 σ P) : MetI l yX12_bar cX12_bar 2 .int 4 G [.ref (gA G 33), .int a1] σ P := by
  refine MetI.of RX12 (by decide +kernel) rfl (Nat.le_of_ble_eq_true rfl) (fun X C r => ?_)
  show V X G 2 0 [(0, .ref (gA G 33)), (1, .int a1)] [] σ
  unfold v_X12_bar at hw
  refine v_iload_n (pc := 0) 1 C dX12_bar_0 rfl rfl ?_
  refine v_callSi (pc := 1) (As := [.int a1]) (rest := []) C (c_X12_isChord hw) pk_X12_isChord (Or.inl k_1249) (by decide) rfl rfl (Nat.le_of_ble_eq_true rfl) dX12_bar_1 (fun r_1 σ_2 hw => ?_)
  refine v_if_ne (pc := 4) (tgt := 10) C dX12_bar_4 (by decide) (fun c => ?_) (fun c => ?_)
  · replace hw := hw.2 c
    refine v_aload_n (pc := 10) 0 C dX12_bar_10 rfl rfl ?_
    refine g_12_5 (pc := 11) C k_1119 dX12_bar_11 ?_
    refine v_bipush (pc := 14) (v := 12) C dX12_bar_14 (by decide) ?_
    refine v_icmp_ne (pc := 16) (tgt := 24) C dX12_bar_16 (by decide) (fun c => ?_) (fun c => ?_)
    · replace hw := hw.2 c
      refine v_aload_n (pc := 24) 0 C dX12_bar_24 rfl rfl ?_
      refine v_iload_n (pc := 25) 1 C dX12_bar_25 rfl rfl ?_
      refine v_cVi (pc := 26) (o := 33) (As := [.int a1]) (rest := []) (ci := 12) C (c_X12_cutFor hw) pk_X12_cutFor k_1252 rfl (by decide) rfl (by decide) rfl rfl (Nat.le_of_ble_eq_true rfl) dX12_bar_26 (fun r_3 σ_4 hw => ?_)
      exact v_iret (pc := 29) C r hw dX12_bar_29
    · replace hw := hw.1 c
      refine v_bipush (pc := 19) (v := (-4)) C dX12_bar_19 (by decide) ?_
      refine v_goto (pc := 21) (tgt := 29) C dX12_bar_21 (by decide) ?_
      exact v_iret (pc := 29) C r hw dX12_bar_29
  · replace hw := hw.1 c
    refine v_bipush (pc := 7) (v := (-2)) C dX12_bar_7 (by decide) ?_
    exact v_iret (pc := 9) C r hw dX12_bar_9

theorem c_X12_blank {l : Launch} {G : Gl} {σ : Mem} {P : Int32 → Mem → Prop} (hw : v_X12_blank σ P) : MetI l yX12_blank cX12_blank 1 .int 1 G [.ref (gA G 33)] σ P := by
  refine MetI.of RX12 (by decide +kernel) rfl (Nat.le_of_ble_eq_true rfl) (fun X C r => ?_)
  show V X G 1 0 [(0, .ref (gA G 33))] [] σ
  unfold v_X12_blank at hw
  refine v_aload_n (pc := 0) 0 C dX12_blank_0 rfl rfl ?_
  refine g_12_5 (pc := 1) C k_1119 dX12_blank_1 ?_
  refine v_bipush (pc := 4) (v := 12) C dX12_blank_4 (by decide) ?_
  refine v_icmp_ne (pc := 6) (tgt := 14) C dX12_blank_6 (by decide) (fun c => ?_) (fun c => ?_)
  · replace hw := hw.2 c
    refine v_aload_n (pc := 14) 0 C dX12_blank_14 rfl rfl ?_
    refine v_iconst (pc := 15) (v := 0) C dX12_blank_15 (by decide) ?_
    refine v_bipush (pc := 16) (v := (-9)) C dX12_blank_16 (by decide) ?_
    refine v_cVi (pc := 18) (o := 33) (As := [.int 0, .int (-9)]) (rest := []) (ci := 12) C (c_X12_newBar hw) pk_X12_newBar k_1259 rfl (by decide) rfl (by decide) rfl rfl (Nat.le_of_ble_eq_true rfl) dX12_blank_18 (fun r_1 σ_2 hw => ?_)
    exact v_iret (pc := 21) C r hw dX12_blank_21
  · replace hw := hw.1 c
    refine v_bipush (pc := 9) (v := (-4)) C dX12_blank_9 (by decide) ?_
    refine v_goto (pc := 11) (tgt := 21) C dX12_blank_11 (by decide) ?_
    exact v_iret (pc := 21) C r hw dX12_blank_21

theorem w_X12_felt_J49 {X : Cx} {G : Gl} {P : Int32 → Mem → Prop} (C : Ck X G RX12 cX12_felt 5 1) (r : RetI X G .int P) (x1 : Int32) (x2 : Int32) (x3 : Int32) (xs0 : Int32) (σ : Mem) (hw : v_X12_felt_J49 P x1 x2 x3 xs0 σ) : V X G 5 49 [(0, .ref (gA G 33)), (1, .int x1), (2, .int x2), (3, .int x3)] [.int xs0] σ := by
  unfold v_X12_felt_J49 at hw
  refine v_istore (pc := 49) C dX12_felt_49 (by decide) rfl ?_
  refine v_iload (pc := 51) 0 C dX12_felt_51 rfl ?_
  refine v_iload_n (pc := 53) 4 C dX12_felt_53 rfl rfl ?_
  refine v_icmp_ne (pc := 54) (tgt := 59) C dX12_felt_54 (by decide) (fun c => ?_) (fun c => ?_)
  · replace hw := hw.2 c
    refine v_aload_n (pc := 59) 1 C dX12_felt_59 rfl rfl ?_
    refine g_12_9 (pc := 60) C k_1123 dX12_felt_60 ?_
    refine v_bipush (pc := 63) (v := 36) C dX12_felt_63 (by decide) ?_
    refine v_iload_n (pc := 65) 2 C dX12_felt_65 rfl rfl ?_
    refine v_imul (pc := 66) C dX12_felt_66 ?_
    refine v_iload_n (pc := 67) 3 C dX12_felt_67 rfl rfl ?_
    refine v_iadd (pc := 68) C dX12_felt_68 ?_
    refine v_iload_n (pc := 69) 4 C dX12_felt_69 rfl rfl ?_
    refine v_if_eq (pc := 70) (tgt := 77) C dX12_felt_70 (by decide) (fun c => ?_) (fun c => ?_)
    · replace hw := hw.1 c
      refine v_iconst (pc := 77) (v := 0) C dX12_felt_77 (by decide) ?_
      refine v_iast (pc := 78) C rfl hw.1 dX12_felt_78 ?_
      replace hw := hw.2
      refine v_iconst (pc := 79) (v := 1) C dX12_felt_79 (by decide) ?_
      exact v_iret (pc := 80) C r hw dX12_felt_80
    · replace hw := hw.2 c
      refine v_iconst (pc := 73) (v := 2) C dX12_felt_73 (by decide) ?_
      refine v_goto (pc := 74) (tgt := 78) C dX12_felt_74 (by decide) ?_
      refine v_iast (pc := 78) C rfl hw.1 dX12_felt_78 ?_
      replace hw := hw.2
      refine v_iconst (pc := 79) (v := 1) C dX12_felt_79 (by decide) ?_
      exact v_iret (pc := 80) C r hw dX12_felt_80
  · replace hw := hw.1 c
    refine v_iconst (pc := 57) (v := 0) C dX12_felt_57 (by decide) ?_
    exact v_iret (pc := 58) C r hw dX12_felt_58

theorem c_X12_felt {l : Launch} {G : Gl} {a1 : Int32} {a2 : Int32} {a3 : Int32} {σ : Mem} {P : Int32 → Mem → Prop} (hw : v_X12_felt a1 a2 a3 σ P) : MetI l yX12_felt cX12_felt 5 .int 1 G [.ref (gA G 33), .int a1, .int a2, .int a3] σ P := by
  refine MetI.of RX12 (by decide +kernel) rfl (Nat.le_of_ble_eq_true rfl) (fun X C r => ?_)
  show V X G 5 0 [(0, .ref (gA G 33)), (1, .int a1), (2, .int a2), (3, .int a3)] [] σ
  unfold v_X12_felt at hw
  refine v_aload_n (pc := 0) 0 C dX12_felt_0 rfl rfl ?_
  refine v_iload_n (pc := 1) 1 C dX12_felt_1 rfl rfl ?_
  refine v_cVi (pc := 2) (o := 33) (As := [.int a1]) (rest := []) (ci := 12) C (c_X12_isBar hw) pk_X12_isBar k_1285 rfl (by decide) rfl (by decide) rfl rfl (Nat.le_of_ble_eq_true rfl) dX12_felt_2 (fun r_1 σ_2 hw => ?_)
  refine v_if_eq (pc := 5) (tgt := 16) C dX12_felt_5 (by decide) (fun c => ?_) (fun c => ?_)
  · replace hw := hw.1 c
    refine v_iconst (pc := 16) (v := (-1)) C dX12_felt_16 (by decide) ?_
    exact v_iret (pc := 17) C r hw dX12_felt_17
  · replace hw := hw.2 c
    refine v_aload_n (pc := 8) 0 C dX12_felt_8 rfl rfl ?_
    refine v_iload_n (pc := 9) 2 C dX12_felt_9 rfl rfl ?_
    refine v_cVi (pc := 10) (o := 33) (As := [.int a2]) (rest := []) (ci := 12) C (c_X12_isString hw) pk_X12_isString k_1241 rfl (by decide) rfl (by decide) rfl rfl (Nat.le_of_ble_eq_true rfl) dX12_felt_10 (fun r_3 σ_4 hw => ?_)
    refine v_if_ne (pc := 13) (tgt := 18) C dX12_felt_13 (by decide) (fun c => ?_) (fun c => ?_)
    · replace hw := hw.2 c
      refine v_aload_n (pc := 18) 0 C dX12_felt_18 rfl rfl ?_
      refine g_12_4 (pc := 19) C k_1118 dX12_felt_19 ?_
      refine v_iload_n (pc := 22) 2 C dX12_felt_22 rfl rfl ?_
      refine v_zald (pc := 23) C rfl hw.1 dX12_felt_23 ?_
      replace hw := hw.2
      refine v_if_eq (pc := 24) (tgt := 30) C dX12_felt_24 (by decide) (fun c => ?_) (fun c => ?_)
      · replace hw := hw.1 c
        refine v_aload_n (pc := 30) 0 C dX12_felt_30 rfl rfl ?_
        refine g_12_9 (pc := 31) C k_1123 dX12_felt_31 ?_
        refine v_bipush (pc := 34) (v := 36) C dX12_felt_34 (by decide) ?_
        refine v_iload_n (pc := 36) 1 C dX12_felt_36 rfl rfl ?_
        refine v_imul (pc := 37) C dX12_felt_37 ?_
        refine v_iload_n (pc := 38) 2 C dX12_felt_38 rfl rfl ?_
        refine v_iadd (pc := 39) C dX12_felt_39 ?_
        refine v_iald (pc := 40) C rfl hw.1 dX12_felt_40 ?_
        replace hw := hw.2
        refine v_if_le (pc := 41) (tgt := 48) C dX12_felt_41 (by decide) (fun c => ?_) (fun c => ?_)
        · replace hw := hw.1 c
          refine v_iconst (pc := 48) (v := 0) C dX12_felt_48 (by decide) ?_
          refine v_sub [0, 1, 2, 3] rfl ?_
          exact w_X12_felt_J49 C r _ _ _ _ _ hw
        · replace hw := hw.2 c
          refine v_iconst (pc := 44) (v := 1) C dX12_felt_44 (by decide) ?_
          refine v_goto (pc := 45) (tgt := 49) C dX12_felt_45 (by decide) ?_
          refine v_sub [0, 1, 2, 3] rfl ?_
          exact w_X12_felt_J49 C r _ _ _ _ _ hw
      · replace hw := hw.2 c
        refine v_bipush (pc := 27) (v := (-3)) C dX12_felt_27 (by decide) ?_
        exact v_iret (pc := 29) C r hw dX12_felt_29
    · replace hw := hw.1 c
      refine v_iconst (pc := 16) (v := (-1)) C dX12_felt_16 (by decide) ?_
      exact v_iret (pc := 17) C r hw dX12_felt_17

theorem w_X12_wear_J64 {X : Cx} {G : Gl} {P : Int32 → Mem → Prop} (C : Ck X G RX12 cX12_wear 6 1) (r : RetI X G .int P) (x1 : Int32) (x2 : Int32) (x4 : Int32) (xs0 : Int32) (σ : Mem) (hw : v_X12_wear_J64 P x1 x2 x4 xs0 σ) : V X G 6 64 [(0, .ref (gA G 33)), (1, .int x1), (2, .int x2), (4, .int x4)] [.int xs0] σ := by
  unfold v_X12_wear_J64 at hw
  refine v_istore (pc := 64) C dX12_wear_64 (by decide) rfl ?_
  refine v_aload_n (pc := 66) 1 C dX12_wear_66 rfl rfl ?_
  refine g_12_9 (pc := 67) C k_1123 dX12_wear_67 ?_
  refine v_bipush (pc := 70) (v := 36) C dX12_wear_70 (by decide) ?_
  refine v_iload_n (pc := 72) 2 C dX12_wear_72 rfl rfl ?_
  refine v_imul (pc := 73) C dX12_wear_73 ?_
  refine v_iload_n (pc := 74) 3 C dX12_wear_74 rfl rfl ?_
  refine v_iadd (pc := 75) C dX12_wear_75 ?_
  refine v_iload (pc := 76) 4 C dX12_wear_76 rfl ?_
  refine v_iast (pc := 78) C rfl hw.1 dX12_wear_78 ?_
  replace hw := hw.2
  refine v_iload (pc := 79) 0 C dX12_wear_79 rfl ?_
  exact v_iret (pc := 81) C r hw dX12_wear_81

theorem w_X12_wear_J41 {X : Cx} {G : Gl} {P : Int32 → Mem → Prop} (C : Ck X G RX12 cX12_wear 6 1) (r : RetI X G .int P) (x1 : Int32) (x2 : Int32) (xs0 : Int32) (σ : Mem) (hw : v_X12_wear_J41 P x1 x2 xs0 σ) : V X G 6 41 [(0, .ref (gA G 33)), (1, .int x1), (2, .int x2)] [.int xs0] σ := by
  unfold v_X12_wear_J41 at hw
  refine v_istore (pc := 41) C dX12_wear_41 (by decide) rfl ?_
  refine v_aload_n (pc := 43) 1 C dX12_wear_43 rfl rfl ?_
  refine g_12_9 (pc := 44) C k_1123 dX12_wear_44 ?_
  refine v_bipush (pc := 47) (v := 36) C dX12_wear_47 (by decide) ?_
  refine v_iload_n (pc := 49) 2 C dX12_wear_49 rfl rfl ?_
  refine v_imul (pc := 50) C dX12_wear_50 ?_
  refine v_iload_n (pc := 51) 3 C dX12_wear_51 rfl rfl ?_
  refine v_iadd (pc := 52) C dX12_wear_52 ?_
  refine v_iald (pc := 53) C rfl hw.1 dX12_wear_53 ?_
  replace hw := hw.2
  refine v_iload (pc := 54) 0 C dX12_wear_54 rfl ?_
  refine v_icmp_ne (pc := 56) (tgt := 63) C dX12_wear_56 (by decide) (fun c => ?_) (fun c => ?_)
  · replace hw := hw.2 c
    refine v_iconst (pc := 63) (v := 1) C dX12_wear_63 (by decide) ?_
    refine v_sub [1, 2, 3, 0] rfl ?_
    exact w_X12_wear_J64 C r _ _ _ _ _ hw
  · replace hw := hw.1 c
    refine v_iconst (pc := 59) (v := 0) C dX12_wear_59 (by decide) ?_
    refine v_goto (pc := 60) (tgt := 64) C dX12_wear_60 (by decide) ?_
    refine v_sub [1, 2, 3, 0] rfl ?_
    exact w_X12_wear_J64 C r _ _ _ _ _ hw

theorem c_X12_wear {l : Launch} {G : Gl} {a1 : Int32} {a2 : Int32} {a3 : Int32} {σ : Mem} {P : Int32 → Mem → Prop} (hw : v_X12_wear a1 a2 a3 σ P) : MetI l yX12_wear cX12_wear 6 .int 1 G [.ref (gA G 33), .int a1, .int a2, .int a3] σ P := by
  refine MetI.of RX12 (by decide +kernel) rfl (Nat.le_of_ble_eq_true rfl) (fun X C r => ?_)
  show V X G 6 0 [(0, .ref (gA G 33)), (1, .int a1), (2, .int a2), (3, .int a3)] [] σ
  unfold v_X12_wear at hw
  refine v_aload_n (pc := 0) 0 C dX12_wear_0 rfl rfl ?_
  refine v_iload_n (pc := 1) 1 C dX12_wear_1 rfl rfl ?_
  refine v_cVi (pc := 2) (o := 33) (As := [.int a1]) (rest := []) (ci := 12) C (c_X12_isBar hw) pk_X12_isBar k_1285 rfl (by decide) rfl (by decide) rfl rfl (Nat.le_of_ble_eq_true rfl) dX12_wear_2 (fun r_1 σ_2 hw => ?_)
  refine v_if_eq (pc := 5) (tgt := 30) C dX12_wear_5 (by decide) (fun c => ?_) (fun c => ?_)
  · replace hw := hw.1 c
    refine v_iconst (pc := 30) (v := (-1)) C dX12_wear_30 (by decide) ?_
    exact v_iret (pc := 31) C r hw dX12_wear_31
  · replace hw := hw.2 c
    refine v_aload_n (pc := 8) 0 C dX12_wear_8 rfl rfl ?_
    refine v_iload_n (pc := 9) 2 C dX12_wear_9 rfl rfl ?_
    refine v_cVi (pc := 10) (o := 33) (As := [.int a2]) (rest := []) (ci := 12) C (c_X12_isString hw) pk_X12_isString k_1241 rfl (by decide) rfl (by decide) rfl rfl (Nat.le_of_ble_eq_true rfl) dX12_wear_10 (fun r_3 σ_4 hw => ?_)
    refine v_if_eq (pc := 13) (tgt := 30) C dX12_wear_13 (by decide) (fun c => ?_) (fun c => ?_)
    · replace hw := hw.1 c
      refine v_iconst (pc := 30) (v := (-1)) C dX12_wear_30 (by decide) ?_
      exact v_iret (pc := 31) C r hw dX12_wear_31
    · replace hw := hw.2 c
      refine v_aload_n (pc := 16) 0 C dX12_wear_16 rfl rfl ?_
      refine g_12_9 (pc := 17) C k_1123 dX12_wear_17 ?_
      refine v_bipush (pc := 20) (v := 36) C dX12_wear_20 (by decide) ?_
      refine v_iload_n (pc := 22) 1 C dX12_wear_22 rfl rfl ?_
      refine v_imul (pc := 23) C dX12_wear_23 ?_
      refine v_iload_n (pc := 24) 2 C dX12_wear_24 rfl rfl ?_
      refine v_iadd (pc := 25) C dX12_wear_25 ?_
      refine v_iald (pc := 26) C rfl hw.1 dX12_wear_26 ?_
      replace hw := hw.2
      refine v_if_ne (pc := 27) (tgt := 32) C dX12_wear_27 (by decide) (fun c => ?_) (fun c => ?_)
      · replace hw := hw.2 c
        refine v_iload_n (pc := 32) 3 C dX12_wear_32 rfl rfl ?_
        refine v_if_eq (pc := 33) (tgt := 40) C dX12_wear_33 (by decide) (fun c => ?_) (fun c => ?_)
        · replace hw := hw.1 c
          refine v_iconst (pc := 40) (v := 2) C dX12_wear_40 (by decide) ?_
          refine v_sub [0, 1, 2] rfl ?_
          exact w_X12_wear_J41 C r _ _ _ _ hw
        · replace hw := hw.2 c
          refine v_iconst (pc := 36) (v := 1) C dX12_wear_36 (by decide) ?_
          refine v_goto (pc := 37) (tgt := 41) C dX12_wear_37 (by decide) ?_
          refine v_sub [0, 1, 2] rfl ?_
          exact w_X12_wear_J41 C r _ _ _ _ hw
      · replace hw := hw.1 c
        refine v_iconst (pc := 30) (v := (-1)) C dX12_wear_30 (by decide) ?_
        exact v_iret (pc := 31) C r hw dX12_wear_31

theorem w_X12_ofString_L73 {X : Cx} {G : Gl} {P : Int32 → Mem → Prop} {x1 : Int32} (C : Ck X G RX12 cX12_ofString 5 1) (r : RetI X G .int P) : ∀ (n : Nat) (x3 : Int32) (x4 : Int32) (σ : Mem), v_X12_ofString_L73 x1 P n x3 x4 σ → V X G 5 73 [(0, .ref (gA G 33)), (1, .int x1), (3, .int x3), (4, .int x4)] [] σ := by
  intro n
  induction n with
  | zero => intro x3 x4 σ hw; exact hw.elim
  | succ n ih =>
    intro x3 x4 σ hw
    refine v_iload (pc := 73) 3 C dX12_ofString_73 rfl ?_
    refine v_aload_n (pc := 75) 0 C dX12_ofString_75 rfl rfl ?_
    refine g_12_5 (pc := 76) C k_1119 dX12_ofString_76 ?_
    refine v_icmp_ge (pc := 79) (tgt := 112) C dX12_ofString_79 (by decide) (fun c => ?_) (fun c => ?_)
    · replace hw := hw.1 c
      refine v_iload_n (pc := 112) 2 C dX12_ofString_112 rfl rfl ?_
      exact v_iret (pc := 113) C r hw dX12_ofString_113
    · replace hw := hw.2 c
      refine v_iload_n (pc := 82) 2 C dX12_ofString_82 rfl rfl ?_
      refine v_aload_n (pc := 83) 0 C dX12_ofString_83 rfl rfl ?_
      refine g_12_9 (pc := 84) C k_1123 dX12_ofString_84 ?_
      refine v_bipush (pc := 87) (v := 36) C dX12_ofString_87 (by decide) ?_
      refine v_iload (pc := 89) 3 C dX12_ofString_89 rfl ?_
      refine v_imul (pc := 91) C dX12_ofString_91 ?_
      refine v_iload_n (pc := 92) 1 C dX12_ofString_92 rfl rfl ?_
      refine v_iadd (pc := 93) C dX12_ofString_93 ?_
      refine v_iald (pc := 94) C rfl hw.1 dX12_ofString_94 ?_
      replace hw := hw.2
      refine v_iconst (pc := 95) (v := 2) C dX12_ofString_95 (by decide) ?_
      refine v_icmp_ne (pc := 96) (tgt := 103) C dX12_ofString_96 (by decide) (fun c => ?_) (fun c => ?_)
      · replace hw := hw.2 c
        refine v_iconst (pc := 103) (v := 0) C dX12_ofString_103 (by decide) ?_
        refine v_iadd (pc := 104) C dX12_ofString_104 ?_
        refine v_istore_n (pc := 105) C dX12_ofString_105 rfl (by decide) rfl ?_
        refine v_iinc (pc := 106) (v := x4 + 1) 3 C dX12_ofString_106 rfl rfl (by decide) rfl ?_
        refine v_goto (pc := 109) (tgt := 73) C dX12_ofString_109 (by decide) ?_
        refine v_sub [2, 3, 1, 0] rfl ?_
        exact ih _ _ _ hw
      · replace hw := hw.1 c
        refine v_iconst (pc := 99) (v := 1) C dX12_ofString_99 (by decide) ?_
        refine v_goto (pc := 100) (tgt := 104) C dX12_ofString_100 (by decide) ?_
        refine v_iadd (pc := 104) C dX12_ofString_104 ?_
        refine v_istore_n (pc := 105) C dX12_ofString_105 rfl (by decide) rfl ?_
        refine v_iinc (pc := 106) (v := x4 + 1) 3 C dX12_ofString_106 rfl rfl (by decide) rfl ?_
        refine v_goto (pc := 109) (tgt := 73) C dX12_ofString_109 (by decide) ?_
        refine v_sub [2, 3, 1, 0] rfl ?_
        exact ih _ _ _ hw

theorem c_X12_ofString {l : Launch} {G : Gl} {a1 : Int32} {a2 : Int32} {σ : Mem} {P : Int32 → Mem → Prop} (hw : v_X12_ofString a1 a2 σ P) : MetI l yX12_ofString cX12_ofString 5 .int 1 G [.ref (gA G 33), .int a1, .int a2] σ P := by
  refine MetI.of RX12 (by decide +kernel) rfl (Nat.le_of_ble_eq_true rfl) (fun X C r => ?_)
  show V X G 5 0 [(0, .ref (gA G 33)), (1, .int a1), (2, .int a2)] [] σ
  unfold v_X12_ofString at hw
  refine v_aload_n (pc := 0) 0 C dX12_ofString_0 rfl rfl ?_
  refine v_iload_n (pc := 1) 1 C dX12_ofString_1 rfl rfl ?_
  refine v_cVi (pc := 2) (o := 33) (As := [.int a1]) (rest := []) (ci := 12) C (c_X12_isString hw) pk_X12_isString k_1241 rfl (by decide) rfl (by decide) rfl rfl (Nat.le_of_ble_eq_true rfl) dX12_ofString_2 (fun r_1 σ_2 hw => ?_)
  refine v_if_ne (pc := 5) (tgt := 10) C dX12_ofString_5 (by decide) (fun c => ?_) (fun c => ?_)
  · replace hw := hw.2 c
    refine v_iload_n (pc := 10) 2 C dX12_ofString_10 rfl rfl ?_
    by_cases c0 : a2 = 0
    · replace hw := hw.1 c0
      refine v_tableIn (pc := 11) (tgt := 40) (off := 29) C dX12_ofString_11 (by rw [c0]; decide) (by rw [c0]; decide) (by rw [c0]; rfl) (by decide) ?_
      refine v_aload_n (pc := 40) 0 C dX12_ofString_40 rfl rfl ?_
      refine g_12_3 (pc := 41) C k_1117 dX12_ofString_41 ?_
      refine v_iload_n (pc := 44) 1 C dX12_ofString_44 rfl rfl ?_
      refine v_iald (pc := 45) C rfl hw.1 dX12_ofString_45 ?_
      replace hw := hw.2
      exact v_iret (pc := 46) C r hw dX12_ofString_46
    · replace hw := hw.2 c0
      by_cases c1 : a2 = 1
      · replace hw := hw.1 c1
        refine v_tableIn (pc := 11) (tgt := 47) (off := 36) C dX12_ofString_11 (by rw [c1]; decide) (by rw [c1]; decide) (by rw [c1]; rfl) (by decide) ?_
        refine v_aload_n (pc := 47) 0 C dX12_ofString_47 rfl rfl ?_
        refine g_12_4 (pc := 48) C k_1118 dX12_ofString_48 ?_
        refine v_iload_n (pc := 51) 1 C dX12_ofString_51 rfl rfl ?_
        refine v_zald (pc := 52) C rfl hw.1 dX12_ofString_52 ?_
        replace hw := hw.2
        refine v_if_eq (pc := 53) (tgt := 60) C dX12_ofString_53 (by decide) (fun c => ?_) (fun c => ?_)
        · replace hw := hw.1 c
          refine v_iconst (pc := 60) (v := 0) C dX12_ofString_60 (by decide) ?_
          exact v_iret (pc := 61) C r hw dX12_ofString_61
        · replace hw := hw.2 c
          refine v_iconst (pc := 56) (v := 1) C dX12_ofString_56 (by decide) ?_
          refine v_goto (pc := 57) (tgt := 61) C dX12_ofString_57 (by decide) ?_
          exact v_iret (pc := 61) C r hw dX12_ofString_61
      · replace hw := hw.2 c1
        by_cases c2 : a2 = 2
        · replace hw := hw.1 c2
          refine v_tableIn (pc := 11) (tgt := 62) (off := 51) C dX12_ofString_11 (by rw [c2]; decide) (by rw [c2]; decide) (by rw [c2]; rfl) (by decide) ?_
          refine v_aload_n (pc := 62) 0 C dX12_ofString_62 rfl rfl ?_
          refine v_iload_n (pc := 63) 1 C dX12_ofString_63 rfl rfl ?_
          refine v_cVi (pc := 64) (o := 33) (As := [.int a1]) (rest := []) (ci := 12) C (c_X12_classOf hw) pk_X12_classOf k_1273 rfl (by decide) rfl (by decide) rfl rfl (Nat.le_of_ble_eq_true rfl) dX12_ofString_64 (fun r_3 σ_4 hw => ?_)
          exact v_iret (pc := 67) C r hw dX12_ofString_67
        · replace hw := hw.2 c2
          by_cases c3 : a2 = 3
          · replace hw := hw.1 c3
            refine v_tableIn (pc := 11) (tgt := 68) (off := 57) C dX12_ofString_11 (by rw [c3]; decide) (by rw [c3]; decide) (by rw [c3]; rfl) (by decide) ?_
            refine v_iconst (pc := 68) (v := 0) C dX12_ofString_68 (by decide) ?_
            refine v_istore_n (pc := 69) C dX12_ofString_69 rfl (by decide) rfl ?_
            refine v_iconst (pc := 70) (v := 0) C dX12_ofString_70 (by decide) ?_
            refine v_istore (pc := 71) C dX12_ofString_71 (by decide) rfl ?_
            refine v_sub [2, 3, 1, 0] rfl ?_
            refine w_X12_ofString_L73 C r 5000 _ _ _ hw
          · replace hw := hw.2 c3
            refine v_tableOut (pc := 11) (tgt := 114) C dX12_ofString_11 (by have e0 := ne_toInt (k := 0) c0 (by decide); have e1 := ne_toInt (k := 1) c1 (by decide); have e2 := ne_toInt (k := 2) c2 (by decide); have e3 := ne_toInt (k := 3) c3 (by decide); omega) (by decide) ?_
            refine v_bipush (pc := 114) (v := (-2)) C dX12_ofString_114 (by decide) ?_
            exact v_iret (pc := 116) C r hw dX12_ofString_116
  · replace hw := hw.1 c
    refine v_iconst (pc := 8) (v := (-1)) C dX12_ofString_8 (by decide) ?_
    exact v_iret (pc := 9) C r hw dX12_ofString_9

theorem w_X12_feltsOf_L5 {X : Cx} {G : Gl} {P : Int32 → Mem → Prop} {x1 : Int32} {x2 : Int32} (C : Ck X G RX12 cX12_feltsOf 6 0) (r : RetI X G .int P) : ∀ (n : Nat) (x3 : Int32) (x4 : Int32) (σ : Mem), v_X12_feltsOf_L5 x1 x2 P n x3 x4 σ → V X G 6 5 [(0, .ref (gA G 33)), (1, .int x1), (2, .int x2), (3, .int x3), (4, .int x4)] [] σ := by
  intro n
  induction n with
  | zero => intro x3 x4 σ hw; exact hw.elim
  | succ n ih =>
    intro x3 x4 σ hw
    refine v_iload (pc := 5) 4 C dX12_feltsOf_5 rfl ?_
    refine v_aload_n (pc := 7) 0 C dX12_feltsOf_7 rfl rfl ?_
    refine g_12_2 (pc := 8) C k_1116 dX12_feltsOf_8 ?_
    refine v_icmp_ge (pc := 11) (tgt := 53) C dX12_feltsOf_11 (by decide) (fun c => ?_) (fun c => ?_)
    · replace hw := hw.1 c
      refine v_iload_n (pc := 53) 3 C dX12_feltsOf_53 rfl rfl ?_
      exact v_iret (pc := 54) C r hw dX12_feltsOf_54
    · replace hw := hw.2 c
      refine v_aload_n (pc := 14) 0 C dX12_feltsOf_14 rfl rfl ?_
      refine g_12_9 (pc := 15) C k_1123 dX12_feltsOf_15 ?_
      refine v_bipush (pc := 18) (v := 36) C dX12_feltsOf_18 (by decide) ?_
      refine v_iload_n (pc := 20) 1 C dX12_feltsOf_20 rfl rfl ?_
      refine v_imul (pc := 21) C dX12_feltsOf_21 ?_
      refine v_iload (pc := 22) 4 C dX12_feltsOf_22 rfl ?_
      refine v_iadd (pc := 24) C dX12_feltsOf_24 ?_
      refine v_iald (pc := 25) C rfl hw.1 dX12_feltsOf_25 ?_
      replace hw := hw.2
      refine v_istore (pc := 26) C dX12_feltsOf_26 (by decide) rfl ?_
      refine v_iload_n (pc := 28) 4 C dX12_feltsOf_28 rfl rfl ?_
      refine v_iload (pc := 29) 0 C dX12_feltsOf_29 rfl ?_
      refine v_if_le (pc := 31) (tgt := 44) C dX12_feltsOf_31 (by decide) (fun c => ?_) (fun c => ?_)
      · replace hw := hw.1 c
        refine v_iconst (pc := 44) (v := 0) C dX12_feltsOf_44 (by decide) ?_
        refine v_iadd (pc := 45) C dX12_feltsOf_45 ?_
        refine v_istore_n (pc := 46) C dX12_feltsOf_46 rfl (by decide) rfl ?_
        refine v_iinc (pc := 47) (v := x4 + 1) 5 C dX12_feltsOf_47 rfl rfl (by decide) rfl ?_
        refine v_goto (pc := 50) (tgt := 5) C dX12_feltsOf_50 (by decide) ?_
        refine v_sub [3, 4, 5, 1, 0] rfl ?_
        exact ih _ _ _ hw
      · replace hw := hw.2 c
        refine v_iload (pc := 34) 0 C dX12_feltsOf_34 rfl ?_
        refine v_iload_n (pc := 36) 3 C dX12_feltsOf_36 rfl rfl ?_
        refine v_icmp_gt (pc := 37) (tgt := 44) C dX12_feltsOf_37 (by decide) (fun c => ?_) (fun c => ?_)
        · replace hw := hw.1 c
          refine v_iconst (pc := 44) (v := 0) C dX12_feltsOf_44 (by decide) ?_
          refine v_iadd (pc := 45) C dX12_feltsOf_45 ?_
          refine v_istore_n (pc := 46) C dX12_feltsOf_46 rfl (by decide) rfl ?_
          refine v_iinc (pc := 47) (v := x4 + 1) 5 C dX12_feltsOf_47 rfl rfl (by decide) rfl ?_
          refine v_goto (pc := 50) (tgt := 5) C dX12_feltsOf_50 (by decide) ?_
          refine v_sub [3, 4, 5, 1, 0] rfl ?_
          exact ih _ _ _ hw
        · replace hw := hw.2 c
          refine v_iconst (pc := 40) (v := 1) C dX12_feltsOf_40 (by decide) ?_
          refine v_goto (pc := 41) (tgt := 45) C dX12_feltsOf_41 (by decide) ?_
          refine v_iadd (pc := 45) C dX12_feltsOf_45 ?_
          refine v_istore_n (pc := 46) C dX12_feltsOf_46 rfl (by decide) rfl ?_
          refine v_iinc (pc := 47) (v := x4 + 1) 5 C dX12_feltsOf_47 rfl rfl (by decide) rfl ?_
          refine v_goto (pc := 50) (tgt := 5) C dX12_feltsOf_50 (by decide) ?_
          refine v_sub [3, 4, 5, 1, 0] rfl ?_
          exact ih _ _ _ hw

theorem c_X12_feltsOf {l : Launch} {G : Gl} {a1 : Int32} {a2 : Int32} {σ : Mem} {P : Int32 → Mem → Prop} (hw : v_X12_feltsOf a1 a2 σ P) : MetI l yX12_feltsOf cX12_feltsOf 6 .int 0 G [.ref (gA G 33), .int a1, .int a2] σ P := by
  refine MetI.of RX12 (by decide +kernel) rfl (Nat.le_of_ble_eq_true rfl) (fun X C r => ?_)
  show V X G 6 0 [(0, .ref (gA G 33)), (1, .int a1), (2, .int a2)] [] σ
  unfold v_X12_feltsOf at hw
  refine v_iconst (pc := 0) (v := 0) C dX12_feltsOf_0 (by decide) ?_
  refine v_istore_n (pc := 1) C dX12_feltsOf_1 rfl (by decide) rfl ?_
  refine v_iconst (pc := 2) (v := 0) C dX12_feltsOf_2 (by decide) ?_
  refine v_istore (pc := 3) C dX12_feltsOf_3 (by decide) rfl ?_
  refine v_sub [2, 3, 4, 1, 0] rfl ?_
  refine w_X12_feltsOf_L5 C r 5000 _ _ _ hw

theorem w_X12_doesSound_L2 {X : Cx} {G : Gl} {P : Int32 → Mem → Prop} {x1 : Int32} {x2 : Int32} (C : Ck X G RX12 cX12_doesSound 4 0) (r : RetI X G .boolean P) : ∀ (n : Nat) (x3 : Int32) (σ : Mem), v_X12_doesSound_L2 x1 x2 P n x3 σ → V X G 4 2 [(0, .ref (gA G 33)), (1, .int x1), (2, .int x2), (3, .int x3)] [] σ := by
  intro n
  induction n with
  | zero => intro x3 σ hw; exact hw.elim
  | succ n ih =>
    intro x3 σ hw
    refine v_iload_n (pc := 2) 3 C dX12_doesSound_2 rfl rfl ?_
    refine v_aload_n (pc := 3) 0 C dX12_doesSound_3 rfl rfl ?_
    refine g_12_5 (pc := 4) C k_1119 dX12_doesSound_4 ?_
    refine v_icmp_ge (pc := 7) (tgt := 42) C dX12_doesSound_7 (by decide) (fun c => ?_) (fun c => ?_)
    · replace hw := hw.1 c
      refine v_iconst (pc := 42) (v := 1) C dX12_doesSound_42 (by decide) ?_
      exact v_zret (pc := 43) C r (Or.inr rfl) hw dX12_doesSound_43
    · replace hw := hw.2 c
      refine v_iload_n (pc := 10) 1 C dX12_doesSound_10 rfl rfl ?_
      refine v_iload_n (pc := 11) 3 C dX12_doesSound_11 rfl rfl ?_
      refine v_ishr (pc := 12) C dX12_doesSound_12 ?_
      refine v_iconst (pc := 13) (v := 1) C dX12_doesSound_13 (by decide) ?_
      refine v_iand (pc := 14) C dX12_doesSound_14 ?_
      refine v_iconst (pc := 15) (v := 1) C dX12_doesSound_15 (by decide) ?_
      refine v_icmp_ne (pc := 16) (tgt := 36) C dX12_doesSound_16 (by decide) (fun c => ?_) (fun c => ?_)
      · replace hw := hw.2 c
        refine v_iinc (pc := 36) (v := x3 + 1) 3 C dX12_doesSound_36 rfl rfl (by decide) rfl ?_
        refine v_goto (pc := 39) (tgt := 2) C dX12_doesSound_39 (by decide) ?_
        refine v_sub [1, 2, 3, 0] rfl ?_
        exact ih _ _ hw
      · replace hw := hw.1 c
        refine v_aload_n (pc := 19) 0 C dX12_doesSound_19 rfl rfl ?_
        refine g_12_9 (pc := 20) C k_1123 dX12_doesSound_20 ?_
        refine v_bipush (pc := 23) (v := 36) C dX12_doesSound_23 (by decide) ?_
        refine v_iload_n (pc := 25) 3 C dX12_doesSound_25 rfl rfl ?_
        refine v_imul (pc := 26) C dX12_doesSound_26 ?_
        refine v_iload_n (pc := 27) 2 C dX12_doesSound_27 rfl rfl ?_
        refine v_iadd (pc := 28) C dX12_doesSound_28 ?_
        refine v_iald (pc := 29) C rfl hw.1 dX12_doesSound_29 ?_
        replace hw := hw.2
        refine v_iconst (pc := 30) (v := 2) C dX12_doesSound_30 (by decide) ?_
        refine v_icmp_ne (pc := 31) (tgt := 36) C dX12_doesSound_31 (by decide) (fun c => ?_) (fun c => ?_)
        · replace hw := hw.2 c
          refine v_iinc (pc := 36) (v := x3 + 1) 3 C dX12_doesSound_36 rfl rfl (by decide) rfl ?_
          refine v_goto (pc := 39) (tgt := 2) C dX12_doesSound_39 (by decide) ?_
          refine v_sub [1, 2, 3, 0] rfl ?_
          exact ih _ _ hw
        · replace hw := hw.1 c
          refine v_iconst (pc := 34) (v := 0) C dX12_doesSound_34 (by decide) ?_
          exact v_zret (pc := 35) C r (Or.inl rfl) hw dX12_doesSound_35

theorem c_X12_doesSound {l : Launch} {G : Gl} {a1 : Int32} {a2 : Int32} {σ : Mem} {P : Int32 → Mem → Prop} (hw : v_X12_doesSound a1 a2 σ P) : MetI l yX12_doesSound cX12_doesSound 4 .boolean 0 G [.ref (gA G 33), .int a1, .int a2] σ P := by
  refine MetI.of RX12 (by decide +kernel) rfl (Nat.le_of_ble_eq_true rfl) (fun X C r => ?_)
  show V X G 4 0 [(0, .ref (gA G 33)), (1, .int a1), (2, .int a2)] [] σ
  unfold v_X12_doesSound at hw
  refine v_iconst (pc := 0) (v := 0) C dX12_doesSound_0 (by decide) ?_
  refine v_istore_n (pc := 1) C dX12_doesSound_1 rfl (by decide) rfl ?_
  refine v_sub [1, 2, 3, 0] rfl ?_
  refine w_X12_doesSound_L2 C r 5000 _ _ hw

theorem w_X12_classesWith_L4 {X : Cx} {G : Gl} {P : Int32 → Mem → Prop} {x1 : Int32} (C : Ck X G RX12 cX12_classesWith 4 1) (r : RetI X G .int P) : ∀ (n : Nat) (x2 : Int32) (x3 : Int32) (σ : Mem), v_X12_classesWith_L4 x1 P n x2 x3 σ → V X G 4 4 [(0, .ref (gA G 33)), (1, .int x1), (2, .int x2), (3, .int x3)] [] σ := by
  intro n
  induction n with
  | zero => intro x2 x3 σ hw; exact hw.elim
  | succ n ih =>
    intro x2 x3 σ hw
    refine v_iload_n (pc := 4) 3 C dX12_classesWith_4 rfl rfl ?_
    refine v_aload_n (pc := 5) 0 C dX12_classesWith_5 rfl rfl ?_
    refine g_12_2 (pc := 6) C k_1116 dX12_classesWith_6 ?_
    refine v_icmp_ge (pc := 9) (tgt := 50) C dX12_classesWith_9 (by decide) (fun c => ?_) (fun c => ?_)
    · replace hw := hw.1 c
      refine v_iload_n (pc := 50) 2 C dX12_classesWith_50 rfl rfl ?_
      exact v_iret (pc := 51) C r hw dX12_classesWith_51
    · replace hw := hw.2 c
      refine v_iload_n (pc := 12) 2 C dX12_classesWith_12 rfl rfl ?_
      refine v_aload_n (pc := 13) 0 C dX12_classesWith_13 rfl rfl ?_
      refine g_12_4 (pc := 14) C k_1118 dX12_classesWith_14 ?_
      refine v_iload_n (pc := 17) 3 C dX12_classesWith_17 rfl rfl ?_
      refine v_zald (pc := 18) C rfl hw.1 dX12_classesWith_18 ?_
      replace hw := hw.2
      refine v_if_ne (pc := 19) (tgt := 41) C dX12_classesWith_19 (by decide) (fun c => ?_) (fun c => ?_)
      · replace hw := hw.2 c
        refine v_iconst (pc := 41) (v := 0) C dX12_classesWith_41 (by decide) ?_
        refine v_ior (pc := 42) C dX12_classesWith_42 ?_
        refine v_istore_n (pc := 43) C dX12_classesWith_43 rfl (by decide) rfl ?_
        refine v_iinc (pc := 44) (v := x3 + 1) 3 C dX12_classesWith_44 rfl rfl (by decide) rfl ?_
        refine v_goto (pc := 47) (tgt := 4) C dX12_classesWith_47 (by decide) ?_
        refine v_sub [2, 3, 1, 0] rfl ?_
        exact ih _ _ _ hw
      · replace hw := hw.1 c
        refine v_aload_n (pc := 22) 0 C dX12_classesWith_22 rfl rfl ?_
        refine v_iload_n (pc := 23) 1 C dX12_classesWith_23 rfl rfl ?_
        refine v_iload_n (pc := 24) 3 C dX12_classesWith_24 rfl rfl ?_
        refine v_cVi (pc := 25) (o := 33) (As := [.int x1, .int x3]) (rest := [.int x2]) (ci := 12) C (c_X12_doesSound hw) pk_X12_doesSound k_1309 rfl (by decide) rfl (by decide) rfl rfl (Nat.le_of_ble_eq_true rfl) dX12_classesWith_25 (fun r_1 σ_2 hw => ?_)
        refine v_if_eq (pc := 28) (tgt := 41) C dX12_classesWith_28 (by decide) (fun c => ?_) (fun c => ?_)
        · replace hw := hw.1 c
          refine v_iconst (pc := 41) (v := 0) C dX12_classesWith_41 (by decide) ?_
          refine v_ior (pc := 42) C dX12_classesWith_42 ?_
          refine v_istore_n (pc := 43) C dX12_classesWith_43 rfl (by decide) rfl ?_
          refine v_iinc (pc := 44) (v := x3 + 1) 3 C dX12_classesWith_44 rfl rfl (by decide) rfl ?_
          refine v_goto (pc := 47) (tgt := 4) C dX12_classesWith_47 (by decide) ?_
          refine v_sub [2, 3, 1, 0] rfl ?_
          exact ih _ _ _ hw
        · replace hw := hw.2 c
          refine v_iconst (pc := 31) (v := 1) C dX12_classesWith_31 (by decide) ?_
          refine v_aload_n (pc := 32) 0 C dX12_classesWith_32 rfl rfl ?_
          refine v_iload_n (pc := 33) 3 C dX12_classesWith_33 rfl rfl ?_
          refine v_cVi (pc := 34) (o := 33) (As := [.int x3]) (rest := [.int 1, .int x2]) (ci := 12) C (c_X12_classOf hw) pk_X12_classOf k_1273 rfl (by decide) rfl (by decide) rfl rfl (Nat.le_of_ble_eq_true rfl) dX12_classesWith_34 (fun r_3 σ_4 hw => ?_)
          refine v_ishl (pc := 37) C dX12_classesWith_37 ?_
          refine v_goto (pc := 38) (tgt := 42) C dX12_classesWith_38 (by decide) ?_
          refine v_ior (pc := 42) C dX12_classesWith_42 ?_
          refine v_istore_n (pc := 43) C dX12_classesWith_43 rfl (by decide) rfl ?_
          refine v_iinc (pc := 44) (v := x3 + 1) 3 C dX12_classesWith_44 rfl rfl (by decide) rfl ?_
          refine v_goto (pc := 47) (tgt := 4) C dX12_classesWith_47 (by decide) ?_
          refine v_sub [2, 3, 1, 0] rfl ?_
          exact ih _ _ _ hw

theorem c_X12_classesWith {l : Launch} {G : Gl} {a1 : Int32} {σ : Mem} {P : Int32 → Mem → Prop} (hw : v_X12_classesWith a1 σ P) : MetI l yX12_classesWith cX12_classesWith 4 .int 1 G [.ref (gA G 33), .int a1] σ P := by
  refine MetI.of RX12 (by decide +kernel) rfl (Nat.le_of_ble_eq_true rfl) (fun X C r => ?_)
  show V X G 4 0 [(0, .ref (gA G 33)), (1, .int a1)] [] σ
  unfold v_X12_classesWith at hw
  refine v_iconst (pc := 0) (v := 0) C dX12_classesWith_0 (by decide) ?_
  refine v_istore_n (pc := 1) C dX12_classesWith_1 rfl (by decide) rfl ?_
  refine v_iconst (pc := 2) (v := 0) C dX12_classesWith_2 (by decide) ?_
  refine v_istore_n (pc := 3) C dX12_classesWith_3 rfl (by decide) rfl ?_
  refine v_sub [2, 3, 1, 0] rfl ?_
  refine w_X12_classesWith_L4 C r 5000 _ _ _ hw

theorem c_X12_ofBar {l : Launch} {G : Gl} {a1 : Int32} {a2 : Int32} {σ : Mem} {P : Int32 → Mem → Prop} (hw : v_X12_ofBar a1 a2 σ P) : MetI l yX12_ofBar cX12_ofBar 3 .int 2 G [.ref (gA G 33), .int a1, .int a2] σ P := by
  refine MetI.of RX12 (by decide +kernel) rfl (Nat.le_of_ble_eq_true rfl) (fun X C r => ?_)
  show V X G 3 0 [(0, .ref (gA G 33)), (1, .int a1), (2, .int a2)] [] σ
  unfold v_X12_ofBar at hw
  refine v_aload_n (pc := 0) 0 C dX12_ofBar_0 rfl rfl ?_
  refine v_iload_n (pc := 1) 1 C dX12_ofBar_1 rfl rfl ?_
  refine v_cVi (pc := 2) (o := 33) (As := [.int a1]) (rest := []) (ci := 12) C (c_X12_isBar hw) pk_X12_isBar k_1285 rfl (by decide) rfl (by decide) rfl rfl (Nat.le_of_ble_eq_true rfl) dX12_ofBar_2 (fun r_1 σ_2 hw => ?_)
  refine v_if_ne (pc := 5) (tgt := 10) C dX12_ofBar_5 (by decide) (fun c => ?_) (fun c => ?_)
  · replace hw := hw.2 c
    refine v_iload_n (pc := 10) 2 C dX12_ofBar_10 rfl rfl ?_
    by_cases c0 : a2 = 0
    · replace hw := hw.1 c0
      refine v_tableIn (pc := 11) (tgt := 48) (off := 37) C dX12_ofBar_11 (by rw [c0]; decide) (by rw [c0]; decide) (by rw [c0]; rfl) (by decide) ?_
      refine v_aload_n (pc := 48) 0 C dX12_ofBar_48 rfl rfl ?_
      refine g_12_6 (pc := 49) C k_1120 dX12_ofBar_49 ?_
      refine v_iload_n (pc := 52) 1 C dX12_ofBar_52 rfl rfl ?_
      refine v_iald (pc := 53) C rfl hw.1 dX12_ofBar_53 ?_
      replace hw := hw.2
      exact v_iret (pc := 54) C r hw dX12_ofBar_54
    · replace hw := hw.2 c0
      by_cases c1 : a2 = 1
      · replace hw := hw.1 c1
        refine v_tableIn (pc := 11) (tgt := 55) (off := 44) C dX12_ofBar_11 (by rw [c1]; decide) (by rw [c1]; decide) (by rw [c1]; rfl) (by decide) ?_
        refine v_aload_n (pc := 55) 0 C dX12_ofBar_55 rfl rfl ?_
        refine g_12_7 (pc := 56) C k_1121 dX12_ofBar_56 ?_
        refine v_iload_n (pc := 59) 1 C dX12_ofBar_59 rfl rfl ?_
        refine v_iald (pc := 60) C rfl hw.1 dX12_ofBar_60 ?_
        replace hw := hw.2
        exact v_iret (pc := 61) C r hw dX12_ofBar_61
      · replace hw := hw.2 c1
        by_cases c2 : a2 = 2
        · replace hw := hw.1 c2
          refine v_tableIn (pc := 11) (tgt := 62) (off := 51) C dX12_ofBar_11 (by rw [c2]; decide) (by rw [c2]; decide) (by rw [c2]; rfl) (by decide) ?_
          refine v_aload_n (pc := 62) 0 C dX12_ofBar_62 rfl rfl ?_
          refine v_iload_n (pc := 63) 1 C dX12_ofBar_63 rfl rfl ?_
          refine v_iconst (pc := 64) (v := 2) C dX12_ofBar_64 (by decide) ?_
          refine v_cVi (pc := 65) (o := 33) (As := [.int a1, .int 2]) (rest := []) (ci := 12) C (c_X12_feltsOf hw) pk_X12_feltsOf k_1301 rfl (by decide) rfl (by decide) rfl rfl (Nat.le_of_ble_eq_true rfl) dX12_ofBar_65 (fun r_3 σ_4 hw => ?_)
          exact v_iret (pc := 68) C r hw dX12_ofBar_68
        · replace hw := hw.2 c2
          by_cases c3 : a2 = 3
          · replace hw := hw.1 c3
            refine v_tableIn (pc := 11) (tgt := 69) (off := 58) C dX12_ofBar_11 (by rw [c3]; decide) (by rw [c3]; decide) (by rw [c3]; rfl) (by decide) ?_
            refine v_aload_n (pc := 69) 0 C dX12_ofBar_69 rfl rfl ?_
            refine v_iload_n (pc := 70) 1 C dX12_ofBar_70 rfl rfl ?_
            refine v_iconst (pc := 71) (v := 1) C dX12_ofBar_71 (by decide) ?_
            refine v_cVi (pc := 72) (o := 33) (As := [.int a1, .int 1]) (rest := []) (ci := 12) C (c_X12_feltsOf hw) pk_X12_feltsOf k_1301 rfl (by decide) rfl (by decide) rfl rfl (Nat.le_of_ble_eq_true rfl) dX12_ofBar_72 (fun r_5 σ_6 hw => ?_)
            exact v_iret (pc := 75) C r hw dX12_ofBar_75
          · replace hw := hw.2 c3
            by_cases c4 : a2 = 4
            · replace hw := hw.1 c4
              refine v_tableIn (pc := 11) (tgt := 76) (off := 65) C dX12_ofBar_11 (by rw [c4]; decide) (by rw [c4]; decide) (by rw [c4]; rfl) (by decide) ?_
              refine v_aload_n (pc := 76) 0 C dX12_ofBar_76 rfl rfl ?_
              refine v_iconst (pc := 77) (v := 1) C dX12_ofBar_77 (by decide) ?_
              refine v_iload_n (pc := 78) 1 C dX12_ofBar_78 rfl rfl ?_
              refine v_ishl (pc := 79) C dX12_ofBar_79 ?_
              refine v_cVi (pc := 80) (o := 33) (As := [.int ((1 : Int32) <<< (a1 &&& 31))]) (rest := []) (ci := 12) C (c_X12_classesWith hw) pk_X12_classesWith k_1305 rfl (by decide) rfl (by decide) rfl rfl (Nat.le_of_ble_eq_true rfl) dX12_ofBar_80 (fun r_7 σ_8 hw => ?_)
              exact v_iret (pc := 83) C r hw dX12_ofBar_83
            · replace hw := hw.2 c4
              by_cases c5 : a2 = 5
              · replace hw := hw.1 c5
                refine v_tableIn (pc := 11) (tgt := 84) (off := 73) C dX12_ofBar_11 (by rw [c5]; decide) (by rw [c5]; decide) (by rw [c5]; rfl) (by decide) ?_
                refine v_aload_n (pc := 84) 0 C dX12_ofBar_84 rfl rfl ?_
                refine g_12_8 (pc := 85) C k_1122 dX12_ofBar_85 ?_
                refine v_iload_n (pc := 88) 1 C dX12_ofBar_88 rfl rfl ?_
                refine v_iald (pc := 89) C rfl hw.1 dX12_ofBar_89 ?_
                replace hw := hw.2
                exact v_iret (pc := 90) C r hw dX12_ofBar_90
              · replace hw := hw.2 c5
                refine v_tableOut (pc := 11) (tgt := 91) C dX12_ofBar_11 (by have e0 := ne_toInt (k := 0) c0 (by decide); have e1 := ne_toInt (k := 1) c1 (by decide); have e2 := ne_toInt (k := 2) c2 (by decide); have e3 := ne_toInt (k := 3) c3 (by decide); have e4 := ne_toInt (k := 4) c4 (by decide); have e5 := ne_toInt (k := 5) c5 (by decide); omega) (by decide) ?_
                refine v_bipush (pc := 91) (v := (-2)) C dX12_ofBar_91 (by decide) ?_
                exact v_iret (pc := 93) C r hw dX12_ofBar_93
  · replace hw := hw.1 c
    refine v_iconst (pc := 8) (v := (-1)) C dX12_ofBar_8 (by decide) ?_
    exact v_iret (pc := 9) C r hw dX12_ofBar_9

theorem c_X12_has {l : Launch} {G : Gl} {a1 : Int32} {a2 : Int32} {σ : Mem} {P : Int32 → Mem → Prop} (hw : v_X12_has a1 a2 σ P) : MetI l yX12_has cX12_has 3 .int 1 G [.ref (gA G 33), .int a1, .int a2] σ P := by
  refine MetI.of RX12 (by decide +kernel) rfl (Nat.le_of_ble_eq_true rfl) (fun X C r => ?_)
  show V X G 3 0 [(0, .ref (gA G 33)), (1, .int a1), (2, .int a2)] [] σ
  unfold v_X12_has at hw
  refine v_aload_n (pc := 0) 0 C dX12_has_0 rfl rfl ?_
  refine v_iload_n (pc := 1) 1 C dX12_has_1 rfl rfl ?_
  refine v_cVi (pc := 2) (o := 33) (As := [.int a1]) (rest := []) (ci := 12) C (c_X12_isBar hw) pk_X12_isBar k_1285 rfl (by decide) rfl (by decide) rfl rfl (Nat.le_of_ble_eq_true rfl) dX12_has_2 (fun r_1 σ_2 hw => ?_)
  refine v_if_eq (pc := 5) (tgt := 30) C dX12_has_5 (by decide) (fun c => ?_) (fun c => ?_)
  · replace hw := hw.1 c
    refine v_iconst (pc := 30) (v := (-1)) C dX12_has_30 (by decide) ?_
    exact v_iret (pc := 31) C r hw dX12_has_31
  · replace hw := hw.2 c
    refine v_aload_n (pc := 8) 0 C dX12_has_8 rfl rfl ?_
    refine v_iload_n (pc := 9) 2 C dX12_has_9 rfl rfl ?_
    refine v_cVi (pc := 10) (o := 33) (As := [.int a2]) (rest := []) (ci := 12) C (c_X12_isString hw) pk_X12_isString k_1241 rfl (by decide) rfl (by decide) rfl rfl (Nat.le_of_ble_eq_true rfl) dX12_has_10 (fun r_3 σ_4 hw => ?_)
    refine v_if_eq (pc := 13) (tgt := 30) C dX12_has_13 (by decide) (fun c => ?_) (fun c => ?_)
    · replace hw := hw.1 c
      refine v_iconst (pc := 30) (v := (-1)) C dX12_has_30 (by decide) ?_
      exact v_iret (pc := 31) C r hw dX12_has_31
    · replace hw := hw.2 c
      refine v_aload_n (pc := 16) 0 C dX12_has_16 rfl rfl ?_
      refine g_12_9 (pc := 17) C k_1123 dX12_has_17 ?_
      refine v_bipush (pc := 20) (v := 36) C dX12_has_20 (by decide) ?_
      refine v_iload_n (pc := 22) 1 C dX12_has_22 rfl rfl ?_
      refine v_imul (pc := 23) C dX12_has_23 ?_
      refine v_iload_n (pc := 24) 2 C dX12_has_24 rfl rfl ?_
      refine v_iadd (pc := 25) C dX12_has_25 ?_
      refine v_iald (pc := 26) C rfl hw.1 dX12_has_26 ?_
      replace hw := hw.2
      refine v_goto (pc := 27) (tgt := 31) C dX12_has_27 (by decide) ?_
      exact v_iret (pc := 31) C r hw dX12_has_31

theorem c_X12_sounds {l : Launch} {G : Gl} {a1 : Int32} {a2 : Int32} {σ : Mem} {P : Int32 → Mem → Prop} (hw : v_X12_sounds a1 a2 σ P) : MetI l yX12_sounds cX12_sounds 3 .int 2 G [.ref (gA G 33), .int a1, .int a2] σ P := by
  refine MetI.of RX12 (by decide +kernel) rfl (Nat.le_of_ble_eq_true rfl) (fun X C r => ?_)
  show V X G 3 0 [(0, .ref (gA G 33)), (1, .int a1), (2, .int a2)] [] σ
  unfold v_X12_sounds at hw
  refine v_aload_n (pc := 0) 0 C dX12_sounds_0 rfl rfl ?_
  refine v_iload_n (pc := 1) 2 C dX12_sounds_1 rfl rfl ?_
  refine v_cVi (pc := 2) (o := 33) (As := [.int a2]) (rest := []) (ci := 12) C (c_X12_isString hw) pk_X12_isString k_1241 rfl (by decide) rfl (by decide) rfl rfl (Nat.le_of_ble_eq_true rfl) dX12_sounds_2 (fun r_1 σ_2 hw => ?_)
  refine v_if_ne (pc := 5) (tgt := 10) C dX12_sounds_5 (by decide) (fun c => ?_) (fun c => ?_)
  · replace hw := hw.2 c
    refine v_aload_n (pc := 10) 0 C dX12_sounds_10 rfl rfl ?_
    refine v_iload_n (pc := 11) 1 C dX12_sounds_11 rfl rfl ?_
    refine v_cVi (pc := 12) (o := 33) (As := [.int a1]) (rest := []) (ci := 12) C (c_X12_isSet hw) pk_X12_isSet k_1321 rfl (by decide) rfl (by decide) rfl rfl (Nat.le_of_ble_eq_true rfl) dX12_sounds_12 (fun r_3 σ_4 hw => ?_)
    refine v_if_ne (pc := 15) (tgt := 21) C dX12_sounds_15 (by decide) (fun c => ?_) (fun c => ?_)
    · replace hw := hw.2 c
      refine v_aload_n (pc := 21) 0 C dX12_sounds_21 rfl rfl ?_
      refine v_iload_n (pc := 22) 1 C dX12_sounds_22 rfl rfl ?_
      refine v_iload_n (pc := 23) 2 C dX12_sounds_23 rfl rfl ?_
      refine v_cVi (pc := 24) (o := 33) (As := [.int a1, .int a2]) (rest := []) (ci := 12) C (c_X12_doesSound hw) pk_X12_doesSound k_1309 rfl (by decide) rfl (by decide) rfl rfl (Nat.le_of_ble_eq_true rfl) dX12_sounds_24 (fun r_5 σ_6 hw => ?_)
      refine v_if_eq (pc := 27) (tgt := 34) C dX12_sounds_27 (by decide) (fun c => ?_) (fun c => ?_)
      · replace hw := hw.1 c
        refine v_iconst (pc := 34) (v := 0) C dX12_sounds_34 (by decide) ?_
        exact v_iret (pc := 35) C r hw dX12_sounds_35
      · replace hw := hw.2 c
        refine v_iconst (pc := 30) (v := 1) C dX12_sounds_30 (by decide) ?_
        refine v_goto (pc := 31) (tgt := 35) C dX12_sounds_31 (by decide) ?_
        exact v_iret (pc := 35) C r hw dX12_sounds_35
    · replace hw := hw.1 c
      refine v_bipush (pc := 18) (v := (-2)) C dX12_sounds_18 (by decide) ?_
      exact v_iret (pc := 20) C r hw dX12_sounds_20
  · replace hw := hw.1 c
    refine v_iconst (pc := 8) (v := (-1)) C dX12_sounds_8 (by decide) ?_
    exact v_iret (pc := 9) C r hw dX12_sounds_9

theorem c_X12_classes {l : Launch} {G : Gl} {a1 : Int32} {σ : Mem} {P : Int32 → Mem → Prop} (hw : v_X12_classes a1 σ P) : MetI l yX12_classes cX12_classes 2 .int 2 G [.ref (gA G 33), .int a1] σ P := by
  refine MetI.of RX12 (by decide +kernel) rfl (Nat.le_of_ble_eq_true rfl) (fun X C r => ?_)
  show V X G 2 0 [(0, .ref (gA G 33)), (1, .int a1)] [] σ
  unfold v_X12_classes at hw
  refine v_aload_n (pc := 0) 0 C dX12_classes_0 rfl rfl ?_
  refine v_iload_n (pc := 1) 1 C dX12_classes_1 rfl rfl ?_
  refine v_cVi (pc := 2) (o := 33) (As := [.int a1]) (rest := []) (ci := 12) C (c_X12_isSet hw) pk_X12_isSet k_1321 rfl (by decide) rfl (by decide) rfl rfl (Nat.le_of_ble_eq_true rfl) dX12_classes_2 (fun r_1 σ_2 hw => ?_)
  refine v_if_eq (pc := 5) (tgt := 16) C dX12_classes_5 (by decide) (fun c => ?_) (fun c => ?_)
  · replace hw := hw.1 c
    refine v_bipush (pc := 16) (v := (-2)) C dX12_classes_16 (by decide) ?_
    exact v_iret (pc := 18) C r hw dX12_classes_18
  · replace hw := hw.2 c
    refine v_aload_n (pc := 8) 0 C dX12_classes_8 rfl rfl ?_
    refine v_iload_n (pc := 9) 1 C dX12_classes_9 rfl rfl ?_
    refine v_cVi (pc := 10) (o := 33) (As := [.int a1]) (rest := []) (ci := 12) C (c_X12_classesWith hw) pk_X12_classesWith k_1305 rfl (by decide) rfl (by decide) rfl rfl (Nat.le_of_ble_eq_true rfl) dX12_classes_10 (fun r_3 σ_4 hw => ?_)
    refine v_goto (pc := 13) (tgt := 18) C dX12_classes_13 (by decide) ?_
    exact v_iret (pc := 18) C r hw dX12_classes_18

theorem c_X12_chord {l : Launch} {G : Gl} {a1 : Int32} {σ : Mem} {P : Int32 → Mem → Prop} (hw : v_X12_chord a1 σ P) : MetI l yX12_chord cX12_chord 2 .int 2 G [.ref (gA G 33), .int a1] σ P := by
  refine MetI.of RX12 (by decide +kernel) rfl (Nat.le_of_ble_eq_true rfl) (fun X C r => ?_)
  show V X G 2 0 [(0, .ref (gA G 33)), (1, .int a1)] [] σ
  unfold v_X12_chord at hw
  refine v_iload_n (pc := 0) 1 C dX12_chord_0 rfl rfl ?_
  refine v_callSi (pc := 1) (As := [.int a1]) (rest := []) C (c_X12_isChord hw) pk_X12_isChord (Or.inl k_1249) (by decide) rfl rfl (Nat.le_of_ble_eq_true rfl) dX12_chord_1 (fun r_1 σ_2 hw => ?_)
  refine v_if_eq (pc := 4) (tgt := 14) C dX12_chord_4 (by decide) (fun c => ?_) (fun c => ?_)
  · replace hw := hw.1 c
    refine v_bipush (pc := 14) (v := (-2)) C dX12_chord_14 (by decide) ?_
    exact v_iret (pc := 16) C r hw dX12_chord_16
  · replace hw := hw.2 c
    refine v_iload_n (pc := 7) 1 C dX12_chord_7 rfl rfl ?_
    refine v_callSi (pc := 8) (As := [.int a1]) (rest := []) C (c_X12_classesOf hw) pk_X12_classesOf (Or.inl k_1267) (by decide) rfl rfl (Nat.le_of_ble_eq_true rfl) dX12_chord_8 (fun r_3 σ_4 hw => ?_)
    refine v_goto (pc := 11) (tgt := 16) C dX12_chord_11 (by decide) ?_
    exact v_iret (pc := 16) C r hw dX12_chord_16

theorem c_X12_gives {l : Launch} {G : Gl} {a1 : Int32} {a2 : Int32} {σ : Mem} {P : Int32 → Mem → Prop} (hw : v_X12_gives a1 a2 σ P) : MetI l yX12_gives cX12_gives 3 .int 2 G [.ref (gA G 33), .int a1, .int a2] σ P := by
  refine MetI.of RX12 (by decide +kernel) rfl (Nat.le_of_ble_eq_true rfl) (fun X C r => ?_)
  show V X G 3 0 [(0, .ref (gA G 33)), (1, .int a1), (2, .int a2)] [] σ
  unfold v_X12_gives at hw
  refine v_aload_n (pc := 0) 0 C dX12_gives_0 rfl rfl ?_
  refine v_iload_n (pc := 1) 1 C dX12_gives_1 rfl rfl ?_
  refine v_cVi (pc := 2) (o := 33) (As := [.int a1]) (rest := []) (ci := 12) C (c_X12_isSet hw) pk_X12_isSet k_1321 rfl (by decide) rfl (by decide) rfl rfl (Nat.le_of_ble_eq_true rfl) dX12_gives_2 (fun r_1 σ_2 hw => ?_)
  refine v_if_eq (pc := 5) (tgt := 15) C dX12_gives_5 (by decide) (fun c => ?_) (fun c => ?_)
  · replace hw := hw.1 c
    refine v_bipush (pc := 15) (v := (-2)) C dX12_gives_15 (by decide) ?_
    exact v_iret (pc := 17) C r hw dX12_gives_17
  · replace hw := hw.2 c
    refine v_iload_n (pc := 8) 2 C dX12_gives_8 rfl rfl ?_
    refine v_callSi (pc := 9) (As := [.int a2]) (rest := []) C (c_X12_isChord hw) pk_X12_isChord (Or.inl k_1249) (by decide) rfl rfl (Nat.le_of_ble_eq_true rfl) dX12_gives_9 (fun r_3 σ_4 hw => ?_)
    refine v_if_ne (pc := 12) (tgt := 18) C dX12_gives_12 (by decide) (fun c => ?_) (fun c => ?_)
    · replace hw := hw.2 c
      refine v_aload_n (pc := 18) 0 C dX12_gives_18 rfl rfl ?_
      refine v_iload_n (pc := 19) 1 C dX12_gives_19 rfl rfl ?_
      refine v_cVi (pc := 20) (o := 33) (As := [.int a1]) (rest := []) (ci := 12) C (c_X12_classesWith hw) pk_X12_classesWith k_1305 rfl (by decide) rfl (by decide) rfl rfl (Nat.le_of_ble_eq_true rfl) dX12_gives_20 (fun r_5 σ_6 hw => ?_)
      refine v_iload_n (pc := 23) 2 C dX12_gives_23 rfl rfl ?_
      refine v_callSi (pc := 24) (As := [.int a2]) (rest := [.int r_5]) C (c_X12_classesOf hw) pk_X12_classesOf (Or.inl k_1267) (by decide) rfl rfl (Nat.le_of_ble_eq_true rfl) dX12_gives_24 (fun r_7 σ_8 hw => ?_)
      refine v_icmp_ne (pc := 27) (tgt := 34) C dX12_gives_27 (by decide) (fun c => ?_) (fun c => ?_)
      · replace hw := hw.2 c
        refine v_iconst (pc := 34) (v := 0) C dX12_gives_34 (by decide) ?_
        exact v_iret (pc := 35) C r hw dX12_gives_35
      · replace hw := hw.1 c
        refine v_iconst (pc := 30) (v := 1) C dX12_gives_30 (by decide) ?_
        refine v_goto (pc := 31) (tgt := 35) C dX12_gives_31 (by decide) ?_
        exact v_iret (pc := 35) C r hw dX12_gives_35
    · replace hw := hw.1 c
      refine v_bipush (pc := 15) (v := (-2)) C dX12_gives_15 (by decide) ?_
      exact v_iret (pc := 17) C r hw dX12_gives_17

theorem w_X12_allClasses_L4 {X : Cx} {G : Gl} {P : Int32 → Mem → Prop} (C : Ck X G RX12 cX12_allClasses 3 1) (r : RetI X G .int P) : ∀ (n : Nat) (x1 : Int32) (x2 : Int32) (σ : Mem), v_X12_allClasses_L4 P n x1 x2 σ → V X G 3 4 [(0, .ref (gA G 33)), (1, .int x1), (2, .int x2)] [] σ := by
  intro n
  induction n with
  | zero => intro x1 x2 σ hw; exact hw.elim
  | succ n ih =>
    intro x1 x2 σ hw
    refine v_iload_n (pc := 4) 2 C dX12_allClasses_4 rfl rfl ?_
    refine v_aload_n (pc := 5) 0 C dX12_allClasses_5 rfl rfl ?_
    refine g_12_2 (pc := 6) C k_1116 dX12_allClasses_6 ?_
    refine v_icmp_ge (pc := 9) (tgt := 41) C dX12_allClasses_9 (by decide) (fun c => ?_) (fun c => ?_)
    · replace hw := hw.1 c
      refine v_iload_n (pc := 41) 1 C dX12_allClasses_41 rfl rfl ?_
      exact v_iret (pc := 42) C r hw dX12_allClasses_42
    · replace hw := hw.2 c
      refine v_iload_n (pc := 12) 1 C dX12_allClasses_12 rfl rfl ?_
      refine v_aload_n (pc := 13) 0 C dX12_allClasses_13 rfl rfl ?_
      refine g_12_4 (pc := 14) C k_1118 dX12_allClasses_14 ?_
      refine v_iload_n (pc := 17) 2 C dX12_allClasses_17 rfl rfl ?_
      refine v_zald (pc := 18) C rfl hw.1 dX12_allClasses_18 ?_
      replace hw := hw.2
      refine v_if_eq (pc := 19) (tgt := 26) C dX12_allClasses_19 (by decide) (fun c => ?_) (fun c => ?_)
      · replace hw := hw.1 c
        refine v_iconst (pc := 26) (v := 1) C dX12_allClasses_26 (by decide) ?_
        refine v_aload_n (pc := 27) 0 C dX12_allClasses_27 rfl rfl ?_
        refine v_iload_n (pc := 28) 2 C dX12_allClasses_28 rfl rfl ?_
        refine v_cVi (pc := 29) (o := 33) (As := [.int x2]) (rest := [.int 1, .int x1]) (ci := 12) C (c_X12_classOf hw) pk_X12_classOf k_1273 rfl (by decide) rfl (by decide) rfl rfl (Nat.le_of_ble_eq_true rfl) dX12_allClasses_29 (fun r_1 σ_2 hw => ?_)
        refine v_ishl (pc := 32) C dX12_allClasses_32 ?_
        refine v_ior (pc := 33) C dX12_allClasses_33 ?_
        refine v_istore_n (pc := 34) C dX12_allClasses_34 rfl (by decide) rfl ?_
        refine v_iinc (pc := 35) (v := x2 + 1) 2 C dX12_allClasses_35 rfl rfl (by decide) rfl ?_
        refine v_goto (pc := 38) (tgt := 4) C dX12_allClasses_38 (by decide) ?_
        refine v_sub [2, 1, 0] rfl ?_
        exact ih _ _ _ hw
      · replace hw := hw.2 c
        refine v_iconst (pc := 22) (v := 0) C dX12_allClasses_22 (by decide) ?_
        refine v_goto (pc := 23) (tgt := 33) C dX12_allClasses_23 (by decide) ?_
        refine v_ior (pc := 33) C dX12_allClasses_33 ?_
        refine v_istore_n (pc := 34) C dX12_allClasses_34 rfl (by decide) rfl ?_
        refine v_iinc (pc := 35) (v := x2 + 1) 2 C dX12_allClasses_35 rfl rfl (by decide) rfl ?_
        refine v_goto (pc := 38) (tgt := 4) C dX12_allClasses_38 (by decide) ?_
        refine v_sub [2, 1, 0] rfl ?_
        exact ih _ _ _ hw

theorem c_X12_allClasses {l : Launch} {G : Gl} {σ : Mem} {P : Int32 → Mem → Prop} (hw : v_X12_allClasses σ P) : MetI l yX12_allClasses cX12_allClasses 3 .int 1 G [.ref (gA G 33)] σ P := by
  refine MetI.of RX12 (by decide +kernel) rfl (Nat.le_of_ble_eq_true rfl) (fun X C r => ?_)
  show V X G 3 0 [(0, .ref (gA G 33))] [] σ
  unfold v_X12_allClasses at hw
  refine v_iconst (pc := 0) (v := 0) C dX12_allClasses_0 (by decide) ?_
  refine v_istore_n (pc := 1) C dX12_allClasses_1 rfl (by decide) rfl ?_
  refine v_iconst (pc := 2) (v := 0) C dX12_allClasses_2 (by decide) ?_
  refine v_istore_n (pc := 3) C dX12_allClasses_3 rfl (by decide) rfl ?_
  refine v_sub [2, 1, 0] rfl ?_
  refine w_X12_allClasses_L4 C r 5000 _ _ _ hw

theorem c_X12_lack {l : Launch} {G : Gl} {a1 : Int32} {σ : Mem} {P : Int32 → Mem → Prop} (hw : v_X12_lack a1 σ P) : MetI l yX12_lack cX12_lack 2 .int 2 G [.ref (gA G 33), .int a1] σ P := by
  refine MetI.of RX12 (by decide +kernel) rfl (Nat.le_of_ble_eq_true rfl) (fun X C r => ?_)
  show V X G 2 0 [(0, .ref (gA G 33)), (1, .int a1)] [] σ
  unfold v_X12_lack at hw
  refine v_iload_n (pc := 0) 1 C dX12_lack_0 rfl rfl ?_
  refine v_callSi (pc := 1) (As := [.int a1]) (rest := []) C (c_X12_isChord hw) pk_X12_isChord (Or.inl k_1249) (by decide) rfl rfl (Nat.le_of_ble_eq_true rfl) dX12_lack_1 (fun r_1 σ_2 hw => ?_)
  refine v_if_eq (pc := 4) (tgt := 21) C dX12_lack_4 (by decide) (fun c => ?_) (fun c => ?_)
  · replace hw := hw.1 c
    refine v_bipush (pc := 21) (v := (-2)) C dX12_lack_21 (by decide) ?_
    exact v_iret (pc := 23) C r hw dX12_lack_23
  · replace hw := hw.2 c
    refine v_iload_n (pc := 7) 1 C dX12_lack_7 rfl rfl ?_
    refine v_callSi (pc := 8) (As := [.int a1]) (rest := []) C (c_X12_classesOf hw) pk_X12_classesOf (Or.inl k_1267) (by decide) rfl rfl (Nat.le_of_ble_eq_true rfl) dX12_lack_8 (fun r_3 σ_4 hw => ?_)
    refine v_aload_n (pc := 11) 0 C dX12_lack_11 rfl rfl ?_
    refine v_cVi (pc := 12) (o := 33) (As := []) (rest := [.int r_3]) (ci := 12) C (c_X12_allClasses hw) pk_X12_allClasses k_1341 rfl (by decide) rfl (by decide) rfl rfl (Nat.le_of_ble_eq_true rfl) dX12_lack_12 (fun r_5 σ_6 hw => ?_)
    refine v_iconst (pc := 15) (v := (-1)) C dX12_lack_15 (by decide) ?_
    refine v_ixor (pc := 16) C dX12_lack_16 ?_
    refine v_iand (pc := 17) C dX12_lack_17 ?_
    refine v_goto (pc := 18) (tgt := 23) C dX12_lack_18 (by decide) ?_
    exact v_iret (pc := 23) C r hw dX12_lack_23

theorem c_X12_addGrip {l : Launch} {G : Gl} {a1 : Int32} {σ : Mem} {P : Mem → Prop} (hw : v_X12_addGrip a1 σ P) : MetV l yX12_addGrip cX12_addGrip 2 2 G [.ref (gA G 33), .int a1] σ P := by
  refine MetV.of RX12 (by decide +kernel) rfl (Nat.le_of_ble_eq_true rfl) (fun X C r => ?_)
  show V X G 2 0 [(0, .ref (gA G 33)), (1, .int a1)] [] σ
  unfold v_X12_addGrip at hw
  refine v_aload_n (pc := 0) 0 C dX12_addGrip_0 rfl rfl ?_
  refine g_12_11 (pc := 1) C k_1125 dX12_addGrip_1 ?_
  refine v_aload_n (pc := 4) 0 C dX12_addGrip_4 rfl rfl ?_
  refine g_12_10 (pc := 5) C k_1124 dX12_addGrip_5 ?_
  refine v_iload_n (pc := 8) 1 C dX12_addGrip_8 rfl rfl ?_
  refine v_iast (pc := 9) C rfl hw.1 dX12_addGrip_9 ?_
  replace hw := hw.2
  refine v_aload_n (pc := 10) 0 C dX12_addGrip_10 rfl rfl ?_
  refine g_12_12 (pc := 11) C k_1126 dX12_addGrip_11 ?_
  refine v_aload_n (pc := 14) 0 C dX12_addGrip_14 rfl rfl ?_
  refine g_12_10 (pc := 15) C k_1124 dX12_addGrip_15 ?_
  refine v_aload_n (pc := 18) 0 C dX12_addGrip_18 rfl rfl ?_
  refine v_iload_n (pc := 19) 1 C dX12_addGrip_19 rfl rfl ?_
  refine v_cVi (pc := 20) (o := 33) (As := [.int a1]) (rest := [.int ((wI σ 40 (Int32.toNatClampNeg (σ.1 33 10)) a1).1 33 10), .ref (gA G 41)]) (ci := 12) C (c_X12_classesWith hw) pk_X12_classesWith k_1305 rfl (by decide) rfl (by decide) rfl rfl (Nat.le_of_ble_eq_true rfl) dX12_addGrip_20 (fun r_1 σ_2 hw => ?_)
  refine v_iast (pc := 23) C rfl hw.1 dX12_addGrip_23 ?_
  replace hw := hw.2
  refine v_aload_n (pc := 24) 0 C dX12_addGrip_24 rfl rfl ?_
  refine v_dup (pc := 25) C dX12_addGrip_25 rfl ?_
  refine g_12_10 (pc := 26) C k_1124 dX12_addGrip_26 ?_
  refine v_iconst (pc := 29) (v := 1) C dX12_addGrip_29 (by decide) ?_
  refine v_iadd (pc := 30) C dX12_addGrip_30 ?_
  refine p_12_10 (pc := 31) C k_1124 dX12_addGrip_31 ?_
  exact v_vret (pc := 34) C r hw dX12_addGrip_34

theorem w_X12_findGrips_L12 {X : Cx} {G : Gl} {P : Mem → Prop} {K33 : Mem → Prop} (C : Ck X G RX12 cX12_findGrips 3 3) (r : RetV X G P) (hK33 : ∀ (σ : Mem), K33 σ → V X G 3 33 [(0, .ref (gA G 33))] [] σ) : ∀ (n : Nat) (x1 : Int32) (σ : Mem), v_X12_findGrips_L12 K33 P n x1 σ → V X G 3 12 [(0, .ref (gA G 33)), (1, .int x1)] [] σ := by
  intro n
  induction n with
  | zero => intro x1 σ hw; exact hw.elim
  | succ n ih =>
    intro x1 σ hw
    refine v_iload_n (pc := 12) 1 C dX12_findGrips_12 rfl rfl ?_
    refine v_aload_n (pc := 13) 0 C dX12_findGrips_13 rfl rfl ?_
    refine g_12_5 (pc := 14) C k_1119 dX12_findGrips_14 ?_
    refine v_icmp_ge (pc := 17) (tgt := 33) C dX12_findGrips_17 (by decide) (fun c => ?_) (fun c => ?_)
    · replace hw := hw.1 c
      refine v_sub [0] rfl ?_
      exact hK33 _ hw
    · replace hw := hw.2 c
      refine v_aload_n (pc := 20) 0 C dX12_findGrips_20 rfl rfl ?_
      refine v_iconst (pc := 21) (v := 1) C dX12_findGrips_21 (by decide) ?_
      refine v_iload_n (pc := 22) 1 C dX12_findGrips_22 rfl rfl ?_
      refine v_ishl (pc := 23) C dX12_findGrips_23 ?_
      refine v_cVv (pc := 24) (o := 33) (As := [.int ((1 : Int32) <<< (x1 &&& 31))]) (rest := []) (ci := 12) C (c_X12_addGrip hw) pk_X12_addGrip k_1357 rfl (by decide) rfl (by decide) rfl rfl (Nat.le_of_ble_eq_true rfl) dX12_findGrips_24 (fun σ_2 hw => ?_)
      refine v_iinc (pc := 27) (v := x1 + 1) 1 C dX12_findGrips_27 rfl rfl (by decide) rfl ?_
      refine v_goto (pc := 30) (tgt := 12) C dX12_findGrips_30 (by decide) ?_
      refine v_sub [1, 0] rfl ?_
      exact ih _ _ hw

theorem w_X12_findGrips_L47 {X : Cx} {G : Gl} {P : Mem → Prop} {x1 : Int32} {K72 : Mem → Prop} (C : Ck X G RX12 cX12_findGrips 3 3) (r : RetV X G P) (hK72 : ∀ (σ : Mem), K72 σ → V X G 3 72 [(0, .ref (gA G 33)), (1, .int x1)] [] σ) : ∀ (n : Nat) (x2 : Int32) (σ : Mem), v_X12_findGrips_L47 x1 K72 P n x2 σ → V X G 3 47 [(0, .ref (gA G 33)), (1, .int x1), (2, .int x2)] [] σ := by
  intro n
  induction n with
  | zero => intro x2 σ hw; exact hw.elim
  | succ n ih =>
    intro x2 σ hw
    refine v_iload_n (pc := 47) 2 C dX12_findGrips_47 rfl rfl ?_
    refine v_aload_n (pc := 48) 0 C dX12_findGrips_48 rfl rfl ?_
    refine g_12_5 (pc := 49) C k_1119 dX12_findGrips_49 ?_
    refine v_icmp_ge (pc := 52) (tgt := 72) C dX12_findGrips_52 (by decide) (fun c => ?_) (fun c => ?_)
    · replace hw := hw.1 c
      refine v_sub [0, 1] rfl ?_
      exact hK72 _ hw
    · replace hw := hw.2 c
      refine v_aload_n (pc := 55) 0 C dX12_findGrips_55 rfl rfl ?_
      refine v_iconst (pc := 56) (v := 1) C dX12_findGrips_56 (by decide) ?_
      refine v_iload_n (pc := 57) 1 C dX12_findGrips_57 rfl rfl ?_
      refine v_ishl (pc := 58) C dX12_findGrips_58 ?_
      refine v_iconst (pc := 59) (v := 1) C dX12_findGrips_59 (by decide) ?_
      refine v_iload_n (pc := 60) 2 C dX12_findGrips_60 rfl rfl ?_
      refine v_ishl (pc := 61) C dX12_findGrips_61 ?_
      refine v_ior (pc := 62) C dX12_findGrips_62 ?_
      refine v_cVv (pc := 63) (o := 33) (As := [.int (((1 : Int32) <<< (x1 &&& 31)) ||| ((1 : Int32) <<< (x2 &&& 31)))]) (rest := []) (ci := 12) C (c_X12_addGrip hw) pk_X12_addGrip k_1357 rfl (by decide) rfl (by decide) rfl rfl (Nat.le_of_ble_eq_true rfl) dX12_findGrips_63 (fun σ_5 hw => ?_)
      refine v_iinc (pc := 66) (v := x2 + 1) 2 C dX12_findGrips_66 rfl rfl (by decide) rfl ?_
      refine v_goto (pc := 69) (tgt := 47) C dX12_findGrips_69 (by decide) ?_
      refine v_sub [1, 2, 0] rfl ?_
      exact ih _ _ hw

theorem w_X12_findGrips_L35 {X : Cx} {G : Gl} {P : Mem → Prop} (C : Ck X G RX12 cX12_findGrips 3 3) (r : RetV X G P) : ∀ (n : Nat) (x1 : Int32) (σ : Mem), v_X12_findGrips_L35 P n x1 σ → V X G 3 35 [(0, .ref (gA G 33)), (1, .int x1)] [] σ := by
  intro n
  induction n with
  | zero => intro x1 σ hw; exact hw.elim
  | succ n ih =>
    intro x1 σ hw
    refine v_iload_n (pc := 35) 1 C dX12_findGrips_35 rfl rfl ?_
    refine v_aload_n (pc := 36) 0 C dX12_findGrips_36 rfl rfl ?_
    refine g_12_5 (pc := 37) C k_1119 dX12_findGrips_37 ?_
    refine v_icmp_ge (pc := 40) (tgt := 78) C dX12_findGrips_40 (by decide) (fun c => ?_) (fun c => ?_)
    · replace hw := hw.1 c
      exact v_vret (pc := 78) C r hw dX12_findGrips_78
    · replace hw := hw.2 c
      refine v_iload_n (pc := 43) 1 C dX12_findGrips_43 rfl rfl ?_
      refine v_iconst (pc := 44) (v := 1) C dX12_findGrips_44 (by decide) ?_
      refine v_iadd (pc := 45) C dX12_findGrips_45 ?_
      refine v_istore_n (pc := 46) C dX12_findGrips_46 rfl (by decide) rfl ?_
      refine v_sub [1, 2, 0] rfl ?_
      refine w_X12_findGrips_L47 C r ?_ 5000 _ _ hw
      · intro σ_7 hw
        refine v_iinc (pc := 72) (v := x1 + 1) 1 C dX12_findGrips_72 rfl rfl (by decide) rfl ?_
        refine v_goto (pc := 75) (tgt := 35) C dX12_findGrips_75 (by decide) ?_
        refine v_sub [1, 0] rfl ?_
        exact ih _ _ hw

theorem c_X12_findGrips {l : Launch} {G : Gl} {σ : Mem} {P : Mem → Prop} (hw : v_X12_findGrips σ P) : MetV l yX12_findGrips cX12_findGrips 3 3 G [.ref (gA G 33)] σ P := by
  refine MetV.of RX12 (by decide +kernel) rfl (Nat.le_of_ble_eq_true rfl) (fun X C r => ?_)
  show V X G 3 0 [(0, .ref (gA G 33))] [] σ
  unfold v_X12_findGrips at hw
  refine v_aload_n (pc := 0) 0 C dX12_findGrips_0 rfl rfl ?_
  refine v_iconst (pc := 1) (v := 0) C dX12_findGrips_1 (by decide) ?_
  refine p_12_10 (pc := 2) C k_1124 dX12_findGrips_2 ?_
  refine v_aload_n (pc := 5) 0 C dX12_findGrips_5 rfl rfl ?_
  refine v_iconst (pc := 6) (v := 0) C dX12_findGrips_6 (by decide) ?_
  refine v_cVv (pc := 7) (o := 33) (As := [.int 0]) (rest := []) (ci := 12) C (c_X12_addGrip hw) pk_X12_addGrip k_1357 rfl (by decide) rfl (by decide) rfl rfl (Nat.le_of_ble_eq_true rfl) dX12_findGrips_7 (fun σ_1 hw => ?_)
  refine v_iconst (pc := 10) (v := 0) C dX12_findGrips_10 (by decide) ?_
  refine v_istore_n (pc := 11) C dX12_findGrips_11 rfl (by decide) rfl ?_
  refine v_sub [1, 0] rfl ?_
  refine w_X12_findGrips_L12 C r ?_ 5000 _ _ hw
  · intro σ_4 hw
    refine v_iconst (pc := 33) (v := 0) C dX12_findGrips_33 (by decide) ?_
    refine v_istore_n (pc := 34) C dX12_findGrips_34 rfl (by decide) rfl ?_
    refine v_sub [1, 0] rfl ?_
    refine w_X12_findGrips_L35 C r 5000 _ _ hw

theorem w_X12_findHolds_L32 {X : Cx} {G : Gl} {P : Mem → Prop} {x1 : Int32} {x2 : Int32} {K68 : Mem → Prop} (C : Ck X G RX12 cX12_findHolds 4 4) (r : RetV X G P) (hK68 : ∀ (σ : Mem), K68 σ → V X G 4 68 [(0, .ref (gA G 33)), (1, .int x1)] [] σ) : ∀ (n : Nat) (x3 : Int32) (σ : Mem), v_X12_findHolds_L32 x1 x2 K68 P n x3 σ → V X G 4 32 [(0, .ref (gA G 33)), (1, .int x1), (2, .int x2), (3, .int x3)] [] σ := by
  intro n
  induction n with
  | zero => intro x3 σ hw; exact hw.elim
  | succ n ih =>
    intro x3 σ hw
    refine v_iload_n (pc := 32) 3 C dX12_findHolds_32 rfl rfl ?_
    refine v_if_le (pc := 33) (tgt := 68) C dX12_findHolds_33 (by decide) (fun c => ?_) (fun c => ?_)
    · replace hw := hw.1 c
      refine v_sub [0, 1] rfl ?_
      exact hK68 _ hw
    · replace hw := hw.2 c
      refine v_aload_n (pc := 36) 0 C dX12_findHolds_36 rfl rfl ?_
      refine g_12_13 (pc := 37) C k_1127 dX12_findHolds_37 ?_
      refine v_iload_n (pc := 40) 1 C dX12_findHolds_40 rfl rfl ?_
      refine v_aload_n (pc := 41) 0 C dX12_findHolds_41 rfl rfl ?_
      refine g_12_12 (pc := 42) C k_1126 dX12_findHolds_42 ?_
      refine v_iload_n (pc := 45) 3 C dX12_findHolds_45 rfl rfl ?_
      refine v_iald (pc := 46) C rfl hw.1 dX12_findHolds_46 ?_
      replace hw := hw.2
      refine v_iload_n (pc := 47) 2 C dX12_findHolds_47 rfl rfl ?_
      refine v_icmp_ne (pc := 48) (tgt := 55) C dX12_findHolds_48 (by decide) (fun c => ?_) (fun c => ?_)
      · replace hw := hw.2 c
        refine v_aload_n (pc := 55) 0 C dX12_findHolds_55 rfl rfl ?_
        refine g_12_13 (pc := 56) C k_1127 dX12_findHolds_56 ?_
        refine v_iload_n (pc := 59) 1 C dX12_findHolds_59 rfl rfl ?_
        refine v_iald (pc := 60) C rfl hw.1 dX12_findHolds_60 ?_
        replace hw := hw.2
        refine v_iast (pc := 61) C rfl hw.1 dX12_findHolds_61 ?_
        replace hw := hw.2
        refine v_iinc (pc := 62) (v := x3 + (-1)) 3 C dX12_findHolds_62 rfl rfl (by decide) rfl ?_
        refine v_goto (pc := 65) (tgt := 32) C dX12_findHolds_65 (by decide) ?_
        refine v_sub [1, 2, 3, 0] rfl ?_
        exact ih _ _ hw
      · replace hw := hw.1 c
        refine v_iload_n (pc := 51) 3 C dX12_findHolds_51 rfl rfl ?_
        refine v_goto (pc := 52) (tgt := 61) C dX12_findHolds_52 (by decide) ?_
        refine v_iast (pc := 61) C rfl hw.1 dX12_findHolds_61 ?_
        replace hw := hw.2
        refine v_iinc (pc := 62) (v := x3 + (-1)) 3 C dX12_findHolds_62 rfl rfl (by decide) rfl ?_
        refine v_goto (pc := 65) (tgt := 32) C dX12_findHolds_65 (by decide) ?_
        refine v_sub [1, 2, 3, 0] rfl ?_
        exact ih _ _ hw

theorem w_X12_findHolds_L6 {X : Cx} {G : Gl} {P : Mem → Prop} (C : Ck X G RX12 cX12_findHolds 4 4) (r : RetV X G P) : ∀ (n : Nat) (x1 : Int32) (σ : Mem), v_X12_findHolds_L6 P n x1 σ → V X G 4 6 [(0, .ref (gA G 33)), (1, .int x1)] [] σ := by
  intro n
  induction n with
  | zero => intro x1 σ hw; exact hw.elim
  | succ n ih =>
    intro x1 σ hw
    refine v_iload_n (pc := 6) 1 C dX12_findHolds_6 rfl rfl ?_
    refine v_bipush (pc := 7) (v := 96) C dX12_findHolds_7 (by decide) ?_
    refine v_icmp_ge (pc := 9) (tgt := 74) C dX12_findHolds_9 (by decide) (fun c => ?_) (fun c => ?_)
    · replace hw := hw.1 c
      exact v_vret (pc := 74) C r hw dX12_findHolds_74
    · replace hw := hw.2 c
      refine v_iload_n (pc := 12) 1 C dX12_findHolds_12 rfl rfl ?_
      refine v_callSi (pc := 13) (As := [.int x1]) (rest := []) C (c_X12_classesOf hw) pk_X12_classesOf (Or.inl k_1267) (by decide) rfl rfl (Nat.le_of_ble_eq_true rfl) dX12_findHolds_13 (fun r_2 σ_3 hw => ?_)
      refine v_istore_n (pc := 16) C dX12_findHolds_16 rfl (by decide) rfl ?_
      refine v_aload_n (pc := 17) 1 C dX12_findHolds_17 rfl rfl ?_
      refine g_12_13 (pc := 18) C k_1127 dX12_findHolds_18 ?_
      refine v_iload_n (pc := 21) 2 C dX12_findHolds_21 rfl rfl ?_
      refine v_bipush (pc := 22) (v := (-9)) C dX12_findHolds_22 (by decide) ?_
      refine v_iast (pc := 24) C rfl hw.1 dX12_findHolds_24 ?_
      replace hw := hw.2
      refine v_aload_n (pc := 25) 1 C dX12_findHolds_25 rfl rfl ?_
      refine g_12_10 (pc := 26) C k_1124 dX12_findHolds_26 ?_
      refine v_iconst (pc := 29) (v := 1) C dX12_findHolds_29 (by decide) ?_
      refine v_isub (pc := 30) C dX12_findHolds_30 ?_
      refine v_istore_n (pc := 31) C dX12_findHolds_31 rfl (by decide) rfl ?_
      refine v_sub [2, 3, 1, 0] rfl ?_
      refine w_X12_findHolds_L32 C r ?_ 5000 _ _ hw
      · intro σ_5 hw
        refine v_iinc (pc := 68) (v := x1 + 1) 1 C dX12_findHolds_68 rfl rfl (by decide) rfl ?_
        refine v_goto (pc := 71) (tgt := 6) C dX12_findHolds_71 (by decide) ?_
        refine v_sub [1, 0] rfl ?_
        exact ih _ _ hw

theorem c_X12_findHolds {l : Launch} {G : Gl} {σ : Mem} {P : Mem → Prop} (hw : v_X12_findHolds σ P) : MetV l yX12_findHolds cX12_findHolds 4 4 G [.ref (gA G 33)] σ P := by
  refine MetV.of RX12 (by decide +kernel) rfl (Nat.le_of_ble_eq_true rfl) (fun X C r => ?_)
  show V X G 4 0 [(0, .ref (gA G 33))] [] σ
  unfold v_X12_findHolds at hw
  refine v_aload_n (pc := 0) 0 C dX12_findHolds_0 rfl rfl ?_
  refine v_cVv (pc := 1) (o := 33) (As := []) (rest := []) (ci := 12) C (c_X12_findGrips hw) pk_X12_findGrips k_1353 rfl (by decide) rfl (by decide) rfl rfl (Nat.le_of_ble_eq_true rfl) dX12_findHolds_1 (fun σ_1 hw => ?_)
  refine v_iconst (pc := 4) (v := 0) C dX12_findHolds_4 (by decide) ?_
  refine v_istore_n (pc := 5) C dX12_findHolds_5 rfl (by decide) rfl ?_
  refine v_sub [1, 0] rfl ?_
  refine w_X12_findHolds_L6 C r 5000 _ _ hw

theorem c_X12_setOf {l : Launch} {G : Gl} {a1 : Int32} {σ : Mem} {P : Int32 → Mem → Prop} (hw : v_X12_setOf a1 σ P) : MetI l yX12_setOf cX12_setOf 2 .int 0 G [.ref (gA G 33), .int a1] σ P := by
  refine MetI.of RX12 (by decide +kernel) rfl (Nat.le_of_ble_eq_true rfl) (fun X C r => ?_)
  show V X G 2 0 [(0, .ref (gA G 33)), (1, .int a1)] [] σ
  unfold v_X12_setOf at hw
  refine v_iload_n (pc := 0) 1 C dX12_setOf_0 rfl rfl ?_
  refine v_bipush (pc := 1) (v := (-9)) C dX12_setOf_1 (by decide) ?_
  refine v_icmp_ne (pc := 3) (tgt := 10) C dX12_setOf_3 (by decide) (fun c => ?_) (fun c => ?_)
  · replace hw := hw.2 c
    refine v_aload_n (pc := 10) 0 C dX12_setOf_10 rfl rfl ?_
    refine g_12_11 (pc := 11) C k_1125 dX12_setOf_11 ?_
    refine v_iload_n (pc := 14) 1 C dX12_setOf_14 rfl rfl ?_
    refine v_iald (pc := 15) C rfl hw.1 dX12_setOf_15 ?_
    replace hw := hw.2
    exact v_iret (pc := 16) C r hw dX12_setOf_16
  · replace hw := hw.1 c
    refine v_iconst (pc := 6) (v := 0) C dX12_setOf_6 (by decide) ?_
    refine v_goto (pc := 7) (tgt := 16) C dX12_setOf_7 (by decide) ?_
    exact v_iret (pc := 16) C r hw dX12_setOf_16

theorem c_X12_hold {l : Launch} {G : Gl} {a1 : Int32} {σ : Mem} {P : Int32 → Mem → Prop} (hw : v_X12_hold a1 σ P) : MetI l yX12_hold cX12_hold 2 .int 5 G [.ref (gA G 33), .int a1] σ P := by
  refine MetI.of RX12 (by decide +kernel) rfl (Nat.le_of_ble_eq_true rfl) (fun X C r => ?_)
  show V X G 2 0 [(0, .ref (gA G 33)), (1, .int a1)] [] σ
  unfold v_X12_hold at hw
  refine v_iload_n (pc := 0) 1 C dX12_hold_0 rfl rfl ?_
  refine v_callSi (pc := 1) (As := [.int a1]) (rest := []) C (c_X12_isChord hw) pk_X12_isChord (Or.inl k_1249) (by decide) rfl rfl (Nat.le_of_ble_eq_true rfl) dX12_hold_1 (fun r_1 σ_2 hw => ?_)
  refine v_if_ne (pc := 4) (tgt := 10) C dX12_hold_4 (by decide) (fun c => ?_) (fun c => ?_)
  · replace hw := hw.2 c
    refine v_aload_n (pc := 10) 0 C dX12_hold_10 rfl rfl ?_
    refine v_cVv (pc := 11) (o := 33) (As := []) (rest := []) (ci := 12) C (c_X12_findHolds hw) pk_X12_findHolds k_1349 rfl (by decide) rfl (by decide) rfl rfl (Nat.le_of_ble_eq_true rfl) dX12_hold_11 (fun σ_3 hw => ?_)
    refine v_aload_n (pc := 14) 0 C dX12_hold_14 rfl rfl ?_
    refine g_12_13 (pc := 15) C k_1127 dX12_hold_15 ?_
    refine v_iload_n (pc := 18) 1 C dX12_hold_18 rfl rfl ?_
    refine v_iald (pc := 19) C rfl hw.1 dX12_hold_19 ?_
    replace hw := hw.2
    refine v_bipush (pc := 20) (v := (-9)) C dX12_hold_20 (by decide) ?_
    refine v_icmp_ne (pc := 22) (tgt := 30) C dX12_hold_22 (by decide) (fun c => ?_) (fun c => ?_)
    · replace hw := hw.2 c
      refine v_aload_n (pc := 30) 0 C dX12_hold_30 rfl rfl ?_
      refine g_12_11 (pc := 31) C k_1125 dX12_hold_31 ?_
      refine v_aload_n (pc := 34) 0 C dX12_hold_34 rfl rfl ?_
      refine g_12_13 (pc := 35) C k_1127 dX12_hold_35 ?_
      refine v_iload_n (pc := 38) 1 C dX12_hold_38 rfl rfl ?_
      refine v_iald (pc := 39) C rfl hw.1 dX12_hold_39 ?_
      replace hw := hw.2
      refine v_iald (pc := 40) C rfl hw.1 dX12_hold_40 ?_
      replace hw := hw.2
      exact v_iret (pc := 41) C r hw dX12_hold_41
    · replace hw := hw.1 c
      refine v_bipush (pc := 25) (v := (-9)) C dX12_hold_25 (by decide) ?_
      refine v_goto (pc := 27) (tgt := 41) C dX12_hold_27 (by decide) ?_
      exact v_iret (pc := 41) C r hw dX12_hold_41
  · replace hw := hw.1 c
    refine v_bipush (pc := 7) (v := (-2)) C dX12_hold_7 (by decide) ?_
    exact v_iret (pc := 9) C r hw dX12_hold_9

theorem w_X12_holds_J59 {X : Cx} {G : Gl} {P : Int32 → Mem → Prop} {kb : Int32 → Int32 → Mem → Prop} (C : Ck X G RX12 cX12_holds 6 5) (r : RetI X G .int P) (x1 : Int32) (x2 : Int32) (x3 : Int32) (xs0 : Int32) (hkb : ∀ (x2 : Int32) (x3 : Int32) (σ : Mem), kb x2 x3 σ → V X G 6 20 [(0, .ref (gA G 33)), (1, .int x1), (2, .int x2), (3, .int x3)] [] σ) (σ : Mem) (hw : v_X12_holds_J59 kb P x1 x2 x3 xs0 σ) : V X G 6 59 [(0, .ref (gA G 33)), (1, .int x1), (2, .int x2), (3, .int x3)] [.int xs0] σ := by
  unfold v_X12_holds_J59 at hw
  refine v_istore (pc := 59) C dX12_holds_59 (by decide) rfl ?_
  refine v_iload_n (pc := 61) 3 C dX12_holds_61 rfl rfl ?_
  refine v_iload (pc := 62) 0 C dX12_holds_62 rfl ?_
  refine v_iload_n (pc := 64) 2 C dX12_holds_64 rfl rfl ?_
  refine v_icmp_ne (pc := 65) (tgt := 72) C dX12_holds_65 (by decide) (fun c => ?_) (fun c => ?_)
  · replace hw := hw.2 c
    refine v_iconst (pc := 72) (v := 0) C dX12_holds_72 (by decide) ?_
    refine v_iadd (pc := 73) C dX12_holds_73 ?_
    refine v_istore_n (pc := 74) C dX12_holds_74 rfl (by decide) rfl ?_
    refine v_iinc (pc := 75) (v := x3 + 1) 4 C dX12_holds_75 rfl rfl (by decide) rfl ?_
    refine v_goto (pc := 78) (tgt := 20) C dX12_holds_78 (by decide) ?_
    refine v_sub [3, 4, 1, 0] rfl ?_
    exact hkb _ _ _ hw
  · replace hw := hw.1 c
    refine v_iconst (pc := 68) (v := 1) C dX12_holds_68 (by decide) ?_
    refine v_goto (pc := 69) (tgt := 73) C dX12_holds_69 (by decide) ?_
    refine v_iadd (pc := 73) C dX12_holds_73 ?_
    refine v_istore_n (pc := 74) C dX12_holds_74 rfl (by decide) rfl ?_
    refine v_iinc (pc := 75) (v := x3 + 1) 4 C dX12_holds_75 rfl rfl (by decide) rfl ?_
    refine v_goto (pc := 78) (tgt := 20) C dX12_holds_78 (by decide) ?_
    refine v_sub [3, 4, 1, 0] rfl ?_
    exact hkb _ _ _ hw

theorem w_X12_holds_L20 {X : Cx} {G : Gl} {P : Int32 → Mem → Prop} {x1 : Int32} (C : Ck X G RX12 cX12_holds 6 5) (r : RetI X G .int P) : ∀ (n : Nat) (x2 : Int32) (x3 : Int32) (σ : Mem), v_X12_holds_L20 x1 P n x2 x3 σ → V X G 6 20 [(0, .ref (gA G 33)), (1, .int x1), (2, .int x2), (3, .int x3)] [] σ := by
  intro n
  induction n with
  | zero => intro x2 x3 σ hw; exact hw.elim
  | succ n ih =>
    intro x2 x3 σ hw
    refine v_iload_n (pc := 20) 3 C dX12_holds_20 rfl rfl ?_
    refine v_bipush (pc := 21) (v := 96) C dX12_holds_21 (by decide) ?_
    refine v_icmp_ge (pc := 23) (tgt := 81) C dX12_holds_23 (by decide) (fun c => ?_) (fun c => ?_)
    · replace hw := hw.1 c
      refine v_iload_n (pc := 81) 2 C dX12_holds_81 rfl rfl ?_
      exact v_iret (pc := 82) C r hw dX12_holds_82
    · replace hw := hw.2 c
      refine v_aload_n (pc := 26) 0 C dX12_holds_26 rfl rfl ?_
      refine g_12_13 (pc := 27) C k_1127 dX12_holds_27 ?_
      refine v_iload_n (pc := 30) 3 C dX12_holds_30 rfl rfl ?_
      refine v_iald (pc := 31) C rfl hw.1 dX12_holds_31 ?_
      replace hw := hw.2
      refine v_istore (pc := 32) C dX12_holds_32 (by decide) rfl ?_
      refine v_iload (pc := 34) 0 C dX12_holds_34 rfl ?_
      refine v_bipush (pc := 36) (v := (-9)) C dX12_holds_36 (by decide) ?_
      refine v_icmp_ne (pc := 38) (tgt := 45) C dX12_holds_38 (by decide) (fun c => ?_) (fun c => ?_)
      · replace hw := hw.2 c
        refine v_iload (pc := 45) 0 C dX12_holds_45 rfl ?_
        refine v_aload_n (pc := 47) 1 C dX12_holds_47 rfl rfl ?_
        refine g_12_5 (pc := 48) C k_1119 dX12_holds_48 ?_
        refine v_icmp_gt (pc := 51) (tgt := 58) C dX12_holds_51 (by decide) (fun c => ?_) (fun c => ?_)
        · replace hw := hw.1 c
          refine v_iconst (pc := 58) (v := 2) C dX12_holds_58 (by decide) ?_
          refine v_sub [1, 2, 3, 4] rfl ?_
          exact w_X12_holds_J59 C r _ _ _ _ ih _ hw
        · replace hw := hw.2 c
          refine v_iconst (pc := 54) (v := 1) C dX12_holds_54 (by decide) ?_
          refine v_goto (pc := 55) (tgt := 59) C dX12_holds_55 (by decide) ?_
          refine v_sub [1, 2, 3, 4] rfl ?_
          exact w_X12_holds_J59 C r _ _ _ _ ih _ hw
      · replace hw := hw.1 c
        refine v_iconst (pc := 41) (v := 0) C dX12_holds_41 (by decide) ?_
        refine v_goto (pc := 42) (tgt := 59) C dX12_holds_42 (by decide) ?_
        refine v_sub [1, 2, 3, 4] rfl ?_
        exact w_X12_holds_J59 C r _ _ _ _ ih _ hw

theorem c_X12_holds {l : Launch} {G : Gl} {a1 : Int32} {σ : Mem} {P : Int32 → Mem → Prop} (hw : v_X12_holds a1 σ P) : MetI l yX12_holds cX12_holds 6 .int 5 G [.ref (gA G 33), .int a1] σ P := by
  refine MetI.of RX12 (by decide +kernel) rfl (Nat.le_of_ble_eq_true rfl) (fun X C r => ?_)
  show V X G 6 0 [(0, .ref (gA G 33)), (1, .int a1)] [] σ
  unfold v_X12_holds at hw
  refine v_iload_n (pc := 0) 1 C dX12_holds_0 rfl rfl ?_
  refine v_iconst (pc := 1) (v := 0) C dX12_holds_1 (by decide) ?_
  refine v_iconst (pc := 2) (v := 2) C dX12_holds_2 (by decide) ?_
  refine v_callSi (pc := 3) (As := [.int a1, .int 0, .int 2]) (rest := []) C (c_X12_within hw) pk_X12_within (Or.inl k_1234) (by decide) rfl rfl (Nat.le_of_ble_eq_true rfl) dX12_holds_3 (fun r_1 σ_2 hw => ?_)
  refine v_if_ne (pc := 6) (tgt := 12) C dX12_holds_6 (by decide) (fun c => ?_) (fun c => ?_)
  · replace hw := hw.2 c
    refine v_aload_n (pc := 12) 0 C dX12_holds_12 rfl rfl ?_
    refine v_cVv (pc := 13) (o := 33) (As := []) (rest := []) (ci := 12) C (c_X12_findHolds hw) pk_X12_findHolds k_1349 rfl (by decide) rfl (by decide) rfl rfl (Nat.le_of_ble_eq_true rfl) dX12_holds_13 (fun σ_3 hw => ?_)
    refine v_iconst (pc := 16) (v := 0) C dX12_holds_16 (by decide) ?_
    refine v_istore_n (pc := 17) C dX12_holds_17 rfl (by decide) rfl ?_
    refine v_iconst (pc := 18) (v := 0) C dX12_holds_18 (by decide) ?_
    refine v_istore_n (pc := 19) C dX12_holds_19 rfl (by decide) rfl ?_
    refine v_sub [2, 3, 1, 0] rfl ?_
    refine w_X12_holds_L20 C r 5000 _ _ _ hw
  · replace hw := hw.1 c
    refine v_bipush (pc := 9) (v := (-2)) C dX12_holds_9 (by decide) ?_
    exact v_iret (pc := 11) C r hw dX12_holds_11

theorem w_X12_strum_L50 {X : Cx} {G : Gl} {P : Int32 → Mem → Prop} {x1 : Int32} {x2 : Int32} {x3 : Int32} {x4 : Int32} {K96 : Int32 → Mem → Prop} (C : Ck X G RX12 cX12_strum 7 2) (r : RetI X G .int P) (hK96 : ∀ (x5 : Int32) (σ : Mem), K96 x5 σ → V X G 7 96 [(0, .ref (gA G 33)), (1, .int x1), (2, .int x2), (3, .int x3), (4, .int x4), (5, .int x5)] [] σ) : ∀ (n : Nat) (x5 : Int32) (σ : Mem), v_X12_strum_L50 x1 x2 x3 x4 K96 P n x5 σ → V X G 7 50 [(0, .ref (gA G 33)), (1, .int x1), (2, .int x2), (3, .int x3), (4, .int x4), (5, .int x5)] [] σ := by
  intro n
  induction n with
  | zero => intro x5 σ hw; exact hw.elim
  | succ n ih =>
    intro x5 σ hw
    refine v_iload (pc := 50) 5 C dX12_strum_50 rfl ?_
    refine v_if_le (pc := 52) (tgt := 96) C dX12_strum_52 (by decide) (fun c => ?_) (fun c => ?_)
    · replace hw := hw.1 c
      refine v_sub [0, 1, 2, 3, 4, 5] rfl ?_
      exact hK96 _ _ hw
    · replace hw := hw.2 c
      refine v_aload_n (pc := 55) 0 C dX12_strum_55 rfl rfl ?_
      refine g_12_14 (pc := 56) C k_1128 dX12_strum_56 ?_
      refine v_iload (pc := 59) 5 C dX12_strum_59 rfl ?_
      refine v_iconst (pc := 61) (v := 1) C dX12_strum_61 (by decide) ?_
      refine v_isub (pc := 62) C dX12_strum_62 ?_
      refine v_iald (pc := 63) C rfl hw.1 dX12_strum_63 ?_
      replace hw := hw.2
      refine v_aload_n (pc := 64) 0 C dX12_strum_64 rfl rfl ?_
      refine g_12_3 (pc := 65) C k_1117 dX12_strum_65 ?_
      refine v_iload (pc := 68) 4 C dX12_strum_68 rfl ?_
      refine v_iald (pc := 70) C rfl hw.1 dX12_strum_70 ?_
      replace hw := hw.2
      refine v_icmp_le (pc := 71) (tgt := 96) C dX12_strum_71 (by decide) (fun c => ?_) (fun c => ?_)
      · replace hw := hw.1 c
        refine v_sub [0, 1, 2, 3, 4, 5] rfl ?_
        exact hK96 _ _ hw
      · replace hw := hw.2 c
        refine v_aload_n (pc := 74) 0 C dX12_strum_74 rfl rfl ?_
        refine g_12_14 (pc := 75) C k_1128 dX12_strum_75 ?_
        refine v_iload (pc := 78) 5 C dX12_strum_78 rfl ?_
        refine v_aload_n (pc := 80) 0 C dX12_strum_80 rfl rfl ?_
        refine g_12_14 (pc := 81) C k_1128 dX12_strum_81 ?_
        refine v_iload (pc := 84) 5 C dX12_strum_84 rfl ?_
        refine v_iconst (pc := 86) (v := 1) C dX12_strum_86 (by decide) ?_
        refine v_isub (pc := 87) C dX12_strum_87 ?_
        refine v_iald (pc := 88) C rfl hw.1 dX12_strum_88 ?_
        replace hw := hw.2
        refine v_iast (pc := 89) C rfl hw.1 dX12_strum_89 ?_
        replace hw := hw.2
        refine v_iinc (pc := 90) (v := x5 + (-1)) 5 C dX12_strum_90 rfl rfl (by decide) rfl ?_
        refine v_goto (pc := 93) (tgt := 50) C dX12_strum_93 (by decide) ?_
        refine v_sub [1, 2, 3, 4, 5, 0] rfl ?_
        exact ih _ _ hw

theorem w_X12_strum_J96 {X : Cx} {G : Gl} {P : Int32 → Mem → Prop} {kb : Int32 → Int32 → Mem → Prop} {K119 : Int32 → Mem → Prop} (C : Ck X G RX12 cX12_strum 7 2) (r : RetI X G .int P) (x1 : Int32) (x2 : Int32) (x3 : Int32) (x4 : Int32) (x5 : Int32) (hkb : ∀ (x3 : Int32) (x4 : Int32) (σ : Mem), kb x3 x4 σ → V X G 7 25 [(0, .ref (gA G 33)), (1, .int x1), (2, .int x2), (3, .int x3), (4, .int x4)] [] σ) (hK119 : ∀ (x3 : Int32) (σ : Mem), K119 x3 σ → V X G 7 119 [(0, .ref (gA G 33)), (2, .int x2), (3, .int x3)] [] σ) (σ : Mem) (hw : v_X12_strum_J96 kb K119 P x1 x2 x3 x4 x5 σ) : V X G 7 96 [(0, .ref (gA G 33)), (1, .int x1), (2, .int x2), (3, .int x3), (4, .int x4), (5, .int x5)] [] σ := by
  unfold v_X12_strum_J96 at hw
  refine v_aload_n (pc := 96) 0 C dX12_strum_96 rfl rfl ?_
  refine g_12_14 (pc := 97) C k_1128 dX12_strum_97 ?_
  refine v_iload (pc := 100) 5 C dX12_strum_100 rfl ?_
  refine v_aload_n (pc := 102) 0 C dX12_strum_102 rfl rfl ?_
  refine g_12_3 (pc := 103) C k_1117 dX12_strum_103 ?_
  refine v_iload (pc := 106) 4 C dX12_strum_106 rfl ?_
  refine v_iald (pc := 108) C rfl hw.1 dX12_strum_108 ?_
  replace hw := hw.2
  refine v_iast (pc := 109) C rfl hw.1 dX12_strum_109 ?_
  replace hw := hw.2
  refine v_iinc (pc := 110) (v := x3 + 1) 3 C dX12_strum_110 rfl rfl (by decide) rfl ?_
  refine v_iinc (pc := 113) (v := x4 + 1) 4 C dX12_strum_113 rfl rfl (by decide) rfl ?_
  refine v_goto (pc := 116) (tgt := 25) C dX12_strum_116 (by decide) ?_
  refine v_sub [2, 3, 4, 1, 0] rfl ?_
  exact hkb _ _ _ hw

theorem w_X12_strum_L25 {X : Cx} {G : Gl} {P : Int32 → Mem → Prop} {x1 : Int32} {x2 : Int32} {K119 : Int32 → Mem → Prop} (C : Ck X G RX12 cX12_strum 7 2) (r : RetI X G .int P) (hK119 : ∀ (x3 : Int32) (σ : Mem), K119 x3 σ → V X G 7 119 [(0, .ref (gA G 33)), (2, .int x2), (3, .int x3)] [] σ) : ∀ (n : Nat) (x3 : Int32) (x4 : Int32) (σ : Mem), v_X12_strum_L25 x1 x2 K119 P n x3 x4 σ → V X G 7 25 [(0, .ref (gA G 33)), (1, .int x1), (2, .int x2), (3, .int x3), (4, .int x4)] [] σ := by
  intro n
  induction n with
  | zero => intro x3 x4 σ hw; exact hw.elim
  | succ n ih =>
    intro x3 x4 σ hw
    refine v_iload (pc := 25) 4 C dX12_strum_25 rfl ?_
    refine v_aload_n (pc := 27) 0 C dX12_strum_27 rfl rfl ?_
    refine g_12_2 (pc := 28) C k_1116 dX12_strum_28 ?_
    refine v_icmp_ge (pc := 31) (tgt := 119) C dX12_strum_31 (by decide) (fun c => ?_) (fun c => ?_)
    · replace hw := hw.1 c
      refine v_sub [0, 2, 3] rfl ?_
      exact hK119 _ _ hw
    · replace hw := hw.2 c
      refine v_aload_n (pc := 34) 0 C dX12_strum_34 rfl rfl ?_
      refine v_iload_n (pc := 35) 1 C dX12_strum_35 rfl rfl ?_
      refine v_iload (pc := 36) 4 C dX12_strum_36 rfl ?_
      refine v_cVi (pc := 38) (o := 33) (As := [.int x1, .int x4]) (rest := []) (ci := 12) C (c_X12_doesSound hw) pk_X12_doesSound k_1309 rfl (by decide) rfl (by decide) rfl rfl (Nat.le_of_ble_eq_true rfl) dX12_strum_38 (fun r_5 σ_6 hw => ?_)
      refine v_if_ne (pc := 41) (tgt := 47) C dX12_strum_41 (by decide) (fun c => ?_) (fun c => ?_)
      · replace hw := hw.2 c
        refine v_iload_n (pc := 47) 3 C dX12_strum_47 rfl rfl ?_
        refine v_istore (pc := 48) C dX12_strum_48 (by decide) rfl ?_
        refine v_sub [1, 2, 3, 4, 5, 0] rfl ?_
        refine w_X12_strum_L50 C r ?_ 5000 _ _ hw
        · intro x5_7 σ_8 hw
          refine v_sub [0, 1, 2, 3, 4, 5] rfl ?_
          exact w_X12_strum_J96 C r _ _ _ _ _ ih hK119 _ hw
      · replace hw := hw.1 c
        refine v_goto (pc := 44) (tgt := 113) C dX12_strum_44 (by decide) ?_
        refine v_iinc (pc := 113) (v := x4 + 1) 4 C dX12_strum_113 rfl rfl (by decide) rfl ?_
        refine v_goto (pc := 116) (tgt := 25) C dX12_strum_116 (by decide) ?_
        refine v_sub [1, 2, 3, 4, 0] rfl ?_
        exact ih _ _ _ hw

theorem w_X12_strum_L125 {X : Cx} {G : Gl} {P : Int32 → Mem → Prop} {x2 : Int32} {x3 : Int32} {K172 : Int32 → Mem → Prop} (C : Ck X G RX12 cX12_strum 7 2) (r : RetI X G .int P) (hK172 : ∀ (x4 : Int32) (σ : Mem), K172 x4 σ → V X G 7 172 [(0, .ref (gA G 33)), (2, .int x2), (3, .int x3), (4, .int x4)] [] σ) : ∀ (n : Nat) (x4 : Int32) (x5 : Int32) (σ : Mem), v_X12_strum_L125 x2 x3 K172 P n x4 x5 σ → V X G 7 125 [(0, .ref (gA G 33)), (2, .int x2), (3, .int x3), (4, .int x4), (5, .int x5)] [] σ := by
  intro n
  induction n with
  | zero => intro x4 x5 σ hw; exact hw.elim
  | succ n ih =>
    intro x4 x5 σ hw
    refine v_iload (pc := 125) 4 C dX12_strum_125 rfl ?_
    refine v_iload_n (pc := 127) 2 C dX12_strum_127 rfl rfl ?_
    refine v_icmp_ge (pc := 128) (tgt := 172) C dX12_strum_128 (by decide) (fun c => ?_) (fun c => ?_)
    · replace hw := hw.1 c
      refine v_sub [0, 1, 2, 3] rfl ?_
      exact hK172 _ _ hw
    · replace hw := hw.2 c
      refine v_aload_n (pc := 131) 0 C dX12_strum_131 rfl rfl ?_
      refine g_12_14 (pc := 132) C k_1128 dX12_strum_132 ?_
      refine v_iload (pc := 135) 4 C dX12_strum_135 rfl ?_
      refine v_iald (pc := 137) C rfl hw.1 dX12_strum_137 ?_
      replace hw := hw.2
      refine v_aload_n (pc := 138) 0 C dX12_strum_138 rfl rfl ?_
      refine g_12_14 (pc := 139) C k_1128 dX12_strum_139 ?_
      refine v_iload (pc := 142) 4 C dX12_strum_142 rfl ?_
      refine v_iconst (pc := 144) (v := 1) C dX12_strum_144 (by decide) ?_
      refine v_isub (pc := 145) C dX12_strum_145 ?_
      refine v_iald (pc := 146) C rfl hw.1 dX12_strum_146 ?_
      replace hw := hw.2
      refine v_isub (pc := 147) C dX12_strum_147 ?_
      refine v_topi (fun y_11 ey_11 => ?_)
      replace hw := hw y_11 ey_11
      refine v_istore (pc := 148) C dX12_strum_148 (by decide) rfl ?_
      refine v_iload (pc := 150) 0 C dX12_strum_150 rfl ?_
      refine v_iload (pc := 152) 4 C dX12_strum_152 rfl ?_
      refine v_icmp_le (pc := 154) (tgt := 162) C dX12_strum_154 (by decide) (fun c => ?_) (fun c => ?_)
      · replace hw := hw.1 c
        refine v_iload (pc := 162) 4 C dX12_strum_162 rfl ?_
        refine v_istore (pc := 164) C dX12_strum_164 (by decide) rfl ?_
        refine v_iinc (pc := 166) (v := x5 + 1) 5 C dX12_strum_166 rfl rfl (by decide) rfl ?_
        refine v_goto (pc := 169) (tgt := 125) C dX12_strum_169 (by decide) ?_
        refine v_sub [3, 4, 5, 1, 0] rfl ?_
        exact ih _ _ _ hw
      · replace hw := hw.2 c
        refine v_iload (pc := 157) 0 C dX12_strum_157 rfl ?_
        refine v_goto (pc := 159) (tgt := 164) C dX12_strum_159 (by decide) ?_
        refine v_istore (pc := 164) C dX12_strum_164 (by decide) rfl ?_
        refine v_iinc (pc := 166) (v := x5 + 1) 5 C dX12_strum_166 rfl rfl (by decide) rfl ?_
        refine v_goto (pc := 169) (tgt := 125) C dX12_strum_169 (by decide) ?_
        refine v_sub [3, 4, 5, 1, 0] rfl ?_
        exact ih _ _ _ hw

theorem c_X12_strum {l : Launch} {G : Gl} {a1 : Int32} {a2 : Int32} {σ : Mem} {P : Int32 → Mem → Prop} (hw : v_X12_strum a1 a2 σ P) : MetI l yX12_strum cX12_strum 7 .int 2 G [.ref (gA G 33), .int a1, .int a2] σ P := by
  refine MetI.of RX12 (by decide +kernel) rfl (Nat.le_of_ble_eq_true rfl) (fun X C r => ?_)
  show V X G 7 0 [(0, .ref (gA G 33)), (1, .int a1), (2, .int a2)] [] σ
  unfold v_X12_strum at hw
  refine v_aload_n (pc := 0) 0 C dX12_strum_0 rfl rfl ?_
  refine v_iload_n (pc := 1) 1 C dX12_strum_1 rfl rfl ?_
  refine v_cVi (pc := 2) (o := 33) (As := [.int a1]) (rest := []) (ci := 12) C (c_X12_isSet hw) pk_X12_isSet k_1321 rfl (by decide) rfl (by decide) rfl rfl (Nat.le_of_ble_eq_true rfl) dX12_strum_2 (fun r_1 σ_2 hw => ?_)
  refine v_if_eq (pc := 5) (tgt := 17) C dX12_strum_5 (by decide) (fun c => ?_) (fun c => ?_)
  · replace hw := hw.1 c
    refine v_bipush (pc := 17) (v := (-2)) C dX12_strum_17 (by decide) ?_
    exact v_iret (pc := 19) C r hw dX12_strum_19
  · replace hw := hw.2 c
    refine v_iload_n (pc := 8) 2 C dX12_strum_8 rfl rfl ?_
    refine v_iconst (pc := 9) (v := 0) C dX12_strum_9 (by decide) ?_
    refine v_iconst (pc := 10) (v := 3) C dX12_strum_10 (by decide) ?_
    refine v_callSi (pc := 11) (As := [.int a2, .int 0, .int 3]) (rest := []) C (c_X12_within hw) pk_X12_within (Or.inl k_1234) (by decide) rfl rfl (Nat.le_of_ble_eq_true rfl) dX12_strum_11 (fun r_3 σ_4 hw => ?_)
    refine v_if_ne (pc := 14) (tgt := 20) C dX12_strum_14 (by decide) (fun c => ?_) (fun c => ?_)
    · replace hw := hw.2 c
      refine v_iconst (pc := 20) (v := 0) C dX12_strum_20 (by decide) ?_
      refine v_istore_n (pc := 21) C dX12_strum_21 rfl (by decide) rfl ?_
      refine v_iconst (pc := 22) (v := 0) C dX12_strum_22 (by decide) ?_
      refine v_istore (pc := 23) C dX12_strum_23 (by decide) rfl ?_
      refine v_sub [2, 3, 4, 1, 0] rfl ?_
      refine w_X12_strum_L25 C r ?_ 5000 _ _ _ hw
      · intro x3_9 σ_10 hw
        refine v_iconst (pc := 119) (v := 0) C dX12_strum_119 (by decide) ?_
        refine v_istore (pc := 120) C dX12_strum_120 (by decide) rfl ?_
        refine v_iconst (pc := 122) (v := 1) C dX12_strum_122 (by decide) ?_
        refine v_istore (pc := 123) C dX12_strum_123 (by decide) rfl ?_
        refine v_sub [2, 3, 4, 1, 0] rfl ?_
        refine w_X12_strum_L125 C r ?_ 5000 _ _ _ hw
        · intro x4_12 σ_13 hw
          refine v_iload_n (pc := 172) 1 C dX12_strum_172 rfl rfl ?_
          by_cases c0 : a2 = 0
          · replace hw := hw.1 c0
            refine v_tableIn (pc := 173) (tgt := 200) (off := 27) C dX12_strum_173 (by rw [c0]; decide) (by rw [c0]; decide) (by rw [c0]; rfl) (by decide) ?_
            refine v_iload_n (pc := 200) 2 C dX12_strum_200 rfl rfl ?_
            exact v_iret (pc := 201) C r hw dX12_strum_201
          · replace hw := hw.2 c0
            by_cases c1 : a2 = 1
            · replace hw := hw.1 c1
              refine v_tableIn (pc := 173) (tgt := 202) (off := 29) C dX12_strum_173 (by rw [c1]; decide) (by rw [c1]; decide) (by rw [c1]; rfl) (by decide) ?_
              refine v_iload_n (pc := 202) 2 C dX12_strum_202 rfl rfl ?_
              refine v_if_ne (pc := 203) (tgt := 211) C dX12_strum_203 (by decide) (fun c => ?_) (fun c => ?_)
              · replace hw := hw.2 c
                refine v_aload_n (pc := 211) 0 C dX12_strum_211 rfl rfl ?_
                refine g_12_14 (pc := 212) C k_1128 dX12_strum_212 ?_
                refine v_iconst (pc := 215) (v := 0) C dX12_strum_215 (by decide) ?_
                refine v_iald (pc := 216) C rfl hw.1 dX12_strum_216 ?_
                replace hw := hw.2
                exact v_iret (pc := 217) C r hw dX12_strum_217
              · replace hw := hw.1 c
                refine v_bipush (pc := 206) (v := (-9)) C dX12_strum_206 (by decide) ?_
                refine v_goto (pc := 208) (tgt := 217) C dX12_strum_208 (by decide) ?_
                exact v_iret (pc := 217) C r hw dX12_strum_217
            · replace hw := hw.2 c1
              by_cases c2 : a2 = 2
              · replace hw := hw.1 c2
                refine v_tableIn (pc := 173) (tgt := 218) (off := 45) C dX12_strum_173 (by rw [c2]; decide) (by rw [c2]; decide) (by rw [c2]; rfl) (by decide) ?_
                refine v_iload_n (pc := 218) 2 C dX12_strum_218 rfl rfl ?_
                refine v_if_ne (pc := 219) (tgt := 227) C dX12_strum_219 (by decide) (fun c => ?_) (fun c => ?_)
                · replace hw := hw.2 c
                  refine v_aload_n (pc := 227) 0 C dX12_strum_227 rfl rfl ?_
                  refine g_12_14 (pc := 228) C k_1128 dX12_strum_228 ?_
                  refine v_iload_n (pc := 231) 2 C dX12_strum_231 rfl rfl ?_
                  refine v_iconst (pc := 232) (v := 1) C dX12_strum_232 (by decide) ?_
                  refine v_isub (pc := 233) C dX12_strum_233 ?_
                  refine v_iald (pc := 234) C rfl hw.1 dX12_strum_234 ?_
                  replace hw := hw.2
                  exact v_iret (pc := 235) C r hw dX12_strum_235
                · replace hw := hw.1 c
                  refine v_bipush (pc := 222) (v := (-9)) C dX12_strum_222 (by decide) ?_
                  refine v_goto (pc := 224) (tgt := 235) C dX12_strum_224 (by decide) ?_
                  exact v_iret (pc := 235) C r hw dX12_strum_235
              · replace hw := hw.2 c2
                refine v_tableOut (pc := 173) (tgt := 236) C dX12_strum_173 (by have e0 := ne_toInt (k := 0) c0 (by decide); have e1 := ne_toInt (k := 1) c1 (by decide); have e2 := ne_toInt (k := 2) c2 (by decide); omega) (by decide) ?_
                refine v_iload (pc := 236) 3 C dX12_strum_236 rfl ?_
                exact v_iret (pc := 238) C r hw dX12_strum_238
    · replace hw := hw.1 c
      refine v_bipush (pc := 17) (v := (-2)) C dX12_strum_17 (by decide) ?_
      exact v_iret (pc := 19) C r hw dX12_strum_19

