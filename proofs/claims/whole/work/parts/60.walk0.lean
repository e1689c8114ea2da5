theorem c_X11_isChord {l : Launch} {G : Gl} {a0 : Int32} {σ : Mem} {P : Int32 → Mem → Prop} (hw : v_X11_isChord a0 σ P) : MetI l yX11_isChord cX11_isChord 1 .boolean 0 G [.int a0] σ P := by
  refine MetI.of RX11 (by decide +kernel) rfl (Nat.le_of_ble_eq_true rfl) (fun X C r => ?_)
  show V X G 1 0 [(0, .int a0)] [] σ
  unfold v_X11_isChord at hw
  refine v_iload_n (pc := 0) 0 C dX11_isChord_0 rfl rfl ?_
  refine v_if_lt (pc := 1) (tgt := 14) C dX11_isChord_1 (by decide) (fun c => ?_) (fun c => ?_)
  · replace hw := hw.1 c
    refine v_iconst (pc := 14) (v := 0) C dX11_isChord_14 (by decide) ?_
    exact v_zret (pc := 15) C r (Or.inl rfl) hw dX11_isChord_15
  · replace hw := hw.2 c
    refine v_iload_n (pc := 4) 0 C dX11_isChord_4 rfl rfl ?_
    refine v_bipush (pc := 5) (v := 96) C dX11_isChord_5 (by decide) ?_
    refine v_icmp_ge (pc := 7) (tgt := 14) C dX11_isChord_7 (by decide) (fun c => ?_) (fun c => ?_)
    · replace hw := hw.1 c
      refine v_iconst (pc := 14) (v := 0) C dX11_isChord_14 (by decide) ?_
      exact v_zret (pc := 15) C r (Or.inl rfl) hw dX11_isChord_15
    · replace hw := hw.2 c
      refine v_iconst (pc := 10) (v := 1) C dX11_isChord_10 (by decide) ?_
      refine v_goto (pc := 11) (tgt := 15) C dX11_isChord_11 (by decide) ?_
      exact v_zret (pc := 15) C r (Or.inr rfl) hw dX11_isChord_15

theorem c_X0_kind {l : Launch} {G : Gl} {o0 : Nat} {σ : Mem} {P : Int32 → Mem → Prop} (h0 : kd o0 = (0, 0)) (hw : v_X0_kind o0 σ P) : MetI l yX0_kind cX0_kind 2 .int 1 G [.ref (gA G o0)] σ P := by
  refine MetI.of RX0 (by decide +kernel) rfl (Nat.le_of_ble_eq_true rfl) (fun X C r => ?_)
  show V X G 2 0 [(0, .ref (gA G o0))] [] σ
  unfold v_X0_kind at hw
  refine v_aload_n (pc := 0) 0 C dX0_kind_0 rfl rfl ?_
  refine g_0_0 (pc := 1) h0 C k_133 dX0_kind_1 ?_
  refine v_callSi (pc := 4) (As := [.int (σ.1 o0 0)]) (rest := []) C (c_X11_isChord hw) pk_X11_isChord (Or.inr (by decide +kernel)) (by decide) rfl rfl (Nat.le_of_ble_eq_true rfl) dX0_kind_4 (fun r_1 σ_2 hw => ?_)
  refine v_if_ne (pc := 7) (tgt := 12) C dX0_kind_7 (by decide) (fun c => ?_) (fun c => ?_)
  · replace hw := hw.2 c
    refine v_aload_n (pc := 12) 0 C dX0_kind_12 rfl rfl ?_
    refine g_0_0 (pc := 13) h0 C k_133 dX0_kind_13 ?_
    refine v_bipush (pc := 16) (v := 12) C dX0_kind_16 (by decide) ?_
    refine v_idiv (pc := 18) C dX0_kind_18 (by decide) ?_
    refine v_istore_n (pc := 19) C dX0_kind_19 rfl (by decide) rfl ?_
    refine v_iload_n (pc := 20) 0 C dX0_kind_20 rfl rfl ?_
    refine v_iconst (pc := 21) (v := 2) C dX0_kind_21 (by decide) ?_
    refine v_icmp_eq (pc := 22) (tgt := 36) C dX0_kind_22 (by decide) (fun c => ?_) (fun c => ?_)
    · replace hw := hw.1 c
      refine v_iconst (pc := 36) (v := 2) C dX0_kind_36 (by decide) ?_
      refine v_goto (pc := 37) (tgt := 41) C dX0_kind_37 (by decide) ?_
      exact v_iret (pc := 41) C r hw dX0_kind_41
    · replace hw := hw.2 c
      refine v_iload_n (pc := 25) 0 C dX0_kind_25 rfl rfl ?_
      refine v_iconst (pc := 26) (v := 3) C dX0_kind_26 (by decide) ?_
      refine v_icmp_eq (pc := 27) (tgt := 36) C dX0_kind_27 (by decide) (fun c => ?_) (fun c => ?_)
      · replace hw := hw.1 c
        refine v_iconst (pc := 36) (v := 2) C dX0_kind_36 (by decide) ?_
        refine v_goto (pc := 37) (tgt := 41) C dX0_kind_37 (by decide) ?_
        exact v_iret (pc := 41) C r hw dX0_kind_41
      · replace hw := hw.2 c
        refine v_iload_n (pc := 30) 0 C dX0_kind_30 rfl rfl ?_
        refine v_bipush (pc := 31) (v := 6) C dX0_kind_31 (by decide) ?_
        refine v_icmp_ne (pc := 33) (tgt := 40) C dX0_kind_33 (by decide) (fun c => ?_) (fun c => ?_)
        · replace hw := hw.2 c
          refine v_iconst (pc := 40) (v := 1) C dX0_kind_40 (by decide) ?_
          exact v_iret (pc := 41) C r hw dX0_kind_41
        · replace hw := hw.1 c
          refine v_iconst (pc := 36) (v := 2) C dX0_kind_36 (by decide) ?_
          refine v_goto (pc := 37) (tgt := 41) C dX0_kind_37 (by decide) ?_
          exact v_iret (pc := 41) C r hw dX0_kind_41
  · replace hw := hw.1 c
    refine v_iconst (pc := 10) (v := 0) C dX0_kind_10 (by decide) ?_
    exact v_iret (pc := 11) C r hw dX0_kind_11

theorem c_X0_wholeOnes {l : Launch} {G : Gl} {o0 : Nat} {σ : Mem} {P : Int64 → Mem → Prop} (h0 : kd o0 = (0, 0)) (hw : v_X0_wholeOnes o0 σ P) : MetJ l yX0_wholeOnes cX0_wholeOnes 1 0 G [.ref (gA G o0)] σ P := by
  refine MetJ.of RX0 (by decide +kernel) rfl (Nat.le_of_ble_eq_true rfl) (fun X C r => ?_)
  show V X G 1 0 [(0, .ref (gA G o0))] [] σ
  unfold v_X0_wholeOnes at hw
  refine v_aload_n (pc := 0) 0 C dX0_wholeOnes_0 rfl rfl ?_
  refine g_0_1 (pc := 1) h0 C k_136 dX0_wholeOnes_1 ?_
  refine v_aload_n (pc := 4) 0 C dX0_wholeOnes_4 rfl rfl ?_
  refine g_0_2 (pc := 5) h0 C k_140 dX0_wholeOnes_5 ?_
  refine v_ldc2 (pc := 8) C k_468 dX0_wholeOnes_8 ?_
  refine v_lxor (pc := 11) C dX0_wholeOnes_11 ?_
  refine v_land (pc := 12) C dX0_wholeOnes_12 ?_
  exact v_lret (pc := 13) C r hw dX0_wholeOnes_13

theorem c_X11_hasBit {l : Launch} {G : Gl} {a0 : Int64} {a2 : Int32} {σ : Mem} {P : Int32 → Mem → Prop} (hw : v_X11_hasBit a0 a2 σ P) : MetI l yX11_hasBit cX11_hasBit 3 .boolean 0 G [.long a0, .int a2] σ P := by
  refine MetI.of RX11 (by decide +kernel) rfl (Nat.le_of_ble_eq_true rfl) (fun X C r => ?_)
  show V X G 3 0 [(0, .long a0), (2, .int a2)] [] σ
  unfold v_X11_hasBit at hw
  refine v_lload_n (pc := 0) 0 C dX11_hasBit_0 rfl rfl ?_
  refine v_iload_n (pc := 1) 1 C dX11_hasBit_1 rfl rfl ?_
  refine v_lushr (pc := 2) C dX11_hasBit_2 ?_
  refine v_lconst (pc := 3) (v := 1) C dX11_hasBit_3 rfl ?_
  refine v_land (pc := 4) C dX11_hasBit_4 ?_
  refine v_lconst (pc := 5) (v := 0) C dX11_hasBit_5 rfl ?_
  refine v_lcmp_eq (pc := 6) (tgt := 14) C dX11_hasBit_6 dX11_hasBit_7 (by decide) (fun c => ?_) (fun c => ?_)
  · replace hw := hw.1 c
    refine v_iconst (pc := 14) (v := 0) C dX11_hasBit_14 (by decide) ?_
    exact v_zret (pc := 15) C r (Or.inl rfl) hw dX11_hasBit_15
  · replace hw := hw.2 c
    refine v_iconst (pc := 10) (v := 1) C dX11_hasBit_10 (by decide) ?_
    refine v_goto (pc := 11) (tgt := 15) C dX11_hasBit_11 (by decide) ?_
    exact v_zret (pc := 15) C r (Or.inr rfl) hw dX11_hasBit_15

theorem c_X0_hasFelt {l : Launch} {G : Gl} {o0 : Nat} {a1 : Int32} {σ : Mem} {P : Int32 → Mem → Prop} (h0 : kd o0 = (0, 0)) (hw : v_X0_hasFelt o0 a1 σ P) : MetI l yX0_hasFelt cX0_hasFelt 2 .boolean 1 G [.ref (gA G o0), .int a1] σ P := by
  refine MetI.of RX0 (by decide +kernel) rfl (Nat.le_of_ble_eq_true rfl) (fun X C r => ?_)
  show V X G 2 0 [(0, .ref (gA G o0)), (1, .int a1)] [] σ
  unfold v_X0_hasFelt at hw
  refine v_aload_n (pc := 0) 0 C dX0_hasFelt_0 rfl rfl ?_
  refine g_0_1 (pc := 1) h0 C k_136 dX0_hasFelt_1 ?_
  refine v_iload_n (pc := 4) 1 C dX0_hasFelt_4 rfl rfl ?_
  refine v_callSi (pc := 5) (As := [.long (σ.2 o0 1), .int a1]) (rest := []) C (c_X11_hasBit hw) pk_X11_hasBit (Or.inr (by decide +kernel)) (by decide) rfl rfl (Nat.le_of_ble_eq_true rfl) dX0_hasFelt_5 (fun r_1 σ_2 hw => ?_)
  exact v_zret (pc := 8) C r hw.1 hw.2 dX0_hasFelt_8

theorem c_X0_isWorn {l : Launch} {G : Gl} {o0 : Nat} {a1 : Int32} {σ : Mem} {P : Int32 → Mem → Prop} (h0 : kd o0 = (0, 0)) (hw : v_X0_isWorn o0 a1 σ P) : MetI l yX0_isWorn cX0_isWorn 2 .boolean 1 G [.ref (gA G o0), .int a1] σ P := by
  refine MetI.of RX0 (by decide +kernel) rfl (Nat.le_of_ble_eq_true rfl) (fun X C r => ?_)
  show V X G 2 0 [(0, .ref (gA G o0)), (1, .int a1)] [] σ
  unfold v_X0_isWorn at hw
  refine v_aload_n (pc := 0) 0 C dX0_isWorn_0 rfl rfl ?_
  refine g_0_2 (pc := 1) h0 C k_140 dX0_isWorn_1 ?_
  refine v_iload_n (pc := 4) 1 C dX0_isWorn_4 rfl rfl ?_
  refine v_callSi (pc := 5) (As := [.long (σ.2 o0 2), .int a1]) (rest := []) C (c_X11_hasBit hw) pk_X11_hasBit (Or.inr (by decide +kernel)) (by decide) rfl rfl (Nat.le_of_ble_eq_true rfl) dX0_isWorn_5 (fun r_1 σ_2 hw => ?_)
  exact v_zret (pc := 8) C r hw.1 hw.2 dX0_isWorn_8

theorem c_X0_setFelt {l : Launch} {G : Gl} {o0 : Nat} {a1 : Int32} {a2 : Int32} {σ : Mem} {P : Int32 → Mem → Prop} (h0 : kd o0 = (0, 0)) (hw : v_X0_setFelt o0 a1 a2 σ P) : MetI l yX0_setFelt cX0_setFelt 3 .boolean 2 G [.ref (gA G o0), .int a1, .int a2] σ P := by
  refine MetI.of RX0 (by decide +kernel) rfl (Nat.le_of_ble_eq_true rfl) (fun X C r => ?_)
  show V X G 3 0 [(0, .ref (gA G o0)), (1, .int a1), (2, .int a2)] [] σ
  unfold v_X0_setFelt at hw
  refine v_aload_n (pc := 0) 0 C dX0_setFelt_0 rfl rfl ?_
  refine v_iload_n (pc := 1) 1 C dX0_setFelt_1 rfl rfl ?_
  refine v_cVi (pc := 2) (o := o0) (As := [.int a1]) (rest := []) (ci := 0) C (c_X0_hasFelt h0 hw) pk_X0_hasFelt k_463 h0 (by decide) rfl (by decide) rfl rfl (Nat.le_of_ble_eq_true rfl) dX0_setFelt_2 (fun r_1 σ_2 hw => ?_)
  refine v_iload_n (pc := 5) 2 C dX0_setFelt_5 rfl rfl ?_
  refine v_icmp_ne (pc := 6) (tgt := 11) C dX0_setFelt_6 (by decide) (fun c => ?_) (fun c => ?_)
  · replace hw := hw.2 c
    refine v_aload_n (pc := 11) 0 C dX0_setFelt_11 rfl rfl ?_
    refine v_dup (pc := 12) C dX0_setFelt_12 rfl ?_
    refine g_0_1 (pc := 13) h0 C k_136 dX0_setFelt_13 ?_
    refine v_lconst (pc := 16) (v := 1) C dX0_setFelt_16 rfl ?_
    refine v_iload_n (pc := 17) 1 C dX0_setFelt_17 rfl rfl ?_
    refine v_lshl (pc := 18) C dX0_setFelt_18 ?_
    refine v_lxor (pc := 19) C dX0_setFelt_19 ?_
    refine p_0_1 (pc := 20) h0 C k_136 dX0_setFelt_20 ?_
    refine v_aload_n (pc := 23) 0 C dX0_setFelt_23 rfl rfl ?_
    refine v_dup (pc := 24) C dX0_setFelt_24 rfl ?_
    refine g_0_2 (pc := 25) h0 C k_140 dX0_setFelt_25 ?_
    refine v_lconst (pc := 28) (v := 1) C dX0_setFelt_28 rfl ?_
    refine v_iload_n (pc := 29) 1 C dX0_setFelt_29 rfl rfl ?_
    refine v_lshl (pc := 30) C dX0_setFelt_30 ?_
    refine v_ldc2 (pc := 31) C k_468 dX0_setFelt_31 ?_
    refine v_lxor (pc := 34) C dX0_setFelt_34 ?_
    refine v_land (pc := 35) C dX0_setFelt_35 ?_
    refine p_0_2 (pc := 36) h0 C k_140 dX0_setFelt_36 ?_
    refine v_iconst (pc := 39) (v := 1) C dX0_setFelt_39 (by decide) ?_
    exact v_zret (pc := 40) C r (Or.inr rfl) hw dX0_setFelt_40
  · replace hw := hw.1 c
    refine v_iconst (pc := 9) (v := 0) C dX0_setFelt_9 (by decide) ?_
    exact v_zret (pc := 10) C r (Or.inl rfl) hw dX0_setFelt_10

theorem c_X0_setWorn {l : Launch} {G : Gl} {o0 : Nat} {a1 : Int32} {a2 : Int32} {σ : Mem} {P : Int32 → Mem → Prop} (h0 : kd o0 = (0, 0)) (hw : v_X0_setWorn o0 a1 a2 σ P) : MetI l yX0_setWorn cX0_setWorn 3 .boolean 2 G [.ref (gA G o0), .int a1, .int a2] σ P := by
  refine MetI.of RX0 (by decide +kernel) rfl (Nat.le_of_ble_eq_true rfl) (fun X C r => ?_)
  show V X G 3 0 [(0, .ref (gA G o0)), (1, .int a1), (2, .int a2)] [] σ
  unfold v_X0_setWorn at hw
  refine v_aload_n (pc := 0) 0 C dX0_setWorn_0 rfl rfl ?_
  refine v_iload_n (pc := 1) 1 C dX0_setWorn_1 rfl rfl ?_
  refine v_cVi (pc := 2) (o := o0) (As := [.int a1]) (rest := []) (ci := 0) C (c_X0_isWorn h0 hw) pk_X0_isWorn k_485 h0 (by decide) rfl (by decide) rfl rfl (Nat.le_of_ble_eq_true rfl) dX0_setWorn_2 (fun r_1 σ_2 hw => ?_)
  refine v_iload_n (pc := 5) 2 C dX0_setWorn_5 rfl rfl ?_
  refine v_icmp_ne (pc := 6) (tgt := 11) C dX0_setWorn_6 (by decide) (fun c => ?_) (fun c => ?_)
  · replace hw := hw.2 c
    refine v_aload_n (pc := 11) 0 C dX0_setWorn_11 rfl rfl ?_
    refine v_dup (pc := 12) C dX0_setWorn_12 rfl ?_
    refine g_0_2 (pc := 13) h0 C k_140 dX0_setWorn_13 ?_
    refine v_lconst (pc := 16) (v := 1) C dX0_setWorn_16 rfl ?_
    refine v_iload_n (pc := 17) 1 C dX0_setWorn_17 rfl rfl ?_
    refine v_lshl (pc := 18) C dX0_setWorn_18 ?_
    refine v_lxor (pc := 19) C dX0_setWorn_19 ?_
    refine p_0_2 (pc := 20) h0 C k_140 dX0_setWorn_20 ?_
    refine v_iconst (pc := 23) (v := 1) C dX0_setWorn_23 (by decide) ?_
    exact v_zret (pc := 24) C r (Or.inr rfl) hw dX0_setWorn_24
  · replace hw := hw.1 c
    refine v_iconst (pc := 9) (v := 0) C dX0_setWorn_9 (by decide) ?_
    exact v_zret (pc := 10) C r (Or.inl rfl) hw dX0_setWorn_10

theorem c_X1_knows {l : Launch} {G : Gl} {a1 : Int32} {σ : Mem} {P : Int32 → Mem → Prop} (hw : v_X1_knows a1 σ P) : MetI l yX1_knows cX1_knows 2 .boolean 0 G [.ref (gA G 13), .int a1] σ P := by
  refine MetI.of RX1 (by decide +kernel) rfl (Nat.le_of_ble_eq_true rfl) (fun X C r => ?_)
  show V X G 2 0 [(0, .ref (gA G 13)), (1, .int a1)] [] σ
  unfold v_X1_knows at hw
  refine v_iload_n (pc := 0) 1 C dX1_knows_0 rfl rfl ?_
  refine v_if_lt (pc := 1) (tgt := 16) C dX1_knows_1 (by decide) (fun c => ?_) (fun c => ?_)
  · replace hw := hw.1 c
    refine v_iconst (pc := 16) (v := 0) C dX1_knows_16 (by decide) ?_
    exact v_zret (pc := 17) C r (Or.inl rfl) hw dX1_knows_17
  · replace hw := hw.2 c
    refine v_iload_n (pc := 4) 1 C dX1_knows_4 rfl rfl ?_
    refine v_aload_n (pc := 5) 0 C dX1_knows_5 rfl rfl ?_
    refine g_1_1 (pc := 6) C k_243 dX1_knows_6 ?_
    refine v_icmp_ge (pc := 9) (tgt := 16) C dX1_knows_9 (by decide) (fun c => ?_) (fun c => ?_)
    · replace hw := hw.1 c
      refine v_iconst (pc := 16) (v := 0) C dX1_knows_16 (by decide) ?_
      exact v_zret (pc := 17) C r (Or.inl rfl) hw dX1_knows_17
    · replace hw := hw.2 c
      refine v_iconst (pc := 12) (v := 1) C dX1_knows_12 (by decide) ?_
      refine v_goto (pc := 13) (tgt := 17) C dX1_knows_13 (by decide) ?_
      exact v_zret (pc := 17) C r (Or.inr rfl) hw dX1_knows_17

theorem c_X1_isFull {l : Launch} {G : Gl} {σ : Mem} {P : Int32 → Mem → Prop} (hw : v_X1_isFull σ P) : MetI l yX1_isFull cX1_isFull 1 .boolean 0 G [.ref (gA G 13)] σ P := by
  refine MetI.of RX1 (by decide +kernel) rfl (Nat.le_of_ble_eq_true rfl) (fun X C r => ?_)
  show V X G 1 0 [(0, .ref (gA G 13))] [] σ
  unfold v_X1_isFull at hw
  refine v_aload_n (pc := 0) 0 C dX1_isFull_0 rfl rfl ?_
  refine g_1_1 (pc := 1) C k_243 dX1_isFull_1 ?_
  refine v_bipush (pc := 4) (v := 8) C dX1_isFull_4 (by decide) ?_
  refine v_icmp_lt (pc := 6) (tgt := 13) C dX1_isFull_6 (by decide) (fun c => ?_) (fun c => ?_)
  · replace hw := hw.1 c
    refine v_iconst (pc := 13) (v := 0) C dX1_isFull_13 (by decide) ?_
    exact v_zret (pc := 14) C r (Or.inl rfl) hw dX1_isFull_14
  · replace hw := hw.2 c
    refine v_iconst (pc := 9) (v := 1) C dX1_isFull_9 (by decide) ?_
    refine v_goto (pc := 10) (tgt := 14) C dX1_isFull_10 (by decide) ?_
    exact v_zret (pc := 14) C r (Or.inr rfl) hw dX1_isFull_14

theorem c_X1_all {l : Launch} {G : Gl} {σ : Mem} {P : Int32 → Mem → Prop} (hw : v_X1_all σ P) : MetI l yX1_all cX1_all 1 .int 0 G [.ref (gA G 13)] σ P := by
  refine MetI.of RX1 (by decide +kernel) rfl (Nat.le_of_ble_eq_true rfl) (fun X C r => ?_)
  show V X G 1 0 [(0, .ref (gA G 13))] [] σ
  unfold v_X1_all at hw
  refine v_iconst (pc := 0) (v := 1) C dX1_all_0 (by decide) ?_
  refine v_aload_n (pc := 1) 0 C dX1_all_1 rfl rfl ?_
  refine g_1_1 (pc := 2) C k_243 dX1_all_2 ?_
  refine v_ishl (pc := 5) C dX1_all_5 ?_
  refine v_iconst (pc := 6) (v := 1) C dX1_all_6 (by decide) ?_
  refine v_isub (pc := 7) C dX1_all_7 ?_
  exact v_iret (pc := 8) C r hw dX1_all_8

theorem w_X1_add_L30 {X : Cx} {G : Gl} {P : Int32 → Mem → Prop} {o1 : Nat} {x2 : Int32} {x3 : Int32} {x4 : Int32} (C : Ck X G RX1 cX1_add 6 0) (r : RetI X G .int P) (h1 : kd o1 = (8, 0)) : ∀ (n : Nat) (x5 : Int32) (σ : Mem), v_X1_add_L30 o1 x2 x3 x4 P n x5 σ → V X G 6 30 [(0, .ref (gA G 13)), (1, .ref (gA G o1)), (2, .int x2), (3, .int x3), (4, .int x4), (5, .int x5)] [] σ := by
  intro n
  induction n with
  | zero => intro x5 σ hw; exact hw.elim
  | succ n ih =>
    intro x5 σ hw
    refine v_iload (pc := 30) 5 C dX1_add_30 rfl ?_
    refine v_iload_n (pc := 32) 3 C dX1_add_32 rfl rfl ?_
    refine v_icmp_ge (pc := 33) (tgt := 92) C dX1_add_33 (by decide) (fun c => ?_) (fun c => ?_)
    · replace hw := hw.1 c
      refine v_iload (pc := 92) 4 C dX1_add_92 rfl ?_
      exact v_iret (pc := 94) C r hw dX1_add_94
    · replace hw := hw.2 c
      refine v_aload_n (pc := 36) 0 C dX1_add_36 rfl rfl ?_
      refine g_1_0 (pc := 37) C k_239 dX1_add_37 ?_
      refine v_iload (pc := 40) 4 C dX1_add_40 rfl ?_
      have q_2 := hw.1
      refine v_aldG (pc := 42) C rfl q_2 dX1_add_42 ?_
      replace hw := hw.2
      refine g_9_0 (pc := 43) ((kd_song (vp_lt q_2)).1) C k_214 dX1_add_43 ?_
      refine v_iload (pc := 46) 5 C dX1_add_46 rfl ?_
      refine v_aload_n (pc := 48) 1 C dX1_add_48 rfl rfl ?_
      refine g_8_0 (pc := 49) h1 C k_339 dX1_add_49 ?_
      refine v_iload_n (pc := 52) 2 C dX1_add_52 rfl rfl ?_
      refine v_iconst (pc := 53) (v := 2) C dX1_add_53 (by decide) ?_
      refine v_iload (pc := 54) 5 C dX1_add_54 rfl ?_
      refine v_imul (pc := 56) C dX1_add_56 ?_
      refine v_iadd (pc := 57) C dX1_add_57 ?_
      refine v_iald (pc := 58) C (kds_8 _ (kd_lt h1 (by decide)) h1) hw.1 dX1_add_58 ?_
      replace hw := hw.2
      refine v_iast (pc := 59) C ((kds_9 _ (kd_lt ((kd_song (vp_lt q_2)).1) (by decide)) ((kd_song (vp_lt q_2)).1)).1) hw.1 dX1_add_59 ?_
      replace hw := hw.2
      refine v_aload_n (pc := 60) 0 C dX1_add_60 rfl rfl ?_
      refine g_1_0 (pc := 61) C k_239 dX1_add_61 ?_
      refine v_iload (pc := 64) 4 C dX1_add_64 rfl ?_
      have q_3 := hw.1
      refine v_aldG (pc := 66) C rfl q_3 dX1_add_66 ?_
      replace hw := hw.2
      refine g_9_1 (pc := 67) ((kd_song (vp_lt q_3)).1) C k_216 dX1_add_67 ?_
      refine v_iload (pc := 70) 5 C dX1_add_70 rfl ?_
      refine v_aload_n (pc := 72) 1 C dX1_add_72 rfl rfl ?_
      refine g_8_0 (pc := 73) h1 C k_339 dX1_add_73 ?_
      refine v_iload_n (pc := 76) 2 C dX1_add_76 rfl rfl ?_
      refine v_iconst (pc := 77) (v := 2) C dX1_add_77 (by decide) ?_
      refine v_iload (pc := 78) 5 C dX1_add_78 rfl ?_
      refine v_imul (pc := 80) C dX1_add_80 ?_
      refine v_iadd (pc := 81) C dX1_add_81 ?_
      refine v_iconst (pc := 82) (v := 1) C dX1_add_82 (by decide) ?_
      refine v_iadd (pc := 83) C dX1_add_83 ?_
      refine v_iald (pc := 84) C (kds_8 _ (kd_lt h1 (by decide)) h1) hw.1 dX1_add_84 ?_
      replace hw := hw.2
      refine v_iast (pc := 85) C ((kds_9 _ (kd_lt ((kd_song (vp_lt q_3)).1) (by decide)) ((kd_song (vp_lt q_3)).1)).2) hw.1 dX1_add_85 ?_
      replace hw := hw.2
      refine v_iinc (pc := 86) (v := x5 + 1) 5 C dX1_add_86 rfl rfl (by decide) rfl ?_
      refine v_goto (pc := 89) (tgt := 30) C dX1_add_89 (by decide) ?_
      refine v_sub [1, 2, 3, 4, 5, 0] rfl ?_
      exact ih _ _ hw

theorem c_X1_add {l : Launch} {G : Gl} {o1 : Nat} {a2 : Int32} {a3 : Int32} {σ : Mem} {P : Int32 → Mem → Prop} (h1 : kd o1 = (8, 0)) (hw : v_X1_add o1 a2 a3 σ P) : MetI l yX1_add cX1_add 6 .int 0 G [.ref (gA G 13), .ref (gA G o1), .int a2, .int a3] σ P := by
  refine MetI.of RX1 (by decide +kernel) rfl (Nat.le_of_ble_eq_true rfl) (fun X C r => ?_)
  show V X G 6 0 [(0, .ref (gA G 13)), (1, .ref (gA G o1)), (2, .int a2), (3, .int a3)] [] σ
  unfold v_X1_add at hw
  refine v_aload_n (pc := 0) 0 C dX1_add_0 rfl rfl ?_
  refine g_1_1 (pc := 1) C k_243 dX1_add_1 ?_
  refine v_istore (pc := 4) C dX1_add_4 (by decide) rfl ?_
  refine v_aload_n (pc := 6) 1 C dX1_add_6 rfl rfl ?_
  refine v_dup (pc := 7) C dX1_add_7 rfl ?_
  refine g_1_1 (pc := 8) C k_243 dX1_add_8 ?_
  refine v_iconst (pc := 11) (v := 1) C dX1_add_11 (by decide) ?_
  refine v_iadd (pc := 12) C dX1_add_12 ?_
  refine p_1_1 (pc := 13) C k_243 dX1_add_13 ?_
  refine v_aload_n (pc := 16) 1 C dX1_add_16 rfl rfl ?_
  refine g_1_0 (pc := 17) C k_239 dX1_add_17 ?_
  refine v_iload (pc := 20) 0 C dX1_add_20 rfl ?_
  have q_1 := hw.1
  refine v_aldG (pc := 22) C rfl q_1 dX1_add_22 ?_
  replace hw := hw.2
  refine v_iload_n (pc := 23) 4 C dX1_add_23 rfl rfl ?_
  refine p_9_2 (pc := 24) ((kd_song (vp_lt q_1)).1) C k_220 dX1_add_24 ?_
  refine v_iconst (pc := 27) (v := 0) C dX1_add_27 (by decide) ?_
  refine v_istore (pc := 28) C dX1_add_28 (by decide) rfl ?_
  refine v_sub [2, 3, 4, 5, 1, 0] rfl ?_
  refine w_X1_add_L30 C r h1 5000 _ _ hw

theorem c_J9_floorMod_7cf53 {l : Launch} {G : Gl} {a0 : Int32} {a1 : Int32} {σ : Mem} {P : Int32 → Mem → Prop} (hw : v_J9_floorMod_7cf53 a0 a1 σ P) : MetI l yJ9_floorMod_7cf53 cJ9_floorMod_7cf53 3 .int 0 G [.int a0, .int a1] σ P := by
  refine MetI_ofF RJ9 (by decide +kernel) rfl (Nat.le_of_ble_eq_true rfl) (fun X C r => ?_)
  show V X G 3 0 [(0, .int a0), (1, .int a1)] [] σ
  unfold v_J9_floorMod_7cf53 at hw
  refine v_iload_n (pc := 0) 0 C dJ9_floorMod_7cf53_0 rfl rfl ?_
  refine v_iload_n (pc := 1) 1 C dJ9_floorMod_7cf53_1 rfl rfl ?_
  refine v_irem (pc := 2) C dJ9_floorMod_7cf53_2 hw.1 ?_
  replace hw := hw.2
  refine v_istore_n (pc := 3) C dJ9_floorMod_7cf53_3 rfl (by decide) rfl ?_
  refine v_iload_n (pc := 4) 1 C dJ9_floorMod_7cf53_4 rfl rfl ?_
  refine v_iload_n (pc := 5) 2 C dJ9_floorMod_7cf53_5 rfl rfl ?_
  refine v_ixor (pc := 6) C dJ9_floorMod_7cf53_6 ?_
  refine v_if_ge (pc := 7) (tgt := 18) C dJ9_floorMod_7cf53_7 (by decide) (fun c => ?_) (fun c => ?_)
  · replace hw := hw.1 c
    refine v_iload_n (pc := 18) 0 C dJ9_floorMod_7cf53_18 rfl rfl ?_
    exact v_iret (pc := 19) C r hw dJ9_floorMod_7cf53_19
  · replace hw := hw.2 c
    refine v_iload_n (pc := 10) 0 C dJ9_floorMod_7cf53_10 rfl rfl ?_
    refine v_if_eq (pc := 11) (tgt := 18) C dJ9_floorMod_7cf53_11 (by decide) (fun c => ?_) (fun c => ?_)
    · replace hw := hw.1 c
      refine v_iload_n (pc := 18) 0 C dJ9_floorMod_7cf53_18 rfl rfl ?_
      exact v_iret (pc := 19) C r hw dJ9_floorMod_7cf53_19
    · replace hw := hw.2 c
      refine v_iload_n (pc := 14) 0 C dJ9_floorMod_7cf53_14 rfl rfl ?_
      refine v_iload_n (pc := 15) 2 C dJ9_floorMod_7cf53_15 rfl rfl ?_
      refine v_iadd (pc := 16) C dJ9_floorMod_7cf53_16 ?_
      exact v_iret (pc := 17) C r hw dJ9_floorMod_7cf53_17

theorem c_X9_chordIn {l : Launch} {G : Gl} {o0 : Nat} {a1 : Int32} {a2 : Int32} {σ : Mem} {P : Int32 → Mem → Prop} (h0 : kd o0 = (9, 0)) (hw : v_X9_chordIn o0 a1 a2 σ P) : MetI l yX9_chordIn cX9_chordIn 4 .int 1 G [.ref (gA G o0), .int a1, .int a2] σ P := by
  refine MetI.of RX9 (by decide +kernel) rfl (Nat.le_of_ble_eq_true rfl) (fun X C r => ?_)
  show V X G 4 0 [(0, .ref (gA G o0)), (1, .int a1), (2, .int a2)] [] σ
  unfold v_X9_chordIn at hw
  refine v_aload_n (pc := 0) 0 C dX9_chordIn_0 rfl rfl ?_
  refine g_9_0 (pc := 1) h0 C k_213 dX9_chordIn_1 ?_
  refine v_iload_n (pc := 4) 2 C dX9_chordIn_4 rfl rfl ?_
  refine v_iald (pc := 5) C ((kds_9 _ (kd_lt h0 (by decide)) h0).1) hw.1 dX9_chordIn_5 ?_
  replace hw := hw.2
  refine v_bipush (pc := 6) (v := 12) C dX9_chordIn_6 (by decide) ?_
  refine v_irem (pc := 8) C dX9_chordIn_8 (by decide) ?_
  refine v_topi (fun y_1 ey_1 => ?_)
  replace hw := hw y_1 ey_1
  refine v_istore_n (pc := 9) C dX9_chordIn_9 rfl (by decide) rfl ?_
  refine v_aload_n (pc := 10) 1 C dX9_chordIn_10 rfl rfl ?_
  refine g_9_0 (pc := 11) h0 C k_213 dX9_chordIn_11 ?_
  refine v_iload_n (pc := 14) 3 C dX9_chordIn_14 rfl rfl ?_
  refine v_iald (pc := 15) C ((kds_9 _ (kd_lt h0 (by decide)) h0).1) hw.1 dX9_chordIn_15 ?_
  replace hw := hw.2
  refine v_iload_n (pc := 16) 0 C dX9_chordIn_16 rfl rfl ?_
  refine v_isub (pc := 17) C dX9_chordIn_17 ?_
  refine v_iload_n (pc := 18) 0 C dX9_chordIn_18 rfl rfl ?_
  refine v_iload_n (pc := 19) 2 C dX9_chordIn_19 rfl rfl ?_
  refine v_iadd (pc := 20) C dX9_chordIn_20 ?_
  refine v_bipush (pc := 21) (v := 12) C dX9_chordIn_21 (by decide) ?_
  refine v_callSi (pc := 23) (As := [.int (y_1 + a1), .int 12]) (rest := [.int ((σ.1 (o0 + 8) (Int32.toNatClampNeg a2)) - y_1)]) C (c_J9_floorMod_7cf53 hw) pk_J9_floorMod_7cf53 (Or.inl k_686) (by decide) rfl rfl (Nat.le_of_ble_eq_true rfl) dX9_chordIn_23 (fun r_2 σ_3 hw => ?_)
  refine v_iadd (pc := 26) C dX9_chordIn_26 ?_
  exact v_iret (pc := 27) C r hw dX9_chordIn_27

theorem c_X11_classesOf {l : Launch} {G : Gl} {a0 : Int32} {σ : Mem} {P : Int32 → Mem → Prop} (hw : v_X11_classesOf a0 σ P) : MetI l yX11_classesOf cX11_classesOf 3 .int 1 G [.int a0] σ P := by
  refine MetI.of RX11 (by decide +kernel) rfl (Nat.le_of_ble_eq_true rfl) (fun X C r => ?_)
  show V X G 3 0 [(0, .int a0)] [] σ
  unfold v_X11_classesOf at hw
  refine v_iload_n (pc := 0) 0 C dX11_classesOf_0 rfl rfl ?_
  refine v_callSi (pc := 1) (As := [.int a0]) (rest := []) C (c_X11_isChord hw) pk_X11_isChord (Or.inl k_426) (by decide) rfl rfl (Nat.le_of_ble_eq_true rfl) dX11_classesOf_1 (fun r_1 σ_2 hw => ?_)
  refine v_if_ne (pc := 4) (tgt := 9) C dX11_classesOf_4 (by decide) (fun c => ?_) (fun c => ?_)
  · replace hw := hw.2 c
    refine v_sorts (pc := 9) C k_436 dX11_classesOf_9 ?_
    refine v_iload_n (pc := 12) 0 C dX11_classesOf_12 rfl rfl ?_
    refine v_bipush (pc := 13) (v := 12) C dX11_classesOf_13 (by decide) ?_
    refine v_idiv (pc := 15) C dX11_classesOf_15 (by decide) ?_
    refine v_sld (pc := 16) C C.S.1 hw.1 dX11_classesOf_16 ?_
    replace hw := hw.2
    refine v_istore_n (pc := 17) C dX11_classesOf_17 rfl (by decide) rfl ?_
    refine v_iload_n (pc := 18) 1 C dX11_classesOf_18 rfl rfl ?_
    refine v_bipush (pc := 19) (v := 12) C dX11_classesOf_19 (by decide) ?_
    refine v_irem (pc := 21) C dX11_classesOf_21 (by decide) ?_
    refine v_istore_n (pc := 22) C dX11_classesOf_22 rfl (by decide) rfl ?_
    refine v_iload_n (pc := 23) 1 C dX11_classesOf_23 rfl rfl ?_
    refine v_iload_n (pc := 24) 0 C dX11_classesOf_24 rfl rfl ?_
    refine v_ishl (pc := 25) C dX11_classesOf_25 ?_
    refine v_iload_n (pc := 26) 1 C dX11_classesOf_26 rfl rfl ?_
    refine v_bipush (pc := 27) (v := 12) C dX11_classesOf_27 (by decide) ?_
    refine v_iload_n (pc := 29) 0 C dX11_classesOf_29 rfl rfl ?_
    refine v_isub (pc := 30) C dX11_classesOf_30 ?_
    refine v_iushr (pc := 31) C dX11_classesOf_31 ?_
    refine v_ior (pc := 32) C dX11_classesOf_32 ?_
    refine v_sipush (pc := 33) (v := 4095) C dX11_classesOf_33 (by decide) ?_
    refine v_iand (pc := 36) C dX11_classesOf_36 ?_
    exact v_iret (pc := 37) C r hw dX11_classesOf_37
  · replace hw := hw.1 c
    refine v_iconst (pc := 7) (v := 0) C dX11_classesOf_7 (by decide) ?_
    exact v_iret (pc := 8) C r hw dX11_classesOf_8

theorem w_X4_seekHold_L2 {X : Cx} {G : Gl} {P : Int32 → Mem → Prop} {x1 : Int32} (C : Ck X G RX4 cX4_seekHold 3 0) (r : RetI X G .int P) : ∀ (n : Nat) (x2 : Int32) (σ : Mem), v_X4_seekHold_L2 x1 P n x2 σ → V X G 3 2 [(0, .ref (gA G 7)), (1, .int x1), (2, .int x2)] [] σ := by
  intro n
  induction n with
  | zero => intro x2 σ hw; exact hw.elim
  | succ n ih =>
    intro x2 σ hw
    refine v_iload_n (pc := 2) 2 C dX4_seekHold_2 rfl rfl ?_
    refine v_aload_n (pc := 3) 0 C dX4_seekHold_3 rfl rfl ?_
    refine g_4_5 (pc := 4) C k_185 dX4_seekHold_4 ?_
    refine v_icmp_ge (pc := 7) (tgt := 28) C dX4_seekHold_7 (by decide) (fun c => ?_) (fun c => ?_)
    · replace hw := hw.1 c
      refine v_iconst (pc := 28) (v := 0) C dX4_seekHold_28 (by decide) ?_
      exact v_iret (pc := 29) C r hw dX4_seekHold_29
    · replace hw := hw.2 c
      refine v_aload_n (pc := 10) 0 C dX4_seekHold_10 rfl rfl ?_
      refine g_4_2 (pc := 11) C k_181 dX4_seekHold_11 ?_
      refine v_iload_n (pc := 14) 2 C dX4_seekHold_14 rfl rfl ?_
      refine v_iald (pc := 15) C rfl hw.1 dX4_seekHold_15 ?_
      replace hw := hw.2
      refine v_iload_n (pc := 16) 1 C dX4_seekHold_16 rfl rfl ?_
      refine v_icmp_ne (pc := 17) (tgt := 22) C dX4_seekHold_17 (by decide) (fun c => ?_) (fun c => ?_)
      · replace hw := hw.2 c
        refine v_iinc (pc := 22) (v := x2 + 1) 2 C dX4_seekHold_22 rfl rfl (by decide) rfl ?_
        refine v_goto (pc := 25) (tgt := 2) C dX4_seekHold_25 (by decide) ?_
        refine v_sub [1, 2, 0] rfl ?_
        exact ih _ _ hw
      · replace hw := hw.1 c
        refine v_iload_n (pc := 20) 2 C dX4_seekHold_20 rfl rfl ?_
        exact v_iret (pc := 21) C r hw dX4_seekHold_21

theorem c_X4_seekHold {l : Launch} {G : Gl} {a1 : Int32} {σ : Mem} {P : Int32 → Mem → Prop} (hw : v_X4_seekHold a1 σ P) : MetI l yX4_seekHold cX4_seekHold 3 .int 0 G [.ref (gA G 7), .int a1] σ P := by
  refine MetI.of RX4 (by decide +kernel) rfl (Nat.le_of_ble_eq_true rfl) (fun X C r => ?_)
  show V X G 3 0 [(0, .ref (gA G 7)), (1, .int a1)] [] σ
  unfold v_X4_seekHold at hw
  refine v_iconst (pc := 0) (v := 1) C dX4_seekHold_0 (by decide) ?_
  refine v_istore_n (pc := 1) C dX4_seekHold_1 rfl (by decide) rfl ?_
  refine v_sub [1, 2, 0] rfl ?_
  refine w_X4_seekHold_L2 C r 5000 _ _ hw

theorem c_X4_holdOf {l : Launch} {G : Gl} {a1 : Int32} {σ : Mem} {P : Int32 → Mem → Prop} (hw : v_X4_holdOf a1 σ P) : MetI l yX4_holdOf cX4_holdOf 2 .int 2 G [.ref (gA G 7), .int a1] σ P := by
  refine MetI.of RX4 (by decide +kernel) rfl (Nat.le_of_ble_eq_true rfl) (fun X C r => ?_)
  show V X G 2 0 [(0, .ref (gA G 7)), (1, .int a1)] [] σ
  unfold v_X4_holdOf at hw
  refine v_aload_n (pc := 0) 0 C dX4_holdOf_0 rfl rfl ?_
  refine g_4_3 (pc := 1) C k_183 dX4_holdOf_1 ?_
  refine v_iload_n (pc := 4) 1 C dX4_holdOf_4 rfl rfl ?_
  refine v_iald (pc := 5) C rfl hw.1 dX4_holdOf_5 ?_
  replace hw := hw.2
  refine v_iconst (pc := 6) (v := (-1)) C dX4_holdOf_6 (by decide) ?_
  refine v_icmp_ne (pc := 7) (tgt := 24) C dX4_holdOf_7 (by decide) (fun c => ?_) (fun c => ?_)
  · replace hw := hw.2 c
    refine v_aload_n (pc := 24) 0 C dX4_holdOf_24 rfl rfl ?_
    refine g_4_3 (pc := 25) C k_183 dX4_holdOf_25 ?_
    refine v_iload_n (pc := 28) 1 C dX4_holdOf_28 rfl rfl ?_
    refine v_iald (pc := 29) C rfl hw.1 dX4_holdOf_29 ?_
    replace hw := hw.2
    exact v_iret (pc := 30) C r hw dX4_holdOf_30
  · replace hw := hw.1 c
    refine v_aload_n (pc := 10) 0 C dX4_holdOf_10 rfl rfl ?_
    refine g_4_3 (pc := 11) C k_183 dX4_holdOf_11 ?_
    refine v_iload_n (pc := 14) 1 C dX4_holdOf_14 rfl rfl ?_
    refine v_aload_n (pc := 15) 0 C dX4_holdOf_15 rfl rfl ?_
    refine v_iload_n (pc := 16) 1 C dX4_holdOf_16 rfl rfl ?_
    refine v_callSi (pc := 17) (As := [.int a1]) (rest := [.ref (gA G 7), .int a1, .ref (gA G 11)]) C (c_X11_classesOf hw) pk_X11_classesOf (Or.inr (by decide +kernel)) (by decide) rfl rfl (Nat.le_of_ble_eq_true rfl) dX4_holdOf_17 (fun r_1 σ_2 hw => ?_)
    refine v_cVi (pc := 20) (o := 7) (As := [.int r_1]) (rest := [.int a1, .ref (gA G 11)]) (ci := 4) C (c_X4_seekHold hw) pk_X4_seekHold k_591 rfl (by decide) rfl (by decide) rfl rfl (Nat.le_of_ble_eq_true rfl) dX4_holdOf_20 (fun r_3 σ_4 hw => ?_)
    refine v_iast (pc := 23) C rfl hw.1 dX4_holdOf_23 ?_
    replace hw := hw.2
    refine v_aload_n (pc := 24) 0 C dX4_holdOf_24 rfl rfl ?_
    refine g_4_3 (pc := 25) C k_183 dX4_holdOf_25 ?_
    refine v_iload_n (pc := 28) 1 C dX4_holdOf_28 rfl rfl ?_
    refine v_iald (pc := 29) C rfl hw.1 dX4_holdOf_29 ?_
    replace hw := hw.2
    exact v_iret (pc := 30) C r hw dX4_holdOf_30

theorem c_X9_noteIn {l : Launch} {G : Gl} {o0 : Nat} {a1 : Int32} {a2 : Int32} {σ : Mem} {P : Int32 → Mem → Prop} (h0 : kd o0 = (9, 0)) (hw : v_X9_noteIn o0 a1 a2 σ P) : MetI l yX9_noteIn cX9_noteIn 3 .int 0 G [.ref (gA G o0), .int a1, .int a2] σ P := by
  refine MetI.of RX9 (by decide +kernel) rfl (Nat.le_of_ble_eq_true rfl) (fun X C r => ?_)
  show V X G 3 0 [(0, .ref (gA G o0)), (1, .int a1), (2, .int a2)] [] σ
  unfold v_X9_noteIn at hw
  refine v_aload_n (pc := 0) 0 C dX9_noteIn_0 rfl rfl ?_
  refine g_9_1 (pc := 1) h0 C k_215 dX9_noteIn_1 ?_
  refine v_iload_n (pc := 4) 2 C dX9_noteIn_4 rfl rfl ?_
  refine v_iald (pc := 5) C ((kds_9 _ (kd_lt h0 (by decide)) h0).2) hw.1 dX9_noteIn_5 ?_
  replace hw := hw.2
  refine v_iload_n (pc := 6) 1 C dX9_noteIn_6 rfl rfl ?_
  refine v_iadd (pc := 7) C dX9_noteIn_7 ?_
  exact v_iret (pc := 8) C r hw dX9_noteIn_8

theorem c_X9_hasNote {l : Launch} {G : Gl} {o0 : Nat} {a1 : Int32} {σ : Mem} {P : Int32 → Mem → Prop} (h0 : kd o0 = (9, 0)) (hw : v_X9_hasNote o0 a1 σ P) : MetI l yX9_hasNote cX9_hasNote 2 .boolean 0 G [.ref (gA G o0), .int a1] σ P := by
  refine MetI.of RX9 (by decide +kernel) rfl (Nat.le_of_ble_eq_true rfl) (fun X C r => ?_)
  show V X G 2 0 [(0, .ref (gA G o0)), (1, .int a1)] [] σ
  unfold v_X9_hasNote at hw
  refine v_aload_n (pc := 0) 0 C dX9_hasNote_0 rfl rfl ?_
  refine g_9_1 (pc := 1) h0 C k_215 dX9_hasNote_1 ?_
  refine v_iload_n (pc := 4) 1 C dX9_hasNote_4 rfl rfl ?_
  refine v_iald (pc := 5) C ((kds_9 _ (kd_lt h0 (by decide)) h0).2) hw.1 dX9_hasNote_5 ?_
  replace hw := hw.2
  refine v_iconst (pc := 6) (v := (-1)) C dX9_hasNote_6 (by decide) ?_
  refine v_icmp_eq (pc := 7) (tgt := 14) C dX9_hasNote_7 (by decide) (fun c => ?_) (fun c => ?_)
  · replace hw := hw.1 c
    refine v_iconst (pc := 14) (v := 0) C dX9_hasNote_14 (by decide) ?_
    exact v_zret (pc := 15) C r (Or.inl rfl) hw dX9_hasNote_15
  · replace hw := hw.2 c
    refine v_iconst (pc := 10) (v := 1) C dX9_hasNote_10 (by decide) ?_
    refine v_goto (pc := 11) (tgt := 15) C dX9_hasNote_11 (by decide) ?_
    exact v_zret (pc := 15) C r (Or.inr rfl) hw dX9_hasNote_15

theorem c_X11_isTone {l : Launch} {G : Gl} {a0 : Int32} {σ : Mem} {P : Int32 → Mem → Prop} (hw : v_X11_isTone a0 σ P) : MetI l yX11_isTone cX11_isTone 1 .boolean 0 G [.int a0] σ P := by
  refine MetI.of RX11 (by decide +kernel) rfl (Nat.le_of_ble_eq_true rfl) (fun X C r => ?_)
  show V X G 1 0 [(0, .int a0)] [] σ
  unfold v_X11_isTone at hw
  refine v_iload_n (pc := 0) 0 C dX11_isTone_0 rfl rfl ?_
  refine v_if_lt (pc := 1) (tgt := 14) C dX11_isTone_1 (by decide) (fun c => ?_) (fun c => ?_)
  · replace hw := hw.1 c
    refine v_iconst (pc := 14) (v := 0) C dX11_isTone_14 (by decide) ?_
    exact v_zret (pc := 15) C r (Or.inl rfl) hw dX11_isTone_15
  · replace hw := hw.2 c
    refine v_iload_n (pc := 4) 0 C dX11_isTone_4 rfl rfl ?_
    refine v_bipush (pc := 5) (v := 61) C dX11_isTone_5 (by decide) ?_
    refine v_icmp_ge (pc := 7) (tgt := 14) C dX11_isTone_7 (by decide) (fun c => ?_) (fun c => ?_)
    · replace hw := hw.1 c
      refine v_iconst (pc := 14) (v := 0) C dX11_isTone_14 (by decide) ?_
      exact v_zret (pc := 15) C r (Or.inl rfl) hw dX11_isTone_15
    · replace hw := hw.2 c
      refine v_iconst (pc := 10) (v := 1) C dX11_isTone_10 (by decide) ?_
      refine v_goto (pc := 11) (tgt := 15) C dX11_isTone_11 (by decide) ?_
      exact v_zret (pc := 15) C r (Or.inr rfl) hw dX11_isTone_15

theorem c_X4_lacksNote {l : Launch} {G : Gl} {o1 : Nat} {a2 : Int32} {a3 : Int32} {a4 : Int32} {σ : Mem} {P : Int32 → Mem → Prop} (h1 : kd o1 = (9, 0)) (hw : v_X4_lacksNote o1 a2 a3 a4 σ P) : MetI l yX4_lacksNote cX4_lacksNote 6 .boolean 1 G [.ref (gA G 7), .ref (gA G o1), .int a2, .int a3, .int a4] σ P := by
  refine MetI.of RX4 (by decide +kernel) rfl (Nat.le_of_ble_eq_true rfl) (fun X C r => ?_)
  show V X G 6 0 [(0, .ref (gA G 7)), (1, .ref (gA G o1)), (2, .int a2), (3, .int a3), (4, .int a4)] [] σ
  unfold v_X4_lacksNote at hw
  refine v_aload_n (pc := 0) 1 C dX4_lacksNote_0 rfl rfl ?_
  refine v_iload_n (pc := 1) 2 C dX4_lacksNote_1 rfl rfl ?_
  refine v_iload_n (pc := 2) 3 C dX4_lacksNote_2 rfl rfl ?_
  refine v_cVi (pc := 3) (o := o1) (As := [.int a2, .int a3]) (rest := []) (ci := 9) C (c_X9_noteIn h1 hw) pk_X9_noteIn k_711 h1 (by decide) rfl (by decide) rfl rfl (Nat.le_of_ble_eq_true rfl) dX4_lacksNote_3 (fun r_1 σ_2 hw => ?_)
  refine v_istore (pc := 6) C dX4_lacksNote_6 (by decide) rfl ?_
  refine v_aload_n (pc := 8) 2 C dX4_lacksNote_8 rfl rfl ?_
  refine v_iload_n (pc := 9) 4 C dX4_lacksNote_9 rfl rfl ?_
  refine v_cVi (pc := 10) (o := o1) (As := [.int a3]) (rest := []) (ci := 9) C (c_X9_hasNote h1 hw) pk_X9_hasNote k_712 h1 (by decide) rfl (by decide) rfl rfl (Nat.le_of_ble_eq_true rfl) dX4_lacksNote_10 (fun r_3 σ_4 hw => ?_)
  refine v_if_eq (pc := 13) (tgt := 48) C dX4_lacksNote_13 (by decide) (fun c => ?_) (fun c => ?_)
  · replace hw := hw.1 c
    refine v_iconst (pc := 48) (v := 0) C dX4_lacksNote_48 (by decide) ?_
    exact v_zret (pc := 49) C r (Or.inl rfl) hw dX4_lacksNote_49
  · replace hw := hw.2 c
    refine v_iload (pc := 16) 0 C dX4_lacksNote_16 rfl ?_
    refine v_callSi (pc := 18) (As := [.int r_1]) (rest := []) C (c_X11_isTone hw) pk_X11_isTone (Or.inr (by decide +kernel)) (by decide) rfl rfl (Nat.le_of_ble_eq_true rfl) dX4_lacksNote_18 (fun r_5 σ_6 hw => ?_)
    refine v_if_eq (pc := 21) (tgt := 44) C dX4_lacksNote_21 (by decide) (fun c => ?_) (fun c => ?_)
    · replace hw := hw.1 c
      refine v_iconst (pc := 44) (v := 1) C dX4_lacksNote_44 (by decide) ?_
      refine v_goto (pc := 45) (tgt := 49) C dX4_lacksNote_45 (by decide) ?_
      exact v_zret (pc := 49) C r (Or.inr rfl) hw dX4_lacksNote_49
    · replace hw := hw.2 c
      refine v_aload_n (pc := 24) 1 C dX4_lacksNote_24 rfl rfl ?_
      refine g_4_4 (pc := 25) C k_184 dX4_lacksNote_25 ?_
      refine v_iload (pc := 28) 0 C dX4_lacksNote_28 rfl ?_
      refine v_lald (pc := 30) C rfl hw.1 dX4_lacksNote_30 ?_
      replace hw := hw.2
      refine v_aload_n (pc := 31) 1 C dX4_lacksNote_31 rfl rfl ?_
      refine g_4_1 (pc := 32) C k_180 dX4_lacksNote_32 ?_
      refine v_iload (pc := 35) 5 C dX4_lacksNote_35 rfl ?_
      refine v_lald (pc := 37) C rfl hw.1 dX4_lacksNote_37 ?_
      replace hw := hw.2
      refine v_land (pc := 38) C dX4_lacksNote_38 ?_
      refine v_lconst (pc := 39) (v := 0) C dX4_lacksNote_39 rfl ?_
      refine v_lcmp_ne (pc := 40) (tgt := 48) C dX4_lacksNote_40 dX4_lacksNote_41 (by decide) (fun c => ?_) (fun c => ?_)
      · replace hw := hw.2 c
        refine v_iconst (pc := 48) (v := 0) C dX4_lacksNote_48 (by decide) ?_
        exact v_zret (pc := 49) C r (Or.inl rfl) hw dX4_lacksNote_49
      · replace hw := hw.1 c
        refine v_iconst (pc := 44) (v := 1) C dX4_lacksNote_44 (by decide) ?_
        refine v_goto (pc := 45) (tgt := 49) C dX4_lacksNote_45 (by decide) ?_
        exact v_zret (pc := 49) C r (Or.inr rfl) hw dX4_lacksNote_49

theorem w_X4_canPlay_L2 {X : Cx} {G : Gl} {P : Int32 → Mem → Prop} {o1 : Nat} (C : Ck X G RX4 cX4_canPlay 4 3) (r : RetI X G .boolean P) (h1 : kd o1 = (9, 0)) : ∀ (n : Nat) (x2 : Int32) (σ : Mem), v_X4_canPlay_L2 o1 P n x2 σ → V X G 4 2 [(0, .ref (gA G 7)), (1, .ref (gA G o1)), (2, .int x2)] [] σ := by
  intro n
  induction n with
  | zero => intro x2 σ hw; exact hw.elim
  | succ n ih =>
    intro x2 σ hw
    refine v_iload_n (pc := 2) 2 C dX4_canPlay_2 rfl rfl ?_
    refine v_aload_n (pc := 3) 1 C dX4_canPlay_3 rfl rfl ?_
    refine g_9_2 (pc := 4) h1 C k_222 dX4_canPlay_4 ?_
    refine v_icmp_ge (pc := 7) (tgt := 50) C dX4_canPlay_7 (by decide) (fun c => ?_) (fun c => ?_)
    · replace hw := hw.1 c
      refine v_iconst (pc := 50) (v := 1) C dX4_canPlay_50 (by decide) ?_
      exact v_zret (pc := 51) C r (Or.inr rfl) hw dX4_canPlay_51
    · replace hw := hw.2 c
      refine v_aload_n (pc := 10) 0 C dX4_canPlay_10 rfl rfl ?_
      refine v_aload_n (pc := 11) 1 C dX4_canPlay_11 rfl rfl ?_
      refine v_aload_n (pc := 12) 1 C dX4_canPlay_12 rfl rfl ?_
      refine g_9_3 (pc := 13) h1 C k_228 dX4_canPlay_13 ?_
      refine v_iload_n (pc := 16) 2 C dX4_canPlay_16 rfl rfl ?_
      refine v_cVi (pc := 17) (o := o1) (As := [.int (σ.1 o1 3), .int x2]) (rest := [.ref (gA G 7)]) (ci := 9) C (c_X9_chordIn h1 hw) pk_X9_chordIn k_701 h1 (by decide) rfl (by decide) rfl rfl (Nat.le_of_ble_eq_true rfl) dX4_canPlay_17 (fun r_1 σ_2 hw => ?_)
      refine v_cVi (pc := 20) (o := 7) (As := [.int r_1]) (rest := []) (ci := 4) C (c_X4_holdOf hw) pk_X4_holdOf k_702 rfl (by decide) rfl (by decide) rfl rfl (Nat.le_of_ble_eq_true rfl) dX4_canPlay_20 (fun r_3 σ_4 hw => ?_)
      refine v_istore_n (pc := 23) C dX4_canPlay_23 rfl (by decide) rfl ?_
      refine v_iload_n (pc := 24) 0 C dX4_canPlay_24 rfl rfl ?_
      refine v_if_eq (pc := 25) (tgt := 42) C dX4_canPlay_25 (by decide) (fun c => ?_) (fun c => ?_)
      · replace hw := hw.1 c
        refine v_iconst (pc := 42) (v := 0) C dX4_canPlay_42 (by decide) ?_
        exact v_zret (pc := 43) C r (Or.inl rfl) hw dX4_canPlay_43
      · replace hw := hw.2 c
        refine v_aload_n (pc := 28) 1 C dX4_canPlay_28 rfl rfl ?_
        refine v_aload_n (pc := 29) 2 C dX4_canPlay_29 rfl rfl ?_
        refine v_aload_n (pc := 30) 2 C dX4_canPlay_30 rfl rfl ?_
        refine g_9_3 (pc := 31) h1 C k_228 dX4_canPlay_31 ?_
        refine v_iload_n (pc := 34) 3 C dX4_canPlay_34 rfl rfl ?_
        refine v_iload_n (pc := 35) 0 C dX4_canPlay_35 rfl rfl ?_
        refine v_cVi (pc := 36) (o := 7) (As := [.ref (gA G o1), .int (σ_4.1 o1 3), .int x2, .int r_3]) (rest := []) (ci := 4) C (c_X4_lacksNote h1 hw) pk_X4_lacksNote k_707 rfl (by decide) rfl (by decide) rfl rfl (Nat.le_of_ble_eq_true rfl) dX4_canPlay_36 (fun r_5 σ_6 hw => ?_)
        refine v_if_eq (pc := 39) (tgt := 44) C dX4_canPlay_39 (by decide) (fun c => ?_) (fun c => ?_)
        · replace hw := hw.1 c
          refine v_iinc (pc := 44) (v := x2 + 1) 3 C dX4_canPlay_44 rfl rfl (by decide) rfl ?_
          refine v_goto (pc := 47) (tgt := 2) C dX4_canPlay_47 (by decide) ?_
          refine v_sub [2, 3, 0] rfl ?_
          exact ih _ _ hw
        · replace hw := hw.2 c
          refine v_iconst (pc := 42) (v := 0) C dX4_canPlay_42 (by decide) ?_
          exact v_zret (pc := 43) C r (Or.inl rfl) hw dX4_canPlay_43

theorem c_X4_canPlay {l : Launch} {G : Gl} {o1 : Nat} {σ : Mem} {P : Int32 → Mem → Prop} (h1 : kd o1 = (9, 0)) (hw : v_X4_canPlay o1 σ P) : MetI l yX4_canPlay cX4_canPlay 4 .boolean 3 G [.ref (gA G 7), .ref (gA G o1)] σ P := by
  refine MetI.of RX4 (by decide +kernel) rfl (Nat.le_of_ble_eq_true rfl) (fun X C r => ?_)
  show V X G 4 0 [(0, .ref (gA G 7)), (1, .ref (gA G o1))] [] σ
  unfold v_X4_canPlay at hw
  refine v_iconst (pc := 0) (v := 0) C dX4_canPlay_0 (by decide) ?_
  refine v_istore_n (pc := 1) C dX4_canPlay_1 rfl (by decide) rfl ?_
  refine v_sub [1, 2, 0] rfl ?_
  refine w_X4_canPlay_L2 C r h1 5000 _ _ hw

theorem w_X1_playedWith_L4 {X : Cx} {G : Gl} {P : Int32 → Mem → Prop} (C : Ck X G RX1 cX1_playedWith 4 4) (r : RetI X G .int P) : ∀ (n : Nat) (x2 : Int32) (x3 : Int32) (σ : Mem), v_X1_playedWith_L4 P n x2 x3 σ → V X G 4 4 [(0, .ref (gA G 13)), (1, .ref (gA G 7)), (2, .int x2), (3, .int x3)] [] σ := by
  intro n
  induction n with
  | zero => intro x2 x3 σ hw; exact hw.elim
  | succ n ih =>
    intro x2 x3 σ hw
    refine v_iload_n (pc := 4) 3 C dX1_playedWith_4 rfl rfl ?_
    refine v_aload_n (pc := 5) 0 C dX1_playedWith_5 rfl rfl ?_
    refine g_1_1 (pc := 6) C k_243 dX1_playedWith_6 ?_
    refine v_icmp_ge (pc := 9) (tgt := 37) C dX1_playedWith_9 (by decide) (fun c => ?_) (fun c => ?_)
    · replace hw := hw.1 c
      refine v_iload_n (pc := 37) 2 C dX1_playedWith_37 rfl rfl ?_
      exact v_iret (pc := 38) C r hw dX1_playedWith_38
    · replace hw := hw.2 c
      refine v_aload_n (pc := 12) 1 C dX1_playedWith_12 rfl rfl ?_
      refine v_aload_n (pc := 13) 0 C dX1_playedWith_13 rfl rfl ?_
      refine g_1_0 (pc := 14) C k_239 dX1_playedWith_14 ?_
      refine v_iload_n (pc := 17) 3 C dX1_playedWith_17 rfl rfl ?_
      have q_1 := hw.1
      refine v_aldG (pc := 18) C rfl q_1 dX1_playedWith_18 ?_
      replace hw := hw.2
      refine v_cVi (pc := 19) (o := 7) (As := [.ref (gA G (bG + Int32.toNatClampNeg x3))]) (rest := []) (ci := 4) C (c_X4_canPlay ((kd_song (vp_lt q_1)).1) hw) pk_X4_canPlay k_755 rfl (by decide) rfl (by decide) rfl rfl (Nat.le_of_ble_eq_true rfl) dX1_playedWith_19 (fun r_2 σ_3 hw => ?_)
      refine v_if_eq (pc := 22) (tgt := 31) C dX1_playedWith_22 (by decide) (fun c => ?_) (fun c => ?_)
      · replace hw := hw.1 c
        refine v_iinc (pc := 31) (v := x3 + 1) 3 C dX1_playedWith_31 rfl rfl (by decide) rfl ?_
        refine v_goto (pc := 34) (tgt := 4) C dX1_playedWith_34 (by decide) ?_
        refine v_sub [1, 2, 3, 0] rfl ?_
        exact ih _ _ _ hw
      · replace hw := hw.2 c
        refine v_iload_n (pc := 25) 2 C dX1_playedWith_25 rfl rfl ?_
        refine v_iconst (pc := 26) (v := 1) C dX1_playedWith_26 (by decide) ?_
        refine v_iload_n (pc := 27) 3 C dX1_playedWith_27 rfl rfl ?_
        refine v_ishl (pc := 28) C dX1_playedWith_28 ?_
        refine v_ior (pc := 29) C dX1_playedWith_29 ?_
        refine v_istore_n (pc := 30) C dX1_playedWith_30 rfl (by decide) rfl ?_
        refine v_iinc (pc := 31) (v := x3 + 1) 3 C dX1_playedWith_31 rfl rfl (by decide) rfl ?_
        refine v_goto (pc := 34) (tgt := 4) C dX1_playedWith_34 (by decide) ?_
        refine v_sub [2, 3, 1, 0] rfl ?_
        exact ih _ _ _ hw

theorem c_X1_playedWith {l : Launch} {G : Gl} {σ : Mem} {P : Int32 → Mem → Prop} (hw : v_X1_playedWith σ P) : MetI l yX1_playedWith cX1_playedWith 4 .int 4 G [.ref (gA G 13), .ref (gA G 7)] σ P := by
  refine MetI.of RX1 (by decide +kernel) rfl (Nat.le_of_ble_eq_true rfl) (fun X C r => ?_)
  show V X G 4 0 [(0, .ref (gA G 13)), (1, .ref (gA G 7))] [] σ
  unfold v_X1_playedWith at hw
  refine v_iconst (pc := 0) (v := 0) C dX1_playedWith_0 (by decide) ?_
  refine v_istore_n (pc := 1) C dX1_playedWith_1 rfl (by decide) rfl ?_
  refine v_iconst (pc := 2) (v := 0) C dX1_playedWith_2 (by decide) ?_
  refine v_istore_n (pc := 3) C dX1_playedWith_3 rfl (by decide) rfl ?_
  refine v_sub [2, 3, 1, 0] rfl ?_
  refine w_X1_playedWith_L4 C r 5000 _ _ _ hw

theorem c_X2_isFull {l : Launch} {G : Gl} {σ : Mem} {P : Int32 → Mem → Prop} (hw : v_X2_isFull σ P) : MetI l yX2_isFull cX2_isFull 1 .boolean 0 G [.ref (gA G 27)] σ P := by
  refine MetI.of RX2 (by decide +kernel) rfl (Nat.le_of_ble_eq_true rfl) (fun X C r => ?_)
  show V X G 1 0 [(0, .ref (gA G 27))] [] σ
  unfold v_X2_isFull at hw
  refine v_aload_n (pc := 0) 0 C dX2_isFull_0 rfl rfl ?_
  refine g_2_4 (pc := 1) C k_318 dX2_isFull_1 ?_
  refine v_bipush (pc := 4) (v := 20) C dX2_isFull_4 (by decide) ?_
  refine v_icmp_lt (pc := 6) (tgt := 13) C dX2_isFull_6 (by decide) (fun c => ?_) (fun c => ?_)
  · replace hw := hw.1 c
    refine v_iconst (pc := 13) (v := 0) C dX2_isFull_13 (by decide) ?_
    exact v_zret (pc := 14) C r (Or.inl rfl) hw dX2_isFull_14
  · replace hw := hw.2 c
    refine v_iconst (pc := 9) (v := 1) C dX2_isFull_9 (by decide) ?_
    refine v_goto (pc := 10) (tgt := 14) C dX2_isFull_10 (by decide) ?_
    exact v_zret (pc := 14) C r (Or.inr rfl) hw dX2_isFull_14

theorem c_X2_clear {l : Launch} {G : Gl} {σ : Mem} {P : Mem → Prop} (hw : v_X2_clear σ P) : MetV l yX2_clear cX2_clear 1 0 G [.ref (gA G 27)] σ P := by
  refine MetV.of RX2 (by decide +kernel) rfl (Nat.le_of_ble_eq_true rfl) (fun X C r => ?_)
  show V X G 1 0 [(0, .ref (gA G 27))] [] σ
  unfold v_X2_clear at hw
  refine v_aload_n (pc := 0) 0 C dX2_clear_0 rfl rfl ?_
  refine v_iconst (pc := 1) (v := 0) C dX2_clear_1 (by decide) ?_
  refine p_2_4 (pc := 2) C k_318 dX2_clear_2 ?_
  exact v_vret (pc := 5) C r hw dX2_clear_5

theorem w_X8_bitsWhere_L6 {X : Cx} {G : Gl} {P : Int64 → Mem → Prop} {o0 : Nat} {x1 : Int32} {x2 : Int32} {x3 : Int32} (C : Ck X G RX8 cX8_bitsWhere 7 0) (r : RetJ X G P) (h0 : kd o0 = (8, 0)) : ∀ (n : Nat) (x4 : Int64) (x6 : Int32) (σ : Mem), v_X8_bitsWhere_L6 o0 x1 x2 x3 P n x4 x6 σ → V X G 7 6 [(0, .ref (gA G o0)), (1, .int x1), (2, .int x2), (3, .int x3), (4, .long x4), (6, .int x6)] [] σ := by
  intro n
  induction n with
  | zero => intro x4 x6 σ hw; exact hw.elim
  | succ n ih =>
    intro x4 x6 σ hw
    refine v_iload (pc := 6) 5 C dX8_bitsWhere_6 rfl ?_
    refine v_iload_n (pc := 8) 3 C dX8_bitsWhere_8 rfl rfl ?_
    refine v_icmp_ge (pc := 9) (tgt := 40) C dX8_bitsWhere_9 (by decide) (fun c => ?_) (fun c => ?_)
    · replace hw := hw.1 c
      refine v_lload (pc := 40) 4 C dX8_bitsWhere_40 rfl ?_
      exact v_lret (pc := 42) C r hw dX8_bitsWhere_42
    · replace hw := hw.2 c
      refine v_aload_n (pc := 12) 0 C dX8_bitsWhere_12 rfl rfl ?_
      refine g_8_0 (pc := 13) h0 C k_338 dX8_bitsWhere_13 ?_
      refine v_iload_n (pc := 16) 2 C dX8_bitsWhere_16 rfl rfl ?_
      refine v_iload (pc := 17) 5 C dX8_bitsWhere_17 rfl ?_
      refine v_iadd (pc := 19) C dX8_bitsWhere_19 ?_
      refine v_iald (pc := 20) C (kds_8 _ (kd_lt h0 (by decide)) h0) hw.1 dX8_bitsWhere_20 ?_
      replace hw := hw.2
      refine v_iload_n (pc := 21) 1 C dX8_bitsWhere_21 rfl rfl ?_
      refine v_icmp_ne (pc := 22) (tgt := 34) C dX8_bitsWhere_22 (by decide) (fun c => ?_) (fun c => ?_)
      · replace hw := hw.2 c
        refine v_iinc (pc := 34) (v := x6 + 1) 5 C dX8_bitsWhere_34 rfl rfl (by decide) rfl ?_
        refine v_goto (pc := 37) (tgt := 6) C dX8_bitsWhere_37 (by decide) ?_
        refine v_sub [1, 2, 3, 4, 5, 0] rfl ?_
        exact ih _ _ _ hw
      · replace hw := hw.1 c
        refine v_lload (pc := 25) 4 C dX8_bitsWhere_25 rfl ?_
        refine v_lconst (pc := 27) (v := 1) C dX8_bitsWhere_27 rfl ?_
        refine v_iload (pc := 28) 5 C dX8_bitsWhere_28 rfl ?_
        refine v_lshl (pc := 30) C dX8_bitsWhere_30 ?_
        refine v_lor (pc := 31) C dX8_bitsWhere_31 ?_
        refine v_lstore (pc := 32) C dX8_bitsWhere_32 (by decide) rfl ?_
        refine v_iinc (pc := 34) (v := x6 + 1) 5 C dX8_bitsWhere_34 rfl rfl (by decide) rfl ?_
        refine v_goto (pc := 37) (tgt := 6) C dX8_bitsWhere_37 (by decide) ?_
        refine v_sub [2, 3, 4, 5, 1, 0] rfl ?_
        exact ih _ _ _ hw

theorem c_X8_bitsWhere {l : Launch} {G : Gl} {o0 : Nat} {a1 : Int32} {a2 : Int32} {a3 : Int32} {σ : Mem} {P : Int64 → Mem → Prop} (h0 : kd o0 = (8, 0)) (hw : v_X8_bitsWhere o0 a1 a2 a3 σ P) : MetJ l yX8_bitsWhere cX8_bitsWhere 7 0 G [.ref (gA G o0), .int a1, .int a2, .int a3] σ P := by
  refine MetJ.of RX8 (by decide +kernel) rfl (Nat.le_of_ble_eq_true rfl) (fun X C r => ?_)
  show V X G 7 0 [(0, .ref (gA G o0)), (1, .int a1), (2, .int a2), (3, .int a3)] [] σ
  unfold v_X8_bitsWhere at hw
  refine v_lconst (pc := 0) (v := 0) C dX8_bitsWhere_0 rfl ?_
  refine v_lstore (pc := 1) C dX8_bitsWhere_1 (by decide) rfl ?_
  refine v_iconst (pc := 3) (v := 0) C dX8_bitsWhere_3 (by decide) ?_
  refine v_istore (pc := 4) C dX8_bitsWhere_4 (by decide) rfl ?_
  refine v_sub [2, 3, 4, 5, 1, 0] rfl ?_
  refine w_X8_bitsWhere_L6 C r h0 5000 _ _ _ hw

theorem c_X2_add {l : Launch} {G : Gl} {a1 : Int32} {o2 : Nat} {a3 : Int32} {a4 : Int32} {σ : Mem} {P : Int32 → Mem → Prop} (h2 : kd o2 = (8, 0)) (hw : v_X2_add a1 o2 a3 a4 σ P) : MetI l yX2_add cX2_add 6 .int 1 G [.ref (gA G 27), .int a1, .ref (gA G o2), .int a3, .int a4] σ P := by
  refine MetI.of RX2 (by decide +kernel) rfl (Nat.le_of_ble_eq_true rfl) (fun X C r => ?_)
  show V X G 6 0 [(0, .ref (gA G 27)), (1, .int a1), (2, .ref (gA G o2)), (3, .int a3), (4, .int a4)] [] σ
  unfold v_X2_add at hw
  refine v_aload_n (pc := 0) 0 C dX2_add_0 rfl rfl ?_
  refine g_2_4 (pc := 1) C k_318 dX2_add_1 ?_
  refine v_istore (pc := 4) C dX2_add_4 (by decide) rfl ?_
  refine v_aload_n (pc := 6) 1 C dX2_add_6 rfl rfl ?_
  refine v_dup (pc := 7) C dX2_add_7 rfl ?_
  refine g_2_4 (pc := 8) C k_318 dX2_add_8 ?_
  refine v_iconst (pc := 11) (v := 1) C dX2_add_11 (by decide) ?_
  refine v_iadd (pc := 12) C dX2_add_12 ?_
  refine p_2_4 (pc := 13) C k_318 dX2_add_13 ?_
  refine v_aload_n (pc := 16) 1 C dX2_add_16 rfl rfl ?_
  refine g_2_0 (pc := 17) C k_314 dX2_add_17 ?_
  refine v_iload (pc := 20) 0 C dX2_add_20 rfl ?_
  refine v_iload_n (pc := 22) 2 C dX2_add_22 rfl rfl ?_
  refine v_iast (pc := 23) C rfl hw.1 dX2_add_23 ?_
  replace hw := hw.2
  refine v_aload_n (pc := 24) 1 C dX2_add_24 rfl rfl ?_
  refine g_2_1 (pc := 25) C k_315 dX2_add_25 ?_
  refine v_iload (pc := 28) 0 C dX2_add_28 rfl ?_
  refine v_aload_n (pc := 30) 3 C dX2_add_30 rfl rfl ?_
  refine v_iconst (pc := 31) (v := 0) C dX2_add_31 (by decide) ?_
  refine v_iload_n (pc := 32) 4 C dX2_add_32 rfl rfl ?_
  refine v_iload (pc := 33) 5 C dX2_add_33 rfl ?_
  refine v_cVl (pc := 35) (o := o2) (As := [.int 0, .int a3, .int a4]) (rest := [.int (σ.1 27 4), .ref (gA G 29)]) (ci := 8) C (c_X8_bitsWhere h2 hw) pk_X8_bitsWhere k_977 h2 (by decide) rfl (by decide) rfl rfl (Nat.le_of_ble_eq_true rfl) dX2_add_35 (fun r_1 σ_2 hw => ?_)
  refine v_last (pc := 38) C rfl hw.1 dX2_add_38 ?_
  replace hw := hw.2
  refine v_aload_n (pc := 39) 1 C dX2_add_39 rfl rfl ?_
  refine g_2_2 (pc := 40) C k_316 dX2_add_40 ?_
  refine v_iload (pc := 43) 0 C dX2_add_43 rfl ?_
  refine v_aload_n (pc := 45) 3 C dX2_add_45 rfl rfl ?_
  refine v_iconst (pc := 46) (v := 1) C dX2_add_46 (by decide) ?_
  refine v_iload_n (pc := 47) 4 C dX2_add_47 rfl rfl ?_
  refine v_iload (pc := 48) 5 C dX2_add_48 rfl ?_
  refine v_cVl (pc := 50) (o := o2) (As := [.int 1, .int a3, .int a4]) (rest := [.int (σ.1 27 4), .ref (gA G 30)]) (ci := 8) C (c_X8_bitsWhere h2 hw) pk_X8_bitsWhere k_977 h2 (by decide) rfl (by decide) rfl rfl (Nat.le_of_ble_eq_true rfl) dX2_add_50 (fun r_3 σ_4 hw => ?_)
  refine v_last (pc := 53) C rfl hw.1 dX2_add_53 ?_
  replace hw := hw.2
  refine v_iload (pc := 54) 0 C dX2_add_54 rfl ?_
  exact v_iret (pc := 56) C r hw dX2_add_56

theorem w_X2_findWorn_L17 {X : Cx} {G : Gl} {P : Mem → Prop} {x2 : Int32} {K70 : Mem → Prop} (C : Ck X G RX2 cX2_findWorn 4 1) (r : RetV X G P) (hK70 : ∀ (σ : Mem), K70 σ → V X G 4 70 [(0, .ref (gA G 27)), (1, .ref (gA G 5)), (2, .int x2)] [] σ) : ∀ (n : Nat) (x3 : Int32) (σ : Mem), v_X2_findWorn_L17 x2 K70 P n x3 σ → V X G 4 17 [(0, .ref (gA G 27)), (1, .ref (gA G 5)), (2, .int x2), (3, .int x3)] [] σ := by
  intro n
  induction n with
  | zero => intro x3 σ hw; exact hw.elim
  | succ n ih =>
    intro x3 σ hw
    refine v_iload_n (pc := 17) 3 C dX2_findWorn_17 rfl rfl ?_
    refine v_aload_n (pc := 18) 0 C dX2_findWorn_18 rfl rfl ?_
    refine g_2_4 (pc := 19) C k_318 dX2_findWorn_19 ?_
    refine v_icmp_ge (pc := 22) (tgt := 70) C dX2_findWorn_22 (by decide) (fun c => ?_) (fun c => ?_)
    · replace hw := hw.1 c
      refine v_sub [0, 1, 2] rfl ?_
      exact hK70 _ hw
    · replace hw := hw.2 c
      refine v_aload_n (pc := 25) 0 C dX2_findWorn_25 rfl rfl ?_
      refine g_2_0 (pc := 26) C k_314 dX2_findWorn_26 ?_
      refine v_iload_n (pc := 29) 3 C dX2_findWorn_29 rfl rfl ?_
      refine v_iald (pc := 30) C rfl hw.1 dX2_findWorn_30 ?_
      replace hw := hw.2
      refine v_i2l (pc := 31) C dX2_findWorn_31 ?_
      refine v_iload_n (pc := 32) 2 C dX2_findWorn_32 rfl rfl ?_
      refine v_callSi (pc := 33) (As := [.long (Int32.toInt64 (σ.1 28 (Int32.toNatClampNeg x3))), .int x2]) (rest := []) C (c_X11_hasBit hw) pk_X11_hasBit (Or.inr (by decide +kernel)) (by decide) rfl rfl (Nat.le_of_ble_eq_true rfl) dX2_findWorn_33 (fun r_1 σ_2 hw => ?_)
      refine v_if_eq (pc := 36) (tgt := 64) C dX2_findWorn_36 (by decide) (fun c => ?_) (fun c => ?_)
      · replace hw := hw.1 c
        refine v_iinc (pc := 64) (v := x3 + 1) 3 C dX2_findWorn_64 rfl rfl (by decide) rfl ?_
        refine v_goto (pc := 67) (tgt := 17) C dX2_findWorn_67 (by decide) ?_
        refine v_sub [1, 2, 3, 0] rfl ?_
        exact ih _ _ hw
      · replace hw := hw.2 c
        refine v_aload_n (pc := 39) 0 C dX2_findWorn_39 rfl rfl ?_
        refine g_2_3 (pc := 40) C k_317 dX2_findWorn_40 ?_
        refine v_iload_n (pc := 43) 2 C dX2_findWorn_43 rfl rfl ?_
        refine v_dup2 (pc := 44) C dX2_findWorn_44 rfl rfl ?_
        refine v_lald (pc := 45) C rfl hw.1 dX2_findWorn_45 ?_
        replace hw := hw.2
        refine v_aload_n (pc := 46) 1 C dX2_findWorn_46 rfl rfl ?_
        refine g_7_0 (pc := 47) C k_159 dX2_findWorn_47 ?_
        refine v_iload_n (pc := 50) 2 C dX2_findWorn_50 rfl rfl ?_
        have q_3 := hw.1
        refine v_aldB (pc := 51) C rfl q_3 dX2_findWorn_51 ?_
        replace hw := hw.2
        refine g_0_1 (pc := 52) (kd_bar (vp_lt q_3)) C k_138 dX2_findWorn_52 ?_
        refine v_aload_n (pc := 55) 0 C dX2_findWorn_55 rfl rfl ?_
        refine g_2_2 (pc := 56) C k_316 dX2_findWorn_56 ?_
        refine v_iload_n (pc := 59) 3 C dX2_findWorn_59 rfl rfl ?_
        refine v_lald (pc := 60) C rfl hw.1 dX2_findWorn_60 ?_
        replace hw := hw.2
        refine v_land (pc := 61) C dX2_findWorn_61 ?_
        refine v_lor (pc := 62) C dX2_findWorn_62 ?_
        refine v_last (pc := 63) C rfl hw.1 dX2_findWorn_63 ?_
        replace hw := hw.2
        refine v_iinc (pc := 64) (v := x3 + 1) 3 C dX2_findWorn_64 rfl rfl (by decide) rfl ?_
        refine v_goto (pc := 67) (tgt := 17) C dX2_findWorn_67 (by decide) ?_
        refine v_sub [1, 2, 3, 0] rfl ?_
        exact ih _ _ hw

theorem w_X2_findWorn_L2 {X : Cx} {G : Gl} {P : Mem → Prop} (C : Ck X G RX2 cX2_findWorn 4 1) (r : RetV X G P) : ∀ (n : Nat) (x2 : Int32) (σ : Mem), v_X2_findWorn_L2 P n x2 σ → V X G 4 2 [(0, .ref (gA G 27)), (1, .ref (gA G 5)), (2, .int x2)] [] σ := by
  intro n
  induction n with
  | zero => intro x2 σ hw; exact hw.elim
  | succ n ih =>
    intro x2 σ hw
    refine v_iload_n (pc := 2) 2 C dX2_findWorn_2 rfl rfl ?_
    refine v_bipush (pc := 3) (v := 12) C dX2_findWorn_3 (by decide) ?_
    refine v_icmp_ge (pc := 5) (tgt := 76) C dX2_findWorn_5 (by decide) (fun c => ?_) (fun c => ?_)
    · replace hw := hw.1 c
      exact v_vret (pc := 76) C r hw dX2_findWorn_76
    · replace hw := hw.2 c
      refine v_aload_n (pc := 8) 0 C dX2_findWorn_8 rfl rfl ?_
      refine g_2_3 (pc := 9) C k_317 dX2_findWorn_9 ?_
      refine v_iload_n (pc := 12) 2 C dX2_findWorn_12 rfl rfl ?_
      refine v_lconst (pc := 13) (v := 0) C dX2_findWorn_13 rfl ?_
      refine v_last (pc := 14) C rfl hw.1 dX2_findWorn_14 ?_
      replace hw := hw.2
      refine v_iconst (pc := 15) (v := 0) C dX2_findWorn_15 (by decide) ?_
      refine v_istore_n (pc := 16) C dX2_findWorn_16 rfl (by decide) rfl ?_
      refine v_sub [1, 2, 3, 0] rfl ?_
      refine w_X2_findWorn_L17 C r ?_ 5000 _ _ hw
      · intro σ_5 hw
        refine v_iinc (pc := 70) (v := x2 + 1) 2 C dX2_findWorn_70 rfl rfl (by decide) rfl ?_
        refine v_goto (pc := 73) (tgt := 2) C dX2_findWorn_73 (by decide) ?_
        refine v_sub [1, 2, 0] rfl ?_
        exact ih _ _ hw

theorem c_X2_findWorn {l : Launch} {G : Gl} {σ : Mem} {P : Mem → Prop} (hw : v_X2_findWorn σ P) : MetV l yX2_findWorn cX2_findWorn 4 1 G [.ref (gA G 27), .ref (gA G 5)] σ P := by
  refine MetV.of RX2 (by decide +kernel) rfl (Nat.le_of_ble_eq_true rfl) (fun X C r => ?_)
  show V X G 4 0 [(0, .ref (gA G 27)), (1, .ref (gA G 5))] [] σ
  unfold v_X2_findWorn at hw
  refine v_iconst (pc := 0) (v := 0) C dX2_findWorn_0 (by decide) ?_
  refine v_istore_n (pc := 1) C dX2_findWorn_1 rfl (by decide) rfl ?_
  refine v_sub [1, 2, 0] rfl ?_
  refine w_X2_findWorn_L2 C r 5000 _ _ hw

theorem c_J13_bitCount_95d88 {l : Launch} {G : Gl} {a0 : Int64} {σ : Mem} {P : Int32 → Mem → Prop} (hw : v_J13_bitCount_95d88 a0 σ P) : MetI l yJ13_bitCount_95d88 cJ13_bitCount_95d88 2 .int 0 G [.long a0] σ P := by
  refine MetI.of RJ13 (by decide +kernel) rfl (Nat.le_of_ble_eq_true rfl) (fun X C r => ?_)
  show V X G 2 0 [(0, .long a0)] [] σ
  unfold v_J13_bitCount_95d88 at hw
  refine v_lload_n (pc := 0) 0 C dJ13_bitCount_95d88_0 rfl rfl ?_
  refine v_lload_n (pc := 1) 0 C dJ13_bitCount_95d88_1 rfl rfl ?_
  refine v_iconst (pc := 2) (v := 1) C dJ13_bitCount_95d88_2 (by decide) ?_
  refine v_lushr (pc := 3) C dJ13_bitCount_95d88_3 ?_
  refine v_ldc2 (pc := 4) C k_514 dJ13_bitCount_95d88_4 ?_
  refine v_land (pc := 7) C dJ13_bitCount_95d88_7 ?_
  refine v_lsub (pc := 8) C dJ13_bitCount_95d88_8 ?_
  refine v_topl (fun y_1 ey_1 => ?_)
  replace hw := hw y_1 ey_1
  refine v_lstore_n (pc := 9) C dJ13_bitCount_95d88_9 rfl (by decide) rfl ?_
  refine v_lload_n (pc := 10) 0 C dJ13_bitCount_95d88_10 rfl rfl ?_
  refine v_ldc2 (pc := 11) C k_515 dJ13_bitCount_95d88_11 ?_
  refine v_land (pc := 14) C dJ13_bitCount_95d88_14 ?_
  refine v_lload_n (pc := 15) 0 C dJ13_bitCount_95d88_15 rfl rfl ?_
  refine v_iconst (pc := 16) (v := 2) C dJ13_bitCount_95d88_16 (by decide) ?_
  refine v_lushr (pc := 17) C dJ13_bitCount_95d88_17 ?_
  refine v_ldc2 (pc := 18) C k_515 dJ13_bitCount_95d88_18 ?_
  refine v_land (pc := 21) C dJ13_bitCount_95d88_21 ?_
  refine v_ladd (pc := 22) C dJ13_bitCount_95d88_22 ?_
  refine v_topl (fun y_2 ey_2 => ?_)
  replace hw := hw y_2 ey_2
  refine v_lstore_n (pc := 23) C dJ13_bitCount_95d88_23 rfl (by decide) rfl ?_
  refine v_lload_n (pc := 24) 0 C dJ13_bitCount_95d88_24 rfl rfl ?_
  refine v_lload_n (pc := 25) 0 C dJ13_bitCount_95d88_25 rfl rfl ?_
  refine v_iconst (pc := 26) (v := 4) C dJ13_bitCount_95d88_26 (by decide) ?_
  refine v_lushr (pc := 27) C dJ13_bitCount_95d88_27 ?_
  refine v_ladd (pc := 28) C dJ13_bitCount_95d88_28 ?_
  refine v_ldc2 (pc := 29) C k_516 dJ13_bitCount_95d88_29 ?_
  refine v_land (pc := 32) C dJ13_bitCount_95d88_32 ?_
  refine v_topl (fun y_3 ey_3 => ?_)
  replace hw := hw y_3 ey_3
  refine v_lstore_n (pc := 33) C dJ13_bitCount_95d88_33 rfl (by decide) rfl ?_
  refine v_lload_n (pc := 34) 0 C dJ13_bitCount_95d88_34 rfl rfl ?_
  refine v_lload_n (pc := 35) 0 C dJ13_bitCount_95d88_35 rfl rfl ?_
  refine v_bipush (pc := 36) (v := 8) C dJ13_bitCount_95d88_36 (by decide) ?_
  refine v_lushr (pc := 38) C dJ13_bitCount_95d88_38 ?_
  refine v_ladd (pc := 39) C dJ13_bitCount_95d88_39 ?_
  refine v_topl (fun y_4 ey_4 => ?_)
  replace hw := hw y_4 ey_4
  refine v_lstore_n (pc := 40) C dJ13_bitCount_95d88_40 rfl (by decide) rfl ?_
  refine v_lload_n (pc := 41) 0 C dJ13_bitCount_95d88_41 rfl rfl ?_
  refine v_lload_n (pc := 42) 0 C dJ13_bitCount_95d88_42 rfl rfl ?_
  refine v_bipush (pc := 43) (v := 16) C dJ13_bitCount_95d88_43 (by decide) ?_
  refine v_lushr (pc := 45) C dJ13_bitCount_95d88_45 ?_
  refine v_ladd (pc := 46) C dJ13_bitCount_95d88_46 ?_
  refine v_topl (fun y_5 ey_5 => ?_)
  replace hw := hw y_5 ey_5
  refine v_lstore_n (pc := 47) C dJ13_bitCount_95d88_47 rfl (by decide) rfl ?_
  refine v_lload_n (pc := 48) 0 C dJ13_bitCount_95d88_48 rfl rfl ?_
  refine v_lload_n (pc := 49) 0 C dJ13_bitCount_95d88_49 rfl rfl ?_
  refine v_bipush (pc := 50) (v := 32) C dJ13_bitCount_95d88_50 (by decide) ?_
  refine v_lushr (pc := 52) C dJ13_bitCount_95d88_52 ?_
  refine v_ladd (pc := 53) C dJ13_bitCount_95d88_53 ?_
  refine v_topl (fun y_6 ey_6 => ?_)
  replace hw := hw y_6 ey_6
  refine v_lstore_n (pc := 54) C dJ13_bitCount_95d88_54 rfl (by decide) rfl ?_
  refine v_lload_n (pc := 55) 0 C dJ13_bitCount_95d88_55 rfl rfl ?_
  refine v_l2i (pc := 56) C dJ13_bitCount_95d88_56 ?_
  refine v_bipush (pc := 57) (v := 127) C dJ13_bitCount_95d88_57 (by decide) ?_
  refine v_iand (pc := 59) C dJ13_bitCount_95d88_59 ?_
  exact v_iret (pc := 60) C r hw dJ13_bitCount_95d88_60

theorem w_X2_howManyWorn_L4 {X : Cx} {G : Gl} {P : Int32 → Mem → Prop} (C : Ck X G RX2 cX2_howManyWorn 3 1) (r : RetI X G .int P) : ∀ (n : Nat) (x1 : Int32) (x2 : Int32) (σ : Mem), v_X2_howManyWorn_L4 P n x1 x2 σ → V X G 3 4 [(0, .ref (gA G 27)), (1, .int x1), (2, .int x2)] [] σ := by
  intro n
  induction n with
  | zero => intro x1 x2 σ hw; exact hw.elim
  | succ n ih =>
    intro x1 x2 σ hw
    refine v_iload_n (pc := 4) 2 C dX2_howManyWorn_4 rfl rfl ?_
    refine v_bipush (pc := 5) (v := 12) C dX2_howManyWorn_5 (by decide) ?_
    refine v_icmp_ge (pc := 7) (tgt := 28) C dX2_howManyWorn_7 (by decide) (fun c => ?_) (fun c => ?_)
    · replace hw := hw.1 c
      refine v_iload_n (pc := 28) 1 C dX2_howManyWorn_28 rfl rfl ?_
      exact v_iret (pc := 29) C r hw dX2_howManyWorn_29
    · replace hw := hw.2 c
      refine v_iload_n (pc := 10) 1 C dX2_howManyWorn_10 rfl rfl ?_
      refine v_aload_n (pc := 11) 0 C dX2_howManyWorn_11 rfl rfl ?_
      refine g_2_3 (pc := 12) C k_317 dX2_howManyWorn_12 ?_
      refine v_iload_n (pc := 15) 2 C dX2_howManyWorn_15 rfl rfl ?_
      refine v_lald (pc := 16) C rfl hw.1 dX2_howManyWorn_16 ?_
      replace hw := hw.2
      refine v_callSi (pc := 17) (As := [.long (σ.2 31 (Int32.toNatClampNeg x2))]) (rest := [.int x1]) C (c_J13_bitCount_95d88 hw) pk_J13_bitCount_95d88 (Or.inl k_999) (by decide) rfl rfl (Nat.le_of_ble_eq_true rfl) dX2_howManyWorn_17 (fun r_1 σ_2 hw => ?_)
      refine v_iadd (pc := 20) C dX2_howManyWorn_20 ?_
      refine v_istore_n (pc := 21) C dX2_howManyWorn_21 rfl (by decide) rfl ?_
      refine v_iinc (pc := 22) (v := x2 + 1) 2 C dX2_howManyWorn_22 rfl rfl (by decide) rfl ?_
      refine v_goto (pc := 25) (tgt := 4) C dX2_howManyWorn_25 (by decide) ?_
      refine v_sub [2, 1, 0] rfl ?_
      exact ih _ _ _ hw

theorem c_X2_howManyWorn {l : Launch} {G : Gl} {σ : Mem} {P : Int32 → Mem → Prop} (hw : v_X2_howManyWorn σ P) : MetI l yX2_howManyWorn cX2_howManyWorn 3 .int 1 G [.ref (gA G 27)] σ P := by
  refine MetI.of RX2 (by decide +kernel) rfl (Nat.le_of_ble_eq_true rfl) (fun X C r => ?_)
  show V X G 3 0 [(0, .ref (gA G 27))] [] σ
  unfold v_X2_howManyWorn at hw
  refine v_iconst (pc := 0) (v := 0) C dX2_howManyWorn_0 (by decide) ?_
  refine v_istore_n (pc := 1) C dX2_howManyWorn_1 rfl (by decide) rfl ?_
  refine v_iconst (pc := 2) (v := 0) C dX2_howManyWorn_2 (by decide) ?_
  refine v_istore_n (pc := 3) C dX2_howManyWorn_3 rfl (by decide) rfl ?_
  refine v_sub [2, 1, 0] rfl ?_
  refine w_X2_howManyWorn_L4 C r 5000 _ _ _ hw

theorem c_X2_takesAsWorn {l : Launch} {G : Gl} {a1 : Int32} {a2 : Int32} {σ : Mem} {P : Int32 → Mem → Prop} (hw : v_X2_takesAsWorn a1 a2 σ P) : MetI l yX2_takesAsWorn cX2_takesAsWorn 3 .boolean 1 G [.ref (gA G 27), .int a1, .int a2] σ P := by
  refine MetI.of RX2 (by decide +kernel) rfl (Nat.le_of_ble_eq_true rfl) (fun X C r => ?_)
  show V X G 3 0 [(0, .ref (gA G 27)), (1, .int a1), (2, .int a2)] [] σ
  unfold v_X2_takesAsWorn at hw
  refine v_aload_n (pc := 0) 0 C dX2_takesAsWorn_0 rfl rfl ?_
  refine g_2_3 (pc := 1) C k_317 dX2_takesAsWorn_1 ?_
  refine v_iload_n (pc := 4) 1 C dX2_takesAsWorn_4 rfl rfl ?_
  refine v_lald (pc := 5) C rfl hw.1 dX2_takesAsWorn_5 ?_
  replace hw := hw.2
  refine v_iload_n (pc := 6) 2 C dX2_takesAsWorn_6 rfl rfl ?_
  refine v_callSi (pc := 7) (As := [.long (σ.2 31 (Int32.toNatClampNeg a1)), .int a2]) (rest := []) C (c_X11_hasBit hw) pk_X11_hasBit (Or.inr (by decide +kernel)) (by decide) rfl rfl (Nat.le_of_ble_eq_true rfl) dX2_takesAsWorn_7 (fun r_1 σ_2 hw => ?_)
  exact v_zret (pc := 10) C r hw.1 hw.2 dX2_takesAsWorn_10

theorem c_X2_takeAsWorn {l : Launch} {G : Gl} {a1 : Int32} {a2 : Int32} {σ : Mem} {P : Mem → Prop} (hw : v_X2_takeAsWorn a1 a2 σ P) : MetV l yX2_takeAsWorn cX2_takeAsWorn 3 0 G [.ref (gA G 27), .int a1, .int a2] σ P := by
  refine MetV.of RX2 (by decide +kernel) rfl (Nat.le_of_ble_eq_true rfl) (fun X C r => ?_)
  show V X G 3 0 [(0, .ref (gA G 27)), (1, .int a1), (2, .int a2)] [] σ
  unfold v_X2_takeAsWorn at hw
  refine v_aload_n (pc := 0) 0 C dX2_takeAsWorn_0 rfl rfl ?_
  refine g_2_3 (pc := 1) C k_317 dX2_takeAsWorn_1 ?_
  refine v_iload_n (pc := 4) 1 C dX2_takeAsWorn_4 rfl rfl ?_
  refine v_dup2 (pc := 5) C dX2_takeAsWorn_5 rfl rfl ?_
  refine v_lald (pc := 6) C rfl hw.1 dX2_takeAsWorn_6 ?_
  replace hw := hw.2
  refine v_lconst (pc := 7) (v := 1) C dX2_takeAsWorn_7 rfl ?_
  refine v_iload_n (pc := 8) 2 C dX2_takeAsWorn_8 rfl rfl ?_
  refine v_lshl (pc := 9) C dX2_takeAsWorn_9 ?_
  refine v_lor (pc := 10) C dX2_takeAsWorn_10 ?_
  refine v_last (pc := 11) C rfl hw.1 dX2_takeAsWorn_11 ?_
  replace hw := hw.2
  exact v_vret (pc := 12) C r hw dX2_takeAsWorn_12

theorem w_X2_explains_L15 {X : Cx} {G : Gl} {P : Int32 → Mem → Prop} {x2 : Int32} {K68 : Int64 → Mem → Prop} (C : Ck X G RX2 cX2_explains 6 1) (r : RetI X G .boolean P) (hK68 : ∀ (x3 : Int64) (σ : Mem), K68 x3 σ → V X G 6 68 [(0, .ref (gA G 27)), (1, .ref (gA G 5)), (2, .int x2), (3, .long x3)] [] σ) : ∀ (n : Nat) (x3 : Int64) (x5 : Int32) (σ : Mem), v_X2_explains_L15 x2 K68 P n x3 x5 σ → V X G 6 15 [(0, .ref (gA G 27)), (1, .ref (gA G 5)), (2, .int x2), (3, .long x3), (5, .int x5)] [] σ := by
  intro n
  induction n with
  | zero => intro x3 x5 σ hw; exact hw.elim
  | succ n ih =>
    intro x3 x5 σ hw
    refine v_iload (pc := 15) 4 C dX2_explains_15 rfl ?_
    refine v_bipush (pc := 17) (v := 12) C dX2_explains_17 (by decide) ?_
    refine v_icmp_ge (pc := 19) (tgt := 68) C dX2_explains_19 (by decide) (fun c => ?_) (fun c => ?_)
    · replace hw := hw.1 c
      refine v_sub [0, 1, 2, 3] rfl ?_
      exact hK68 _ _ hw
    · replace hw := hw.2 c
      refine v_aload_n (pc := 22) 0 C dX2_explains_22 rfl rfl ?_
      refine g_2_0 (pc := 23) C k_314 dX2_explains_23 ?_
      refine v_iload_n (pc := 26) 2 C dX2_explains_26 rfl rfl ?_
      refine v_iald (pc := 27) C rfl hw.1 dX2_explains_27 ?_
      replace hw := hw.2
      refine v_i2l (pc := 28) C dX2_explains_28 ?_
      refine v_iload (pc := 29) 4 C dX2_explains_29 rfl ?_
      refine v_callSi (pc := 31) (As := [.long (Int32.toInt64 (σ.1 28 (Int32.toNatClampNeg x2))), .int x5]) (rest := []) C (c_X11_hasBit hw) pk_X11_hasBit (Or.inr (by decide +kernel)) (by decide) rfl rfl (Nat.le_of_ble_eq_true rfl) dX2_explains_31 (fun r_1 σ_2 hw => ?_)
      refine v_if_eq (pc := 34) (tgt := 62) C dX2_explains_34 (by decide) (fun c => ?_) (fun c => ?_)
      · replace hw := hw.1 c
        refine v_iinc (pc := 62) (v := x5 + 1) 4 C dX2_explains_62 rfl rfl (by decide) rfl ?_
        refine v_goto (pc := 65) (tgt := 15) C dX2_explains_65 (by decide) ?_
        refine v_sub [1, 2, 3, 4, 0] rfl ?_
        exact ih _ _ _ hw
      · replace hw := hw.2 c
        refine v_lload_n (pc := 37) 3 C dX2_explains_37 rfl rfl ?_
        refine v_aload_n (pc := 38) 1 C dX2_explains_38 rfl rfl ?_
        refine g_7_0 (pc := 39) C k_159 dX2_explains_39 ?_
        refine v_iload (pc := 42) 4 C dX2_explains_42 rfl ?_
        have q_3 := hw.1
        refine v_aldB (pc := 44) C rfl q_3 dX2_explains_44 ?_
        replace hw := hw.2
        refine g_0_1 (pc := 45) (kd_bar (vp_lt q_3)) C k_138 dX2_explains_45 ?_
        refine v_aload_n (pc := 48) 0 C dX2_explains_48 rfl rfl ?_
        refine g_2_3 (pc := 49) C k_317 dX2_explains_49 ?_
        refine v_iload (pc := 52) 4 C dX2_explains_52 rfl ?_
        refine v_lald (pc := 54) C rfl hw.1 dX2_explains_54 ?_
        replace hw := hw.2
        refine v_ldc2 (pc := 55) C k_994 dX2_explains_55 ?_
        refine v_lxor (pc := 58) C dX2_explains_58 ?_
        refine v_land (pc := 59) C dX2_explains_59 ?_
        refine v_lor (pc := 60) C dX2_explains_60 ?_
        refine v_topl (fun y_4 ey_4 => ?_)
        replace hw := hw y_4 ey_4
        refine v_lstore_n (pc := 61) C dX2_explains_61 rfl (by decide) rfl ?_
        refine v_iinc (pc := 62) (v := x5 + 1) 4 C dX2_explains_62 rfl rfl (by decide) rfl ?_
        refine v_goto (pc := 65) (tgt := 15) C dX2_explains_65 (by decide) ?_
        refine v_sub [2, 3, 4, 1, 0] rfl ?_
        exact ih _ _ _ hw

theorem w_X2_explains_L2 {X : Cx} {G : Gl} {P : Int32 → Mem → Prop} (C : Ck X G RX2 cX2_explains 6 1) (r : RetI X G .boolean P) : ∀ (n : Nat) (x2 : Int32) (σ : Mem), v_X2_explains_L2 P n x2 σ → V X G 6 2 [(0, .ref (gA G 27)), (1, .ref (gA G 5)), (2, .int x2)] [] σ := by
  intro n
  induction n with
  | zero => intro x2 σ hw; exact hw.elim
  | succ n ih =>
    intro x2 σ hw
    refine v_iload_n (pc := 2) 2 C dX2_explains_2 rfl rfl ?_
    refine v_aload_n (pc := 3) 0 C dX2_explains_3 rfl rfl ?_
    refine g_2_4 (pc := 4) C k_318 dX2_explains_4 ?_
    refine v_icmp_ge (pc := 7) (tgt := 93) C dX2_explains_7 (by decide) (fun c => ?_) (fun c => ?_)
    · replace hw := hw.1 c
      refine v_iconst (pc := 93) (v := 1) C dX2_explains_93 (by decide) ?_
      exact v_zret (pc := 94) C r (Or.inr rfl) hw dX2_explains_94
    · replace hw := hw.2 c
      refine v_lconst (pc := 10) (v := 0) C dX2_explains_10 rfl ?_
      refine v_lstore_n (pc := 11) C dX2_explains_11 rfl (by decide) rfl ?_
      refine v_iconst (pc := 12) (v := 0) C dX2_explains_12 (by decide) ?_
      refine v_istore (pc := 13) C dX2_explains_13 (by decide) rfl ?_
      refine v_sub [2, 3, 4, 1, 0] rfl ?_
      refine w_X2_explains_L15 C r ?_ 5000 _ _ _ hw
      · intro x3_5 σ_6 hw
        refine v_aload_n (pc := 68) 0 C dX2_explains_68 rfl rfl ?_
        refine g_2_1 (pc := 69) C k_315 dX2_explains_69 ?_
        refine v_iload_n (pc := 72) 2 C dX2_explains_72 rfl rfl ?_
        refine v_lald (pc := 73) C rfl hw.1 dX2_explains_73 ?_
        replace hw := hw.2
        refine v_lload_n (pc := 74) 3 C dX2_explains_74 rfl rfl ?_
        refine v_ldc2 (pc := 75) C k_994 dX2_explains_75 ?_
        refine v_lxor (pc := 78) C dX2_explains_78 ?_
        refine v_land (pc := 79) C dX2_explains_79 ?_
        refine v_lconst (pc := 80) (v := 0) C dX2_explains_80 rfl ?_
        refine v_lcmp_eq (pc := 81) (tgt := 87) C dX2_explains_81 dX2_explains_82 (by decide) (fun c => ?_) (fun c => ?_)
        · replace hw := hw.1 c
          refine v_iinc (pc := 87) (v := x2 + 1) 2 C dX2_explains_87 rfl rfl (by decide) rfl ?_
          refine v_goto (pc := 90) (tgt := 2) C dX2_explains_90 (by decide) ?_
          refine v_sub [1, 2, 0] rfl ?_
          exact ih _ _ hw
        · replace hw := hw.2 c
          refine v_iconst (pc := 85) (v := 0) C dX2_explains_85 (by decide) ?_
          exact v_zret (pc := 86) C r (Or.inl rfl) hw dX2_explains_86

theorem c_X2_explains {l : Launch} {G : Gl} {σ : Mem} {P : Int32 → Mem → Prop} (hw : v_X2_explains σ P) : MetI l yX2_explains cX2_explains 6 .boolean 1 G [.ref (gA G 27), .ref (gA G 5)] σ P := by
  refine MetI.of RX2 (by decide +kernel) rfl (Nat.le_of_ble_eq_true rfl) (fun X C r => ?_)
  show V X G 6 0 [(0, .ref (gA G 27)), (1, .ref (gA G 5))] [] σ
  unfold v_X2_explains at hw
  refine v_iconst (pc := 0) (v := 0) C dX2_explains_0 (by decide) ?_
  refine v_istore_n (pc := 1) C dX2_explains_1 rfl (by decide) rfl ?_
  refine v_sub [1, 2, 0] rfl ?_
  refine w_X2_explains_L2 C r 5000 _ _ hw

theorem w_J7_fill_53178_L5 {X : Cx} {G : Gl} {P : Mem → Prop} {o0 : Nat} {x1 : Int32} {x3 : Int32} (C : Ck X G RJ7 cJ7_fill_53178 4 0) (r : RetV X G P) (h0 : kd o0 = (13, (kd o0).2)) : ∀ (n : Nat) (x2 : Int32) (σ : Mem), v_J7_fill_53178_L5 o0 x1 x3 P n x2 σ → V X G 4 5 [(0, .ref (gA G o0)), (1, .int x1), (2, .int x2), (3, .int x3)] [] σ := by
  intro n
  induction n with
  | zero => intro x2 σ hw; exact hw.elim
  | succ n ih =>
    intro x2 σ hw
    refine v_iload_n (pc := 5) 2 C dJ7_fill_53178_5 rfl rfl ?_
    refine v_iload_n (pc := 6) 3 C dJ7_fill_53178_6 rfl rfl ?_
    refine v_icmp_ge (pc := 7) (tgt := 20) C dJ7_fill_53178_7 (by decide) (fun c => ?_) (fun c => ?_)
    · replace hw := hw.1 c
      exact v_vret (pc := 20) C r hw dJ7_fill_53178_20
    · replace hw := hw.2 c
      refine v_aload_n (pc := 10) 0 C dJ7_fill_53178_10 rfl rfl ?_
      refine v_iload_n (pc := 11) 2 C dJ7_fill_53178_11 rfl rfl ?_
      refine v_iload_n (pc := 12) 1 C dJ7_fill_53178_12 rfl rfl ?_
      refine v_iast (pc := 13) C h0 hw.1 dJ7_fill_53178_13 ?_
      replace hw := hw.2
      refine v_iinc (pc := 14) (v := x2 + 1) 2 C dJ7_fill_53178_14 rfl rfl (by decide) rfl ?_
      refine v_goto (pc := 17) (tgt := 5) C dJ7_fill_53178_17 (by decide) ?_
      refine v_sub [1, 2, 0, 3] rfl ?_
      exact ih _ _ hw

theorem c_J7_fill_53178 {l : Launch} {G : Gl} {o0 : Nat} {a1 : Int32} {σ : Mem} {P : Mem → Prop} (h0 : kd o0 = (13, (kd o0).2)) (hw : v_J7_fill_53178 o0 a1 σ P) : MetV l yJ7_fill_53178 cJ7_fill_53178 4 0 G [.ref (gA G o0), .int a1] σ P := by
  refine MetV.of RJ7 (by decide +kernel) rfl (Nat.le_of_ble_eq_true rfl) (fun X C r => ?_)
  show V X G 4 0 [(0, .ref (gA G o0)), (1, .int a1)] [] σ
  unfold v_J7_fill_53178 at hw
  refine v_iconst (pc := 0) (v := 0) C dJ7_fill_53178_0 (by decide) ?_
  refine v_istore_n (pc := 1) C dJ7_fill_53178_1 rfl (by decide) rfl ?_
  refine v_aload_n (pc := 2) 1 C dJ7_fill_53178_2 rfl rfl ?_
  refine v_alen (pc := 3) C h0 dJ7_fill_53178_3 ?_
  refine v_istore_n (pc := 4) C dJ7_fill_53178_4 rfl (by decide) rfl ?_
  refine v_sub [2, 3, 1, 0] rfl ?_
  refine w_J7_fill_53178_L5 C r h0 5000 _ _ hw

theorem w_J6_numberOfTrailingZeros_0f7a4_J62 {X : Cx} {G : Gl} {P : Int32 → Mem → Prop} (C : Ck X G RJ6 cJ6_numberOfTrailingZeros_0f7a4 2 0) (r : RetI X G .int P) (x0 : Int32) (x1 : Int32) (σ : Mem) (hw : v_J6_numberOfTrailingZeros_0f7a4_J62 P x0 x1 σ) : V X G 2 62 [(0, .int x0), (1, .int x1)] [] σ := by
  unfold v_J6_numberOfTrailingZeros_0f7a4_J62 at hw
  refine v_iload_n (pc := 62) 0 C dJ6_numberOfTrailingZeros_0f7a4_62 rfl rfl ?_
  refine v_iconst (pc := 63) (v := 4) C dJ6_numberOfTrailingZeros_0f7a4_63 (by decide) ?_
  refine v_icmp_le (pc := 64) (tgt := 74) C dJ6_numberOfTrailingZeros_0f7a4_64 (by decide) (fun c => ?_) (fun c => ?_)
  · replace hw := hw.1 c
    refine v_iload_n (pc := 74) 1 C dJ6_numberOfTrailingZeros_0f7a4_74 rfl rfl ?_
    refine v_iload_n (pc := 75) 0 C dJ6_numberOfTrailingZeros_0f7a4_75 rfl rfl ?_
    refine v_iconst (pc := 76) (v := 1) C dJ6_numberOfTrailingZeros_0f7a4_76 (by decide) ?_
    refine v_iushr (pc := 77) C dJ6_numberOfTrailingZeros_0f7a4_77 ?_
    refine v_iadd (pc := 78) C dJ6_numberOfTrailingZeros_0f7a4_78 ?_
    exact v_iret (pc := 79) C r hw dJ6_numberOfTrailingZeros_0f7a4_79
  · replace hw := hw.2 c
    refine v_iinc (pc := 67) (v := x1 + 2) 1 C dJ6_numberOfTrailingZeros_0f7a4_67 rfl rfl (by decide) rfl ?_
    refine v_iload_n (pc := 70) 1 C dJ6_numberOfTrailingZeros_0f7a4_70 rfl rfl ?_
    refine v_iconst (pc := 71) (v := 2) C dJ6_numberOfTrailingZeros_0f7a4_71 (by decide) ?_
    refine v_iushr (pc := 72) C dJ6_numberOfTrailingZeros_0f7a4_72 ?_
    refine v_topi (fun y_1 ey_1 => ?_)
    replace hw := hw y_1 ey_1
    refine v_istore_n (pc := 73) C dJ6_numberOfTrailingZeros_0f7a4_73 rfl (by decide) rfl ?_
    refine v_iload_n (pc := 74) 1 C dJ6_numberOfTrailingZeros_0f7a4_74 rfl rfl ?_
    refine v_iload_n (pc := 75) 0 C dJ6_numberOfTrailingZeros_0f7a4_75 rfl rfl ?_
    refine v_iconst (pc := 76) (v := 1) C dJ6_numberOfTrailingZeros_0f7a4_76 (by decide) ?_
    refine v_iushr (pc := 77) C dJ6_numberOfTrailingZeros_0f7a4_77 ?_
    refine v_iadd (pc := 78) C dJ6_numberOfTrailingZeros_0f7a4_78 ?_
    exact v_iret (pc := 79) C r hw dJ6_numberOfTrailingZeros_0f7a4_79

theorem w_J6_numberOfTrailingZeros_0f7a4_J49 {X : Cx} {G : Gl} {P : Int32 → Mem → Prop} (C : Ck X G RJ6 cJ6_numberOfTrailingZeros_0f7a4 2 0) (r : RetI X G .int P) (x0 : Int32) (x1 : Int32) (σ : Mem) (hw : v_J6_numberOfTrailingZeros_0f7a4_J49 P x0 x1 σ) : V X G 2 49 [(0, .int x0), (1, .int x1)] [] σ := by
  unfold v_J6_numberOfTrailingZeros_0f7a4_J49 at hw
  refine v_iload_n (pc := 49) 0 C dJ6_numberOfTrailingZeros_0f7a4_49 rfl rfl ?_
  refine v_bipush (pc := 50) (v := 16) C dJ6_numberOfTrailingZeros_0f7a4_50 (by decide) ?_
  refine v_icmp_le (pc := 52) (tgt := 62) C dJ6_numberOfTrailingZeros_0f7a4_52 (by decide) (fun c => ?_) (fun c => ?_)
  · replace hw := hw.1 c
    refine v_sub [0, 1] rfl ?_
    exact w_J6_numberOfTrailingZeros_0f7a4_J62 C r _ _ _ hw
  · replace hw := hw.2 c
    refine v_iinc (pc := 55) (v := x1 + 4) 1 C dJ6_numberOfTrailingZeros_0f7a4_55 rfl rfl (by decide) rfl ?_
    refine v_iload_n (pc := 58) 1 C dJ6_numberOfTrailingZeros_0f7a4_58 rfl rfl ?_
    refine v_iconst (pc := 59) (v := 4) C dJ6_numberOfTrailingZeros_0f7a4_59 (by decide) ?_
    refine v_iushr (pc := 60) C dJ6_numberOfTrailingZeros_0f7a4_60 ?_
    refine v_topi (fun y_2 ey_2 => ?_)
    replace hw := hw y_2 ey_2
    refine v_istore_n (pc := 61) C dJ6_numberOfTrailingZeros_0f7a4_61 rfl (by decide) rfl ?_
    refine v_sub [0, 1] rfl ?_
    exact w_J6_numberOfTrailingZeros_0f7a4_J62 C r _ _ _ hw

theorem w_J6_numberOfTrailingZeros_0f7a4_J34 {X : Cx} {G : Gl} {P : Int32 → Mem → Prop} (C : Ck X G RJ6 cJ6_numberOfTrailingZeros_0f7a4 2 0) (r : RetI X G .int P) (x0 : Int32) (x1 : Int32) (σ : Mem) (hw : v_J6_numberOfTrailingZeros_0f7a4_J34 P x0 x1 σ) : V X G 2 34 [(0, .int x0), (1, .int x1)] [] σ := by
  unfold v_J6_numberOfTrailingZeros_0f7a4_J34 at hw
  refine v_iload_n (pc := 34) 0 C dJ6_numberOfTrailingZeros_0f7a4_34 rfl rfl ?_
  refine v_sipush (pc := 35) (v := 256) C dJ6_numberOfTrailingZeros_0f7a4_35 (by decide) ?_
  refine v_icmp_le (pc := 38) (tgt := 49) C dJ6_numberOfTrailingZeros_0f7a4_38 (by decide) (fun c => ?_) (fun c => ?_)
  · replace hw := hw.1 c
    refine v_sub [0, 1] rfl ?_
    exact w_J6_numberOfTrailingZeros_0f7a4_J49 C r _ _ _ hw
  · replace hw := hw.2 c
    refine v_iinc (pc := 41) (v := x1 + 8) 1 C dJ6_numberOfTrailingZeros_0f7a4_41 rfl rfl (by decide) rfl ?_
    refine v_iload_n (pc := 44) 1 C dJ6_numberOfTrailingZeros_0f7a4_44 rfl rfl ?_
    refine v_bipush (pc := 45) (v := 8) C dJ6_numberOfTrailingZeros_0f7a4_45 (by decide) ?_
    refine v_iushr (pc := 47) C dJ6_numberOfTrailingZeros_0f7a4_47 ?_
    refine v_topi (fun y_3 ey_3 => ?_)
    replace hw := hw y_3 ey_3
    refine v_istore_n (pc := 48) C dJ6_numberOfTrailingZeros_0f7a4_48 rfl (by decide) rfl ?_
    refine v_sub [0, 1] rfl ?_
    exact w_J6_numberOfTrailingZeros_0f7a4_J49 C r _ _ _ hw

theorem c_J6_numberOfTrailingZeros_0f7a4 {l : Launch} {G : Gl} {a0 : Int32} {σ : Mem} {P : Int32 → Mem → Prop} (hw : v_J6_numberOfTrailingZeros_0f7a4 a0 σ P) : MetI l yJ6_numberOfTrailingZeros_0f7a4 cJ6_numberOfTrailingZeros_0f7a4 2 .int 0 G [.int a0] σ P := by
  refine MetI.of RJ6 (by decide +kernel) rfl (Nat.le_of_ble_eq_true rfl) (fun X C r => ?_)
  show V X G 2 0 [(0, .int a0)] [] σ
  unfold v_J6_numberOfTrailingZeros_0f7a4 at hw
  refine v_iload_n (pc := 0) 0 C dJ6_numberOfTrailingZeros_0f7a4_0 rfl rfl ?_
  refine v_iconst (pc := 1) (v := (-1)) C dJ6_numberOfTrailingZeros_0f7a4_1 (by decide) ?_
  refine v_ixor (pc := 2) C dJ6_numberOfTrailingZeros_0f7a4_2 ?_
  refine v_iload_n (pc := 3) 0 C dJ6_numberOfTrailingZeros_0f7a4_3 rfl rfl ?_
  refine v_iconst (pc := 4) (v := 1) C dJ6_numberOfTrailingZeros_0f7a4_4 (by decide) ?_
  refine v_isub (pc := 5) C dJ6_numberOfTrailingZeros_0f7a4_5 ?_
  refine v_iand (pc := 6) C dJ6_numberOfTrailingZeros_0f7a4_6 ?_
  refine v_istore_n (pc := 7) C dJ6_numberOfTrailingZeros_0f7a4_7 rfl (by decide) rfl ?_
  refine v_iload_n (pc := 8) 0 C dJ6_numberOfTrailingZeros_0f7a4_8 rfl rfl ?_
  refine v_if_gt (pc := 9) (tgt := 17) C dJ6_numberOfTrailingZeros_0f7a4_9 (by decide) (fun c => ?_) (fun c => ?_)
  · replace hw := hw.1 c
    refine v_iconst (pc := 17) (v := 1) C dJ6_numberOfTrailingZeros_0f7a4_17 (by decide) ?_
    refine v_istore_n (pc := 18) C dJ6_numberOfTrailingZeros_0f7a4_18 rfl (by decide) rfl ?_
    refine v_iload_n (pc := 19) 1 C dJ6_numberOfTrailingZeros_0f7a4_19 rfl rfl ?_
    refine v_ldcw (pc := 20) C k_619 dJ6_numberOfTrailingZeros_0f7a4_20 ?_
    refine v_icmp_le (pc := 23) (tgt := 34) C dJ6_numberOfTrailingZeros_0f7a4_23 (by decide) (fun c => ?_) (fun c => ?_)
    · replace hw := hw.1 c
      refine v_sub [1, 0] rfl ?_
      exact w_J6_numberOfTrailingZeros_0f7a4_J34 C r _ _ _ hw
    · replace hw := hw.2 c
      refine v_iinc (pc := 26) (v := 1 + 16) 0 C dJ6_numberOfTrailingZeros_0f7a4_26 rfl rfl (by decide) rfl ?_
      refine v_iload_n (pc := 29) 1 C dJ6_numberOfTrailingZeros_0f7a4_29 rfl rfl ?_
      refine v_bipush (pc := 30) (v := 16) C dJ6_numberOfTrailingZeros_0f7a4_30 (by decide) ?_
      refine v_iushr (pc := 32) C dJ6_numberOfTrailingZeros_0f7a4_32 ?_
      refine v_topi (fun y_4 ey_4 => ?_)
      replace hw := hw y_4 ey_4
      refine v_istore_n (pc := 33) C dJ6_numberOfTrailingZeros_0f7a4_33 rfl (by decide) rfl ?_
      refine v_sub [0, 1] rfl ?_
      exact w_J6_numberOfTrailingZeros_0f7a4_J34 C r _ _ _ hw
  · replace hw := hw.2 c
    refine v_iload_n (pc := 12) 0 C dJ6_numberOfTrailingZeros_0f7a4_12 rfl rfl ?_
    refine v_bipush (pc := 13) (v := 32) C dJ6_numberOfTrailingZeros_0f7a4_13 (by decide) ?_
    refine v_iand (pc := 15) C dJ6_numberOfTrailingZeros_0f7a4_15 ?_
    exact v_iret (pc := 16) C r hw dJ6_numberOfTrailingZeros_0f7a4_16

theorem c_X3_countMove {l : Launch} {G : Gl} {a1 : Int32} {a2 : Int32} {σ : Mem} {P : Mem → Prop} (hw : v_X3_countMove a1 a2 σ P) : MetV l yX3_countMove cX3_countMove 6 1 G [.ref (gA G 21), .int a1, .int a2, .ref (gA G 7)] σ P := by
  refine MetV.of RX3 (by decide +kernel) rfl (Nat.le_of_ble_eq_true rfl) (fun X C r => ?_)
  show V X G 6 0 [(0, .ref (gA G 21)), (1, .int a1), (2, .int a2), (3, .ref (gA G 7))] [] σ
  unfold v_X3_countMove at hw
  refine v_iload_n (pc := 0) 1 C dX3_countMove_0 rfl rfl ?_
  refine v_if_eq (pc := 1) (tgt := 85) C dX3_countMove_1 (by decide) (fun c => ?_) (fun c => ?_)
  · replace hw := hw.1 c
    exact v_vret (pc := 85) C r hw dX3_countMove_85
  · replace hw := hw.2 c
    refine v_iload_n (pc := 4) 2 C dX3_countMove_4 rfl rfl ?_
    refine v_if_eq (pc := 5) (tgt := 85) C dX3_countMove_5 (by decide) (fun c => ?_) (fun c => ?_)
    · replace hw := hw.1 c
      exact v_vret (pc := 85) C r hw dX3_countMove_85
    · replace hw := hw.2 c
      refine v_aload_n (pc := 8) 3 C dX3_countMove_8 rfl rfl ?_
      refine g_4_0 (pc := 9) C k_177 dX3_countMove_9 ?_
      refine v_iload_n (pc := 12) 1 C dX3_countMove_12 rfl rfl ?_
      refine v_iald (pc := 13) C rfl hw.1 dX3_countMove_13 ?_
      replace hw := hw.2
      refine v_callSi (pc := 14) (As := [.int (σ.1 8 (Int32.toNatClampNeg a1))]) (rest := []) C (c_J6_numberOfTrailingZeros_0f7a4 hw) pk_J6_numberOfTrailingZeros_0f7a4 (Or.inl k_872) (by decide) rfl rfl (Nat.le_of_ble_eq_true rfl) dX3_countMove_14 (fun r_1 σ_2 hw => ?_)
      refine v_istore (pc := 17) C dX3_countMove_17 (by decide) rfl ?_
      refine v_aload_n (pc := 19) 4 C dX3_countMove_19 rfl rfl ?_
      refine g_4_0 (pc := 20) C k_177 dX3_countMove_20 ?_
      refine v_iload_n (pc := 23) 3 C dX3_countMove_23 rfl rfl ?_
      refine v_iald (pc := 24) C rfl hw.1 dX3_countMove_24 ?_
      replace hw := hw.2
      refine v_callSi (pc := 25) (As := [.int (σ_2.1 8 (Int32.toNatClampNeg a2))]) (rest := []) C (c_J6_numberOfTrailingZeros_0f7a4 hw) pk_J6_numberOfTrailingZeros_0f7a4 (Or.inl k_872) (by decide) rfl rfl (Nat.le_of_ble_eq_true rfl) dX3_countMove_25 (fun r_3 σ_4 hw => ?_)
      refine v_istore (pc := 28) C dX3_countMove_28 (by decide) rfl ?_
      refine v_iload (pc := 30) 1 C dX3_countMove_30 rfl ?_
      refine v_bipush (pc := 32) (v := 12) C dX3_countMove_32 (by decide) ?_
      refine v_icmp_ge (pc := 34) (tgt := 85) C dX3_countMove_34 (by decide) (fun c => ?_) (fun c => ?_)
      · replace hw := hw.1 c
        exact v_vret (pc := 85) C r hw dX3_countMove_85
      · replace hw := hw.2 c
        refine v_iload (pc := 37) 0 C dX3_countMove_37 rfl ?_
        refine v_bipush (pc := 39) (v := 12) C dX3_countMove_39 (by decide) ?_
        refine v_icmp_ge (pc := 41) (tgt := 85) C dX3_countMove_41 (by decide) (fun c => ?_) (fun c => ?_)
        · replace hw := hw.1 c
          exact v_vret (pc := 85) C r hw dX3_countMove_85
        · replace hw := hw.2 c
          refine v_iload (pc := 44) 1 C dX3_countMove_44 rfl ?_
          refine v_iload (pc := 46) 0 C dX3_countMove_46 rfl ?_
          refine v_icmp_eq (pc := 48) (tgt := 85) C dX3_countMove_48 (by decide) (fun c => ?_) (fun c => ?_)
          · replace hw := hw.1 c
            exact v_vret (pc := 85) C r hw dX3_countMove_85
          · replace hw := hw.2 c
            refine v_aload_n (pc := 51) 2 C dX3_countMove_51 rfl rfl ?_
            refine g_3_0 (pc := 52) C k_288 dX3_countMove_52 ?_
            refine v_iload (pc := 55) 1 C dX3_countMove_55 rfl ?_
            refine v_bipush (pc := 57) (v := 12) C dX3_countMove_57 (by decide) ?_
            refine v_imul (pc := 59) C dX3_countMove_59 ?_
            refine v_iload (pc := 60) 0 C dX3_countMove_60 rfl ?_
            refine v_iadd (pc := 62) C dX3_countMove_62 ?_
            refine v_dup2 (pc := 63) C dX3_countMove_63 rfl rfl ?_
            refine v_iald (pc := 64) C rfl hw.1 dX3_countMove_64 ?_
            replace hw := hw.2
            refine v_iconst (pc := 65) (v := 1) C dX3_countMove_65 (by decide) ?_
            refine v_iadd (pc := 66) C dX3_countMove_66 ?_
            refine v_iast (pc := 67) C rfl hw.1 dX3_countMove_67 ?_
            replace hw := hw.2
            refine v_aload_n (pc := 68) 2 C dX3_countMove_68 rfl rfl ?_
            refine g_3_0 (pc := 69) C k_288 dX3_countMove_69 ?_
            refine v_iload (pc := 72) 0 C dX3_countMove_72 rfl ?_
            refine v_bipush (pc := 74) (v := 12) C dX3_countMove_74 (by decide) ?_
            refine v_imul (pc := 76) C dX3_countMove_76 ?_
            refine v_iload (pc := 77) 1 C dX3_countMove_77 rfl ?_
            refine v_iadd (pc := 79) C dX3_countMove_79 ?_
            refine v_dup2 (pc := 80) C dX3_countMove_80 rfl rfl ?_
            refine v_iald (pc := 81) C rfl hw.1 dX3_countMove_81 ?_
            replace hw := hw.2
            refine v_iconst (pc := 82) (v := 1) C dX3_countMove_82 (by decide) ?_
            refine v_iadd (pc := 83) C dX3_countMove_83 ?_
            refine v_iast (pc := 84) C rfl hw.1 dX3_countMove_84 ?_
            replace hw := hw.2
            exact v_vret (pc := 85) C r hw dX3_countMove_85

theorem w_X3_countMoves_L29 {X : Cx} {G : Gl} {P : Mem → Prop} {x3 : Int32} {o4 : Nat} {K84 : Mem → Prop} (C : Ck X G RX3 cX3_countMoves 6 3) (r : RetV X G P) (h4 : kd o4 = (9, 0)) (hK84 : ∀ (σ : Mem), K84 σ → V X G 6 84 [(0, .ref (gA G 21)), (1, .ref (gA G 13)), (2, .ref (gA G 7)), (3, .int x3)] [] σ) : ∀ (n : Nat) (x5 : Int32) (σ : Mem), v_X3_countMoves_L29 x3 o4 K84 P n x5 σ → V X G 6 29 [(0, .ref (gA G 21)), (1, .ref (gA G 13)), (2, .ref (gA G 7)), (3, .int x3), (4, .ref (gA G o4)), (5, .int x5)] [] σ := by
  intro n
  induction n with
  | zero => intro x5 σ hw; exact hw.elim
  | succ n ih =>
    intro x5 σ hw
    refine v_iload (pc := 29) 5 C dX3_countMoves_29 rfl ?_
    refine v_aload (pc := 31) 4 C dX3_countMoves_31 rfl ?_
    refine g_9_2 (pc := 33) h4 C k_219 dX3_countMoves_33 ?_
    refine v_icmp_ge (pc := 36) (tgt := 84) C dX3_countMoves_36 (by decide) (fun c => ?_) (fun c => ?_)
    · replace hw := hw.1 c
      refine v_sub [0, 1, 2, 3] rfl ?_
      exact hK84 _ hw
    · replace hw := hw.2 c
      refine v_aload_n (pc := 39) 0 C dX3_countMoves_39 rfl rfl ?_
      refine v_aload_n (pc := 40) 2 C dX3_countMoves_40 rfl rfl ?_
      refine v_aload (pc := 41) 4 C dX3_countMoves_41 rfl ?_
      refine v_aload (pc := 43) 4 C dX3_countMoves_43 rfl ?_
      refine g_9_3 (pc := 45) h4 C k_225 dX3_countMoves_45 ?_
      refine v_iload (pc := 48) 5 C dX3_countMoves_48 rfl ?_
      refine v_iconst (pc := 50) (v := 1) C dX3_countMoves_50 (by decide) ?_
      refine v_isub (pc := 51) C dX3_countMoves_51 ?_
      refine v_cVi (pc := 52) (o := o4) (As := [.int (σ.1 o4 3), .int (x5 - 1)]) (rest := [.ref (gA G 7), .ref (gA G 21)]) (ci := 9) C (c_X9_chordIn h4 hw) pk_X9_chordIn k_866 h4 (by decide) rfl (by decide) rfl rfl (Nat.le_of_ble_eq_true rfl) dX3_countMoves_52 (fun r_3 σ_4 hw => ?_)
      refine v_cVi (pc := 55) (o := 7) (As := [.int r_3]) (rest := [.ref (gA G 21)]) (ci := 4) C (c_X4_holdOf hw) pk_X4_holdOf k_867 rfl (by decide) rfl (by decide) rfl rfl (Nat.le_of_ble_eq_true rfl) dX3_countMoves_55 (fun r_5 σ_6 hw => ?_)
      refine v_aload_n (pc := 58) 2 C dX3_countMoves_58 rfl rfl ?_
      refine v_aload (pc := 59) 4 C dX3_countMoves_59 rfl ?_
      refine v_aload (pc := 61) 4 C dX3_countMoves_61 rfl ?_
      refine g_9_3 (pc := 63) h4 C k_225 dX3_countMoves_63 ?_
      refine v_iload (pc := 66) 5 C dX3_countMoves_66 rfl ?_
      refine v_cVi (pc := 68) (o := o4) (As := [.int (σ_6.1 o4 3), .int x5]) (rest := [.ref (gA G 7), .int r_5, .ref (gA G 21)]) (ci := 9) C (c_X9_chordIn h4 hw) pk_X9_chordIn k_866 h4 (by decide) rfl (by decide) rfl rfl (Nat.le_of_ble_eq_true rfl) dX3_countMoves_68 (fun r_7 σ_8 hw => ?_)
      refine v_cVi (pc := 71) (o := 7) (As := [.int r_7]) (rest := [.int r_5, .ref (gA G 21)]) (ci := 4) C (c_X4_holdOf hw) pk_X4_holdOf k_867 rfl (by decide) rfl (by decide) rfl rfl (Nat.le_of_ble_eq_true rfl) dX3_countMoves_71 (fun r_9 σ_10 hw => ?_)
      refine v_aload_n (pc := 74) 2 C dX3_countMoves_74 rfl rfl ?_
      refine v_cVv (pc := 75) (o := 21) (As := [.int r_5, .int r_9, .ref (gA G 7)]) (rest := []) (ci := 3) C (c_X3_countMove hw) pk_X3_countMove k_868 rfl (by decide) rfl (by decide) rfl rfl (Nat.le_of_ble_eq_true rfl) dX3_countMoves_75 (fun σ_11 hw => ?_)
      refine v_iinc (pc := 78) (v := x5 + 1) 5 C dX3_countMoves_78 rfl rfl (by decide) rfl ?_
      refine v_goto (pc := 81) (tgt := 29) C dX3_countMoves_81 (by decide) ?_
      refine v_sub [1, 2, 3, 4, 5, 0] rfl ?_
      exact ih _ _ hw

theorem w_X3_countMoves_L10 {X : Cx} {G : Gl} {P : Mem → Prop} (C : Ck X G RX3 cX3_countMoves 6 3) (r : RetV X G P) : ∀ (n : Nat) (x3 : Int32) (σ : Mem), v_X3_countMoves_L10 P n x3 σ → V X G 6 10 [(0, .ref (gA G 21)), (1, .ref (gA G 13)), (2, .ref (gA G 7)), (3, .int x3)] [] σ := by
  intro n
  induction n with
  | zero => intro x3 σ hw; exact hw.elim
  | succ n ih =>
    intro x3 σ hw
    refine v_iload_n (pc := 10) 3 C dX3_countMoves_10 rfl rfl ?_
    refine v_aload_n (pc := 11) 1 C dX3_countMoves_11 rfl rfl ?_
    refine g_1_1 (pc := 12) C k_244 dX3_countMoves_12 ?_
    refine v_icmp_ge (pc := 15) (tgt := 90) C dX3_countMoves_15 (by decide) (fun c => ?_) (fun c => ?_)
    · replace hw := hw.1 c
      exact v_vret (pc := 90) C r hw dX3_countMoves_90
    · replace hw := hw.2 c
      refine v_aload_n (pc := 18) 1 C dX3_countMoves_18 rfl rfl ?_
      refine g_1_0 (pc := 19) C k_240 dX3_countMoves_19 ?_
      refine v_iload_n (pc := 22) 3 C dX3_countMoves_22 rfl rfl ?_
      have q_2 := hw.1
      refine v_aldG (pc := 23) C rfl q_2 dX3_countMoves_23 ?_
      replace hw := hw.2
      refine v_astore (pc := 24) C dX3_countMoves_24 (by decide) rfl ?_
      refine v_iconst (pc := 26) (v := 1) C dX3_countMoves_26 (by decide) ?_
      refine v_istore (pc := 27) C dX3_countMoves_27 (by decide) rfl ?_
      refine v_sub [2, 3, 4, 5, 1, 0] rfl ?_
      refine w_X3_countMoves_L29 C r ((kd_song (vp_lt q_2)).1) ?_ 5000 _ _ hw
      · intro σ_13 hw
        refine v_iinc (pc := 84) (v := x3 + 1) 3 C dX3_countMoves_84 rfl rfl (by decide) rfl ?_
        refine v_goto (pc := 87) (tgt := 10) C dX3_countMoves_87 (by decide) ?_
        refine v_sub [1, 2, 3, 0] rfl ?_
        exact ih _ _ hw

theorem c_X3_countMoves {l : Launch} {G : Gl} {σ : Mem} {P : Mem → Prop} (hw : v_X3_countMoves σ P) : MetV l yX3_countMoves cX3_countMoves 6 3 G [.ref (gA G 21), .ref (gA G 13), .ref (gA G 7)] σ P := by
  refine MetV.of RX3 (by decide +kernel) rfl (Nat.le_of_ble_eq_true rfl) (fun X C r => ?_)
  show V X G 6 0 [(0, .ref (gA G 21)), (1, .ref (gA G 13)), (2, .ref (gA G 7))] [] σ
  unfold v_X3_countMoves at hw
  refine v_aload_n (pc := 0) 0 C dX3_countMoves_0 rfl rfl ?_
  refine g_3_0 (pc := 1) C k_288 dX3_countMoves_1 ?_
  refine v_iconst (pc := 4) (v := 0) C dX3_countMoves_4 (by decide) ?_
  refine v_callSv (pc := 5) (As := [.ref (gA G 22), .int 0]) (rest := []) C (c_J7_fill_53178 rfl hw) pk_J7_fill_53178 (Or.inl k_865) (by decide) rfl rfl (Nat.le_of_ble_eq_true rfl) dX3_countMoves_5 (fun σ_1 hw => ?_)
  refine v_iconst (pc := 8) (v := 0) C dX3_countMoves_8 (by decide) ?_
  refine v_istore_n (pc := 9) C dX3_countMoves_9 rfl (by decide) rfl ?_
  refine v_sub [1, 2, 3, 0] rfl ?_
  refine w_X3_countMoves_L10 C r 5000 _ _ hw

theorem c_J9_abs_0f7a4 {l : Launch} {G : Gl} {a0 : Int32} {σ : Mem} {P : Int32 → Mem → Prop} (hw : v_J9_abs_0f7a4 a0 σ P) : MetI l yJ9_abs_0f7a4 cJ9_abs_0f7a4 1 .int 0 G [.int a0] σ P := by
  refine MetI_ofF RJ9 (by decide +kernel) rfl (Nat.le_of_ble_eq_true rfl) (fun X C r => ?_)
  show V X G 1 0 [(0, .int a0)] [] σ
  unfold v_J9_abs_0f7a4 at hw
  refine v_iload_n (pc := 0) 0 C dJ9_abs_0f7a4_0 rfl rfl ?_
  refine v_if_ge (pc := 1) (tgt := 9) C dJ9_abs_0f7a4_1 (by decide) (fun c => ?_) (fun c => ?_)
  · replace hw := hw.1 c
    refine v_iload_n (pc := 9) 0 C dJ9_abs_0f7a4_9 rfl rfl ?_
    exact v_iret (pc := 10) C r hw dJ9_abs_0f7a4_10
  · replace hw := hw.2 c
    refine v_iload_n (pc := 4) 0 C dJ9_abs_0f7a4_4 rfl rfl ?_
    refine v_ineg (pc := 5) C dJ9_abs_0f7a4_5 ?_
    refine v_goto (pc := 6) (tgt := 10) C dJ9_abs_0f7a4_6 (by decide) ?_
    exact v_iret (pc := 10) C r hw dJ9_abs_0f7a4_10

theorem w_X3_wayOf_L17 {X : Cx} {G : Gl} {P : Int32 → Mem → Prop} {x3 : Int32} {K75 : Int32 → Mem → Prop} (C : Ck X G RX3 cX3_wayOf 6 1) (r : RetI X G .int P) (hK75 : ∀ (x2 : Int32) (σ : Mem), K75 x2 σ → V X G 6 75 [(0, .ref (gA G 21)), (1, .ref (gA G 5)), (2, .int x2), (3, .int x3)] [] σ) : ∀ (n : Nat) (x2 : Int32) (x4 : Int32) (σ : Mem), v_X3_wayOf_L17 x3 K75 P n x2 x4 σ → V X G 6 17 [(0, .ref (gA G 21)), (1, .ref (gA G 5)), (2, .int x2), (3, .int x3), (4, .int x4)] [] σ := by
  intro n
  induction n with
  | zero => intro x2 x4 σ hw; exact hw.elim
  | succ n ih =>
    intro x2 x4 σ hw
    refine v_iload (pc := 17) 4 C dX3_wayOf_17 rfl ?_
    refine v_aload_n (pc := 19) 1 C dX3_wayOf_19 rfl rfl ?_
    refine g_7_1 (pc := 20) C k_163 dX3_wayOf_20 ?_
    refine v_icmp_ge (pc := 23) (tgt := 75) C dX3_wayOf_23 (by decide) (fun c => ?_) (fun c => ?_)
    · replace hw := hw.1 c
      refine v_sub [0, 1, 2, 3] rfl ?_
      exact hK75 _ _ hw
    · replace hw := hw.2 c
      refine v_aload_n (pc := 26) 1 C dX3_wayOf_26 rfl rfl ?_
      refine g_7_0 (pc := 27) C k_158 dX3_wayOf_27 ?_
      refine v_iload_n (pc := 30) 3 C dX3_wayOf_30 rfl rfl ?_
      have q_1 := hw.1
      refine v_aldB (pc := 31) C rfl q_1 dX3_wayOf_31 ?_
      replace hw := hw.2
      refine g_0_3 (pc := 32) (kd_bar (vp_lt q_1)) C k_144 dX3_wayOf_32 ?_
      refine v_aload_n (pc := 35) 1 C dX3_wayOf_35 rfl rfl ?_
      refine g_7_0 (pc := 36) C k_158 dX3_wayOf_36 ?_
      refine v_iload (pc := 39) 4 C dX3_wayOf_39 rfl ?_
      have q_2 := hw.1
      refine v_aldB (pc := 41) C rfl q_2 dX3_wayOf_41 ?_
      replace hw := hw.2
      refine g_0_3 (pc := 42) (kd_bar (vp_lt q_2)) C k_144 dX3_wayOf_42 ?_
      refine v_isub (pc := 45) C dX3_wayOf_45 ?_
      refine v_callSi (pc := 46) (As := [.int ((σ.1 (bB + Int32.toNatClampNeg x3) 3) - (σ.1 (bB + Int32.toNatClampNeg x4) 3))]) (rest := []) C (c_J9_abs_0f7a4 hw) pk_J9_abs_0f7a4 (Or.inl k_877) (by decide) rfl rfl (Nat.le_of_ble_eq_true rfl) dX3_wayOf_46 (fun r_3 σ_4 hw => ?_)
      refine v_istore (pc := 49) C dX3_wayOf_49 (by decide) rfl ?_
      refine v_iload_n (pc := 51) 3 C dX3_wayOf_51 rfl rfl ?_
      refine v_aload_n (pc := 52) 1 C dX3_wayOf_52 rfl rfl ?_
      refine g_3_0 (pc := 53) C k_288 dX3_wayOf_53 ?_
      refine v_iload_n (pc := 56) 4 C dX3_wayOf_56 rfl rfl ?_
      refine v_bipush (pc := 57) (v := 12) C dX3_wayOf_57 (by decide) ?_
      refine v_imul (pc := 59) C dX3_wayOf_59 ?_
      refine v_iload (pc := 60) 5 C dX3_wayOf_60 rfl ?_
      refine v_iadd (pc := 62) C dX3_wayOf_62 ?_
      refine v_iald (pc := 63) C rfl hw.1 dX3_wayOf_63 ?_
      replace hw := hw.2
      refine v_iload (pc := 64) 0 C dX3_wayOf_64 rfl ?_
      refine v_imul (pc := 66) C dX3_wayOf_66 ?_
      refine v_iadd (pc := 67) C dX3_wayOf_67 ?_
      refine v_topi (fun y_5 ey_5 => ?_)
      replace hw := hw y_5 ey_5
      refine v_istore_n (pc := 68) C dX3_wayOf_68 rfl (by decide) rfl ?_
      refine v_iinc (pc := 69) (v := x4 + 1) 5 C dX3_wayOf_69 rfl rfl (by decide) rfl ?_
      refine v_goto (pc := 72) (tgt := 17) C dX3_wayOf_72 (by decide) ?_
      refine v_sub [3, 4, 1, 5, 0] rfl ?_
      exact ih _ _ _ hw

theorem w_X3_wayOf_L4 {X : Cx} {G : Gl} {P : Int32 → Mem → Prop} (C : Ck X G RX3 cX3_wayOf 6 1) (r : RetI X G .int P) : ∀ (n : Nat) (x2 : Int32) (x3 : Int32) (σ : Mem), v_X3_wayOf_L4 P n x2 x3 σ → V X G 6 4 [(0, .ref (gA G 21)), (1, .ref (gA G 5)), (2, .int x2), (3, .int x3)] [] σ := by
  intro n
  induction n with
  | zero => intro x2 x3 σ hw; exact hw.elim
  | succ n ih =>
    intro x2 x3 σ hw
    refine v_iload_n (pc := 4) 3 C dX3_wayOf_4 rfl rfl ?_
    refine v_aload_n (pc := 5) 1 C dX3_wayOf_5 rfl rfl ?_
    refine g_7_1 (pc := 6) C k_163 dX3_wayOf_6 ?_
    refine v_icmp_ge (pc := 9) (tgt := 81) C dX3_wayOf_9 (by decide) (fun c => ?_) (fun c => ?_)
    · replace hw := hw.1 c
      refine v_iload_n (pc := 81) 2 C dX3_wayOf_81 rfl rfl ?_
      exact v_iret (pc := 82) C r hw dX3_wayOf_82
    · replace hw := hw.2 c
      refine v_iload_n (pc := 12) 3 C dX3_wayOf_12 rfl rfl ?_
      refine v_iconst (pc := 13) (v := 1) C dX3_wayOf_13 (by decide) ?_
      refine v_iadd (pc := 14) C dX3_wayOf_14 ?_
      refine v_istore (pc := 15) C dX3_wayOf_15 (by decide) rfl ?_
      refine v_sub [1, 2, 3, 4, 0] rfl ?_
      refine w_X3_wayOf_L17 C r ?_ 5000 _ _ _ hw
      · intro x2_6 σ_7 hw
        refine v_iinc (pc := 75) (v := x3 + 1) 3 C dX3_wayOf_75 rfl rfl (by decide) rfl ?_
        refine v_goto (pc := 78) (tgt := 4) C dX3_wayOf_78 (by decide) ?_
        refine v_sub [1, 2, 3, 0] rfl ?_
        exact ih _ _ _ hw

theorem c_X3_wayOf {l : Launch} {G : Gl} {σ : Mem} {P : Int32 → Mem → Prop} (hw : v_X3_wayOf σ P) : MetI l yX3_wayOf cX3_wayOf 6 .int 1 G [.ref (gA G 21), .ref (gA G 5)] σ P := by
  refine MetI.of RX3 (by decide +kernel) rfl (Nat.le_of_ble_eq_true rfl) (fun X C r => ?_)
  show V X G 6 0 [(0, .ref (gA G 21)), (1, .ref (gA G 5))] [] σ
  unfold v_X3_wayOf at hw
  refine v_iconst (pc := 0) (v := 0) C dX3_wayOf_0 (by decide) ?_
  refine v_istore_n (pc := 1) C dX3_wayOf_1 rfl (by decide) rfl ?_
  refine v_iconst (pc := 2) (v := 0) C dX3_wayOf_2 (by decide) ?_
  refine v_istore_n (pc := 3) C dX3_wayOf_3 rfl (by decide) rfl ?_
  refine v_sub [2, 3, 1, 0] rfl ?_
  refine w_X3_wayOf_L4 C r 5000 _ _ _ hw

theorem w_X3_crossingsBy_L6 {X : Cx} {G : Gl} {P : Int32 → Mem → Prop} {x1 : Int32} {x2 : Int32} {x3 : Int32} (C : Ck X G RX3 cX3_crossingsBy 7 1) (r : RetI X G .int P) : ∀ (n : Nat) (x4 : Int32) (x5 : Int32) (σ : Mem), v_X3_crossingsBy_L6 x1 x2 x3 P n x4 x5 σ → V X G 7 6 [(0, .ref (gA G 21)), (1, .int x1), (2, .int x2), (3, .int x3), (4, .int x4), (5, .int x5)] [] σ := by
  intro n
  induction n with
  | zero => intro x4 x5 σ hw; exact hw.elim
  | succ n ih =>
    intro x4 x5 σ hw
    refine v_iload (pc := 6) 5 C dX3_crossingsBy_6 rfl ?_
    refine v_iload_n (pc := 8) 3 C dX3_crossingsBy_8 rfl rfl ?_
    refine v_icmp_ge (pc := 9) (tgt := 55) C dX3_crossingsBy_9 (by decide) (fun c => ?_) (fun c => ?_)
    · replace hw := hw.1 c
      refine v_iload (pc := 55) 4 C dX3_crossingsBy_55 rfl ?_
      exact v_iret (pc := 57) C r hw dX3_crossingsBy_57
    · replace hw := hw.2 c
      refine v_aload_n (pc := 12) 0 C dX3_crossingsBy_12 rfl rfl ?_
      refine g_3_0 (pc := 13) C k_288 dX3_crossingsBy_13 ?_
      refine v_iload_n (pc := 16) 1 C dX3_crossingsBy_16 rfl rfl ?_
      refine v_bipush (pc := 17) (v := 12) C dX3_crossingsBy_17 (by decide) ?_
      refine v_imul (pc := 19) C dX3_crossingsBy_19 ?_
      refine v_iload (pc := 20) 5 C dX3_crossingsBy_20 rfl ?_
      refine v_iadd (pc := 22) C dX3_crossingsBy_22 ?_
      refine v_iald (pc := 23) C rfl hw.1 dX3_crossingsBy_23 ?_
      replace hw := hw.2
      refine v_istore (pc := 24) C dX3_crossingsBy_24 (by decide) rfl ?_
      refine v_iload (pc := 26) 5 C dX3_crossingsBy_26 rfl ?_
      refine v_iload_n (pc := 28) 3 C dX3_crossingsBy_28 rfl rfl ?_
      refine v_i2l (pc := 29) C dX3_crossingsBy_29 ?_
      refine v_iload (pc := 30) 6 C dX3_crossingsBy_30 rfl ?_
      refine v_callSi (pc := 32) (As := [.long (Int32.toInt64 x2), .int x5]) (rest := [.int x4]) C (c_X11_hasBit hw) pk_X11_hasBit (Or.inr (by decide +kernel)) (by decide) rfl rfl (Nat.le_of_ble_eq_true rfl) dX3_crossingsBy_32 (fun r_1 σ_2 hw => ?_)
      refine v_if_eq (pc := 35) (tgt := 44) C dX3_crossingsBy_35 (by decide) (fun c => ?_) (fun c => ?_)
      · replace hw := hw.1 c
        refine v_iload (pc := 44) 0 C dX3_crossingsBy_44 rfl ?_
        refine v_iadd (pc := 46) C dX3_crossingsBy_46 ?_
        refine v_istore (pc := 47) C dX3_crossingsBy_47 (by decide) rfl ?_
        refine v_iinc (pc := 49) (v := x5 + 1) 6 C dX3_crossingsBy_49 rfl rfl (by decide) rfl ?_
        refine v_goto (pc := 52) (tgt := 6) C dX3_crossingsBy_52 (by decide) ?_
        refine v_sub [3, 4, 5, 6, 1, 0] rfl ?_
        exact ih _ _ _ hw
      · replace hw := hw.2 c
        refine v_iload (pc := 38) 0 C dX3_crossingsBy_38 rfl ?_
        refine v_ineg (pc := 40) C dX3_crossingsBy_40 ?_
        refine v_goto (pc := 41) (tgt := 46) C dX3_crossingsBy_41 (by decide) ?_
        refine v_iadd (pc := 46) C dX3_crossingsBy_46 ?_
        refine v_istore (pc := 47) C dX3_crossingsBy_47 (by decide) rfl ?_
        refine v_iinc (pc := 49) (v := x5 + 1) 6 C dX3_crossingsBy_49 rfl rfl (by decide) rfl ?_
        refine v_goto (pc := 52) (tgt := 6) C dX3_crossingsBy_52 (by decide) ?_
        refine v_sub [3, 4, 5, 6, 1, 0] rfl ?_
        exact ih _ _ _ hw

theorem c_X3_crossingsBy {l : Launch} {G : Gl} {a1 : Int32} {a2 : Int32} {a3 : Int32} {σ : Mem} {P : Int32 → Mem → Prop} (hw : v_X3_crossingsBy a1 a2 a3 σ P) : MetI l yX3_crossingsBy cX3_crossingsBy 7 .int 1 G [.ref (gA G 21), .int a1, .int a2, .int a3] σ P := by
  refine MetI.of RX3 (by decide +kernel) rfl (Nat.le_of_ble_eq_true rfl) (fun X C r => ?_)
  show V X G 7 0 [(0, .ref (gA G 21)), (1, .int a1), (2, .int a2), (3, .int a3)] [] σ
  unfold v_X3_crossingsBy at hw
  refine v_iconst (pc := 0) (v := 0) C dX3_crossingsBy_0 (by decide) ?_
  refine v_istore (pc := 1) C dX3_crossingsBy_1 (by decide) rfl ?_
  refine v_iconst (pc := 3) (v := 0) C dX3_crossingsBy_3 (by decide) ?_
  refine v_istore (pc := 4) C dX3_crossingsBy_4 (by decide) rfl ?_
  refine v_sub [2, 3, 4, 5, 1, 0] rfl ?_
  refine w_X3_crossingsBy_L6 C r 5000 _ _ _ hw

theorem c_J9_max_7cf53 {l : Launch} {G : Gl} {a0 : Int32} {a1 : Int32} {σ : Mem} {P : Int32 → Mem → Prop} (hw : v_J9_max_7cf53 a0 a1 σ P) : MetI l yJ9_max_7cf53 cJ9_max_7cf53 2 .int 0 G [.int a0, .int a1] σ P := by
  refine MetI_ofF RJ9 (by decide +kernel) rfl (Nat.le_of_ble_eq_true rfl) (fun X C r => ?_)
  show V X G 2 0 [(0, .int a0), (1, .int a1)] [] σ
  unfold v_J9_max_7cf53 at hw
  refine v_iload_n (pc := 0) 0 C dJ9_max_7cf53_0 rfl rfl ?_
  refine v_iload_n (pc := 1) 1 C dJ9_max_7cf53_1 rfl rfl ?_
  refine v_icmp_lt (pc := 2) (tgt := 9) C dJ9_max_7cf53_2 (by decide) (fun c => ?_) (fun c => ?_)
  · replace hw := hw.1 c
    refine v_iload_n (pc := 9) 1 C dJ9_max_7cf53_9 rfl rfl ?_
    exact v_iret (pc := 10) C r hw dJ9_max_7cf53_10
  · replace hw := hw.2 c
    refine v_iload_n (pc := 5) 0 C dJ9_max_7cf53_5 rfl rfl ?_
    refine v_goto (pc := 6) (tgt := 10) C dJ9_max_7cf53_6 (by decide) ?_
    exact v_iret (pc := 10) C r hw dJ9_max_7cf53_10

theorem w_X3_nextBar_L6 {X : Cx} {G : Gl} {P : Int32 → Mem → Prop} {x1 : Int32} {x2 : Int32} {K59 : Int32 → Mem → Prop} (C : Ck X G RX3 cX3_nextBar 5 1) (r : RetI X G .int P) (hK59 : ∀ (x3 : Int32) (σ : Mem), K59 x3 σ → V X G 5 59 [(3, .int x3)] [] σ) : ∀ (n : Nat) (x3 : Int32) (x4 : Int32) (σ : Mem), v_X3_nextBar_L6 x1 x2 K59 P n x3 x4 σ → V X G 5 6 [(0, .ref (gA G 21)), (1, .int x1), (2, .int x2), (3, .int x3), (4, .int x4)] [] σ := by
  intro n
  induction n with
  | zero => intro x3 x4 σ hw; exact hw.elim
  | succ n ih =>
    intro x3 x4 σ hw
    refine v_iload (pc := 6) 4 C dX3_nextBar_6 rfl ?_
    refine v_iload_n (pc := 8) 2 C dX3_nextBar_8 rfl rfl ?_
    refine v_icmp_ge (pc := 9) (tgt := 59) C dX3_nextBar_9 (by decide) (fun c => ?_) (fun c => ?_)
    · replace hw := hw.1 c
      refine v_sub [3] rfl ?_
      exact hK59 _ _ hw
    · replace hw := hw.2 c
      refine v_iload_n (pc := 12) 1 C dX3_nextBar_12 rfl rfl ?_
      refine v_i2l (pc := 13) C dX3_nextBar_13 ?_
      refine v_iload (pc := 14) 4 C dX3_nextBar_14 rfl ?_
      refine v_callSi (pc := 16) (As := [.long (Int32.toInt64 x1), .int x4]) (rest := []) C (c_X11_hasBit hw) pk_X11_hasBit (Or.inr (by decide +kernel)) (by decide) rfl rfl (Nat.le_of_ble_eq_true rfl) dX3_nextBar_16 (fun r_1 σ_2 hw => ?_)
      refine v_if_ne (pc := 19) (tgt := 53) C dX3_nextBar_19 (by decide) (fun c => ?_) (fun c => ?_)
      · replace hw := hw.2 c
        refine v_iinc (pc := 53) (v := x4 + 1) 4 C dX3_nextBar_53 rfl rfl (by decide) rfl ?_
        refine v_goto (pc := 56) (tgt := 6) C dX3_nextBar_56 (by decide) ?_
        refine v_sub [1, 2, 3, 4, 0] rfl ?_
        exact ih _ _ _ hw
      · replace hw := hw.1 c
        refine v_iload_n (pc := 22) 3 C dX3_nextBar_22 rfl rfl ?_
        refine v_if_lt (pc := 23) (tgt := 50) C dX3_nextBar_23 (by decide) (fun c => ?_) (fun c => ?_)
        · replace hw := hw.1 c
          refine v_iload (pc := 50) 4 C dX3_nextBar_50 rfl ?_
          refine v_istore_n (pc := 52) C dX3_nextBar_52 rfl (by decide) rfl ?_
          refine v_iinc (pc := 53) (v := x4 + 1) 4 C dX3_nextBar_53 rfl rfl (by decide) rfl ?_
          refine v_goto (pc := 56) (tgt := 6) C dX3_nextBar_56 (by decide) ?_
          refine v_sub [2, 3, 4, 1, 0] rfl ?_
          exact ih _ _ _ hw
        · replace hw := hw.2 c
          refine v_aload_n (pc := 26) 0 C dX3_nextBar_26 rfl rfl ?_
          refine g_3_1 (pc := 27) C k_289 dX3_nextBar_27 ?_
          refine v_iload_n (pc := 30) 1 C dX3_nextBar_30 rfl rfl ?_
          refine v_iconst (pc := 31) (v := 1) C dX3_nextBar_31 (by decide) ?_
          refine v_iload (pc := 32) 4 C dX3_nextBar_32 rfl ?_
          refine v_ishl (pc := 34) C dX3_nextBar_34 ?_
          refine v_ior (pc := 35) C dX3_nextBar_35 ?_
          refine v_iald (pc := 36) C rfl hw.1 dX3_nextBar_36 ?_
          replace hw := hw.2
          refine v_aload_n (pc := 37) 0 C dX3_nextBar_37 rfl rfl ?_
          refine g_3_1 (pc := 38) C k_289 dX3_nextBar_38 ?_
          refine v_iload_n (pc := 41) 1 C dX3_nextBar_41 rfl rfl ?_
          refine v_iconst (pc := 42) (v := 1) C dX3_nextBar_42 (by decide) ?_
          refine v_iload_n (pc := 43) 3 C dX3_nextBar_43 rfl rfl ?_
          refine v_ishl (pc := 44) C dX3_nextBar_44 ?_
          refine v_ior (pc := 45) C dX3_nextBar_45 ?_
          refine v_iald (pc := 46) C rfl hw.1 dX3_nextBar_46 ?_
          replace hw := hw.2
          refine v_icmp_ge (pc := 47) (tgt := 53) C dX3_nextBar_47 (by decide) (fun c => ?_) (fun c => ?_)
          · replace hw := hw.1 c
            refine v_iinc (pc := 53) (v := x4 + 1) 4 C dX3_nextBar_53 rfl rfl (by decide) rfl ?_
            refine v_goto (pc := 56) (tgt := 6) C dX3_nextBar_56 (by decide) ?_
            refine v_sub [1, 2, 3, 4, 0] rfl ?_
            exact ih _ _ _ hw
          · replace hw := hw.2 c
            refine v_iload (pc := 50) 4 C dX3_nextBar_50 rfl ?_
            refine v_istore_n (pc := 52) C dX3_nextBar_52 rfl (by decide) rfl ?_
            refine v_iinc (pc := 53) (v := x4 + 1) 4 C dX3_nextBar_53 rfl rfl (by decide) rfl ?_
            refine v_goto (pc := 56) (tgt := 6) C dX3_nextBar_56 (by decide) ?_
            refine v_sub [2, 3, 4, 1, 0] rfl ?_
            exact ih _ _ _ hw

theorem c_X3_nextBar {l : Launch} {G : Gl} {a1 : Int32} {a2 : Int32} {σ : Mem} {P : Int32 → Mem → Prop} (hw : v_X3_nextBar a1 a2 σ P) : MetI l yX3_nextBar cX3_nextBar 5 .int 1 G [.ref (gA G 21), .int a1, .int a2] σ P := by
  refine MetI.of RX3 (by decide +kernel) rfl (Nat.le_of_ble_eq_true rfl) (fun X C r => ?_)
  show V X G 5 0 [(0, .ref (gA G 21)), (1, .int a1), (2, .int a2)] [] σ
  unfold v_X3_nextBar at hw
  refine v_bipush (pc := 0) (v := (-9)) C dX3_nextBar_0 (by decide) ?_
  refine v_istore_n (pc := 2) C dX3_nextBar_2 rfl (by decide) rfl ?_
  refine v_iconst (pc := 3) (v := 0) C dX3_nextBar_3 (by decide) ?_
  refine v_istore (pc := 4) C dX3_nextBar_4 (by decide) rfl ?_
  refine v_sub [2, 3, 4, 1, 0] rfl ?_
  refine w_X3_nextBar_L6 C r ?_ 5000 _ _ _ hw
  · intro x3_3 σ_4 hw
    refine v_iload_n (pc := 59) 0 C dX3_nextBar_59 rfl rfl ?_
    refine v_iconst (pc := 60) (v := 0) C dX3_nextBar_60 (by decide) ?_
    refine v_callSi (pc := 61) (As := [.int x3_3, .int 0]) (rest := []) C (c_J9_max_7cf53 hw) pk_J9_max_7cf53 (Or.inl k_897) (by decide) rfl rfl (Nat.le_of_ble_eq_true rfl) dX3_nextBar_61 (fun r_5 σ_6 hw => ?_)
    exact v_iret (pc := 64) C r hw dX3_nextBar_64

theorem w_X3_leastWay_L15 {X : Cx} {G : Gl} {P : Int32 → Mem → Prop} {x1 : Int32} {x2 : Int32} {K57 : Mem → Prop} (C : Ck X G RX3 cX3_leastWay 5 2) (r : RetI X G .int P) (hK57 : ∀ (σ : Mem), K57 σ → V X G 5 57 [(0, .ref (gA G 21)), (1, .int x1), (2, .int x2)] [] σ) : ∀ (n : Nat) (x3 : Int32) (σ : Mem), v_X3_leastWay_L15 x1 x2 K57 P n x3 σ → V X G 5 15 [(0, .ref (gA G 21)), (1, .int x1), (2, .int x2), (3, .int x3)] [] σ := by
  intro n
  induction n with
  | zero => intro x3 σ hw; exact hw.elim
  | succ n ih =>
    intro x3 σ hw
    refine v_iload_n (pc := 15) 3 C dX3_leastWay_15 rfl rfl ?_
    refine v_iload_n (pc := 16) 2 C dX3_leastWay_16 rfl rfl ?_
    refine v_icmp_gt (pc := 17) (tgt := 57) C dX3_leastWay_17 (by decide) (fun c => ?_) (fun c => ?_)
    · replace hw := hw.1 c
      refine v_sub [0, 1, 2] rfl ?_
      exact hK57 _ hw
    · replace hw := hw.2 c
      refine v_iload_n (pc := 20) 3 C dX3_leastWay_20 rfl rfl ?_
      refine v_callSi (pc := 21) (As := [.int x3]) (rest := []) C (c_J6_numberOfTrailingZeros_0f7a4 hw) pk_J6_numberOfTrailingZeros_0f7a4 (Or.inl k_872) (by decide) rfl rfl (Nat.le_of_ble_eq_true rfl) dX3_leastWay_21 (fun r_1 σ_2 hw => ?_)
      refine v_istore (pc := 24) C dX3_leastWay_24 (by decide) rfl ?_
      refine v_aload_n (pc := 26) 1 C dX3_leastWay_26 rfl rfl ?_
      refine g_3_1 (pc := 27) C k_289 dX3_leastWay_27 ?_
      refine v_iload_n (pc := 30) 4 C dX3_leastWay_30 rfl rfl ?_
      refine v_aload_n (pc := 31) 1 C dX3_leastWay_31 rfl rfl ?_
      refine g_3_1 (pc := 32) C k_289 dX3_leastWay_32 ?_
      refine v_iload_n (pc := 35) 4 C dX3_leastWay_35 rfl rfl ?_
      refine v_iload_n (pc := 36) 4 C dX3_leastWay_36 rfl rfl ?_
      refine v_iconst (pc := 37) (v := 1) C dX3_leastWay_37 (by decide) ?_
      refine v_isub (pc := 38) C dX3_leastWay_38 ?_
      refine v_iand (pc := 39) C dX3_leastWay_39 ?_
      refine v_iald (pc := 40) C rfl hw.1 dX3_leastWay_40 ?_
      replace hw := hw.2
      refine v_aload_n (pc := 41) 1 C dX3_leastWay_41 rfl rfl ?_
      refine v_iload (pc := 42) 0 C dX3_leastWay_42 rfl ?_
      refine v_iload_n (pc := 44) 4 C dX3_leastWay_44 rfl rfl ?_
      refine v_iload_n (pc := 45) 2 C dX3_leastWay_45 rfl rfl ?_
      refine v_cVi (pc := 46) (o := 21) (As := [.int r_1, .int x3, .int x1]) (rest := [.int (σ_2.1 23 (Int32.toNatClampNeg (x3 &&& (x3 - 1)))), .int x3, .ref (gA G 23)]) (ci := 3) C (c_X3_crossingsBy hw) pk_X3_crossingsBy k_888 rfl (by decide) rfl (by decide) rfl rfl (Nat.le_of_ble_eq_true rfl) dX3_leastWay_46 (fun r_3 σ_4 hw => ?_)
      refine v_iadd (pc := 49) C dX3_leastWay_49 ?_
      refine v_iast (pc := 50) C rfl hw.1 dX3_leastWay_50 ?_
      replace hw := hw.2
      refine v_iinc (pc := 51) (v := x3 + 1) 4 C dX3_leastWay_51 rfl rfl (by decide) rfl ?_
      refine v_goto (pc := 54) (tgt := 15) C dX3_leastWay_54 (by decide) ?_
      refine v_sub [2, 3, 4, 0] rfl ?_
      exact ih _ _ hw

theorem w_X3_leastWay_L61 {X : Cx} {G : Gl} {P : Int32 → Mem → Prop} {x1 : Int32} (C : Ck X G RX3 cX3_leastWay 5 2) (r : RetI X G .int P) : ∀ (n : Nat) (x3 : Int32) (σ : Mem), v_X3_leastWay_L61 x1 P n x3 σ → V X G 5 61 [(0, .ref (gA G 21)), (1, .int x1), (3, .int x3)] [] σ := by
  intro n
  induction n with
  | zero => intro x3 σ hw; exact hw.elim
  | succ n ih =>
    intro x3 σ hw
    refine v_iload_n (pc := 61) 2 C dX3_leastWay_61 rfl rfl ?_
    refine v_if_lt (pc := 62) (tgt := 95) C dX3_leastWay_62 (by decide) (fun c => ?_) (fun c => ?_)
    · replace hw := hw.1 c
      refine v_aload_n (pc := 95) 0 C dX3_leastWay_95 rfl rfl ?_
      refine g_3_1 (pc := 96) C k_289 dX3_leastWay_96 ?_
      refine v_iconst (pc := 99) (v := 0) C dX3_leastWay_99 (by decide) ?_
      refine v_iald (pc := 100) C rfl hw.1 dX3_leastWay_100 ?_
      replace hw := hw.2
      exact v_iret (pc := 101) C r hw dX3_leastWay_101
    · replace hw := hw.2 c
      refine v_aload_n (pc := 65) 0 C dX3_leastWay_65 rfl rfl ?_
      refine g_3_1 (pc := 66) C k_289 dX3_leastWay_66 ?_
      refine v_iload_n (pc := 69) 2 C dX3_leastWay_69 rfl rfl ?_
      refine v_dup2 (pc := 70) C dX3_leastWay_70 rfl rfl ?_
      refine v_iald (pc := 71) C rfl hw.1 dX3_leastWay_71 ?_
      replace hw := hw.2
      refine v_aload_n (pc := 72) 0 C dX3_leastWay_72 rfl rfl ?_
      refine g_3_1 (pc := 73) C k_289 dX3_leastWay_73 ?_
      refine v_iload_n (pc := 76) 2 C dX3_leastWay_76 rfl rfl ?_
      refine v_iconst (pc := 77) (v := 1) C dX3_leastWay_77 (by decide) ?_
      refine v_aload_n (pc := 78) 0 C dX3_leastWay_78 rfl rfl ?_
      refine v_iload_n (pc := 79) 2 C dX3_leastWay_79 rfl rfl ?_
      refine v_iload_n (pc := 80) 1 C dX3_leastWay_80 rfl rfl ?_
      refine v_cVi (pc := 81) (o := 21) (As := [.int x3, .int x1]) (rest := [.int 1, .int x3, .ref (gA G 23), .int (σ.1 23 (Int32.toNatClampNeg x3)), .int x3, .ref (gA G 23)]) (ci := 3) C (c_X3_nextBar hw) pk_X3_nextBar k_893 rfl (by decide) rfl (by decide) rfl rfl (Nat.le_of_ble_eq_true rfl) dX3_leastWay_81 (fun r_7 σ_8 hw => ?_)
      refine v_ishl (pc := 84) C dX3_leastWay_84 ?_
      refine v_ior (pc := 85) C dX3_leastWay_85 ?_
      refine v_iald (pc := 86) C rfl hw.1 dX3_leastWay_86 ?_
      replace hw := hw.2
      refine v_iadd (pc := 87) C dX3_leastWay_87 ?_
      refine v_iast (pc := 88) C rfl hw.1 dX3_leastWay_88 ?_
      replace hw := hw.2
      refine v_iinc (pc := 89) (v := x3 + (-1)) 2 C dX3_leastWay_89 rfl rfl (by decide) rfl ?_
      refine v_goto (pc := 92) (tgt := 61) C dX3_leastWay_92 (by decide) ?_
      refine v_sub [1, 2, 0] rfl ?_
      exact ih _ _ hw

theorem c_X3_leastWay {l : Launch} {G : Gl} {a1 : Int32} {σ : Mem} {P : Int32 → Mem → Prop} (hw : v_X3_leastWay a1 σ P) : MetI l yX3_leastWay cX3_leastWay 5 .int 2 G [.ref (gA G 21), .int a1] σ P := by
  refine MetI.of RX3 (by decide +kernel) rfl (Nat.le_of_ble_eq_true rfl) (fun X C r => ?_)
  show V X G 5 0 [(0, .ref (gA G 21)), (1, .int a1)] [] σ
  unfold v_X3_leastWay at hw
  refine v_iconst (pc := 0) (v := 1) C dX3_leastWay_0 (by decide) ?_
  refine v_iload_n (pc := 1) 1 C dX3_leastWay_1 rfl rfl ?_
  refine v_ishl (pc := 2) C dX3_leastWay_2 ?_
  refine v_iconst (pc := 3) (v := 1) C dX3_leastWay_3 (by decide) ?_
  refine v_isub (pc := 4) C dX3_leastWay_4 ?_
  refine v_istore_n (pc := 5) C dX3_leastWay_5 rfl (by decide) rfl ?_
  refine v_aload_n (pc := 6) 1 C dX3_leastWay_6 rfl rfl ?_
  refine g_3_1 (pc := 7) C k_289 dX3_leastWay_7 ?_
  refine v_iconst (pc := 10) (v := 0) C dX3_leastWay_10 (by decide) ?_
  refine v_iconst (pc := 11) (v := 0) C dX3_leastWay_11 (by decide) ?_
  refine v_iast (pc := 12) C rfl hw.1 dX3_leastWay_12 ?_
  replace hw := hw.2
  refine v_iconst (pc := 13) (v := 1) C dX3_leastWay_13 (by decide) ?_
  refine v_istore_n (pc := 14) C dX3_leastWay_14 rfl (by decide) rfl ?_
  refine v_sub [2, 3, 1, 0] rfl ?_
  refine w_X3_leastWay_L15 C r ?_ 5000 _ _ hw
  · intro σ_6 hw
    refine v_iload_n (pc := 57) 2 C dX3_leastWay_57 rfl rfl ?_
    refine v_iconst (pc := 58) (v := 1) C dX3_leastWay_58 (by decide) ?_
    refine v_isub (pc := 59) C dX3_leastWay_59 ?_
    refine v_istore_n (pc := 60) C dX3_leastWay_60 rfl (by decide) rfl ?_
    refine v_sub [1, 2, 0] rfl ?_
    refine w_X3_leastWay_L61 C r 5000 _ _ hw

theorem w_X3_putInOrder_L7 {X : Cx} {G : Gl} {P : Int32 → Mem → Prop} (C : Ck X G RX3 cX3_putInOrder 6 2) (r : RetI X G .int P) : ∀ (n : Nat) (x2 : Int32) (x3 : Int32) (x4 : Int32) (σ : Mem), v_X3_putInOrder_L7 P n x2 x3 x4 σ → V X G 6 7 [(0, .ref (gA G 21)), (1, .ref (gA G 5)), (2, .int x2), (3, .int x3), (4, .int x4)] [] σ := by
  intro n
  induction n with
  | zero => intro x2 x3 x4 σ hw; exact hw.elim
  | succ n ih =>
    intro x2 x3 x4 σ hw
    refine v_iload (pc := 7) 4 C dX3_putInOrder_7 rfl ?_
    refine v_aload_n (pc := 9) 1 C dX3_putInOrder_9 rfl rfl ?_
    refine g_7_1 (pc := 10) C k_163 dX3_putInOrder_10 ?_
    refine v_icmp_ge (pc := 13) (tgt := 70) C dX3_putInOrder_13 (by decide) (fun c => ?_) (fun c => ?_)
    · replace hw := hw.1 c
      refine v_iload_n (pc := 70) 2 C dX3_putInOrder_70 rfl rfl ?_
      exact v_iret (pc := 71) C r hw dX3_putInOrder_71
    · replace hw := hw.2 c
      refine v_aload_n (pc := 16) 0 C dX3_putInOrder_16 rfl rfl ?_
      refine v_iload_n (pc := 17) 3 C dX3_putInOrder_17 rfl rfl ?_
      refine v_aload_n (pc := 18) 1 C dX3_putInOrder_18 rfl rfl ?_
      refine g_7_1 (pc := 19) C k_163 dX3_putInOrder_19 ?_
      refine v_cVi (pc := 22) (o := 21) (As := [.int x3, .int (σ.1 5 1)]) (rest := []) (ci := 3) C (c_X3_nextBar hw) pk_X3_nextBar k_893 rfl (by decide) rfl (by decide) rfl rfl (Nat.le_of_ble_eq_true rfl) dX3_putInOrder_22 (fun r_1 σ_2 hw => ?_)
      refine v_istore (pc := 25) C dX3_putInOrder_25 (by decide) rfl ?_
      refine v_aload_n (pc := 27) 2 C dX3_putInOrder_27 rfl rfl ?_
      refine g_7_0 (pc := 28) C k_158 dX3_putInOrder_28 ?_
      refine v_iload (pc := 31) 0 C dX3_putInOrder_31 rfl ?_
      have q_3 := hw.1
      refine v_aldB (pc := 33) C rfl q_3 dX3_putInOrder_33 ?_
      replace hw := hw.2
      refine g_0_3 (pc := 34) (kd_bar (vp_lt q_3)) C k_144 dX3_putInOrder_34 ?_
      refine v_iload (pc := 37) 5 C dX3_putInOrder_37 rfl ?_
      refine v_icmp_eq (pc := 39) (tgt := 57) C dX3_putInOrder_39 (by decide) (fun c => ?_) (fun c => ?_)
      · replace hw := hw.1 c
        refine v_iload_n (pc := 57) 4 C dX3_putInOrder_57 rfl rfl ?_
        refine v_iconst (pc := 58) (v := 1) C dX3_putInOrder_58 (by decide) ?_
        refine v_iload (pc := 59) 0 C dX3_putInOrder_59 rfl ?_
        refine v_ishl (pc := 61) C dX3_putInOrder_61 ?_
        refine v_ior (pc := 62) C dX3_putInOrder_62 ?_
        refine v_istore_n (pc := 63) C dX3_putInOrder_63 rfl (by decide) rfl ?_
        refine v_iinc (pc := 64) (v := x4 + 1) 5 C dX3_putInOrder_64 rfl rfl (by decide) rfl ?_
        refine v_goto (pc := 67) (tgt := 7) C dX3_putInOrder_67 (by decide) ?_
        refine v_sub [3, 4, 5, 1, 0] rfl ?_
        exact ih _ _ _ _ hw
      · replace hw := hw.2 c
        refine v_aload_n (pc := 42) 2 C dX3_putInOrder_42 rfl rfl ?_
        refine g_7_0 (pc := 43) C k_158 dX3_putInOrder_43 ?_
        refine v_iload (pc := 46) 0 C dX3_putInOrder_46 rfl ?_
        have q_4 := hw.1
        refine v_aldB (pc := 48) C rfl q_4 dX3_putInOrder_48 ?_
        replace hw := hw.2
        refine v_iload (pc := 49) 5 C dX3_putInOrder_49 rfl ?_
        refine p_0_3 (pc := 51) (kd_bar (vp_lt q_4)) C k_144 dX3_putInOrder_51 ?_
        refine v_iinc (pc := 54) (v := x2 + 1) 3 C dX3_putInOrder_54 rfl rfl (by decide) rfl ?_
        refine v_iload_n (pc := 57) 4 C dX3_putInOrder_57 rfl rfl ?_
        refine v_iconst (pc := 58) (v := 1) C dX3_putInOrder_58 (by decide) ?_
        refine v_iload (pc := 59) 1 C dX3_putInOrder_59 rfl ?_
        refine v_ishl (pc := 61) C dX3_putInOrder_61 ?_
        refine v_ior (pc := 62) C dX3_putInOrder_62 ?_
        refine v_istore_n (pc := 63) C dX3_putInOrder_63 rfl (by decide) rfl ?_
        refine v_iinc (pc := 64) (v := x4 + 1) 5 C dX3_putInOrder_64 rfl rfl (by decide) rfl ?_
        refine v_goto (pc := 67) (tgt := 7) C dX3_putInOrder_67 (by decide) ?_
        refine v_sub [4, 5, 2, 1, 0] rfl ?_
        exact ih _ _ _ _ hw

theorem c_X3_putInOrder {l : Launch} {G : Gl} {σ : Mem} {P : Int32 → Mem → Prop} (hw : v_X3_putInOrder σ P) : MetI l yX3_putInOrder cX3_putInOrder 6 .int 2 G [.ref (gA G 21), .ref (gA G 5)] σ P := by
  refine MetI.of RX3 (by decide +kernel) rfl (Nat.le_of_ble_eq_true rfl) (fun X C r => ?_)
  show V X G 6 0 [(0, .ref (gA G 21)), (1, .ref (gA G 5))] [] σ
  unfold v_X3_putInOrder at hw
  refine v_iconst (pc := 0) (v := 0) C dX3_putInOrder_0 (by decide) ?_
  refine v_istore_n (pc := 1) C dX3_putInOrder_1 rfl (by decide) rfl ?_
  refine v_iconst (pc := 2) (v := 0) C dX3_putInOrder_2 (by decide) ?_
  refine v_istore_n (pc := 3) C dX3_putInOrder_3 rfl (by decide) rfl ?_
  refine v_iconst (pc := 4) (v := 0) C dX3_putInOrder_4 (by decide) ?_
  refine v_istore (pc := 5) C dX3_putInOrder_5 (by decide) rfl ?_
  refine v_sub [3, 4, 2, 1, 0] rfl ?_
  refine w_X3_putInOrder_L7 C r 5000 _ _ _ _ hw

theorem w_X10_classesAmong_L5 {X : Cx} {G : Gl} {P : Int32 → Mem → Prop} {x1 : Int64} (C : Ck X G RX10 cX10_classesAmong 5 0) (r : RetI X G .int P) : ∀ (n : Nat) (x3 : Int32) (x4 : Int32) (σ : Mem), v_X10_classesAmong_L5 x1 P n x3 x4 σ → V X G 5 5 [(0, .ref (gA G 1)), (1, .long x1), (3, .int x3), (4, .int x4)] [] σ := by
  intro n
  induction n with
  | zero => intro x3 x4 σ hw; exact hw.elim
  | succ n ih =>
    intro x3 x4 σ hw
    refine v_iload (pc := 5) 3 C dX10_classesAmong_5 rfl ?_
    refine v_bipush (pc := 7) (v := 12) C dX10_classesAmong_7 (by decide) ?_
    refine v_icmp_ge (pc := 9) (tgt := 39) C dX10_classesAmong_9 (by decide) (fun c => ?_) (fun c => ?_)
    · replace hw := hw.1 c
      refine v_iload_n (pc := 39) 2 C dX10_classesAmong_39 rfl rfl ?_
      exact v_iret (pc := 40) C r hw dX10_classesAmong_40
    · replace hw := hw.2 c
      refine v_aload_n (pc := 12) 0 C dX10_classesAmong_12 rfl rfl ?_
      refine g_10_1 (pc := 13) C k_100 dX10_classesAmong_13 ?_
      refine v_iload (pc := 16) 3 C dX10_classesAmong_16 rfl ?_
      refine v_lald (pc := 18) C rfl hw.1 dX10_classesAmong_18 ?_
      replace hw := hw.2
      refine v_lload_n (pc := 19) 1 C dX10_classesAmong_19 rfl rfl ?_
      refine v_land (pc := 20) C dX10_classesAmong_20 ?_
      refine v_lconst (pc := 21) (v := 0) C dX10_classesAmong_21 rfl ?_
      refine v_lcmp_eq (pc := 22) (tgt := 33) C dX10_classesAmong_22 dX10_classesAmong_23 (by decide) (fun c => ?_) (fun c => ?_)
      · replace hw := hw.1 c
        refine v_iinc (pc := 33) (v := x4 + 1) 3 C dX10_classesAmong_33 rfl rfl (by decide) rfl ?_
        refine v_goto (pc := 36) (tgt := 5) C dX10_classesAmong_36 (by decide) ?_
        refine v_sub [1, 2, 3, 0] rfl ?_
        exact ih _ _ _ hw
      · replace hw := hw.2 c
        refine v_iload_n (pc := 26) 2 C dX10_classesAmong_26 rfl rfl ?_
        refine v_iconst (pc := 27) (v := 1) C dX10_classesAmong_27 (by decide) ?_
        refine v_iload (pc := 28) 3 C dX10_classesAmong_28 rfl ?_
        refine v_ishl (pc := 30) C dX10_classesAmong_30 ?_
        refine v_ior (pc := 31) C dX10_classesAmong_31 ?_
        refine v_istore_n (pc := 32) C dX10_classesAmong_32 rfl (by decide) rfl ?_
        refine v_iinc (pc := 33) (v := x4 + 1) 3 C dX10_classesAmong_33 rfl rfl (by decide) rfl ?_
        refine v_goto (pc := 36) (tgt := 5) C dX10_classesAmong_36 (by decide) ?_
        refine v_sub [2, 3, 1, 0] rfl ?_
        exact ih _ _ _ hw

theorem c_X10_classesAmong {l : Launch} {G : Gl} {a1 : Int64} {σ : Mem} {P : Int32 → Mem → Prop} (hw : v_X10_classesAmong a1 σ P) : MetI l yX10_classesAmong cX10_classesAmong 5 .int 0 G [.ref (gA G 1), .long a1] σ P := by
  refine MetI.of RX10 (by decide +kernel) rfl (Nat.le_of_ble_eq_true rfl) (fun X C r => ?_)
  show V X G 5 0 [(0, .ref (gA G 1)), (1, .long a1)] [] σ
  unfold v_X10_classesAmong at hw
  refine v_iconst (pc := 0) (v := 0) C dX10_classesAmong_0 (by decide) ?_
  refine v_istore_n (pc := 1) C dX10_classesAmong_1 rfl (by decide) rfl ?_
  refine v_iconst (pc := 2) (v := 0) C dX10_classesAmong_2 (by decide) ?_
  refine v_istore (pc := 3) C dX10_classesAmong_3 (by decide) rfl ?_
  refine v_sub [2, 3, 1, 0] rfl ?_
  refine w_X10_classesAmong_L5 C r 5000 _ _ _ hw

theorem c_X4_add {l : Launch} {G : Gl} {a1 : Int32} {a2 : Int64} {σ : Mem} {P : Mem → Prop} (hw : v_X4_add a1 a2 σ P) : MetV l yX4_add cX4_add 5 1 G [.ref (gA G 7), .int a1, .long a2, .ref (gA G 1)] σ P := by
  refine MetV.of RX4 (by decide +kernel) rfl (Nat.le_of_ble_eq_true rfl) (fun X C r => ?_)
  show V X G 5 0 [(0, .ref (gA G 7)), (1, .int a1), (2, .long a2), (4, .ref (gA G 1))] [] σ
  unfold v_X4_add at hw
  refine v_aload_n (pc := 0) 0 C dX4_add_0 rfl rfl ?_
  refine g_4_5 (pc := 1) C k_185 dX4_add_1 ?_
  refine v_bipush (pc := 4) (v := 79) C dX4_add_4 (by decide) ?_
  refine v_icmp_ge (pc := 6) (tgt := 62) C dX4_add_6 (by decide) (fun c => ?_) (fun c => ?_)
  · replace hw := hw.1 c
    exact v_vret (pc := 62) C r hw dX4_add_62
  · replace hw := hw.2 c
    refine v_aload_n (pc := 9) 0 C dX4_add_9 rfl rfl ?_
    refine g_4_0 (pc := 10) C k_176 dX4_add_10 ?_
    refine v_aload_n (pc := 13) 0 C dX4_add_13 rfl rfl ?_
    refine g_4_5 (pc := 14) C k_185 dX4_add_14 ?_
    refine v_iload_n (pc := 17) 1 C dX4_add_17 rfl rfl ?_
    refine v_iast (pc := 18) C rfl hw.1 dX4_add_18 ?_
    replace hw := hw.2
    refine v_aload_n (pc := 19) 0 C dX4_add_19 rfl rfl ?_
    refine g_4_1 (pc := 20) C k_180 dX4_add_20 ?_
    refine v_aload_n (pc := 23) 0 C dX4_add_23 rfl rfl ?_
    refine g_4_5 (pc := 24) C k_185 dX4_add_24 ?_
    refine v_lload_n (pc := 27) 2 C dX4_add_27 rfl rfl ?_
    refine v_ldc2 (pc := 28) C k_583 dX4_add_28 ?_
    refine v_lxor (pc := 31) C dX4_add_31 ?_
    refine v_last (pc := 32) C rfl hw.1 dX4_add_32 ?_
    replace hw := hw.2
    refine v_aload_n (pc := 33) 0 C dX4_add_33 rfl rfl ?_
    refine g_4_2 (pc := 34) C k_181 dX4_add_34 ?_
    refine v_aload_n (pc := 37) 0 C dX4_add_37 rfl rfl ?_
    refine g_4_5 (pc := 38) C k_185 dX4_add_38 ?_
    refine v_aload (pc := 41) 3 C dX4_add_41 rfl ?_
    refine v_lload_n (pc := 43) 2 C dX4_add_43 rfl rfl ?_
    refine v_ldc2 (pc := 44) C k_583 dX4_add_44 ?_
    refine v_lxor (pc := 47) C dX4_add_47 ?_
    refine v_cVi (pc := 48) (o := 1) (As := [.long (a2 ^^^ -1)]) (rest := [.int ((wJ (wI σ 8 (Int32.toNatClampNeg (σ.1 7 5)) a1) 9 (Int32.toNatClampNeg ((wI σ 8 (Int32.toNatClampNeg (σ.1 7 5)) a1).1 7 5)) (a2 ^^^ -1)).1 7 5), .ref (gA G 10)]) (ci := 10) C (c_X10_classesAmong hw) pk_X10_classesAmong k_584 rfl (by decide) rfl (by decide) rfl rfl (Nat.le_of_ble_eq_true rfl) dX4_add_48 (fun r_1 σ_2 hw => ?_)
    refine v_iast (pc := 51) C rfl hw.1 dX4_add_51 ?_
    replace hw := hw.2
    refine v_aload_n (pc := 52) 0 C dX4_add_52 rfl rfl ?_
    refine v_dup (pc := 53) C dX4_add_53 rfl ?_
    refine g_4_5 (pc := 54) C k_185 dX4_add_54 ?_
    refine v_iconst (pc := 57) (v := 1) C dX4_add_57 (by decide) ?_
    refine v_iadd (pc := 58) C dX4_add_58 ?_
    refine p_4_5 (pc := 59) C k_185 dX4_add_59 ?_
    exact v_vret (pc := 62) C r hw dX4_add_62

theorem w_X4_look_L37 {X : Cx} {G : Gl} {P : Mem → Prop} {K68 : Mem → Prop} (C : Ck X G RX4 cX4_look 7 2) (r : RetV X G P) (hK68 : ∀ (σ : Mem), K68 σ → V X G 7 68 [(0, .ref (gA G 7)), (1, .ref (gA G 1)), (2, .ref (gA G 5))] [] σ) : ∀ (n : Nat) (x3 : Int32) (σ : Mem), v_X4_look_L37 K68 P n x3 σ → V X G 7 37 [(0, .ref (gA G 7)), (1, .ref (gA G 1)), (2, .ref (gA G 5)), (3, .int x3)] [] σ := by
  intro n
  induction n with
  | zero => intro x3 σ hw; exact hw.elim
  | succ n ih =>
    intro x3 σ hw
    refine v_iload_n (pc := 37) 3 C dX4_look_37 rfl rfl ?_
    refine v_aload_n (pc := 38) 2 C dX4_look_38 rfl rfl ?_
    refine g_7_1 (pc := 39) C k_162 dX4_look_39 ?_
    refine v_icmp_ge (pc := 42) (tgt := 68) C dX4_look_42 (by decide) (fun c => ?_) (fun c => ?_)
    · replace hw := hw.1 c
      refine v_sub [0, 1, 2] rfl ?_
      exact hK68 _ hw
    · replace hw := hw.2 c
      refine v_aload_n (pc := 45) 0 C dX4_look_45 rfl rfl ?_
      refine v_iconst (pc := 46) (v := 1) C dX4_look_46 (by decide) ?_
      refine v_iload_n (pc := 47) 3 C dX4_look_47 rfl rfl ?_
      refine v_ishl (pc := 48) C dX4_look_48 ?_
      refine v_aload_n (pc := 49) 2 C dX4_look_49 rfl rfl ?_
      refine g_7_0 (pc := 50) C k_157 dX4_look_50 ?_
      refine v_iload_n (pc := 53) 3 C dX4_look_53 rfl rfl ?_
      have q_3 := hw.1
      refine v_aldB (pc := 54) C rfl q_3 dX4_look_54 ?_
      replace hw := hw.2
      refine v_cVl (pc := 55) (o := bB + Int32.toNatClampNeg x3) (As := []) (rest := [.int ((1 : Int32) <<< (x3 &&& 31)), .ref (gA G 7)]) (ci := 0) C (c_X0_wholeOnes (kd_bar (vp_lt q_3)) hw) pk_X0_wholeOnes k_585 (kd_bar (vp_lt q_3)) (by decide) rfl (by decide) rfl rfl (Nat.le_of_ble_eq_true rfl) dX4_look_55 (fun r_4 σ_5 hw => ?_)
      refine v_aload_n (pc := 58) 1 C dX4_look_58 rfl rfl ?_
      refine v_cVv (pc := 59) (o := 7) (As := [.int ((1 : Int32) <<< (x3 &&& 31)), .long r_4, .ref (gA G 1)]) (rest := []) (ci := 4) C (c_X4_add hw) pk_X4_add k_579 rfl (by decide) rfl (by decide) rfl rfl (Nat.le_of_ble_eq_true rfl) dX4_look_59 (fun σ_6 hw => ?_)
      refine v_iinc (pc := 62) (v := x3 + 1) 3 C dX4_look_62 rfl rfl (by decide) rfl ?_
      refine v_goto (pc := 65) (tgt := 37) C dX4_look_65 (by decide) ?_
      refine v_sub [1, 2, 3, 0] rfl ?_
      exact ih _ _ hw

theorem w_X4_look_L83 {X : Cx} {G : Gl} {P : Mem → Prop} {x3 : Int32} {K135 : Mem → Prop} (C : Ck X G RX4 cX4_look 7 2) (r : RetV X G P) (hK135 : ∀ (σ : Mem), K135 σ → V X G 7 135 [(0, .ref (gA G 7)), (1, .ref (gA G 1)), (2, .ref (gA G 5)), (3, .int x3)] [] σ) : ∀ (n : Nat) (x4 : Int32) (σ : Mem), v_X4_look_L83 x3 K135 P n x4 σ → V X G 7 83 [(0, .ref (gA G 7)), (1, .ref (gA G 1)), (2, .ref (gA G 5)), (3, .int x3), (4, .int x4)] [] σ := by
  intro n
  induction n with
  | zero => intro x4 σ hw; exact hw.elim
  | succ n ih =>
    intro x4 σ hw
    refine v_iload (pc := 83) 4 C dX4_look_83 rfl ?_
    refine v_aload_n (pc := 85) 2 C dX4_look_85 rfl rfl ?_
    refine g_7_1 (pc := 86) C k_162 dX4_look_86 ?_
    refine v_icmp_ge (pc := 89) (tgt := 135) C dX4_look_89 (by decide) (fun c => ?_) (fun c => ?_)
    · replace hw := hw.1 c
      refine v_sub [0, 1, 2, 3] rfl ?_
      exact hK135 _ hw
    · replace hw := hw.2 c
      refine v_aload_n (pc := 92) 2 C dX4_look_92 rfl rfl ?_
      refine g_7_0 (pc := 93) C k_157 dX4_look_93 ?_
      refine v_iload_n (pc := 96) 3 C dX4_look_96 rfl rfl ?_
      have q_9 := hw.1
      refine v_aldB (pc := 97) C rfl q_9 dX4_look_97 ?_
      replace hw := hw.2
      refine v_cVl (pc := 98) (o := bB + Int32.toNatClampNeg x3) (As := []) (rest := []) (ci := 0) C (c_X0_wholeOnes (kd_bar (vp_lt q_9)) hw) pk_X0_wholeOnes k_585 (kd_bar (vp_lt q_9)) (by decide) rfl (by decide) rfl rfl (Nat.le_of_ble_eq_true rfl) dX4_look_98 (fun r_10 σ_11 hw => ?_)
      refine v_aload_n (pc := 101) 2 C dX4_look_101 rfl rfl ?_
      refine g_7_0 (pc := 102) C k_157 dX4_look_102 ?_
      refine v_iload (pc := 105) 4 C dX4_look_105 rfl ?_
      have q_12 := hw.1
      refine v_aldB (pc := 107) C rfl q_12 dX4_look_107 ?_
      replace hw := hw.2
      refine v_cVl (pc := 108) (o := bB + Int32.toNatClampNeg x4) (As := []) (rest := [.long r_10]) (ci := 0) C (c_X0_wholeOnes (kd_bar (vp_lt q_12)) hw) pk_X0_wholeOnes k_585 (kd_bar (vp_lt q_12)) (by decide) rfl (by decide) rfl rfl (Nat.le_of_ble_eq_true rfl) dX4_look_108 (fun r_13 σ_14 hw => ?_)
      refine v_lor (pc := 111) C dX4_look_111 ?_
      refine v_lstore (pc := 112) C dX4_look_112 (by decide) rfl ?_
      refine v_aload_n (pc := 114) 1 C dX4_look_114 rfl rfl ?_
      refine v_iconst (pc := 115) (v := 1) C dX4_look_115 (by decide) ?_
      refine v_iload_n (pc := 116) 4 C dX4_look_116 rfl rfl ?_
      refine v_ishl (pc := 117) C dX4_look_117 ?_
      refine v_iconst (pc := 118) (v := 1) C dX4_look_118 (by decide) ?_
      refine v_iload (pc := 119) 5 C dX4_look_119 rfl ?_
      refine v_ishl (pc := 121) C dX4_look_121 ?_
      refine v_ior (pc := 122) C dX4_look_122 ?_
      refine v_lload (pc := 123) 0 C dX4_look_123 rfl ?_
      refine v_aload_n (pc := 125) 2 C dX4_look_125 rfl rfl ?_
      refine v_cVv (pc := 126) (o := 7) (As := [.int (((1 : Int32) <<< (x3 &&& 31)) ||| ((1 : Int32) <<< (x4 &&& 31))), .long (r_10 ||| r_13), .ref (gA G 1)]) (rest := []) (ci := 4) C (c_X4_add hw) pk_X4_add k_579 rfl (by decide) rfl (by decide) rfl rfl (Nat.le_of_ble_eq_true rfl) dX4_look_126 (fun σ_15 hw => ?_)
      refine v_iinc (pc := 129) (v := x4 + 1) 5 C dX4_look_129 rfl rfl (by decide) rfl ?_
      refine v_goto (pc := 132) (tgt := 83) C dX4_look_132 (by decide) ?_
      refine v_sub [2, 3, 4, 5, 0] rfl ?_
      exact ih _ _ hw

theorem w_X4_look_L70 {X : Cx} {G : Gl} {P : Mem → Prop} (C : Ck X G RX4 cX4_look 7 2) (r : RetV X G P) : ∀ (n : Nat) (x3 : Int32) (σ : Mem), v_X4_look_L70 P n x3 σ → V X G 7 70 [(0, .ref (gA G 7)), (1, .ref (gA G 1)), (2, .ref (gA G 5)), (3, .int x3)] [] σ := by
  intro n
  induction n with
  | zero => intro x3 σ hw; exact hw.elim
  | succ n ih =>
    intro x3 σ hw
    refine v_iload_n (pc := 70) 3 C dX4_look_70 rfl rfl ?_
    refine v_aload_n (pc := 71) 2 C dX4_look_71 rfl rfl ?_
    refine g_7_1 (pc := 72) C k_162 dX4_look_72 ?_
    refine v_icmp_ge (pc := 75) (tgt := 141) C dX4_look_75 (by decide) (fun c => ?_) (fun c => ?_)
    · replace hw := hw.1 c
      exact v_vret (pc := 141) C r hw dX4_look_141
    · replace hw := hw.2 c
      refine v_iload_n (pc := 78) 3 C dX4_look_78 rfl rfl ?_
      refine v_iconst (pc := 79) (v := 1) C dX4_look_79 (by decide) ?_
      refine v_iadd (pc := 80) C dX4_look_80 ?_
      refine v_istore (pc := 81) C dX4_look_81 (by decide) rfl ?_
      refine v_sub [1, 2, 3, 4, 0] rfl ?_
      refine w_X4_look_L83 C r ?_ 5000 _ _ hw
      · intro σ_17 hw
        refine v_iinc (pc := 135) (v := x3 + 1) 3 C dX4_look_135 rfl rfl (by decide) rfl ?_
        refine v_goto (pc := 138) (tgt := 70) C dX4_look_138 (by decide) ?_
        refine v_sub [1, 2, 3, 0] rfl ?_
        exact ih _ _ hw

theorem c_X4_look {l : Launch} {G : Gl} {σ : Mem} {P : Mem → Prop} (hw : v_X4_look σ P) : MetV l yX4_look cX4_look 7 2 G [.ref (gA G 7), .ref (gA G 1), .ref (gA G 5)] σ P := by
  refine MetV.of RX4 (by decide +kernel) rfl (Nat.le_of_ble_eq_true rfl) (fun X C r => ?_)
  show V X G 7 0 [(0, .ref (gA G 7)), (1, .ref (gA G 1)), (2, .ref (gA G 5))] [] σ
  unfold v_X4_look at hw
  refine v_aload_n (pc := 0) 1 C dX4_look_0 rfl rfl ?_
  refine g_10_2 (pc := 1) C k_102 dX4_look_1 ?_
  refine v_iconst (pc := 4) (v := 0) C dX4_look_4 (by decide) ?_
  refine v_aload_n (pc := 5) 0 C dX4_look_5 rfl rfl ?_
  refine g_4_4 (pc := 6) C k_184 dX4_look_6 ?_
  refine v_iconst (pc := 9) (v := 0) C dX4_look_9 (by decide) ?_
  refine v_bipush (pc := 10) (v := 61) C dX4_look_10 (by decide) ?_
  refine v_copyl (pc := 12) C rfl rfl k_573 k_575 k_574 k_80 (by decide) (by decide) (by decide) (by decide) (by decide) (by decide) (by decide +kernel) dX4_look_12 ?_
  refine v_aload_n (pc := 15) 0 C dX4_look_15 rfl rfl ?_
  refine g_4_3 (pc := 16) C k_183 dX4_look_16 ?_
  refine v_iconst (pc := 19) (v := (-1)) C dX4_look_19 (by decide) ?_
  refine v_callSv (pc := 20) (As := [.ref (gA G 11), .int (-1)]) (rest := []) C (c_J7_fill_53178 rfl hw) pk_J7_fill_53178 (Or.inl k_576) (by decide) rfl rfl (Nat.le_of_ble_eq_true rfl) dX4_look_20 (fun σ_1 hw => ?_)
  refine v_aload_n (pc := 23) 0 C dX4_look_23 rfl rfl ?_
  refine v_iconst (pc := 24) (v := 0) C dX4_look_24 (by decide) ?_
  refine p_4_5 (pc := 25) C k_185 dX4_look_25 ?_
  refine v_aload_n (pc := 28) 0 C dX4_look_28 rfl rfl ?_
  refine v_iconst (pc := 29) (v := 0) C dX4_look_29 (by decide) ?_
  refine v_lconst (pc := 30) (v := 0) C dX4_look_30 rfl ?_
  refine v_aload_n (pc := 31) 1 C dX4_look_31 rfl rfl ?_
  refine v_cVv (pc := 32) (o := 7) (As := [.int 0, .long 0, .ref (gA G 1)]) (rest := []) (ci := 4) C (c_X4_add hw) pk_X4_add k_579 rfl (by decide) rfl (by decide) rfl rfl (Nat.le_of_ble_eq_true rfl) dX4_look_32 (fun σ_2 hw => ?_)
  refine v_iconst (pc := 35) (v := 0) C dX4_look_35 (by decide) ?_
  refine v_istore_n (pc := 36) C dX4_look_36 rfl (by decide) rfl ?_
  refine v_sub [1, 2, 3, 0] rfl ?_
  refine w_X4_look_L37 C r ?_ 5000 _ _ hw
  · intro σ_8 hw
    refine v_iconst (pc := 68) (v := 0) C dX4_look_68 (by decide) ?_
    refine v_istore_n (pc := 69) C dX4_look_69 rfl (by decide) rfl ?_
    refine v_sub [1, 2, 3, 0] rfl ?_
    refine w_X4_look_L70 C r 5000 _ _ hw

theorem c_X4_gripOf {l : Launch} {G : Gl} {a0 : Int32} {σ : Mem} {P : Int32 → Mem → Prop} (hw : v_X4_gripOf a0 σ P) : MetI l yX4_gripOf cX4_gripOf 1 .int 1 G [.int a0] σ P := by
  refine MetI.of RX4 (by decide +kernel) rfl (Nat.le_of_ble_eq_true rfl) (fun X C r => ?_)
  show V X G 1 0 [(0, .int a0)] [] σ
  unfold v_X4_gripOf at hw
  refine v_iload_n (pc := 0) 0 C dX4_gripOf_0 rfl rfl ?_
  refine v_if_ne (pc := 1) (tgt := 8) C dX4_gripOf_1 (by decide) (fun c => ?_) (fun c => ?_)
  · replace hw := hw.2 c
    refine v_iconst (pc := 8) (v := 1) C dX4_gripOf_8 (by decide) ?_
    refine v_iload_n (pc := 9) 0 C dX4_gripOf_9 rfl rfl ?_
    refine v_callSi (pc := 10) (As := [.int a0]) (rest := [.int 1]) C (c_J6_numberOfTrailingZeros_0f7a4 hw) pk_J6_numberOfTrailingZeros_0f7a4 (Or.inl k_929) (by decide) rfl rfl (Nat.le_of_ble_eq_true rfl) dX4_gripOf_10 (fun r_1 σ_2 hw => ?_)
    refine v_iadd (pc := 13) C dX4_gripOf_13 ?_
    exact v_iret (pc := 14) C r hw dX4_gripOf_14
  · replace hw := hw.1 c
    refine v_iconst (pc := 4) (v := 0) C dX4_gripOf_4 (by decide) ?_
    refine v_goto (pc := 5) (tgt := 14) C dX4_gripOf_5 (by decide) ?_
    exact v_iret (pc := 14) C r hw dX4_gripOf_14

theorem c_X4_missesChord {l : Launch} {G : Gl} {o1 : Nat} {a2 : Int32} {a3 : Int32} {σ : Mem} {P : Int32 → Mem → Prop} (h1 : kd o1 = (9, 0)) (hw : v_X4_missesChord o1 a2 a3 σ P) : MetI l yX4_missesChord cX4_missesChord 4 .boolean 3 G [.ref (gA G 7), .ref (gA G o1), .int a2, .int a3] σ P := by
  refine MetI.of RX4 (by decide +kernel) rfl (Nat.le_of_ble_eq_true rfl) (fun X C r => ?_)
  show V X G 4 0 [(0, .ref (gA G 7)), (1, .ref (gA G o1)), (2, .int a2), (3, .int a3)] [] σ
  unfold v_X4_missesChord at hw
  refine v_aload_n (pc := 0) 0 C dX4_missesChord_0 rfl rfl ?_
  refine v_aload_n (pc := 1) 1 C dX4_missesChord_1 rfl rfl ?_
  refine v_iload_n (pc := 2) 2 C dX4_missesChord_2 rfl rfl ?_
  refine v_iload_n (pc := 3) 3 C dX4_missesChord_3 rfl rfl ?_
  refine v_cVi (pc := 4) (o := o1) (As := [.int a2, .int a3]) (rest := [.ref (gA G 7)]) (ci := 9) C (c_X9_chordIn h1 hw) pk_X9_chordIn k_701 h1 (by decide) rfl (by decide) rfl rfl (Nat.le_of_ble_eq_true rfl) dX4_missesChord_4 (fun r_1 σ_2 hw => ?_)
  refine v_cVi (pc := 7) (o := 7) (As := [.int r_1]) (rest := []) (ci := 4) C (c_X4_holdOf hw) pk_X4_holdOf k_702 rfl (by decide) rfl (by decide) rfl rfl (Nat.le_of_ble_eq_true rfl) dX4_missesChord_7 (fun r_3 σ_4 hw => ?_)
  refine v_if_ne (pc := 10) (tgt := 17) C dX4_missesChord_10 (by decide) (fun c => ?_) (fun c => ?_)
  · replace hw := hw.2 c
    refine v_iconst (pc := 17) (v := 0) C dX4_missesChord_17 (by decide) ?_
    exact v_zret (pc := 18) C r (Or.inl rfl) hw dX4_missesChord_18
  · replace hw := hw.1 c
    refine v_iconst (pc := 13) (v := 1) C dX4_missesChord_13 (by decide) ?_
    refine v_goto (pc := 14) (tgt := 18) C dX4_missesChord_14 (by decide) ?_
    exact v_zret (pc := 18) C r (Or.inr rfl) hw dX4_missesChord_18

theorem c_X4_missesNote {l : Launch} {G : Gl} {o1 : Nat} {a2 : Int32} {a3 : Int32} {σ : Mem} {P : Int32 → Mem → Prop} (h1 : kd o1 = (9, 0)) (hw : v_X4_missesNote o1 a2 a3 σ P) : MetI l yX4_missesNote cX4_missesNote 4 .boolean 3 G [.ref (gA G 7), .ref (gA G o1), .int a2, .int a3] σ P := by
  refine MetI.of RX4 (by decide +kernel) rfl (Nat.le_of_ble_eq_true rfl) (fun X C r => ?_)
  show V X G 4 0 [(0, .ref (gA G 7)), (1, .ref (gA G o1)), (2, .int a2), (3, .int a3)] [] σ
  unfold v_X4_missesNote at hw
  refine v_aload_n (pc := 0) 0 C dX4_missesNote_0 rfl rfl ?_
  refine v_aload_n (pc := 1) 1 C dX4_missesNote_1 rfl rfl ?_
  refine v_iload_n (pc := 2) 2 C dX4_missesNote_2 rfl rfl ?_
  refine v_iload_n (pc := 3) 3 C dX4_missesNote_3 rfl rfl ?_
  refine v_aload_n (pc := 4) 0 C dX4_missesNote_4 rfl rfl ?_
  refine v_aload_n (pc := 5) 1 C dX4_missesNote_5 rfl rfl ?_
  refine v_iload_n (pc := 6) 2 C dX4_missesNote_6 rfl rfl ?_
  refine v_iload_n (pc := 7) 3 C dX4_missesNote_7 rfl rfl ?_
  refine v_cVi (pc := 8) (o := o1) (As := [.int a2, .int a3]) (rest := [.ref (gA G 7), .int a3, .int a2, .ref (gA G o1), .ref (gA G 7)]) (ci := 9) C (c_X9_chordIn h1 hw) pk_X9_chordIn k_701 h1 (by decide) rfl (by decide) rfl rfl (Nat.le_of_ble_eq_true rfl) dX4_missesNote_8 (fun r_1 σ_2 hw => ?_)
  refine v_cVi (pc := 11) (o := 7) (As := [.int r_1]) (rest := [.int a3, .int a2, .ref (gA G o1), .ref (gA G 7)]) (ci := 4) C (c_X4_holdOf hw) pk_X4_holdOf k_702 rfl (by decide) rfl (by decide) rfl rfl (Nat.le_of_ble_eq_true rfl) dX4_missesNote_11 (fun r_3 σ_4 hw => ?_)
  refine v_cVi (pc := 14) (o := 7) (As := [.ref (gA G o1), .int a2, .int a3, .int r_3]) (rest := []) (ci := 4) C (c_X4_lacksNote h1 hw) pk_X4_lacksNote k_707 rfl (by decide) rfl (by decide) rfl rfl (Nat.le_of_ble_eq_true rfl) dX4_missesNote_14 (fun r_5 σ_6 hw => ?_)
  exact v_zret (pc := 17) C r hw.1 hw.2 dX4_missesNote_17

theorem w_X4_missedChords_L5 {X : Cx} {G : Gl} {P : Int32 → Mem → Prop} {o1 : Nat} {x2 : Int32} (C : Ck X G RX4 cX4_missedChords 5 4) (r : RetI X G .int P) (h1 : kd o1 = (9, 0)) : ∀ (n : Nat) (x3 : Int32) (x4 : Int32) (σ : Mem), v_X4_missedChords_L5 o1 x2 P n x3 x4 σ → V X G 5 5 [(0, .ref (gA G 7)), (1, .ref (gA G o1)), (2, .int x2), (3, .int x3), (4, .int x4)] [] σ := by
  intro n
  induction n with
  | zero => intro x3 x4 σ hw; exact hw.elim
  | succ n ih =>
    intro x3 x4 σ hw
    refine v_iload (pc := 5) 4 C dX4_missedChords_5 rfl ?_
    refine v_aload_n (pc := 7) 1 C dX4_missedChords_7 rfl rfl ?_
    refine g_9_2 (pc := 8) h1 C k_222 dX4_missedChords_8 ?_
    refine v_icmp_ge (pc := 11) (tgt := 34) C dX4_missedChords_11 (by decide) (fun c => ?_) (fun c => ?_)
    · replace hw := hw.1 c
      refine v_iload_n (pc := 34) 3 C dX4_missedChords_34 rfl rfl ?_
      exact v_iret (pc := 35) C r hw dX4_missedChords_35
    · replace hw := hw.2 c
      refine v_aload_n (pc := 14) 0 C dX4_missedChords_14 rfl rfl ?_
      refine v_aload_n (pc := 15) 1 C dX4_missedChords_15 rfl rfl ?_
      refine v_iload_n (pc := 16) 2 C dX4_missedChords_16 rfl rfl ?_
      refine v_iload (pc := 17) 4 C dX4_missedChords_17 rfl ?_
      refine v_cVi (pc := 19) (o := 7) (As := [.ref (gA G o1), .int x2, .int x4]) (rest := []) (ci := 4) C (c_X4_missesChord h1 hw) pk_X4_missesChord k_726 rfl (by decide) rfl (by decide) rfl rfl (Nat.le_of_ble_eq_true rfl) dX4_missedChords_19 (fun r_1 σ_2 hw => ?_)
      refine v_if_eq (pc := 22) (tgt := 28) C dX4_missedChords_22 (by decide) (fun c => ?_) (fun c => ?_)
      · replace hw := hw.1 c
        refine v_iinc (pc := 28) (v := x4 + 1) 4 C dX4_missedChords_28 rfl rfl (by decide) rfl ?_
        refine v_goto (pc := 31) (tgt := 5) C dX4_missedChords_31 (by decide) ?_
        refine v_sub [1, 2, 3, 4, 0] rfl ?_
        exact ih _ _ _ hw
      · replace hw := hw.2 c
        refine v_iinc (pc := 25) (v := x3 + 1) 3 C dX4_missedChords_25 rfl rfl (by decide) rfl ?_
        refine v_iinc (pc := 28) (v := x4 + 1) 4 C dX4_missedChords_28 rfl rfl (by decide) rfl ?_
        refine v_goto (pc := 31) (tgt := 5) C dX4_missedChords_31 (by decide) ?_
        refine v_sub [2, 3, 4, 1, 0] rfl ?_
        exact ih _ _ _ hw

theorem c_X4_missedChords {l : Launch} {G : Gl} {o1 : Nat} {a2 : Int32} {σ : Mem} {P : Int32 → Mem → Prop} (h1 : kd o1 = (9, 0)) (hw : v_X4_missedChords o1 a2 σ P) : MetI l yX4_missedChords cX4_missedChords 5 .int 4 G [.ref (gA G 7), .ref (gA G o1), .int a2] σ P := by
  refine MetI.of RX4 (by decide +kernel) rfl (Nat.le_of_ble_eq_true rfl) (fun X C r => ?_)
  show V X G 5 0 [(0, .ref (gA G 7)), (1, .ref (gA G o1)), (2, .int a2)] [] σ
  unfold v_X4_missedChords at hw
  refine v_iconst (pc := 0) (v := 0) C dX4_missedChords_0 (by decide) ?_
  refine v_istore_n (pc := 1) C dX4_missedChords_1 rfl (by decide) rfl ?_
  refine v_iconst (pc := 2) (v := 0) C dX4_missedChords_2 (by decide) ?_
  refine v_istore (pc := 3) C dX4_missedChords_3 (by decide) rfl ?_
  refine v_sub [2, 3, 4, 1, 0] rfl ?_
  refine w_X4_missedChords_L5 C r h1 5000 _ _ _ hw

theorem w_X4_missedNotes_L5 {X : Cx} {G : Gl} {P : Int32 → Mem → Prop} {o1 : Nat} {x2 : Int32} (C : Ck X G RX4 cX4_missedNotes 5 4) (r : RetI X G .int P) (h1 : kd o1 = (9, 0)) : ∀ (n : Nat) (x3 : Int32) (x4 : Int32) (σ : Mem), v_X4_missedNotes_L5 o1 x2 P n x3 x4 σ → V X G 5 5 [(0, .ref (gA G 7)), (1, .ref (gA G o1)), (2, .int x2), (3, .int x3), (4, .int x4)] [] σ := by
  intro n
  induction n with
  | zero => intro x3 x4 σ hw; exact hw.elim
  | succ n ih =>
    intro x3 x4 σ hw
    refine v_iload (pc := 5) 4 C dX4_missedNotes_5 rfl ?_
    refine v_aload_n (pc := 7) 1 C dX4_missedNotes_7 rfl rfl ?_
    refine g_9_2 (pc := 8) h1 C k_222 dX4_missedNotes_8 ?_
    refine v_icmp_ge (pc := 11) (tgt := 34) C dX4_missedNotes_11 (by decide) (fun c => ?_) (fun c => ?_)
    · replace hw := hw.1 c
      refine v_iload_n (pc := 34) 3 C dX4_missedNotes_34 rfl rfl ?_
      exact v_iret (pc := 35) C r hw dX4_missedNotes_35
    · replace hw := hw.2 c
      refine v_aload_n (pc := 14) 0 C dX4_missedNotes_14 rfl rfl ?_
      refine v_aload_n (pc := 15) 1 C dX4_missedNotes_15 rfl rfl ?_
      refine v_iload_n (pc := 16) 2 C dX4_missedNotes_16 rfl rfl ?_
      refine v_iload (pc := 17) 4 C dX4_missedNotes_17 rfl ?_
      refine v_cVi (pc := 19) (o := 7) (As := [.ref (gA G o1), .int x2, .int x4]) (rest := []) (ci := 4) C (c_X4_missesNote h1 hw) pk_X4_missesNote k_731 rfl (by decide) rfl (by decide) rfl rfl (Nat.le_of_ble_eq_true rfl) dX4_missedNotes_19 (fun r_1 σ_2 hw => ?_)
      refine v_if_eq (pc := 22) (tgt := 28) C dX4_missedNotes_22 (by decide) (fun c => ?_) (fun c => ?_)
      · replace hw := hw.1 c
        refine v_iinc (pc := 28) (v := x4 + 1) 4 C dX4_missedNotes_28 rfl rfl (by decide) rfl ?_
        refine v_goto (pc := 31) (tgt := 5) C dX4_missedNotes_31 (by decide) ?_
        refine v_sub [1, 2, 3, 4, 0] rfl ?_
        exact ih _ _ _ hw
      · replace hw := hw.2 c
        refine v_iinc (pc := 25) (v := x3 + 1) 3 C dX4_missedNotes_25 rfl rfl (by decide) rfl ?_
        refine v_iinc (pc := 28) (v := x4 + 1) 4 C dX4_missedNotes_28 rfl rfl (by decide) rfl ?_
        refine v_goto (pc := 31) (tgt := 5) C dX4_missedNotes_31 (by decide) ?_
        refine v_sub [2, 3, 4, 1, 0] rfl ?_
        exact ih _ _ _ hw

theorem c_X4_missedNotes {l : Launch} {G : Gl} {o1 : Nat} {a2 : Int32} {σ : Mem} {P : Int32 → Mem → Prop} (h1 : kd o1 = (9, 0)) (hw : v_X4_missedNotes o1 a2 σ P) : MetI l yX4_missedNotes cX4_missedNotes 5 .int 4 G [.ref (gA G 7), .ref (gA G o1), .int a2] σ P := by
  refine MetI.of RX4 (by decide +kernel) rfl (Nat.le_of_ble_eq_true rfl) (fun X C r => ?_)
  show V X G 5 0 [(0, .ref (gA G 7)), (1, .ref (gA G o1)), (2, .int a2)] [] σ
  unfold v_X4_missedNotes at hw
  refine v_iconst (pc := 0) (v := 0) C dX4_missedNotes_0 (by decide) ?_
  refine v_istore_n (pc := 1) C dX4_missedNotes_1 rfl (by decide) rfl ?_
  refine v_iconst (pc := 2) (v := 0) C dX4_missedNotes_2 (by decide) ?_
  refine v_istore (pc := 3) C dX4_missedNotes_3 (by decide) rfl ?_
  refine v_sub [2, 3, 4, 1, 0] rfl ?_
  refine w_X4_missedNotes_L5 C r h1 5000 _ _ _ hw

