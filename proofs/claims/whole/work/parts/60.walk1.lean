theorem c_X4_missed {l : Launch} {G : Gl} {o1 : Nat} {a2 : Int32} {σ : Mem} {P : Int32 → Mem → Prop} (h1 : kd o1 = (9, 0)) (hw : v_X4_missed o1 a2 σ P) : MetI l yX4_missed cX4_missed 3 .int 5 G [.ref (gA G 7), .ref (gA G o1), .int a2] σ P := by
  refine MetI.of RX4 (by decide +kernel) rfl (Nat.le_of_ble_eq_true rfl) (fun X C r => ?_)
  show V X G 3 0 [(0, .ref (gA G 7)), (1, .ref (gA G o1)), (2, .int a2)] [] σ
  unfold v_X4_missed at hw
  refine v_aload_n (pc := 0) 0 C dX4_missed_0 rfl rfl ?_
  refine v_aload_n (pc := 1) 1 C dX4_missed_1 rfl rfl ?_
  refine v_iload_n (pc := 2) 2 C dX4_missed_2 rfl rfl ?_
  refine v_cVi (pc := 3) (o := 7) (As := [.ref (gA G o1), .int a2]) (rest := []) (ci := 4) C (c_X4_missedChords h1 hw) pk_X4_missedChords k_736 rfl (by decide) rfl (by decide) rfl rfl (Nat.le_of_ble_eq_true rfl) dX4_missed_3 (fun r_1 σ_2 hw => ?_)
  refine v_aload_n (pc := 6) 0 C dX4_missed_6 rfl rfl ?_
  refine v_aload_n (pc := 7) 1 C dX4_missed_7 rfl rfl ?_
  refine v_iload_n (pc := 8) 2 C dX4_missed_8 rfl rfl ?_
  refine v_cVi (pc := 9) (o := 7) (As := [.ref (gA G o1), .int a2]) (rest := [.int r_1]) (ci := 4) C (c_X4_missedNotes h1 hw) pk_X4_missedNotes k_737 rfl (by decide) rfl (by decide) rfl rfl (Nat.le_of_ble_eq_true rfl) dX4_missed_9 (fun r_3 σ_4 hw => ?_)
  refine v_iadd (pc := 12) C dX4_missed_12 ?_
  exact v_iret (pc := 13) C r hw dX4_missed_13

theorem w_X4_bestKeyOf_J32 {X : Cx} {G : Gl} {P : Int32 → Mem → Prop} {kb : Int32 → Int32 → Mem → Prop} (C : Ck X G RX4 cX4_bestKeyOf 4 6) (r : RetI X G .int P) (o1 : Nat) (x2 : Int32) (x3 : Int32) (h1 : kd o1 = (9, 0)) (hkb : ∀ (x2 : Int32) (x3 : Int32) (σ : Mem), kb x2 x3 σ → V X G 4 4 [(0, .ref (gA G 7)), (1, .ref (gA G o1)), (2, .int x2), (3, .int x3)] [] σ) (σ : Mem) (hw : v_X4_bestKeyOf_J32 kb P o1 x2 x3 σ) : V X G 4 32 [(0, .ref (gA G 7)), (1, .ref (gA G o1)), (2, .int x2), (3, .int x3)] [] σ := by
  unfold v_X4_bestKeyOf_J32 at hw
  refine v_aload_n (pc := 32) 0 C dX4_bestKeyOf_32 rfl rfl ?_
  refine v_aload_n (pc := 33) 1 C dX4_bestKeyOf_33 rfl rfl ?_
  refine v_iload_n (pc := 34) 3 C dX4_bestKeyOf_34 rfl rfl ?_
  refine v_ineg (pc := 35) C dX4_bestKeyOf_35 ?_
  refine v_cVi (pc := 36) (o := 7) (As := [.ref (gA G o1), .int (-x3)]) (rest := []) (ci := 4) C (c_X4_missed h1 hw) pk_X4_missed k_746 rfl (by decide) rfl (by decide) rfl rfl (Nat.le_of_ble_eq_true rfl) dX4_bestKeyOf_36 (fun r_1 σ_2 hw => ?_)
  refine v_aload_n (pc := 39) 0 C dX4_bestKeyOf_39 rfl rfl ?_
  refine v_aload_n (pc := 40) 1 C dX4_bestKeyOf_40 rfl rfl ?_
  refine v_iload_n (pc := 41) 2 C dX4_bestKeyOf_41 rfl rfl ?_
  refine v_cVi (pc := 42) (o := 7) (As := [.ref (gA G o1), .int x2]) (rest := [.int r_1]) (ci := 4) C (c_X4_missed h1 hw) pk_X4_missed k_746 rfl (by decide) rfl (by decide) rfl rfl (Nat.le_of_ble_eq_true rfl) dX4_bestKeyOf_42 (fun r_3 σ_4 hw => ?_)
  refine v_icmp_ge (pc := 45) (tgt := 51) C dX4_bestKeyOf_45 (by decide) (fun c => ?_) (fun c => ?_)
  · replace hw := hw.1 c
    refine v_iinc (pc := 51) (v := x3 + 1) 3 C dX4_bestKeyOf_51 rfl rfl (by decide) rfl ?_
    refine v_goto (pc := 54) (tgt := 4) C dX4_bestKeyOf_54 (by decide) ?_
    refine v_sub [1, 2, 3, 0] rfl ?_
    exact hkb _ _ _ hw
  · replace hw := hw.2 c
    refine v_iload_n (pc := 48) 3 C dX4_bestKeyOf_48 rfl rfl ?_
    refine v_ineg (pc := 49) C dX4_bestKeyOf_49 ?_
    refine v_istore_n (pc := 50) C dX4_bestKeyOf_50 rfl (by decide) rfl ?_
    refine v_iinc (pc := 51) (v := x3 + 1) 3 C dX4_bestKeyOf_51 rfl rfl (by decide) rfl ?_
    refine v_goto (pc := 54) (tgt := 4) C dX4_bestKeyOf_54 (by decide) ?_
    refine v_sub [2, 3, 1, 0] rfl ?_
    exact hkb _ _ _ hw

theorem w_X4_bestKeyOf_L4 {X : Cx} {G : Gl} {P : Int32 → Mem → Prop} {o1 : Nat} (C : Ck X G RX4 cX4_bestKeyOf 4 6) (r : RetI X G .int P) (h1 : kd o1 = (9, 0)) : ∀ (n : Nat) (x2 : Int32) (x3 : Int32) (σ : Mem), v_X4_bestKeyOf_L4 o1 P n x2 x3 σ → V X G 4 4 [(0, .ref (gA G 7)), (1, .ref (gA G o1)), (2, .int x2), (3, .int x3)] [] σ := by
  intro n
  induction n with
  | zero => intro x2 x3 σ hw; exact hw.elim
  | succ n ih =>
    intro x2 x3 σ hw
    refine v_iload_n (pc := 4) 3 C dX4_bestKeyOf_4 rfl rfl ?_
    refine v_bipush (pc := 5) (v := 6) C dX4_bestKeyOf_5 (by decide) ?_
    refine v_icmp_gt (pc := 7) (tgt := 57) C dX4_bestKeyOf_7 (by decide) (fun c => ?_) (fun c => ?_)
    · replace hw := hw.1 c
      refine v_iload_n (pc := 57) 2 C dX4_bestKeyOf_57 rfl rfl ?_
      exact v_iret (pc := 58) C r hw dX4_bestKeyOf_58
    · replace hw := hw.2 c
      refine v_iload_n (pc := 10) 3 C dX4_bestKeyOf_10 rfl rfl ?_
      refine v_iconst (pc := 11) (v := 5) C dX4_bestKeyOf_11 (by decide) ?_
      refine v_icmp_gt (pc := 12) (tgt := 32) C dX4_bestKeyOf_12 (by decide) (fun c => ?_) (fun c => ?_)
      · replace hw := hw.1 c
        refine v_sub [0, 1, 2, 3] rfl ?_
        exact w_X4_bestKeyOf_J32 C r _ _ _ h1 ih _ hw
      · replace hw := hw.2 c
        refine v_aload_n (pc := 15) 0 C dX4_bestKeyOf_15 rfl rfl ?_
        refine v_aload_n (pc := 16) 1 C dX4_bestKeyOf_16 rfl rfl ?_
        refine v_iload_n (pc := 17) 3 C dX4_bestKeyOf_17 rfl rfl ?_
        refine v_cVi (pc := 18) (o := 7) (As := [.ref (gA G o1), .int x3]) (rest := []) (ci := 4) C (c_X4_missed h1 hw) pk_X4_missed k_746 rfl (by decide) rfl (by decide) rfl rfl (Nat.le_of_ble_eq_true rfl) dX4_bestKeyOf_18 (fun r_5 σ_6 hw => ?_)
        refine v_aload_n (pc := 21) 0 C dX4_bestKeyOf_21 rfl rfl ?_
        refine v_aload_n (pc := 22) 1 C dX4_bestKeyOf_22 rfl rfl ?_
        refine v_iload_n (pc := 23) 2 C dX4_bestKeyOf_23 rfl rfl ?_
        refine v_cVi (pc := 24) (o := 7) (As := [.ref (gA G o1), .int x2]) (rest := [.int r_5]) (ci := 4) C (c_X4_missed h1 hw) pk_X4_missed k_746 rfl (by decide) rfl (by decide) rfl rfl (Nat.le_of_ble_eq_true rfl) dX4_bestKeyOf_24 (fun r_7 σ_8 hw => ?_)
        refine v_icmp_ge (pc := 27) (tgt := 32) C dX4_bestKeyOf_27 (by decide) (fun c => ?_) (fun c => ?_)
        · replace hw := hw.1 c
          refine v_sub [0, 1, 2, 3] rfl ?_
          exact w_X4_bestKeyOf_J32 C r _ _ _ h1 ih _ hw
        · replace hw := hw.2 c
          refine v_iload_n (pc := 30) 3 C dX4_bestKeyOf_30 rfl rfl ?_
          refine v_istore_n (pc := 31) C dX4_bestKeyOf_31 rfl (by decide) rfl ?_
          refine v_sub [1, 2, 0, 3] rfl ?_
          exact w_X4_bestKeyOf_J32 C r _ _ _ h1 ih _ hw

theorem c_X4_bestKeyOf {l : Launch} {G : Gl} {o1 : Nat} {σ : Mem} {P : Int32 → Mem → Prop} (h1 : kd o1 = (9, 0)) (hw : v_X4_bestKeyOf o1 σ P) : MetI l yX4_bestKeyOf cX4_bestKeyOf 4 .int 6 G [.ref (gA G 7), .ref (gA G o1)] σ P := by
  refine MetI.of RX4 (by decide +kernel) rfl (Nat.le_of_ble_eq_true rfl) (fun X C r => ?_)
  show V X G 4 0 [(0, .ref (gA G 7)), (1, .ref (gA G o1))] [] σ
  unfold v_X4_bestKeyOf at hw
  refine v_iconst (pc := 0) (v := 0) C dX4_bestKeyOf_0 (by decide) ?_
  refine v_istore_n (pc := 1) C dX4_bestKeyOf_1 rfl (by decide) rfl ?_
  refine v_iconst (pc := 2) (v := 1) C dX4_bestKeyOf_2 (by decide) ?_
  refine v_istore_n (pc := 3) C dX4_bestKeyOf_3 rfl (by decide) rfl ?_
  refine v_sub [2, 3, 1, 0] rfl ?_
  refine w_X4_bestKeyOf_L4 C r h1 5000 _ _ _ hw

theorem c_X5_isFull {l : Launch} {G : Gl} {σ : Mem} {P : Int32 → Mem → Prop} (hw : v_X5_isFull σ P) : MetI l yX5_isFull cX5_isFull 1 .boolean 0 G [.ref (gA G 15)] σ P := by
  refine MetI.of RX5 (by decide +kernel) rfl (Nat.le_of_ble_eq_true rfl) (fun X C r => ?_)
  show V X G 1 0 [(0, .ref (gA G 15))] [] σ
  unfold v_X5_isFull at hw
  refine v_aload_n (pc := 0) 0 C dX5_isFull_0 rfl rfl ?_
  refine g_5_6 (pc := 1) C k_265 dX5_isFull_1 ?_
  refine v_bipush (pc := 4) (v := 12) C dX5_isFull_4 (by decide) ?_
  refine v_icmp_lt (pc := 6) (tgt := 13) C dX5_isFull_6 (by decide) (fun c => ?_) (fun c => ?_)
  · replace hw := hw.1 c
    refine v_iconst (pc := 13) (v := 0) C dX5_isFull_13 (by decide) ?_
    exact v_zret (pc := 14) C r (Or.inl rfl) hw dX5_isFull_14
  · replace hw := hw.2 c
    refine v_iconst (pc := 9) (v := 1) C dX5_isFull_9 (by decide) ?_
    refine v_goto (pc := 10) (tgt := 14) C dX5_isFull_10 (by decide) ?_
    exact v_zret (pc := 14) C r (Or.inr rfl) hw dX5_isFull_14

theorem c_X5_isSet {l : Launch} {G : Gl} {a1 : Int32} {σ : Mem} {P : Int32 → Mem → Prop} (hw : v_X5_isSet a1 σ P) : MetI l yX5_isSet cX5_isSet 2 .boolean 0 G [.ref (gA G 15), .int a1] σ P := by
  refine MetI.of RX5 (by decide +kernel) rfl (Nat.le_of_ble_eq_true rfl) (fun X C r => ?_)
  show V X G 2 0 [(0, .ref (gA G 15)), (1, .int a1)] [] σ
  unfold v_X5_isSet at hw
  refine v_iload_n (pc := 0) 1 C dX5_isSet_0 rfl rfl ?_
  refine v_aload_n (pc := 1) 0 C dX5_isSet_1 rfl rfl ?_
  refine g_5_6 (pc := 2) C k_265 dX5_isSet_2 ?_
  refine v_iushr (pc := 5) C dX5_isSet_5 ?_
  refine v_if_ne (pc := 6) (tgt := 13) C dX5_isSet_6 (by decide) (fun c => ?_) (fun c => ?_)
  · replace hw := hw.2 c
    refine v_iconst (pc := 13) (v := 0) C dX5_isSet_13 (by decide) ?_
    exact v_zret (pc := 14) C r (Or.inl rfl) hw dX5_isSet_14
  · replace hw := hw.1 c
    refine v_iconst (pc := 9) (v := 1) C dX5_isSet_9 (by decide) ?_
    refine v_goto (pc := 10) (tgt := 14) C dX5_isSet_10 (by decide) ?_
    exact v_zret (pc := 14) C r (Or.inr rfl) hw dX5_isSet_14

theorem w_X5_hasChord_L2 {X : Cx} {G : Gl} {P : Int32 → Mem → Prop} {x1 : Int32} (C : Ck X G RX5 cX5_hasChord 3 0) (r : RetI X G .boolean P) : ∀ (n : Nat) (x2 : Int32) (σ : Mem), v_X5_hasChord_L2 x1 P n x2 σ → V X G 3 2 [(0, .ref (gA G 15)), (1, .int x1), (2, .int x2)] [] σ := by
  intro n
  induction n with
  | zero => intro x2 σ hw; exact hw.elim
  | succ n ih =>
    intro x2 σ hw
    refine v_iload_n (pc := 2) 2 C dX5_hasChord_2 rfl rfl ?_
    refine v_aload_n (pc := 3) 0 C dX5_hasChord_3 rfl rfl ?_
    refine g_5_6 (pc := 4) C k_265 dX5_hasChord_4 ?_
    refine v_icmp_ge (pc := 7) (tgt := 28) C dX5_hasChord_7 (by decide) (fun c => ?_) (fun c => ?_)
    · replace hw := hw.1 c
      refine v_iconst (pc := 28) (v := 0) C dX5_hasChord_28 (by decide) ?_
      exact v_zret (pc := 29) C r (Or.inl rfl) hw dX5_hasChord_29
    · replace hw := hw.2 c
      refine v_aload_n (pc := 10) 0 C dX5_hasChord_10 rfl rfl ?_
      refine g_5_0 (pc := 11) C k_258 dX5_hasChord_11 ?_
      refine v_iload_n (pc := 14) 2 C dX5_hasChord_14 rfl rfl ?_
      refine v_iald (pc := 15) C rfl hw.1 dX5_hasChord_15 ?_
      replace hw := hw.2
      refine v_iload_n (pc := 16) 1 C dX5_hasChord_16 rfl rfl ?_
      refine v_icmp_ne (pc := 17) (tgt := 22) C dX5_hasChord_17 (by decide) (fun c => ?_) (fun c => ?_)
      · replace hw := hw.2 c
        refine v_iinc (pc := 22) (v := x2 + 1) 2 C dX5_hasChord_22 rfl rfl (by decide) rfl ?_
        refine v_goto (pc := 25) (tgt := 2) C dX5_hasChord_25 (by decide) ?_
        refine v_sub [1, 2, 0] rfl ?_
        exact ih _ _ hw
      · replace hw := hw.1 c
        refine v_iconst (pc := 20) (v := 1) C dX5_hasChord_20 (by decide) ?_
        exact v_zret (pc := 21) C r (Or.inr rfl) hw dX5_hasChord_21

theorem c_X5_hasChord {l : Launch} {G : Gl} {a1 : Int32} {σ : Mem} {P : Int32 → Mem → Prop} (hw : v_X5_hasChord a1 σ P) : MetI l yX5_hasChord cX5_hasChord 3 .boolean 0 G [.ref (gA G 15), .int a1] σ P := by
  refine MetI.of RX5 (by decide +kernel) rfl (Nat.le_of_ble_eq_true rfl) (fun X C r => ?_)
  show V X G 3 0 [(0, .ref (gA G 15)), (1, .int a1)] [] σ
  unfold v_X5_hasChord at hw
  refine v_iconst (pc := 0) (v := 0) C dX5_hasChord_0 (by decide) ?_
  refine v_istore_n (pc := 1) C dX5_hasChord_1 rfl (by decide) rfl ?_
  refine v_sub [1, 2, 0] rfl ?_
  refine w_X5_hasChord_L2 C r 5000 _ _ hw

theorem c_X5_add {l : Launch} {G : Gl} {a1 : Int32} {σ : Mem} {P : Int32 → Mem → Prop} (hw : v_X5_add a1 σ P) : MetI l yX5_add cX5_add 3 .int 0 G [.ref (gA G 15), .int a1] σ P := by
  refine MetI.of RX5 (by decide +kernel) rfl (Nat.le_of_ble_eq_true rfl) (fun X C r => ?_)
  show V X G 3 0 [(0, .ref (gA G 15)), (1, .int a1)] [] σ
  unfold v_X5_add at hw
  refine v_aload_n (pc := 0) 0 C dX5_add_0 rfl rfl ?_
  refine g_5_6 (pc := 1) C k_265 dX5_add_1 ?_
  refine v_istore_n (pc := 4) C dX5_add_4 rfl (by decide) rfl ?_
  refine v_aload_n (pc := 5) 1 C dX5_add_5 rfl rfl ?_
  refine v_dup (pc := 6) C dX5_add_6 rfl ?_
  refine g_5_6 (pc := 7) C k_265 dX5_add_7 ?_
  refine v_iconst (pc := 10) (v := 1) C dX5_add_10 (by decide) ?_
  refine v_iadd (pc := 11) C dX5_add_11 ?_
  refine p_5_6 (pc := 12) C k_265 dX5_add_12 ?_
  refine v_aload_n (pc := 15) 1 C dX5_add_15 rfl rfl ?_
  refine g_5_0 (pc := 16) C k_258 dX5_add_16 ?_
  refine v_iload_n (pc := 19) 0 C dX5_add_19 rfl rfl ?_
  refine v_iload_n (pc := 20) 2 C dX5_add_20 rfl rfl ?_
  refine v_iast (pc := 21) C rfl hw.1 dX5_add_21 ?_
  replace hw := hw.2
  refine v_iload_n (pc := 22) 0 C dX5_add_22 rfl rfl ?_
  exact v_iret (pc := 23) C r hw dX5_add_23

theorem c_X5_lowBit {l : Launch} {G : Gl} {a0 : Int32} {σ : Mem} {P : Int64 → Mem → Prop} (hw : v_X5_lowBit a0 σ P) : MetJ l yX5_lowBit cX5_lowBit 1 0 G [.int a0] σ P := by
  refine MetJ.of RX5 (by decide +kernel) rfl (Nat.le_of_ble_eq_true rfl) (fun X C r => ?_)
  show V X G 1 0 [(0, .int a0)] [] σ
  unfold v_X5_lowBit at hw
  refine v_iload_n (pc := 0) 0 C dX5_lowBit_0 rfl rfl ?_
  refine v_bipush (pc := 1) (v := 64) C dX5_lowBit_1 (by decide) ?_
  refine v_icmp_ge (pc := 3) (tgt := 12) C dX5_lowBit_3 (by decide) (fun c => ?_) (fun c => ?_)
  · replace hw := hw.1 c
    refine v_lconst (pc := 12) (v := 0) C dX5_lowBit_12 rfl ?_
    exact v_lret (pc := 13) C r hw dX5_lowBit_13
  · replace hw := hw.2 c
    refine v_lconst (pc := 6) (v := 1) C dX5_lowBit_6 rfl ?_
    refine v_iload_n (pc := 7) 0 C dX5_lowBit_7 rfl rfl ?_
    refine v_lshl (pc := 8) C dX5_lowBit_8 ?_
    refine v_goto (pc := 9) (tgt := 13) C dX5_lowBit_9 (by decide) ?_
    exact v_lret (pc := 13) C r hw dX5_lowBit_13

theorem c_X5_highBit {l : Launch} {G : Gl} {a0 : Int32} {σ : Mem} {P : Int64 → Mem → Prop} (hw : v_X5_highBit a0 σ P) : MetJ l yX5_highBit cX5_highBit 1 0 G [.int a0] σ P := by
  refine MetJ.of RX5 (by decide +kernel) rfl (Nat.le_of_ble_eq_true rfl) (fun X C r => ?_)
  show V X G 1 0 [(0, .int a0)] [] σ
  unfold v_X5_highBit at hw
  refine v_iload_n (pc := 0) 0 C dX5_highBit_0 rfl rfl ?_
  refine v_bipush (pc := 1) (v := 64) C dX5_highBit_1 (by decide) ?_
  refine v_icmp_ge (pc := 3) (tgt := 10) C dX5_highBit_3 (by decide) (fun c => ?_) (fun c => ?_)
  · replace hw := hw.1 c
    refine v_lconst (pc := 10) (v := 1) C dX5_highBit_10 rfl ?_
    refine v_iload_n (pc := 11) 0 C dX5_highBit_11 rfl rfl ?_
    refine v_bipush (pc := 12) (v := 64) C dX5_highBit_12 (by decide) ?_
    refine v_isub (pc := 14) C dX5_highBit_14 ?_
    refine v_lshl (pc := 15) C dX5_highBit_15 ?_
    exact v_lret (pc := 16) C r hw dX5_highBit_16
  · replace hw := hw.2 c
    refine v_lconst (pc := 6) (v := 0) C dX5_highBit_6 rfl ?_
    refine v_goto (pc := 7) (tgt := 16) C dX5_highBit_7 (by decide) ?_
    exact v_lret (pc := 16) C r hw dX5_highBit_16

theorem w_X5_lookAtSongs_L42 {X : Cx} {G : Gl} {P : Mem → Prop} {x2 : Int32} {o3 : Nat} {K97 : Mem → Prop} (C : Ck X G RX5 cX5_lookAtSongs 6 2) (r : RetV X G P) (h3 : kd o3 = (9, 0)) (hK97 : ∀ (σ : Mem), K97 σ → V X G 6 97 [(0, .ref (gA G 15)), (1, .ref (gA G 13)), (2, .int x2)] [] σ) : ∀ (n : Nat) (x4 : Int32) (σ : Mem), v_X5_lookAtSongs_L42 x2 o3 K97 P n x4 σ → V X G 6 42 [(0, .ref (gA G 15)), (1, .ref (gA G 13)), (2, .int x2), (3, .ref (gA G o3)), (4, .int x4)] [] σ := by
  intro n
  induction n with
  | zero => intro x4 σ hw; exact hw.elim
  | succ n ih =>
    intro x4 σ hw
    refine v_iload (pc := 42) 4 C dX5_lookAtSongs_42 rfl ?_
    refine v_aload_n (pc := 44) 3 C dX5_lookAtSongs_44 rfl rfl ?_
    refine g_9_2 (pc := 45) h3 C k_221 dX5_lookAtSongs_45 ?_
    refine v_icmp_ge (pc := 48) (tgt := 97) C dX5_lookAtSongs_48 (by decide) (fun c => ?_) (fun c => ?_)
    · replace hw := hw.1 c
      refine v_sub [0, 1, 2] rfl ?_
      exact hK97 _ hw
    · replace hw := hw.2 c
      refine v_aload_n (pc := 51) 3 C dX5_lookAtSongs_51 rfl rfl ?_
      refine v_aload_n (pc := 52) 3 C dX5_lookAtSongs_52 rfl rfl ?_
      refine g_9_3 (pc := 53) h3 C k_227 dX5_lookAtSongs_53 ?_
      refine v_iload (pc := 56) 4 C dX5_lookAtSongs_56 rfl ?_
      refine v_cVi (pc := 58) (o := o3) (As := [.int (σ.1 o3 3), .int x4]) (rest := []) (ci := 9) C (c_X9_chordIn h3 hw) pk_X9_chordIn k_791 h3 (by decide) rfl (by decide) rfl rfl (Nat.le_of_ble_eq_true rfl) dX5_lookAtSongs_58 (fun r_2 σ_3 hw => ?_)
      refine v_istore (pc := 61) C dX5_lookAtSongs_61 (by decide) rfl ?_
      refine v_aload_n (pc := 63) 1 C dX5_lookAtSongs_63 rfl rfl ?_
      refine g_5_3 (pc := 64) C k_262 dX5_lookAtSongs_64 ?_
      refine v_iload_n (pc := 67) 3 C dX5_lookAtSongs_67 rfl rfl ?_
      refine v_dup2 (pc := 68) C dX5_lookAtSongs_68 rfl rfl ?_
      refine v_lald (pc := 69) C rfl hw.1 dX5_lookAtSongs_69 ?_
      replace hw := hw.2
      refine v_iload (pc := 70) 0 C dX5_lookAtSongs_70 rfl ?_
      refine v_callSl (pc := 72) (As := [.int r_2]) (rest := [.long (σ_3.2 19 (Int32.toNatClampNeg x2)), .int x2, .ref (gA G 19)]) C (c_X5_lowBit hw) pk_X5_lowBit (Or.inl k_792) (by decide) rfl rfl (Nat.le_of_ble_eq_true rfl) dX5_lookAtSongs_72 (fun r_4 σ_5 hw => ?_)
      refine v_lor (pc := 75) C dX5_lookAtSongs_75 ?_
      refine v_last (pc := 76) C rfl hw.1 dX5_lookAtSongs_76 ?_
      replace hw := hw.2
      refine v_aload_n (pc := 77) 1 C dX5_lookAtSongs_77 rfl rfl ?_
      refine g_5_4 (pc := 78) C k_263 dX5_lookAtSongs_78 ?_
      refine v_iload_n (pc := 81) 3 C dX5_lookAtSongs_81 rfl rfl ?_
      refine v_dup2 (pc := 82) C dX5_lookAtSongs_82 rfl rfl ?_
      refine v_lald (pc := 83) C rfl hw.1 dX5_lookAtSongs_83 ?_
      replace hw := hw.2
      refine v_iload (pc := 84) 0 C dX5_lookAtSongs_84 rfl ?_
      refine v_callSl (pc := 86) (As := [.int r_2]) (rest := [.long ((wJ σ_5 19 (Int32.toNatClampNeg x2) ((σ_3.2 19 (Int32.toNatClampNeg x2)) ||| r_4)).2 20 (Int32.toNatClampNeg x2)), .int x2, .ref (gA G 20)]) C (c_X5_highBit hw) pk_X5_highBit (Or.inl k_795) (by decide) rfl rfl (Nat.le_of_ble_eq_true rfl) dX5_lookAtSongs_86 (fun r_6 σ_7 hw => ?_)
      refine v_lor (pc := 89) C dX5_lookAtSongs_89 ?_
      refine v_last (pc := 90) C rfl hw.1 dX5_lookAtSongs_90 ?_
      replace hw := hw.2
      refine v_iinc (pc := 91) (v := x4 + 1) 5 C dX5_lookAtSongs_91 rfl rfl (by decide) rfl ?_
      refine v_goto (pc := 94) (tgt := 42) C dX5_lookAtSongs_94 (by decide) ?_
      refine v_sub [2, 3, 4, 5, 0] rfl ?_
      exact ih _ _ hw

theorem w_X5_lookAtSongs_L10 {X : Cx} {G : Gl} {P : Mem → Prop} (C : Ck X G RX5 cX5_lookAtSongs 6 2) (r : RetV X G P) : ∀ (n : Nat) (x2 : Int32) (σ : Mem), v_X5_lookAtSongs_L10 P n x2 σ → V X G 6 10 [(0, .ref (gA G 15)), (1, .ref (gA G 13)), (2, .int x2)] [] σ := by
  intro n
  induction n with
  | zero => intro x2 σ hw; exact hw.elim
  | succ n ih =>
    intro x2 σ hw
    refine v_iload_n (pc := 10) 2 C dX5_lookAtSongs_10 rfl rfl ?_
    refine v_aload_n (pc := 11) 0 C dX5_lookAtSongs_11 rfl rfl ?_
    refine g_5_5 (pc := 12) C k_264 dX5_lookAtSongs_12 ?_
    refine v_icmp_ge (pc := 15) (tgt := 103) C dX5_lookAtSongs_15 (by decide) (fun c => ?_) (fun c => ?_)
    · replace hw := hw.1 c
      exact v_vret (pc := 103) C r hw dX5_lookAtSongs_103
    · replace hw := hw.2 c
      refine v_aload_n (pc := 18) 1 C dX5_lookAtSongs_18 rfl rfl ?_
      refine g_1_0 (pc := 19) C k_241 dX5_lookAtSongs_19 ?_
      refine v_iload_n (pc := 22) 2 C dX5_lookAtSongs_22 rfl rfl ?_
      have q_1 := hw.1
      refine v_aldG (pc := 23) C rfl q_1 dX5_lookAtSongs_23 ?_
      replace hw := hw.2
      refine v_astore_n (pc := 24) C dX5_lookAtSongs_24 rfl (by decide) rfl ?_
      refine v_aload_n (pc := 25) 1 C dX5_lookAtSongs_25 rfl rfl ?_
      refine g_5_3 (pc := 26) C k_262 dX5_lookAtSongs_26 ?_
      refine v_iload_n (pc := 29) 3 C dX5_lookAtSongs_29 rfl rfl ?_
      refine v_lconst (pc := 30) (v := 0) C dX5_lookAtSongs_30 rfl ?_
      refine v_last (pc := 31) C rfl hw.1 dX5_lookAtSongs_31 ?_
      replace hw := hw.2
      refine v_aload_n (pc := 32) 1 C dX5_lookAtSongs_32 rfl rfl ?_
      refine g_5_4 (pc := 33) C k_263 dX5_lookAtSongs_33 ?_
      refine v_iload_n (pc := 36) 3 C dX5_lookAtSongs_36 rfl rfl ?_
      refine v_lconst (pc := 37) (v := 0) C dX5_lookAtSongs_37 rfl ?_
      refine v_last (pc := 38) C rfl hw.1 dX5_lookAtSongs_38 ?_
      replace hw := hw.2
      refine v_iconst (pc := 39) (v := 0) C dX5_lookAtSongs_39 (by decide) ?_
      refine v_istore (pc := 40) C dX5_lookAtSongs_40 (by decide) rfl ?_
      refine v_sub [2, 3, 4, 1, 0] rfl ?_
      refine w_X5_lookAtSongs_L42 C r ((kd_song (vp_lt q_1)).1) ?_ 5000 _ _ hw
      · intro σ_9 hw
        refine v_iinc (pc := 97) (v := x2 + 1) 2 C dX5_lookAtSongs_97 rfl rfl (by decide) rfl ?_
        refine v_goto (pc := 100) (tgt := 10) C dX5_lookAtSongs_100 (by decide) ?_
        refine v_sub [1, 2, 0] rfl ?_
        exact ih _ _ hw

theorem c_X5_lookAtSongs {l : Launch} {G : Gl} {σ : Mem} {P : Mem → Prop} (hw : v_X5_lookAtSongs σ P) : MetV l yX5_lookAtSongs cX5_lookAtSongs 6 2 G [.ref (gA G 15), .ref (gA G 13)] σ P := by
  refine MetV.of RX5 (by decide +kernel) rfl (Nat.le_of_ble_eq_true rfl) (fun X C r => ?_)
  show V X G 6 0 [(0, .ref (gA G 15)), (1, .ref (gA G 13))] [] σ
  unfold v_X5_lookAtSongs at hw
  refine v_aload_n (pc := 0) 0 C dX5_lookAtSongs_0 rfl rfl ?_
  refine v_aload_n (pc := 1) 1 C dX5_lookAtSongs_1 rfl rfl ?_
  refine g_1_1 (pc := 2) C k_245 dX5_lookAtSongs_2 ?_
  refine p_5_5 (pc := 5) C k_264 dX5_lookAtSongs_5 ?_
  refine v_iconst (pc := 8) (v := 0) C dX5_lookAtSongs_8 (by decide) ?_
  refine v_istore_n (pc := 9) C dX5_lookAtSongs_9 rfl (by decide) rfl ?_
  refine v_sub [1, 2, 0] rfl ?_
  refine w_X5_lookAtSongs_L10 C r 5000 _ _ hw

theorem w_X5_lookAtTwo_L16 {X : Cx} {G : Gl} {P : Mem → Prop} {x1 : Int32} {x2 : Int32} (C : Ck X G RX5 cX5_lookAtTwo 4 2) (r : RetV X G P) : ∀ (n : Nat) (x3 : Int32) (σ : Mem), v_X5_lookAtTwo_L16 x1 x2 P n x3 σ → V X G 4 16 [(0, .ref (gA G 15)), (1, .int x1), (2, .int x2), (3, .int x3)] [] σ := by
  intro n
  induction n with
  | zero => intro x3 σ hw; exact hw.elim
  | succ n ih =>
    intro x3 σ hw
    refine v_iload_n (pc := 16) 3 C dX5_lookAtTwo_16 rfl rfl ?_
    refine v_bipush (pc := 17) (v := 96) C dX5_lookAtTwo_17 (by decide) ?_
    refine v_icmp_ge (pc := 19) (tgt := 62) C dX5_lookAtTwo_19 (by decide) (fun c => ?_) (fun c => ?_)
    · replace hw := hw.1 c
      exact v_vret (pc := 62) C r hw dX5_lookAtTwo_62
    · replace hw := hw.2 c
      refine v_iload_n (pc := 22) 3 C dX5_lookAtTwo_22 rfl rfl ?_
      refine v_callSi (pc := 23) (As := [.int x3]) (rest := []) C (c_X11_classesOf hw) pk_X11_classesOf (Or.inr (by decide +kernel)) (by decide) rfl rfl (Nat.le_of_ble_eq_true rfl) dX5_lookAtTwo_23 (fun r_1 σ_2 hw => ?_)
      refine v_iload_n (pc := 26) 2 C dX5_lookAtTwo_26 rfl rfl ?_
      refine v_icmp_ne (pc := 27) (tgt := 56) C dX5_lookAtTwo_27 (by decide) (fun c => ?_) (fun c => ?_)
      · replace hw := hw.2 c
        refine v_iinc (pc := 56) (v := x3 + 1) 3 C dX5_lookAtTwo_56 rfl rfl (by decide) rfl ?_
        refine v_goto (pc := 59) (tgt := 16) C dX5_lookAtTwo_59 (by decide) ?_
        refine v_sub [1, 2, 3, 0] rfl ?_
        exact ih _ _ hw
      · replace hw := hw.1 c
        refine v_aload_n (pc := 30) 0 C dX5_lookAtTwo_30 rfl rfl ?_
        refine g_5_1 (pc := 31) C k_260 dX5_lookAtTwo_31 ?_
        refine v_iload_n (pc := 34) 1 C dX5_lookAtTwo_34 rfl rfl ?_
        refine v_dup2 (pc := 35) C dX5_lookAtTwo_35 rfl rfl ?_
        refine v_lald (pc := 36) C rfl hw.1 dX5_lookAtTwo_36 ?_
        replace hw := hw.2
        refine v_iload_n (pc := 37) 3 C dX5_lookAtTwo_37 rfl rfl ?_
        refine v_callSl (pc := 38) (As := [.int x3]) (rest := [.long (σ_2.2 17 (Int32.toNatClampNeg x1)), .int x1, .ref (gA G 17)]) C (c_X5_lowBit hw) pk_X5_lowBit (Or.inl k_792) (by decide) rfl rfl (Nat.le_of_ble_eq_true rfl) dX5_lookAtTwo_38 (fun r_3 σ_4 hw => ?_)
        refine v_lor (pc := 41) C dX5_lookAtTwo_41 ?_
        refine v_last (pc := 42) C rfl hw.1 dX5_lookAtTwo_42 ?_
        replace hw := hw.2
        refine v_aload_n (pc := 43) 0 C dX5_lookAtTwo_43 rfl rfl ?_
        refine g_5_2 (pc := 44) C k_261 dX5_lookAtTwo_44 ?_
        refine v_iload_n (pc := 47) 1 C dX5_lookAtTwo_47 rfl rfl ?_
        refine v_dup2 (pc := 48) C dX5_lookAtTwo_48 rfl rfl ?_
        refine v_lald (pc := 49) C rfl hw.1 dX5_lookAtTwo_49 ?_
        replace hw := hw.2
        refine v_iload_n (pc := 50) 3 C dX5_lookAtTwo_50 rfl rfl ?_
        refine v_callSl (pc := 51) (As := [.int x3]) (rest := [.long ((wJ σ_4 17 (Int32.toNatClampNeg x1) ((σ_2.2 17 (Int32.toNatClampNeg x1)) ||| r_3)).2 18 (Int32.toNatClampNeg x1)), .int x1, .ref (gA G 18)]) C (c_X5_highBit hw) pk_X5_highBit (Or.inl k_795) (by decide) rfl rfl (Nat.le_of_ble_eq_true rfl) dX5_lookAtTwo_51 (fun r_5 σ_6 hw => ?_)
        refine v_lor (pc := 54) C dX5_lookAtTwo_54 ?_
        refine v_last (pc := 55) C rfl hw.1 dX5_lookAtTwo_55 ?_
        replace hw := hw.2
        refine v_iinc (pc := 56) (v := x3 + 1) 3 C dX5_lookAtTwo_56 rfl rfl (by decide) rfl ?_
        refine v_goto (pc := 59) (tgt := 16) C dX5_lookAtTwo_59 (by decide) ?_
        refine v_sub [1, 2, 3, 0] rfl ?_
        exact ih _ _ hw

theorem c_X5_lookAtTwo {l : Launch} {G : Gl} {a1 : Int32} {a2 : Int32} {σ : Mem} {P : Mem → Prop} (hw : v_X5_lookAtTwo a1 a2 σ P) : MetV l yX5_lookAtTwo cX5_lookAtTwo 4 2 G [.ref (gA G 15), .int a1, .int a2] σ P := by
  refine MetV.of RX5 (by decide +kernel) rfl (Nat.le_of_ble_eq_true rfl) (fun X C r => ?_)
  show V X G 4 0 [(0, .ref (gA G 15)), (1, .int a1), (2, .int a2)] [] σ
  unfold v_X5_lookAtTwo at hw
  refine v_aload_n (pc := 0) 0 C dX5_lookAtTwo_0 rfl rfl ?_
  refine g_5_1 (pc := 1) C k_260 dX5_lookAtTwo_1 ?_
  refine v_iload_n (pc := 4) 1 C dX5_lookAtTwo_4 rfl rfl ?_
  refine v_lconst (pc := 5) (v := 0) C dX5_lookAtTwo_5 rfl ?_
  refine v_last (pc := 6) C rfl hw.1 dX5_lookAtTwo_6 ?_
  replace hw := hw.2
  refine v_aload_n (pc := 7) 0 C dX5_lookAtTwo_7 rfl rfl ?_
  refine g_5_2 (pc := 8) C k_261 dX5_lookAtTwo_8 ?_
  refine v_iload_n (pc := 11) 1 C dX5_lookAtTwo_11 rfl rfl ?_
  refine v_lconst (pc := 12) (v := 0) C dX5_lookAtTwo_12 rfl ?_
  refine v_last (pc := 13) C rfl hw.1 dX5_lookAtTwo_13 ?_
  replace hw := hw.2
  refine v_iconst (pc := 14) (v := 0) C dX5_lookAtTwo_14 (by decide) ?_
  refine v_istore_n (pc := 15) C dX5_lookAtTwo_15 rfl (by decide) rfl ?_
  refine v_sub [1, 2, 3, 0] rfl ?_
  refine w_X5_lookAtTwo_L16 C r 5000 _ _ hw

theorem w_X5_lookAtClasses_L12 {X : Cx} {G : Gl} {P : Mem → Prop} {x1 : Int32} {x2 : Int32} {K61 : Mem → Prop} (C : Ck X G RX5 cX5_lookAtClasses 5 3) (r : RetV X G P) (hK61 : ∀ (σ : Mem), K61 σ → V X G 5 61 [(0, .ref (gA G 15)), (1, .int x1), (2, .int x2)] [] σ) : ∀ (n : Nat) (x3 : Int32) (σ : Mem), v_X5_lookAtClasses_L12 x1 x2 K61 P n x3 σ → V X G 5 12 [(0, .ref (gA G 15)), (1, .int x1), (2, .int x2), (3, .int x3)] [] σ := by
  intro n
  induction n with
  | zero => intro x3 σ hw; exact hw.elim
  | succ n ih =>
    intro x3 σ hw
    refine v_iload_n (pc := 12) 3 C dX5_lookAtClasses_12 rfl rfl ?_
    refine v_aload_n (pc := 13) 0 C dX5_lookAtClasses_13 rfl rfl ?_
    refine g_5_6 (pc := 14) C k_265 dX5_lookAtClasses_14 ?_
    refine v_icmp_ge (pc := 17) (tgt := 61) C dX5_lookAtClasses_17 (by decide) (fun c => ?_) (fun c => ?_)
    · replace hw := hw.1 c
      refine v_sub [0, 1, 2] rfl ?_
      exact hK61 _ hw
    · replace hw := hw.2 c
      refine v_aload_n (pc := 20) 0 C dX5_lookAtClasses_20 rfl rfl ?_
      refine g_5_0 (pc := 21) C k_258 dX5_lookAtClasses_21 ?_
      refine v_iload_n (pc := 24) 2 C dX5_lookAtClasses_24 rfl rfl ?_
      refine v_iald (pc := 25) C rfl hw.1 dX5_lookAtClasses_25 ?_
      replace hw := hw.2
      refine v_callSi (pc := 26) (As := [.int (σ.1 16 (Int32.toNatClampNeg x2))]) (rest := []) C (c_X11_classesOf hw) pk_X11_classesOf (Or.inr (by decide +kernel)) (by decide) rfl rfl (Nat.le_of_ble_eq_true rfl) dX5_lookAtClasses_26 (fun r_1 σ_2 hw => ?_)
      refine v_aload_n (pc := 29) 0 C dX5_lookAtClasses_29 rfl rfl ?_
      refine g_5_0 (pc := 30) C k_258 dX5_lookAtClasses_30 ?_
      refine v_iload_n (pc := 33) 3 C dX5_lookAtClasses_33 rfl rfl ?_
      refine v_iald (pc := 34) C rfl hw.1 dX5_lookAtClasses_34 ?_
      replace hw := hw.2
      refine v_callSi (pc := 35) (As := [.int (σ_2.1 16 (Int32.toNatClampNeg x3))]) (rest := [.int r_1]) C (c_X11_classesOf hw) pk_X11_classesOf (Or.inr (by decide +kernel)) (by decide) rfl rfl (Nat.le_of_ble_eq_true rfl) dX5_lookAtClasses_35 (fun r_3 σ_4 hw => ?_)
      refine v_iand (pc := 38) C dX5_lookAtClasses_38 ?_
      refine v_istore (pc := 39) C dX5_lookAtClasses_39 (by decide) rfl ?_
      refine v_aload_n (pc := 41) 1 C dX5_lookAtClasses_41 rfl rfl ?_
      refine v_iload_n (pc := 42) 3 C dX5_lookAtClasses_42 rfl rfl ?_
      refine v_bipush (pc := 43) (v := 12) C dX5_lookAtClasses_43 (by decide) ?_
      refine v_imul (pc := 45) C dX5_lookAtClasses_45 ?_
      refine v_iload_n (pc := 46) 4 C dX5_lookAtClasses_46 rfl rfl ?_
      refine v_iadd (pc := 47) C dX5_lookAtClasses_47 ?_
      refine v_iload_n (pc := 48) 2 C dX5_lookAtClasses_48 rfl rfl ?_
      refine v_iload (pc := 49) 0 C dX5_lookAtClasses_49 rfl ?_
      refine v_iand (pc := 51) C dX5_lookAtClasses_51 ?_
      refine v_cVv (pc := 52) (o := 15) (As := [.int ((x2 * 12) + x3), .int (x1 &&& (r_1 &&& r_3))]) (rest := []) (ci := 5) C (c_X5_lookAtTwo hw) pk_X5_lookAtTwo k_803 rfl (by decide) rfl (by decide) rfl rfl (Nat.le_of_ble_eq_true rfl) dX5_lookAtClasses_52 (fun σ_5 hw => ?_)
      refine v_iinc (pc := 55) (v := x3 + 1) 4 C dX5_lookAtClasses_55 rfl rfl (by decide) rfl ?_
      refine v_goto (pc := 58) (tgt := 12) C dX5_lookAtClasses_58 (by decide) ?_
      refine v_sub [2, 3, 4, 0] rfl ?_
      exact ih _ _ hw

theorem w_X5_lookAtClasses_L2 {X : Cx} {G : Gl} {P : Mem → Prop} {x1 : Int32} (C : Ck X G RX5 cX5_lookAtClasses 5 3) (r : RetV X G P) : ∀ (n : Nat) (x2 : Int32) (σ : Mem), v_X5_lookAtClasses_L2 x1 P n x2 σ → V X G 5 2 [(0, .ref (gA G 15)), (1, .int x1), (2, .int x2)] [] σ := by
  intro n
  induction n with
  | zero => intro x2 σ hw; exact hw.elim
  | succ n ih =>
    intro x2 σ hw
    refine v_iload_n (pc := 2) 2 C dX5_lookAtClasses_2 rfl rfl ?_
    refine v_aload_n (pc := 3) 0 C dX5_lookAtClasses_3 rfl rfl ?_
    refine g_5_6 (pc := 4) C k_265 dX5_lookAtClasses_4 ?_
    refine v_icmp_ge (pc := 7) (tgt := 67) C dX5_lookAtClasses_7 (by decide) (fun c => ?_) (fun c => ?_)
    · replace hw := hw.1 c
      exact v_vret (pc := 67) C r hw dX5_lookAtClasses_67
    · replace hw := hw.2 c
      refine v_iload_n (pc := 10) 2 C dX5_lookAtClasses_10 rfl rfl ?_
      refine v_istore_n (pc := 11) C dX5_lookAtClasses_11 rfl (by decide) rfl ?_
      refine v_sub [1, 2, 3, 0] rfl ?_
      refine w_X5_lookAtClasses_L12 C r ?_ 5000 _ _ hw
      · intro σ_7 hw
        refine v_iinc (pc := 61) (v := x2 + 1) 2 C dX5_lookAtClasses_61 rfl rfl (by decide) rfl ?_
        refine v_goto (pc := 64) (tgt := 2) C dX5_lookAtClasses_64 (by decide) ?_
        refine v_sub [1, 2, 0] rfl ?_
        exact ih _ _ hw

theorem c_X5_lookAtClasses {l : Launch} {G : Gl} {a1 : Int32} {σ : Mem} {P : Mem → Prop} (hw : v_X5_lookAtClasses a1 σ P) : MetV l yX5_lookAtClasses cX5_lookAtClasses 5 3 G [.ref (gA G 15), .int a1] σ P := by
  refine MetV.of RX5 (by decide +kernel) rfl (Nat.le_of_ble_eq_true rfl) (fun X C r => ?_)
  show V X G 5 0 [(0, .ref (gA G 15)), (1, .int a1)] [] σ
  unfold v_X5_lookAtClasses at hw
  refine v_iconst (pc := 0) (v := 0) C dX5_lookAtClasses_0 (by decide) ?_
  refine v_istore_n (pc := 1) C dX5_lookAtClasses_1 rfl (by decide) rfl ?_
  refine v_sub [1, 2, 0] rfl ?_
  refine w_X5_lookAtClasses_L2 C r 5000 _ _ hw

theorem w_X5_songsWithin_L6 {X : Cx} {G : Gl} {P : Int32 → Mem → Prop} {x1 : Int64} {x3 : Int64} (C : Ck X G RX5 cX5_songsWithin 7 0) (r : RetI X G .int P) : ∀ (n : Nat) (x5 : Int32) (x6 : Int32) (σ : Mem), v_X5_songsWithin_L6 x1 x3 P n x5 x6 σ → V X G 7 6 [(0, .ref (gA G 15)), (1, .long x1), (3, .long x3), (5, .int x5), (6, .int x6)] [] σ := by
  intro n
  induction n with
  | zero => intro x5 x6 σ hw; exact hw.elim
  | succ n ih =>
    intro x5 x6 σ hw
    refine v_iload (pc := 6) 4 C dX5_songsWithin_6 rfl ?_
    refine v_aload_n (pc := 8) 0 C dX5_songsWithin_8 rfl rfl ?_
    refine g_5_5 (pc := 9) C k_264 dX5_songsWithin_9 ?_
    refine v_icmp_ge (pc := 12) (tgt := 66) C dX5_songsWithin_12 (by decide) (fun c => ?_) (fun c => ?_)
    · replace hw := hw.1 c
      refine v_iload (pc := 66) 3 C dX5_songsWithin_66 rfl ?_
      exact v_iret (pc := 68) C r hw dX5_songsWithin_68
    · replace hw := hw.2 c
      refine v_aload_n (pc := 15) 0 C dX5_songsWithin_15 rfl rfl ?_
      refine g_5_3 (pc := 16) C k_262 dX5_songsWithin_16 ?_
      refine v_iload (pc := 19) 4 C dX5_songsWithin_19 rfl ?_
      refine v_lald (pc := 21) C rfl hw.1 dX5_songsWithin_21 ?_
      replace hw := hw.2
      refine v_lload_n (pc := 22) 1 C dX5_songsWithin_22 rfl rfl ?_
      refine v_ldc2 (pc := 23) C k_816 dX5_songsWithin_23 ?_
      refine v_lxor (pc := 26) C dX5_songsWithin_26 ?_
      refine v_land (pc := 27) C dX5_songsWithin_27 ?_
      refine v_lconst (pc := 28) (v := 0) C dX5_songsWithin_28 rfl ?_
      refine v_lcmp_ne (pc := 29) (tgt := 60) C dX5_songsWithin_29 dX5_songsWithin_30 (by decide) (fun c => ?_) (fun c => ?_)
      · replace hw := hw.2 c
        refine v_iinc (pc := 60) (v := x6 + 1) 4 C dX5_songsWithin_60 rfl rfl (by decide) rfl ?_
        refine v_goto (pc := 63) (tgt := 6) C dX5_songsWithin_63 (by decide) ?_
        refine v_sub [1, 2, 3, 4, 0] rfl ?_
        exact ih _ _ _ hw
      · replace hw := hw.1 c
        refine v_aload_n (pc := 33) 0 C dX5_songsWithin_33 rfl rfl ?_
        refine g_5_4 (pc := 34) C k_263 dX5_songsWithin_34 ?_
        refine v_iload (pc := 37) 4 C dX5_songsWithin_37 rfl ?_
        refine v_lald (pc := 39) C rfl hw.1 dX5_songsWithin_39 ?_
        replace hw := hw.2
        refine v_lload_n (pc := 40) 2 C dX5_songsWithin_40 rfl rfl ?_
        refine v_ldc2 (pc := 41) C k_816 dX5_songsWithin_41 ?_
        refine v_lxor (pc := 44) C dX5_songsWithin_44 ?_
        refine v_land (pc := 45) C dX5_songsWithin_45 ?_
        refine v_lconst (pc := 46) (v := 0) C dX5_songsWithin_46 rfl ?_
        refine v_lcmp_ne (pc := 47) (tgt := 60) C dX5_songsWithin_47 dX5_songsWithin_48 (by decide) (fun c => ?_) (fun c => ?_)
        · replace hw := hw.2 c
          refine v_iinc (pc := 60) (v := x6 + 1) 4 C dX5_songsWithin_60 rfl rfl (by decide) rfl ?_
          refine v_goto (pc := 63) (tgt := 6) C dX5_songsWithin_63 (by decide) ?_
          refine v_sub [1, 2, 3, 4, 0] rfl ?_
          exact ih _ _ _ hw
        · replace hw := hw.1 c
          refine v_iload (pc := 51) 3 C dX5_songsWithin_51 rfl ?_
          refine v_iconst (pc := 53) (v := 1) C dX5_songsWithin_53 (by decide) ?_
          refine v_iload (pc := 54) 4 C dX5_songsWithin_54 rfl ?_
          refine v_ishl (pc := 56) C dX5_songsWithin_56 ?_
          refine v_ior (pc := 57) C dX5_songsWithin_57 ?_
          refine v_istore (pc := 58) C dX5_songsWithin_58 (by decide) rfl ?_
          refine v_iinc (pc := 60) (v := x6 + 1) 4 C dX5_songsWithin_60 rfl rfl (by decide) rfl ?_
          refine v_goto (pc := 63) (tgt := 6) C dX5_songsWithin_63 (by decide) ?_
          refine v_sub [2, 3, 4, 1, 0] rfl ?_
          exact ih _ _ _ hw

theorem c_X5_songsWithin {l : Launch} {G : Gl} {a1 : Int64} {a3 : Int64} {σ : Mem} {P : Int32 → Mem → Prop} (hw : v_X5_songsWithin a1 a3 σ P) : MetI l yX5_songsWithin cX5_songsWithin 7 .int 0 G [.ref (gA G 15), .long a1, .long a3] σ P := by
  refine MetI.of RX5 (by decide +kernel) rfl (Nat.le_of_ble_eq_true rfl) (fun X C r => ?_)
  show V X G 7 0 [(0, .ref (gA G 15)), (1, .long a1), (3, .long a3)] [] σ
  unfold v_X5_songsWithin at hw
  refine v_iconst (pc := 0) (v := 0) C dX5_songsWithin_0 (by decide) ?_
  refine v_istore (pc := 1) C dX5_songsWithin_1 (by decide) rfl ?_
  refine v_iconst (pc := 3) (v := 0) C dX5_songsWithin_3 (by decide) ?_
  refine v_istore (pc := 4) C dX5_songsWithin_4 (by decide) rfl ?_
  refine v_sub [2, 3, 4, 1, 0] rfl ?_
  refine w_X5_songsWithin_L6 C r 5000 _ _ _ hw

theorem w_X5_servedBy_L34 {X : Cx} {G : Gl} {P : Int32 → Mem → Prop} {x1 : Int32} {x6 : Int32} {K93 : Int64 → Int64 → Mem → Prop} (C : Ck X G RX5 cX5_servedBy 8 1) (r : RetI X G .int P) (hK93 : ∀ (x2 : Int64) (x4 : Int64) (σ : Mem), K93 x2 x4 σ → V X G 8 93 [(0, .ref (gA G 15)), (1, .int x1), (2, .long x2), (4, .long x4), (6, .int x6)] [] σ) : ∀ (n : Nat) (x2 : Int64) (x4 : Int64) (x7 : Int32) (σ : Mem), v_X5_servedBy_L34 x1 x6 K93 P n x2 x4 x7 σ → V X G 8 34 [(0, .ref (gA G 15)), (1, .int x1), (2, .long x2), (4, .long x4), (6, .int x6), (7, .int x7)] [] σ := by
  intro n
  induction n with
  | zero => intro x2 x4 x7 σ hw; exact hw.elim
  | succ n ih =>
    intro x2 x4 x7 σ hw
    refine v_iload (pc := 34) 5 C dX5_servedBy_34 rfl ?_
    refine v_aload_n (pc := 36) 0 C dX5_servedBy_36 rfl rfl ?_
    refine g_5_6 (pc := 37) C k_265 dX5_servedBy_37 ?_
    refine v_icmp_ge (pc := 40) (tgt := 93) C dX5_servedBy_40 (by decide) (fun c => ?_) (fun c => ?_)
    · replace hw := hw.1 c
      refine v_sub [0, 1, 2, 3, 4] rfl ?_
      exact hK93 _ _ _ hw
    · replace hw := hw.2 c
      refine v_iload_n (pc := 43) 1 C dX5_servedBy_43 rfl rfl ?_
      refine v_i2l (pc := 44) C dX5_servedBy_44 ?_
      refine v_iload (pc := 45) 5 C dX5_servedBy_45 rfl ?_
      refine v_callSi (pc := 47) (As := [.long (Int32.toInt64 x1), .int x7]) (rest := []) C (c_X11_hasBit hw) pk_X11_hasBit (Or.inr (by decide +kernel)) (by decide) rfl rfl (Nat.le_of_ble_eq_true rfl) dX5_servedBy_47 (fun r_3 σ_4 hw => ?_)
      refine v_if_eq (pc := 50) (tgt := 87) C dX5_servedBy_50 (by decide) (fun c => ?_) (fun c => ?_)
      · replace hw := hw.1 c
        refine v_iinc (pc := 87) (v := x7 + 1) 5 C dX5_servedBy_87 rfl rfl (by decide) rfl ?_
        refine v_goto (pc := 90) (tgt := 34) C dX5_servedBy_90 (by decide) ?_
        refine v_sub [1, 2, 3, 4, 5, 0] rfl ?_
        exact ih _ _ _ _ hw
      · replace hw := hw.2 c
        refine v_lload_n (pc := 53) 2 C dX5_servedBy_53 rfl rfl ?_
        refine v_aload_n (pc := 54) 0 C dX5_servedBy_54 rfl rfl ?_
        refine g_5_1 (pc := 55) C k_260 dX5_servedBy_55 ?_
        refine v_iload (pc := 58) 4 C dX5_servedBy_58 rfl ?_
        refine v_bipush (pc := 60) (v := 12) C dX5_servedBy_60 (by decide) ?_
        refine v_imul (pc := 62) C dX5_servedBy_62 ?_
        refine v_iload (pc := 63) 5 C dX5_servedBy_63 rfl ?_
        refine v_iadd (pc := 65) C dX5_servedBy_65 ?_
        refine v_lald (pc := 66) C rfl hw.1 dX5_servedBy_66 ?_
        replace hw := hw.2
        refine v_lor (pc := 67) C dX5_servedBy_67 ?_
        refine v_lstore_n (pc := 68) C dX5_servedBy_68 rfl (by decide) rfl ?_
        refine v_lload (pc := 69) 3 C dX5_servedBy_69 rfl ?_
        refine v_aload_n (pc := 71) 1 C dX5_servedBy_71 rfl rfl ?_
        refine g_5_2 (pc := 72) C k_261 dX5_servedBy_72 ?_
        refine v_iload (pc := 75) 4 C dX5_servedBy_75 rfl ?_
        refine v_bipush (pc := 77) (v := 12) C dX5_servedBy_77 (by decide) ?_
        refine v_imul (pc := 79) C dX5_servedBy_79 ?_
        refine v_iload (pc := 80) 5 C dX5_servedBy_80 rfl ?_
        refine v_iadd (pc := 82) C dX5_servedBy_82 ?_
        refine v_lald (pc := 83) C rfl hw.1 dX5_servedBy_83 ?_
        replace hw := hw.2
        refine v_lor (pc := 84) C dX5_servedBy_84 ?_
        refine v_lstore (pc := 85) C dX5_servedBy_85 (by decide) rfl ?_
        refine v_iinc (pc := 87) (v := x7 + 1) 5 C dX5_servedBy_87 rfl rfl (by decide) rfl ?_
        refine v_goto (pc := 90) (tgt := 34) C dX5_servedBy_90 (by decide) ?_
        refine v_sub [3, 4, 2, 1, 5, 0] rfl ?_
        exact ih _ _ _ _ hw

theorem w_X5_servedBy_L8 {X : Cx} {G : Gl} {P : Int32 → Mem → Prop} {x1 : Int32} {K99 : Int64 → Int64 → Mem → Prop} (C : Ck X G RX5 cX5_servedBy 8 1) (r : RetI X G .int P) (hK99 : ∀ (x2 : Int64) (x4 : Int64) (σ : Mem), K99 x2 x4 σ → V X G 8 99 [(0, .ref (gA G 15)), (2, .long x2), (4, .long x4)] [] σ) : ∀ (n : Nat) (x2 : Int64) (x4 : Int64) (x6 : Int32) (σ : Mem), v_X5_servedBy_L8 x1 K99 P n x2 x4 x6 σ → V X G 8 8 [(0, .ref (gA G 15)), (1, .int x1), (2, .long x2), (4, .long x4), (6, .int x6)] [] σ := by
  intro n
  induction n with
  | zero => intro x2 x4 x6 σ hw; exact hw.elim
  | succ n ih =>
    intro x2 x4 x6 σ hw
    refine v_iload (pc := 8) 4 C dX5_servedBy_8 rfl ?_
    refine v_aload_n (pc := 10) 0 C dX5_servedBy_10 rfl rfl ?_
    refine g_5_6 (pc := 11) C k_265 dX5_servedBy_11 ?_
    refine v_icmp_ge (pc := 14) (tgt := 99) C dX5_servedBy_14 (by decide) (fun c => ?_) (fun c => ?_)
    · replace hw := hw.1 c
      refine v_sub [0, 2, 3] rfl ?_
      exact hK99 _ _ _ hw
    · replace hw := hw.2 c
      refine v_iload_n (pc := 17) 1 C dX5_servedBy_17 rfl rfl ?_
      refine v_i2l (pc := 18) C dX5_servedBy_18 ?_
      refine v_iload (pc := 19) 4 C dX5_servedBy_19 rfl ?_
      refine v_callSi (pc := 21) (As := [.long (Int32.toInt64 x1), .int x6]) (rest := []) C (c_X11_hasBit hw) pk_X11_hasBit (Or.inr (by decide +kernel)) (by decide) rfl rfl (Nat.le_of_ble_eq_true rfl) dX5_servedBy_21 (fun r_1 σ_2 hw => ?_)
      refine v_if_ne (pc := 24) (tgt := 30) C dX5_servedBy_24 (by decide) (fun c => ?_) (fun c => ?_)
      · replace hw := hw.2 c
        refine v_iload (pc := 30) 4 C dX5_servedBy_30 rfl ?_
        refine v_istore (pc := 32) C dX5_servedBy_32 (by decide) rfl ?_
        refine v_sub [1, 2, 3, 4, 5, 0] rfl ?_
        refine w_X5_servedBy_L34 C r ?_ 5000 _ _ _ _ hw
        · intro x2_5 x4_5 σ_6 hw
          refine v_iinc (pc := 93) (v := x6 + 1) 4 C dX5_servedBy_93 rfl rfl (by decide) rfl ?_
          refine v_goto (pc := 96) (tgt := 8) C dX5_servedBy_96 (by decide) ?_
          refine v_sub [1, 2, 3, 4, 0] rfl ?_
          exact ih _ _ _ _ hw
      · replace hw := hw.1 c
        refine v_goto (pc := 27) (tgt := 93) C dX5_servedBy_27 (by decide) ?_
        refine v_iinc (pc := 93) (v := x6 + 1) 4 C dX5_servedBy_93 rfl rfl (by decide) rfl ?_
        refine v_goto (pc := 96) (tgt := 8) C dX5_servedBy_96 (by decide) ?_
        refine v_sub [1, 2, 3, 4, 0] rfl ?_
        exact ih _ _ _ _ hw

theorem c_X5_servedBy {l : Launch} {G : Gl} {a1 : Int32} {σ : Mem} {P : Int32 → Mem → Prop} (hw : v_X5_servedBy a1 σ P) : MetI l yX5_servedBy cX5_servedBy 8 .int 1 G [.ref (gA G 15), .int a1] σ P := by
  refine MetI.of RX5 (by decide +kernel) rfl (Nat.le_of_ble_eq_true rfl) (fun X C r => ?_)
  show V X G 8 0 [(0, .ref (gA G 15)), (1, .int a1)] [] σ
  unfold v_X5_servedBy at hw
  refine v_lconst (pc := 0) (v := 0) C dX5_servedBy_0 rfl ?_
  refine v_lstore_n (pc := 1) C dX5_servedBy_1 rfl (by decide) rfl ?_
  refine v_lconst (pc := 2) (v := 0) C dX5_servedBy_2 rfl ?_
  refine v_lstore (pc := 3) C dX5_servedBy_3 (by decide) rfl ?_
  refine v_iconst (pc := 5) (v := 0) C dX5_servedBy_5 (by decide) ?_
  refine v_istore (pc := 6) C dX5_servedBy_6 (by decide) rfl ?_
  refine v_sub [3, 4, 2, 1, 0] rfl ?_
  refine w_X5_servedBy_L8 C r ?_ 5000 _ _ _ _ hw
  · intro x2_7 x4_7 σ_8 hw
    refine v_aload_n (pc := 99) 0 C dX5_servedBy_99 rfl rfl ?_
    refine v_lload_n (pc := 100) 1 C dX5_servedBy_100 rfl rfl ?_
    refine v_lload (pc := 101) 2 C dX5_servedBy_101 rfl ?_
    refine v_cVi (pc := 103) (o := 15) (As := [.long x2_7, .long x4_7]) (rest := []) (ci := 5) C (c_X5_songsWithin hw) pk_X5_songsWithin k_812 rfl (by decide) rfl (by decide) rfl rfl (Nat.le_of_ble_eq_true rfl) dX5_servedBy_103 (fun r_9 σ_10 hw => ?_)
    exact v_iret (pc := 106) C r hw dX5_servedBy_106

theorem c_J6_bitCount_0f7a4 {l : Launch} {G : Gl} {a0 : Int32} {σ : Mem} {P : Int32 → Mem → Prop} (hw : v_J6_bitCount_0f7a4 a0 σ P) : MetI l yJ6_bitCount_0f7a4 cJ6_bitCount_0f7a4 1 .int 0 G [.int a0] σ P := by
  refine MetI.of RJ6 (by decide +kernel) rfl (Nat.le_of_ble_eq_true rfl) (fun X C r => ?_)
  show V X G 1 0 [(0, .int a0)] [] σ
  unfold v_J6_bitCount_0f7a4 at hw
  refine v_iload_n (pc := 0) 0 C dJ6_bitCount_0f7a4_0 rfl rfl ?_
  refine v_iload_n (pc := 1) 0 C dJ6_bitCount_0f7a4_1 rfl rfl ?_
  refine v_iconst (pc := 2) (v := 1) C dJ6_bitCount_0f7a4_2 (by decide) ?_
  refine v_iushr (pc := 3) C dJ6_bitCount_0f7a4_3 ?_
  refine v_ldcw (pc := 4) C k_602 dJ6_bitCount_0f7a4_4 ?_
  refine v_iand (pc := 7) C dJ6_bitCount_0f7a4_7 ?_
  refine v_isub (pc := 8) C dJ6_bitCount_0f7a4_8 ?_
  refine v_topi (fun y_1 ey_1 => ?_)
  replace hw := hw y_1 ey_1
  refine v_istore_n (pc := 9) C dJ6_bitCount_0f7a4_9 rfl (by decide) rfl ?_
  refine v_iload_n (pc := 10) 0 C dJ6_bitCount_0f7a4_10 rfl rfl ?_
  refine v_ldcw (pc := 11) C k_603 dJ6_bitCount_0f7a4_11 ?_
  refine v_iand (pc := 14) C dJ6_bitCount_0f7a4_14 ?_
  refine v_iload_n (pc := 15) 0 C dJ6_bitCount_0f7a4_15 rfl rfl ?_
  refine v_iconst (pc := 16) (v := 2) C dJ6_bitCount_0f7a4_16 (by decide) ?_
  refine v_iushr (pc := 17) C dJ6_bitCount_0f7a4_17 ?_
  refine v_ldcw (pc := 18) C k_603 dJ6_bitCount_0f7a4_18 ?_
  refine v_iand (pc := 21) C dJ6_bitCount_0f7a4_21 ?_
  refine v_iadd (pc := 22) C dJ6_bitCount_0f7a4_22 ?_
  refine v_topi (fun y_2 ey_2 => ?_)
  replace hw := hw y_2 ey_2
  refine v_istore_n (pc := 23) C dJ6_bitCount_0f7a4_23 rfl (by decide) rfl ?_
  refine v_iload_n (pc := 24) 0 C dJ6_bitCount_0f7a4_24 rfl rfl ?_
  refine v_iload_n (pc := 25) 0 C dJ6_bitCount_0f7a4_25 rfl rfl ?_
  refine v_iconst (pc := 26) (v := 4) C dJ6_bitCount_0f7a4_26 (by decide) ?_
  refine v_iushr (pc := 27) C dJ6_bitCount_0f7a4_27 ?_
  refine v_iadd (pc := 28) C dJ6_bitCount_0f7a4_28 ?_
  refine v_ldcw (pc := 29) C k_604 dJ6_bitCount_0f7a4_29 ?_
  refine v_iand (pc := 32) C dJ6_bitCount_0f7a4_32 ?_
  refine v_topi (fun y_3 ey_3 => ?_)
  replace hw := hw y_3 ey_3
  refine v_istore_n (pc := 33) C dJ6_bitCount_0f7a4_33 rfl (by decide) rfl ?_
  refine v_iload_n (pc := 34) 0 C dJ6_bitCount_0f7a4_34 rfl rfl ?_
  refine v_iload_n (pc := 35) 0 C dJ6_bitCount_0f7a4_35 rfl rfl ?_
  refine v_bipush (pc := 36) (v := 8) C dJ6_bitCount_0f7a4_36 (by decide) ?_
  refine v_iushr (pc := 38) C dJ6_bitCount_0f7a4_38 ?_
  refine v_iadd (pc := 39) C dJ6_bitCount_0f7a4_39 ?_
  refine v_topi (fun y_4 ey_4 => ?_)
  replace hw := hw y_4 ey_4
  refine v_istore_n (pc := 40) C dJ6_bitCount_0f7a4_40 rfl (by decide) rfl ?_
  refine v_iload_n (pc := 41) 0 C dJ6_bitCount_0f7a4_41 rfl rfl ?_
  refine v_iload_n (pc := 42) 0 C dJ6_bitCount_0f7a4_42 rfl rfl ?_
  refine v_bipush (pc := 43) (v := 16) C dJ6_bitCount_0f7a4_43 (by decide) ?_
  refine v_iushr (pc := 45) C dJ6_bitCount_0f7a4_45 ?_
  refine v_iadd (pc := 46) C dJ6_bitCount_0f7a4_46 ?_
  refine v_topi (fun y_5 ey_5 => ?_)
  replace hw := hw y_5 ey_5
  refine v_istore_n (pc := 47) C dJ6_bitCount_0f7a4_47 rfl (by decide) rfl ?_
  refine v_iload_n (pc := 48) 0 C dJ6_bitCount_0f7a4_48 rfl rfl ?_
  refine v_bipush (pc := 49) (v := 63) C dJ6_bitCount_0f7a4_49 (by decide) ?_
  refine v_iand (pc := 51) C dJ6_bitCount_0f7a4_51 ?_
  exact v_iret (pc := 52) C r hw dJ6_bitCount_0f7a4_52

theorem w_X5_mostServing_J92 {X : Cx} {G : Gl} {P : Int32 → Mem → Prop} {kb : Int32 → Int32 → Int32 → Mem → Prop} {K109 : Int32 → Int32 → Mem → Prop} (C : Ck X G RX5 cX5_mostServing 9 2) (r : RetI X G .int P) (x1 : Int32) (x2 : Int32) (x3 : Int32) (x4 : Int32) (x6 : Int32) (x7 : Int32) (x8 : Int32) (xs0 : Int32) (hkb : ∀ (x4 : Int32) (x5 : Int32) (x7 : Int32) (σ : Mem), kb x4 x5 x7 σ → V X G 9 45 [(0, .ref (gA G 15)), (1, .int x1), (2, .int x2), (3, .int x3), (4, .int x4), (5, .int x5), (6, .int x6), (7, .int x7)] [] σ) (hK109 : ∀ (x4 : Int32) (x5 : Int32) (σ : Mem), K109 x4 x5 σ → V X G 9 109 [(0, .ref (gA G 15)), (1, .int x1), (2, .int x2), (3, .int x3), (4, .int x4), (5, .int x5), (6, .int x6)] [] σ) (σ : Mem) (hw : v_X5_mostServing_J92 kb K109 P x1 x2 x3 x4 x6 x7 x8 xs0 σ) : V X G 9 92 [(0, .ref (gA G 15)), (1, .int x1), (2, .int x2), (3, .int x3), (4, .int x4), (6, .int x6), (7, .int x7), (8, .int x8)] [.int xs0] σ := by
  unfold v_X5_mostServing_J92 at hw
  refine v_istore (pc := 92) C dX5_mostServing_92 (by decide) rfl ?_
  refine v_iload (pc := 94) 5 C dX5_mostServing_94 rfl ?_
  refine v_iload (pc := 96) 8 C dX5_mostServing_96 rfl ?_
  refine v_callSi (pc := 98) (As := [.int x4, .int x8]) (rest := []) C (c_J9_max_7cf53 hw) pk_J9_max_7cf53 (Or.inl k_827) (by decide) rfl rfl (Nat.le_of_ble_eq_true rfl) dX5_mostServing_98 (fun r_11 σ_12 hw => ?_)
  refine v_istore (pc := 101) C dX5_mostServing_101 (by decide) rfl ?_
  refine v_iinc (pc := 103) (v := x7 + 1) 7 C dX5_mostServing_103 rfl rfl (by decide) rfl ?_
  refine v_goto (pc := 106) (tgt := 45) C dX5_mostServing_106 (by decide) ?_
  refine v_sub [3, 4, 5, 6, 1, 2, 7, 0] rfl ?_
  exact hkb _ _ _ _ hw

theorem w_X5_mostServing_L45 {X : Cx} {G : Gl} {P : Int32 → Mem → Prop} {x1 : Int32} {x2 : Int32} {x3 : Int32} {x6 : Int32} {K109 : Int32 → Int32 → Mem → Prop} (C : Ck X G RX5 cX5_mostServing 9 2) (r : RetI X G .int P) (hK109 : ∀ (x4 : Int32) (x5 : Int32) (σ : Mem), K109 x4 x5 σ → V X G 9 109 [(0, .ref (gA G 15)), (1, .int x1), (2, .int x2), (3, .int x3), (4, .int x4), (5, .int x5), (6, .int x6)] [] σ) : ∀ (n : Nat) (x4 : Int32) (x5 : Int32) (x7 : Int32) (σ : Mem), v_X5_mostServing_L45 x1 x2 x3 x6 K109 P n x4 x5 x7 σ → V X G 9 45 [(0, .ref (gA G 15)), (1, .int x1), (2, .int x2), (3, .int x3), (4, .int x4), (5, .int x5), (6, .int x6), (7, .int x7)] [] σ := by
  intro n
  induction n with
  | zero => intro x4 x5 x7 σ hw; exact hw.elim
  | succ n ih =>
    intro x4 x5 x7 σ hw
    refine v_iload (pc := 45) 7 C dX5_mostServing_45 rfl ?_
    refine v_iload_n (pc := 47) 2 C dX5_mostServing_47 rfl rfl ?_
    refine v_icmp_gt (pc := 48) (tgt := 109) C dX5_mostServing_48 (by decide) (fun c => ?_) (fun c => ?_)
    · replace hw := hw.1 c
      refine v_sub [0, 1, 2, 3, 4, 5, 6] rfl ?_
      exact hK109 _ _ _ hw
    · replace hw := hw.2 c
      refine v_iload (pc := 51) 4 C dX5_mostServing_51 rfl ?_
      refine v_iload_n (pc := 53) 3 C dX5_mostServing_53 rfl rfl ?_
      refine v_icmp_ge (pc := 54) (tgt := 109) C dX5_mostServing_54 (by decide) (fun c => ?_) (fun c => ?_)
      · replace hw := hw.1 c
        refine v_sub [0, 1, 2, 3, 4, 5, 6] rfl ?_
        exact hK109 _ _ _ hw
      · replace hw := hw.2 c
        refine v_iload (pc := 57) 7 C dX5_mostServing_57 rfl ?_
        refine v_callSi (pc := 59) (As := [.int x7]) (rest := []) C (c_J6_bitCount_0f7a4 hw) pk_J6_bitCount_0f7a4 (Or.inl k_826) (by decide) rfl rfl (Nat.le_of_ble_eq_true rfl) dX5_mostServing_59 (fun r_5 σ_6 hw => ?_)
        refine v_iload (pc := 62) 6 C dX5_mostServing_62 rfl ?_
        refine v_icmp_ne (pc := 64) (tgt := 103) C dX5_mostServing_64 (by decide) (fun c => ?_) (fun c => ?_)
        · replace hw := hw.2 c
          refine v_iinc (pc := 103) (v := x7 + 1) 7 C dX5_mostServing_103 rfl rfl (by decide) rfl ?_
          refine v_goto (pc := 106) (tgt := 45) C dX5_mostServing_106 (by decide) ?_
          refine v_sub [1, 2, 3, 4, 5, 6, 7, 0] rfl ?_
          exact ih _ _ _ _ hw
        · replace hw := hw.1 c
          refine v_aload_n (pc := 67) 0 C dX5_mostServing_67 rfl rfl ?_
          refine v_iload (pc := 68) 7 C dX5_mostServing_68 rfl ?_
          refine v_cVi (pc := 70) (o := 15) (As := [.int x7]) (rest := []) (ci := 5) C (c_X5_servedBy hw) pk_X5_servedBy k_825 rfl (by decide) rfl (by decide) rfl rfl (Nat.le_of_ble_eq_true rfl) dX5_mostServing_70 (fun r_7 σ_8 hw => ?_)
          refine v_callSi (pc := 73) (As := [.int r_7]) (rest := []) C (c_J6_bitCount_0f7a4 hw) pk_J6_bitCount_0f7a4 (Or.inl k_826) (by decide) rfl rfl (Nat.le_of_ble_eq_true rfl) dX5_mostServing_73 (fun r_9 σ_10 hw => ?_)
          refine v_istore (pc := 76) C dX5_mostServing_76 (by decide) rfl ?_
          refine v_iload (pc := 78) 0 C dX5_mostServing_78 rfl ?_
          refine v_iload (pc := 80) 5 C dX5_mostServing_80 rfl ?_
          refine v_icmp_le (pc := 82) (tgt := 90) C dX5_mostServing_82 (by decide) (fun c => ?_) (fun c => ?_)
          · replace hw := hw.1 c
            refine v_iload (pc := 90) 6 C dX5_mostServing_90 rfl ?_
            refine v_sub [1, 2, 3, 4, 5, 7, 8, 0] rfl ?_
            exact w_X5_mostServing_J92 C r _ _ _ _ _ _ _ _ ih hK109 _ hw
          · replace hw := hw.2 c
            refine v_iload (pc := 85) 8 C dX5_mostServing_85 rfl ?_
            refine v_goto (pc := 87) (tgt := 92) C dX5_mostServing_87 (by decide) ?_
            refine v_sub [1, 2, 3, 4, 5, 7, 8, 0] rfl ?_
            exact w_X5_mostServing_J92 C r _ _ _ _ _ _ _ _ ih hK109 _ hw

theorem w_X5_mostServing_L27 {X : Cx} {G : Gl} {P : Int32 → Mem → Prop} {x1 : Int32} {x2 : Int32} {x3 : Int32} (C : Ck X G RX5 cX5_mostServing 9 2) (r : RetI X G .int P) : ∀ (n : Nat) (x4 : Int32) (x5 : Int32) (x6 : Int32) (σ : Mem), v_X5_mostServing_L27 x1 x2 x3 P n x4 x5 x6 σ → V X G 9 27 [(0, .ref (gA G 15)), (1, .int x1), (2, .int x2), (3, .int x3), (4, .int x4), (5, .int x5), (6, .int x6)] [] σ := by
  intro n
  induction n with
  | zero => intro x4 x5 x6 σ hw; exact hw.elim
  | succ n ih =>
    intro x4 x5 x6 σ hw
    refine v_iload (pc := 27) 6 C dX5_mostServing_27 rfl ?_
    refine v_iload_n (pc := 29) 1 C dX5_mostServing_29 rfl rfl ?_
    refine v_icmp_gt (pc := 30) (tgt := 115) C dX5_mostServing_30 (by decide) (fun c => ?_) (fun c => ?_)
    · replace hw := hw.1 c
      refine v_iload (pc := 115) 5 C dX5_mostServing_115 rfl ?_
      exact v_iret (pc := 117) C r hw dX5_mostServing_117
    · replace hw := hw.2 c
      refine v_iload (pc := 33) 6 C dX5_mostServing_33 rfl ?_
      refine v_aload_n (pc := 35) 0 C dX5_mostServing_35 rfl rfl ?_
      refine g_5_6 (pc := 36) C k_265 dX5_mostServing_36 ?_
      refine v_icmp_gt (pc := 39) (tgt := 115) C dX5_mostServing_39 (by decide) (fun c => ?_) (fun c => ?_)
      · replace hw := hw.1 c
        refine v_iload (pc := 115) 5 C dX5_mostServing_115 rfl ?_
        exact v_iret (pc := 117) C r hw dX5_mostServing_117
      · replace hw := hw.2 c
        refine v_iconst (pc := 42) (v := 1) C dX5_mostServing_42 (by decide) ?_
        refine v_istore (pc := 43) C dX5_mostServing_43 (by decide) rfl ?_
        refine v_sub [1, 2, 3, 4, 5, 6, 7, 0] rfl ?_
        refine w_X5_mostServing_L45 C r ?_ 5000 _ _ _ _ hw
        · intro x4_13 x5_13 σ_14 hw
          refine v_iinc (pc := 109) (v := x6 + 1) 6 C dX5_mostServing_109 rfl rfl (by decide) rfl ?_
          refine v_goto (pc := 112) (tgt := 27) C dX5_mostServing_112 (by decide) ?_
          refine v_sub [1, 2, 3, 4, 5, 6, 0] rfl ?_
          exact ih _ _ _ _ hw

theorem c_X5_mostServing {l : Launch} {G : Gl} {a1 : Int32} {σ : Mem} {P : Int32 → Mem → Prop} (hw : v_X5_mostServing a1 σ P) : MetI l yX5_mostServing cX5_mostServing 9 .int 2 G [.ref (gA G 15), .int a1] σ P := by
  refine MetI.of RX5 (by decide +kernel) rfl (Nat.le_of_ble_eq_true rfl) (fun X C r => ?_)
  show V X G 9 0 [(0, .ref (gA G 15)), (1, .int a1)] [] σ
  unfold v_X5_mostServing at hw
  refine v_iconst (pc := 0) (v := 1) C dX5_mostServing_0 (by decide) ?_
  refine v_aload_n (pc := 1) 0 C dX5_mostServing_1 rfl rfl ?_
  refine g_5_6 (pc := 2) C k_265 dX5_mostServing_2 ?_
  refine v_ishl (pc := 5) C dX5_mostServing_5 ?_
  refine v_iconst (pc := 6) (v := 1) C dX5_mostServing_6 (by decide) ?_
  refine v_isub (pc := 7) C dX5_mostServing_7 ?_
  refine v_istore_n (pc := 8) C dX5_mostServing_8 rfl (by decide) rfl ?_
  refine v_aload_n (pc := 9) 1 C dX5_mostServing_9 rfl rfl ?_
  refine v_iload_n (pc := 10) 0 C dX5_mostServing_10 rfl rfl ?_
  refine v_cVi (pc := 11) (o := 15) (As := [.int (((1 : Int32) <<< ((σ.1 15 6) &&& 31)) - 1)]) (rest := []) (ci := 5) C (c_X5_servedBy hw) pk_X5_servedBy k_825 rfl (by decide) rfl (by decide) rfl rfl (Nat.le_of_ble_eq_true rfl) dX5_mostServing_11 (fun r_1 σ_2 hw => ?_)
  refine v_callSi (pc := 14) (As := [.int r_1]) (rest := []) C (c_J6_bitCount_0f7a4 hw) pk_J6_bitCount_0f7a4 (Or.inl k_826) (by decide) rfl rfl (Nat.le_of_ble_eq_true rfl) dX5_mostServing_14 (fun r_3 σ_4 hw => ?_)
  refine v_istore_n (pc := 17) C dX5_mostServing_17 rfl (by decide) rfl ?_
  refine v_iconst (pc := 18) (v := 0) C dX5_mostServing_18 (by decide) ?_
  refine v_istore (pc := 19) C dX5_mostServing_19 (by decide) rfl ?_
  refine v_iconst (pc := 21) (v := 0) C dX5_mostServing_21 (by decide) ?_
  refine v_istore (pc := 22) C dX5_mostServing_22 (by decide) rfl ?_
  refine v_iconst (pc := 24) (v := 1) C dX5_mostServing_24 (by decide) ?_
  refine v_istore (pc := 25) C dX5_mostServing_25 (by decide) rfl ?_
  refine v_sub [5, 6, 4, 3, 2, 1, 0] rfl ?_
  refine w_X5_mostServing_L27 C r 5000 _ _ _ _ hw

theorem w_X6_troubleOf_J41 {X : Cx} {G : Gl} {P : Int32 → Mem → Prop} (C : Ck X G RX6 cX6_troubleOf 6 2) (r : RetI X G .int P) (x4 : Int32) (xs0 : Int32) (σ : Mem) (hw : v_X6_troubleOf_J41 P x4 xs0 σ) : V X G 6 41 [(4, .int x4)] [.int xs0] σ := by
  unfold v_X6_troubleOf_J41 at hw
  refine v_istore (pc := 41) C dX6_troubleOf_41 (by decide) rfl ?_
  refine v_bipush (pc := 43) (v := 10) C dX6_troubleOf_43 (by decide) ?_
  refine v_iload (pc := 45) 1 C dX6_troubleOf_45 rfl ?_
  refine v_callSi (pc := 47) (As := [.int x4]) (rest := [.int 10]) C (c_J6_bitCount_0f7a4 hw) pk_J6_bitCount_0f7a4 (Or.inl k_921) (by decide) rfl rfl (Nat.le_of_ble_eq_true rfl) dX6_troubleOf_47 (fun r_7 σ_8 hw => ?_)
  refine v_imul (pc := 50) C dX6_troubleOf_50 ?_
  refine v_iload (pc := 51) 0 C dX6_troubleOf_51 rfl ?_
  refine v_iadd (pc := 53) C dX6_troubleOf_53 ?_
  exact v_iret (pc := 54) C r hw dX6_troubleOf_54

theorem c_X6_troubleOf {l : Launch} {G : Gl} {o0 : Nat} {a1 : Int32} {a2 : Int32} {σ : Mem} {P : Int32 → Mem → Prop} (h0 : kd o0 = (9, 0)) (hw : v_X6_troubleOf o0 a1 a2 σ P) : MetI l yX6_troubleOf cX6_troubleOf 6 .int 2 G [.ref (gA G o0), .int a1, .int a2, .ref (gA G 7)] σ P := by
  refine MetI.of RX6 (by decide +kernel) rfl (Nat.le_of_ble_eq_true rfl) (fun X C r => ?_)
  show V X G 6 0 [(0, .ref (gA G o0)), (1, .int a1), (2, .int a2), (3, .ref (gA G 7))] [] σ
  unfold v_X6_troubleOf at hw
  refine v_aload_n (pc := 0) 3 C dX6_troubleOf_0 rfl rfl ?_
  refine g_4_2 (pc := 1) C k_182 dX6_troubleOf_1 ?_
  refine v_iload_n (pc := 4) 2 C dX6_troubleOf_4 rfl rfl ?_
  refine v_iald (pc := 5) C rfl hw.1 dX6_troubleOf_5 ?_
  replace hw := hw.2
  refine v_aload_n (pc := 6) 0 C dX6_troubleOf_6 rfl rfl ?_
  refine v_aload_n (pc := 7) 0 C dX6_troubleOf_7 rfl rfl ?_
  refine g_9_3 (pc := 8) h0 C k_226 dX6_troubleOf_8 ?_
  refine v_iload_n (pc := 11) 1 C dX6_troubleOf_11 rfl rfl ?_
  refine v_cVi (pc := 12) (o := o0) (As := [.int (σ.1 o0 3), .int a1]) (rest := [.int (σ.1 10 (Int32.toNatClampNeg a2))]) (ci := 9) C (c_X9_chordIn h0 hw) pk_X9_chordIn k_918 h0 (by decide) rfl (by decide) rfl rfl (Nat.le_of_ble_eq_true rfl) dX6_troubleOf_12 (fun r_1 σ_2 hw => ?_)
  refine v_callSi (pc := 15) (As := [.int r_1]) (rest := [.int (σ.1 10 (Int32.toNatClampNeg a2))]) C (c_X11_classesOf hw) pk_X11_classesOf (Or.inr (by decide +kernel)) (by decide) rfl rfl (Nat.le_of_ble_eq_true rfl) dX6_troubleOf_15 (fun r_3 σ_4 hw => ?_)
  refine v_ixor (pc := 18) C dX6_troubleOf_18 ?_
  refine v_istore (pc := 19) C dX6_troubleOf_19 (by decide) rfl ?_
  refine v_aload_n (pc := 21) 4 C dX6_troubleOf_21 rfl rfl ?_
  refine v_aload_n (pc := 22) 1 C dX6_troubleOf_22 rfl rfl ?_
  refine v_aload_n (pc := 23) 1 C dX6_troubleOf_23 rfl rfl ?_
  refine g_9_3 (pc := 24) h0 C k_226 dX6_troubleOf_24 ?_
  refine v_iload_n (pc := 27) 2 C dX6_troubleOf_27 rfl rfl ?_
  refine v_iload_n (pc := 28) 3 C dX6_troubleOf_28 rfl rfl ?_
  refine v_cVi (pc := 29) (o := 7) (As := [.ref (gA G o0), .int (σ_4.1 o0 3), .int a1, .int a2]) (rest := []) (ci := 4) C (c_X4_lacksNote h0 hw) pk_X4_lacksNote k_920 rfl (by decide) rfl (by decide) rfl rfl (Nat.le_of_ble_eq_true rfl) dX6_troubleOf_29 (fun r_5 σ_6 hw => ?_)
  refine v_if_eq (pc := 32) (tgt := 40) C dX6_troubleOf_32 (by decide) (fun c => ?_) (fun c => ?_)
  · replace hw := hw.1 c
    refine v_iconst (pc := 40) (v := 0) C dX6_troubleOf_40 (by decide) ?_
    refine v_sub [0] rfl ?_
    exact w_X6_troubleOf_J41 C r _ _ _ hw
  · replace hw := hw.2 c
    refine v_bipush (pc := 35) (v := 30) C dX6_troubleOf_35 (by decide) ?_
    refine v_goto (pc := 37) (tgt := 41) C dX6_troubleOf_37 (by decide) ?_
    refine v_sub [0] rfl ?_
    exact w_X6_troubleOf_J41 C r _ _ _ hw

theorem c_J9_min_7cf53 {l : Launch} {G : Gl} {a0 : Int32} {a1 : Int32} {σ : Mem} {P : Int32 → Mem → Prop} (hw : v_J9_min_7cf53 a0 a1 σ P) : MetI l yJ9_min_7cf53 cJ9_min_7cf53 2 .int 0 G [.int a0, .int a1] σ P := by
  refine MetI_ofF RJ9 (by decide +kernel) rfl (Nat.le_of_ble_eq_true rfl) (fun X C r => ?_)
  show V X G 2 0 [(0, .int a0), (1, .int a1)] [] σ
  unfold v_J9_min_7cf53 at hw
  refine v_iload_n (pc := 0) 0 C dJ9_min_7cf53_0 rfl rfl ?_
  refine v_iload_n (pc := 1) 1 C dJ9_min_7cf53_1 rfl rfl ?_
  refine v_icmp_gt (pc := 2) (tgt := 9) C dJ9_min_7cf53_2 (by decide) (fun c => ?_) (fun c => ?_)
  · replace hw := hw.1 c
    refine v_iload_n (pc := 9) 1 C dJ9_min_7cf53_9 rfl rfl ?_
    exact v_iret (pc := 10) C r hw dJ9_min_7cf53_10
  · replace hw := hw.2 c
    refine v_iload_n (pc := 5) 0 C dJ9_min_7cf53_5 rfl rfl ?_
    refine v_goto (pc := 6) (tgt := 10) C dJ9_min_7cf53_6 (by decide) ?_
    exact v_iret (pc := 10) C r hw dJ9_min_7cf53_10

theorem c_X6_ease {l : Launch} {G : Gl} {a1 : Int32} {a2 : Int32} {σ : Mem} {P : Mem → Prop} (hw : v_X6_ease a1 a2 σ P) : MetV l yX6_ease cX6_ease 3 1 G [.ref (gA G 24), .int a1, .int a2] σ P := by
  refine MetV.of RX6 (by decide +kernel) rfl (Nat.le_of_ble_eq_true rfl) (fun X C r => ?_)
  show V X G 3 0 [(0, .ref (gA G 24)), (1, .int a1), (2, .int a2)] [] σ
  unfold v_X6_ease at hw
  refine v_aload_n (pc := 0) 0 C dX6_ease_0 rfl rfl ?_
  refine g_6_1 (pc := 1) C k_302 dX6_ease_1 ?_
  refine v_iload_n (pc := 4) 1 C dX6_ease_4 rfl rfl ?_
  refine v_aload_n (pc := 5) 0 C dX6_ease_5 rfl rfl ?_
  refine g_6_1 (pc := 6) C k_302 dX6_ease_6 ?_
  refine v_iload_n (pc := 9) 1 C dX6_ease_9 rfl rfl ?_
  refine v_iald (pc := 10) C rfl hw.1 dX6_ease_10 ?_
  replace hw := hw.2
  refine v_aload_n (pc := 11) 0 C dX6_ease_11 rfl rfl ?_
  refine g_6_1 (pc := 12) C k_302 dX6_ease_12 ?_
  refine v_iload_n (pc := 15) 2 C dX6_ease_15 rfl rfl ?_
  refine v_iald (pc := 16) C rfl hw.1 dX6_ease_16 ?_
  replace hw := hw.2
  refine v_iconst (pc := 17) (v := 2) C dX6_ease_17 (by decide) ?_
  refine v_iadd (pc := 18) C dX6_ease_18 ?_
  refine v_callSi (pc := 19) (As := [.int (σ.1 26 (Int32.toNatClampNeg a1)), .int ((σ.1 26 (Int32.toNatClampNeg a2)) + 2)]) (rest := [.int a1, .ref (gA G 26)]) C (c_J9_min_7cf53 hw) pk_J9_min_7cf53 (Or.inl k_934) (by decide) rfl rfl (Nat.le_of_ble_eq_true rfl) dX6_ease_19 (fun r_1 σ_2 hw => ?_)
  refine v_iast (pc := 22) C rfl hw.1 dX6_ease_22 ?_
  replace hw := hw.2
  exact v_vret (pc := 23) C r hw dX6_ease_23

theorem w_J6_numberOfLeadingZeros_0f7a4_J61 {X : Cx} {G : Gl} {P : Int32 → Mem → Prop} (C : Ck X G RJ6 cJ6_numberOfLeadingZeros_0f7a4 2 0) (r : RetI X G .int P) (x0 : Int32) (x1 : Int32) (σ : Mem) (hw : v_J6_numberOfLeadingZeros_0f7a4_J61 P x0 x1 σ) : V X G 2 61 [(0, .int x0), (1, .int x1)] [] σ := by
  unfold v_J6_numberOfLeadingZeros_0f7a4_J61 at hw
  refine v_iload_n (pc := 61) 0 C dJ6_numberOfLeadingZeros_0f7a4_61 rfl rfl ?_
  refine v_iconst (pc := 62) (v := 4) C dJ6_numberOfLeadingZeros_0f7a4_62 (by decide) ?_
  refine v_icmp_lt (pc := 63) (tgt := 73) C dJ6_numberOfLeadingZeros_0f7a4_63 (by decide) (fun c => ?_) (fun c => ?_)
  · replace hw := hw.1 c
    refine v_iload_n (pc := 73) 1 C dJ6_numberOfLeadingZeros_0f7a4_73 rfl rfl ?_
    refine v_iload_n (pc := 74) 0 C dJ6_numberOfLeadingZeros_0f7a4_74 rfl rfl ?_
    refine v_iconst (pc := 75) (v := 1) C dJ6_numberOfLeadingZeros_0f7a4_75 (by decide) ?_
    refine v_iushr (pc := 76) C dJ6_numberOfLeadingZeros_0f7a4_76 ?_
    refine v_isub (pc := 77) C dJ6_numberOfLeadingZeros_0f7a4_77 ?_
    exact v_iret (pc := 78) C r hw dJ6_numberOfLeadingZeros_0f7a4_78
  · replace hw := hw.2 c
    refine v_iinc (pc := 66) (v := x1 + (-2)) 1 C dJ6_numberOfLeadingZeros_0f7a4_66 rfl rfl (by decide) rfl ?_
    refine v_iload_n (pc := 69) 1 C dJ6_numberOfLeadingZeros_0f7a4_69 rfl rfl ?_
    refine v_iconst (pc := 70) (v := 2) C dJ6_numberOfLeadingZeros_0f7a4_70 (by decide) ?_
    refine v_iushr (pc := 71) C dJ6_numberOfLeadingZeros_0f7a4_71 ?_
    refine v_topi (fun y_1 ey_1 => ?_)
    replace hw := hw y_1 ey_1
    refine v_istore_n (pc := 72) C dJ6_numberOfLeadingZeros_0f7a4_72 rfl (by decide) rfl ?_
    refine v_iload_n (pc := 73) 1 C dJ6_numberOfLeadingZeros_0f7a4_73 rfl rfl ?_
    refine v_iload_n (pc := 74) 0 C dJ6_numberOfLeadingZeros_0f7a4_74 rfl rfl ?_
    refine v_iconst (pc := 75) (v := 1) C dJ6_numberOfLeadingZeros_0f7a4_75 (by decide) ?_
    refine v_iushr (pc := 76) C dJ6_numberOfLeadingZeros_0f7a4_76 ?_
    refine v_isub (pc := 77) C dJ6_numberOfLeadingZeros_0f7a4_77 ?_
    exact v_iret (pc := 78) C r hw dJ6_numberOfLeadingZeros_0f7a4_78

theorem w_J6_numberOfLeadingZeros_0f7a4_J48 {X : Cx} {G : Gl} {P : Int32 → Mem → Prop} (C : Ck X G RJ6 cJ6_numberOfLeadingZeros_0f7a4 2 0) (r : RetI X G .int P) (x0 : Int32) (x1 : Int32) (σ : Mem) (hw : v_J6_numberOfLeadingZeros_0f7a4_J48 P x0 x1 σ) : V X G 2 48 [(0, .int x0), (1, .int x1)] [] σ := by
  unfold v_J6_numberOfLeadingZeros_0f7a4_J48 at hw
  refine v_iload_n (pc := 48) 0 C dJ6_numberOfLeadingZeros_0f7a4_48 rfl rfl ?_
  refine v_bipush (pc := 49) (v := 16) C dJ6_numberOfLeadingZeros_0f7a4_49 (by decide) ?_
  refine v_icmp_lt (pc := 51) (tgt := 61) C dJ6_numberOfLeadingZeros_0f7a4_51 (by decide) (fun c => ?_) (fun c => ?_)
  · replace hw := hw.1 c
    refine v_sub [0, 1] rfl ?_
    exact w_J6_numberOfLeadingZeros_0f7a4_J61 C r _ _ _ hw
  · replace hw := hw.2 c
    refine v_iinc (pc := 54) (v := x1 + (-4)) 1 C dJ6_numberOfLeadingZeros_0f7a4_54 rfl rfl (by decide) rfl ?_
    refine v_iload_n (pc := 57) 1 C dJ6_numberOfLeadingZeros_0f7a4_57 rfl rfl ?_
    refine v_iconst (pc := 58) (v := 4) C dJ6_numberOfLeadingZeros_0f7a4_58 (by decide) ?_
    refine v_iushr (pc := 59) C dJ6_numberOfLeadingZeros_0f7a4_59 ?_
    refine v_topi (fun y_2 ey_2 => ?_)
    replace hw := hw y_2 ey_2
    refine v_istore_n (pc := 60) C dJ6_numberOfLeadingZeros_0f7a4_60 rfl (by decide) rfl ?_
    refine v_sub [0, 1] rfl ?_
    exact w_J6_numberOfLeadingZeros_0f7a4_J61 C r _ _ _ hw

theorem w_J6_numberOfLeadingZeros_0f7a4_J33 {X : Cx} {G : Gl} {P : Int32 → Mem → Prop} (C : Ck X G RJ6 cJ6_numberOfLeadingZeros_0f7a4 2 0) (r : RetI X G .int P) (x0 : Int32) (x1 : Int32) (σ : Mem) (hw : v_J6_numberOfLeadingZeros_0f7a4_J33 P x0 x1 σ) : V X G 2 33 [(0, .int x0), (1, .int x1)] [] σ := by
  unfold v_J6_numberOfLeadingZeros_0f7a4_J33 at hw
  refine v_iload_n (pc := 33) 0 C dJ6_numberOfLeadingZeros_0f7a4_33 rfl rfl ?_
  refine v_sipush (pc := 34) (v := 256) C dJ6_numberOfLeadingZeros_0f7a4_34 (by decide) ?_
  refine v_icmp_lt (pc := 37) (tgt := 48) C dJ6_numberOfLeadingZeros_0f7a4_37 (by decide) (fun c => ?_) (fun c => ?_)
  · replace hw := hw.1 c
    refine v_sub [0, 1] rfl ?_
    exact w_J6_numberOfLeadingZeros_0f7a4_J48 C r _ _ _ hw
  · replace hw := hw.2 c
    refine v_iinc (pc := 40) (v := x1 + (-8)) 1 C dJ6_numberOfLeadingZeros_0f7a4_40 rfl rfl (by decide) rfl ?_
    refine v_iload_n (pc := 43) 1 C dJ6_numberOfLeadingZeros_0f7a4_43 rfl rfl ?_
    refine v_bipush (pc := 44) (v := 8) C dJ6_numberOfLeadingZeros_0f7a4_44 (by decide) ?_
    refine v_iushr (pc := 46) C dJ6_numberOfLeadingZeros_0f7a4_46 ?_
    refine v_topi (fun y_3 ey_3 => ?_)
    replace hw := hw y_3 ey_3
    refine v_istore_n (pc := 47) C dJ6_numberOfLeadingZeros_0f7a4_47 rfl (by decide) rfl ?_
    refine v_sub [0, 1] rfl ?_
    exact w_J6_numberOfLeadingZeros_0f7a4_J48 C r _ _ _ hw

theorem c_J6_numberOfLeadingZeros_0f7a4 {l : Launch} {G : Gl} {a0 : Int32} {σ : Mem} {P : Int32 → Mem → Prop} (hw : v_J6_numberOfLeadingZeros_0f7a4 a0 σ P) : MetI l yJ6_numberOfLeadingZeros_0f7a4 cJ6_numberOfLeadingZeros_0f7a4 2 .int 0 G [.int a0] σ P := by
  refine MetI.of RJ6 (by decide +kernel) rfl (Nat.le_of_ble_eq_true rfl) (fun X C r => ?_)
  show V X G 2 0 [(0, .int a0)] [] σ
  unfold v_J6_numberOfLeadingZeros_0f7a4 at hw
  refine v_iload_n (pc := 0) 0 C dJ6_numberOfLeadingZeros_0f7a4_0 rfl rfl ?_
  refine v_if_gt (pc := 1) (tgt := 15) C dJ6_numberOfLeadingZeros_0f7a4_1 (by decide) (fun c => ?_) (fun c => ?_)
  · replace hw := hw.1 c
    refine v_bipush (pc := 15) (v := 31) C dJ6_numberOfLeadingZeros_0f7a4_15 (by decide) ?_
    refine v_istore_n (pc := 17) C dJ6_numberOfLeadingZeros_0f7a4_17 rfl (by decide) rfl ?_
    refine v_iload_n (pc := 18) 1 C dJ6_numberOfLeadingZeros_0f7a4_18 rfl rfl ?_
    refine v_ldcw (pc := 19) C k_619 dJ6_numberOfLeadingZeros_0f7a4_19 ?_
    refine v_icmp_lt (pc := 22) (tgt := 33) C dJ6_numberOfLeadingZeros_0f7a4_22 (by decide) (fun c => ?_) (fun c => ?_)
    · replace hw := hw.1 c
      refine v_sub [1, 0] rfl ?_
      exact w_J6_numberOfLeadingZeros_0f7a4_J33 C r _ _ _ hw
    · replace hw := hw.2 c
      refine v_iinc (pc := 25) (v := 31 + (-16)) 0 C dJ6_numberOfLeadingZeros_0f7a4_25 rfl rfl (by decide) rfl ?_
      refine v_iload_n (pc := 28) 1 C dJ6_numberOfLeadingZeros_0f7a4_28 rfl rfl ?_
      refine v_bipush (pc := 29) (v := 16) C dJ6_numberOfLeadingZeros_0f7a4_29 (by decide) ?_
      refine v_iushr (pc := 31) C dJ6_numberOfLeadingZeros_0f7a4_31 ?_
      refine v_topi (fun y_4 ey_4 => ?_)
      replace hw := hw y_4 ey_4
      refine v_istore_n (pc := 32) C dJ6_numberOfLeadingZeros_0f7a4_32 rfl (by decide) rfl ?_
      refine v_sub [0, 1] rfl ?_
      exact w_J6_numberOfLeadingZeros_0f7a4_J33 C r _ _ _ hw
  · replace hw := hw.2 c
    refine v_iload_n (pc := 4) 0 C dJ6_numberOfLeadingZeros_0f7a4_4 rfl rfl ?_
    refine v_if_ne (pc := 5) (tgt := 13) C dJ6_numberOfLeadingZeros_0f7a4_5 (by decide) (fun c => ?_) (fun c => ?_)
    · replace hw := hw.2 c
      refine v_iconst (pc := 13) (v := 0) C dJ6_numberOfLeadingZeros_0f7a4_13 (by decide) ?_
      exact v_iret (pc := 14) C r hw dJ6_numberOfLeadingZeros_0f7a4_14
    · replace hw := hw.1 c
      refine v_bipush (pc := 8) (v := 32) C dJ6_numberOfLeadingZeros_0f7a4_8 (by decide) ?_
      refine v_goto (pc := 10) (tgt := 14) C dJ6_numberOfLeadingZeros_0f7a4_10 (by decide) ?_
      exact v_iret (pc := 14) C r hw dJ6_numberOfLeadingZeros_0f7a4_14

theorem c_J6_highestOneBit_0f7a4 {l : Launch} {G : Gl} {a0 : Int32} {σ : Mem} {P : Int32 → Mem → Prop} (hw : v_J6_highestOneBit_0f7a4 a0 σ P) : MetI l yJ6_highestOneBit_0f7a4 cJ6_highestOneBit_0f7a4 1 .int 1 G [.int a0] σ P := by
  refine MetI.of RJ6 (by decide +kernel) rfl (Nat.le_of_ble_eq_true rfl) (fun X C r => ?_)
  show V X G 1 0 [(0, .int a0)] [] σ
  unfold v_J6_highestOneBit_0f7a4 at hw
  refine v_iload_n (pc := 0) 0 C dJ6_highestOneBit_0f7a4_0 rfl rfl ?_
  refine v_ldc (pc := 1) C k_940 dJ6_highestOneBit_0f7a4_1 ?_
  refine v_iload_n (pc := 3) 0 C dJ6_highestOneBit_0f7a4_3 rfl rfl ?_
  refine v_callSi (pc := 4) (As := [.int a0]) (rest := [.int (-2147483648), .int a0]) C (c_J6_numberOfLeadingZeros_0f7a4 hw) pk_J6_numberOfLeadingZeros_0f7a4 (Or.inl k_941) (by decide) rfl rfl (Nat.le_of_ble_eq_true rfl) dJ6_highestOneBit_0f7a4_4 (fun r_1 σ_2 hw => ?_)
  refine v_iushr (pc := 7) C dJ6_highestOneBit_0f7a4_7 ?_
  refine v_iand (pc := 8) C dJ6_highestOneBit_0f7a4_8 ?_
  exact v_iret (pc := 9) C r hw dJ6_highestOneBit_0f7a4_9

theorem w_X6_letBarsChange_L7 {X : Cx} {G : Gl} {P : Mem → Prop} {K51 : Mem → Prop} (C : Ck X G RX6 cX6_letBarsChange 4 2) (r : RetV X G P) (hK51 : ∀ (σ : Mem), K51 σ → V X G 4 51 [(0, .ref (gA G 24)), (1, .ref (gA G 7))] [] σ) : ∀ (n : Nat) (x2 : Int32) (σ : Mem), v_X6_letBarsChange_L7 K51 P n x2 σ → V X G 4 7 [(0, .ref (gA G 24)), (1, .ref (gA G 7)), (2, .int x2)] [] σ := by
  intro n
  induction n with
  | zero => intro x2 σ hw; exact hw.elim
  | succ n ih =>
    intro x2 σ hw
    refine v_iload_n (pc := 7) 2 C dX6_letBarsChange_7 rfl rfl ?_
    refine v_if_le (pc := 8) (tgt := 51) C dX6_letBarsChange_8 (by decide) (fun c => ?_) (fun c => ?_)
    · replace hw := hw.1 c
      refine v_sub [0, 1] rfl ?_
      exact hK51 _ hw
    · replace hw := hw.2 c
      refine v_aload_n (pc := 11) 1 C dX6_letBarsChange_11 rfl rfl ?_
      refine g_4_0 (pc := 12) C k_178 dX6_letBarsChange_12 ?_
      refine v_iload_n (pc := 15) 2 C dX6_letBarsChange_15 rfl rfl ?_
      refine v_iald (pc := 16) C rfl hw.1 dX6_letBarsChange_16 ?_
      replace hw := hw.2
      refine v_istore_n (pc := 17) C dX6_letBarsChange_17 rfl (by decide) rfl ?_
      refine v_aload_n (pc := 18) 1 C dX6_letBarsChange_18 rfl rfl ?_
      refine v_iload_n (pc := 19) 0 C dX6_letBarsChange_19 rfl rfl ?_
      refine v_iload_n (pc := 20) 0 C dX6_letBarsChange_20 rfl rfl ?_
      refine v_iconst (pc := 21) (v := 1) C dX6_letBarsChange_21 (by decide) ?_
      refine v_isub (pc := 22) C dX6_letBarsChange_22 ?_
      refine v_iand (pc := 23) C dX6_letBarsChange_23 ?_
      refine v_callSi (pc := 24) (As := [.int ((σ.1 8 (Int32.toNatClampNeg x2)) &&& ((σ.1 8 (Int32.toNatClampNeg x2)) - 1))]) (rest := [.ref (gA G 24)]) C (c_X4_gripOf hw) pk_X4_gripOf (Or.inl k_926) (by decide) rfl rfl (Nat.le_of_ble_eq_true rfl) dX6_letBarsChange_24 (fun r_1 σ_2 hw => ?_)
      refine v_iload_n (pc := 27) 3 C dX6_letBarsChange_27 rfl rfl ?_
      refine v_cVv (pc := 28) (o := 24) (As := [.int r_1, .int x2]) (rest := []) (ci := 6) C (c_X6_ease hw) pk_X6_ease k_930 rfl (by decide) rfl (by decide) rfl rfl (Nat.le_of_ble_eq_true rfl) dX6_letBarsChange_28 (fun σ_3 hw => ?_)
      refine v_aload_n (pc := 31) 1 C dX6_letBarsChange_31 rfl rfl ?_
      refine v_iload_n (pc := 32) 0 C dX6_letBarsChange_32 rfl rfl ?_
      refine v_iload_n (pc := 33) 0 C dX6_letBarsChange_33 rfl rfl ?_
      refine v_callSi (pc := 34) (As := [.int (σ.1 8 (Int32.toNatClampNeg x2))]) (rest := [.int (σ.1 8 (Int32.toNatClampNeg x2)), .ref (gA G 24)]) C (c_J6_highestOneBit_0f7a4 hw) pk_J6_highestOneBit_0f7a4 (Or.inl k_937) (by decide) rfl rfl (Nat.le_of_ble_eq_true rfl) dX6_letBarsChange_34 (fun r_4 σ_5 hw => ?_)
      refine v_ixor (pc := 37) C dX6_letBarsChange_37 ?_
      refine v_callSi (pc := 38) (As := [.int ((σ.1 8 (Int32.toNatClampNeg x2)) ^^^ r_4)]) (rest := [.ref (gA G 24)]) C (c_X4_gripOf hw) pk_X4_gripOf (Or.inl k_926) (by decide) rfl rfl (Nat.le_of_ble_eq_true rfl) dX6_letBarsChange_38 (fun r_6 σ_7 hw => ?_)
      refine v_iload_n (pc := 41) 3 C dX6_letBarsChange_41 rfl rfl ?_
      refine v_cVv (pc := 42) (o := 24) (As := [.int r_6, .int x2]) (rest := []) (ci := 6) C (c_X6_ease hw) pk_X6_ease k_930 rfl (by decide) rfl (by decide) rfl rfl (Nat.le_of_ble_eq_true rfl) dX6_letBarsChange_42 (fun σ_8 hw => ?_)
      refine v_iinc (pc := 45) (v := x2 + (-1)) 3 C dX6_letBarsChange_45 rfl rfl (by decide) rfl ?_
      refine v_goto (pc := 48) (tgt := 7) C dX6_letBarsChange_48 (by decide) ?_
      refine v_sub [2, 3, 0] rfl ?_
      exact ih _ _ hw

theorem w_X6_letBarsChange_L53 {X : Cx} {G : Gl} {P : Mem → Prop} (C : Ck X G RX6 cX6_letBarsChange 4 2) (r : RetV X G P) : ∀ (n : Nat) (x2 : Int32) (σ : Mem), v_X6_letBarsChange_L53 P n x2 σ → V X G 4 53 [(0, .ref (gA G 24)), (1, .ref (gA G 7)), (2, .int x2)] [] σ := by
  intro n
  induction n with
  | zero => intro x2 σ hw; exact hw.elim
  | succ n ih =>
    intro x2 σ hw
    refine v_iload_n (pc := 53) 2 C dX6_letBarsChange_53 rfl rfl ?_
    refine v_aload_n (pc := 54) 1 C dX6_letBarsChange_54 rfl rfl ?_
    refine g_4_5 (pc := 55) C k_186 dX6_letBarsChange_55 ?_
    refine v_icmp_ge (pc := 58) (tgt := 101) C dX6_letBarsChange_58 (by decide) (fun c => ?_) (fun c => ?_)
    · replace hw := hw.1 c
      exact v_vret (pc := 101) C r hw dX6_letBarsChange_101
    · replace hw := hw.2 c
      refine v_aload_n (pc := 61) 1 C dX6_letBarsChange_61 rfl rfl ?_
      refine g_4_0 (pc := 62) C k_178 dX6_letBarsChange_62 ?_
      refine v_iload_n (pc := 65) 2 C dX6_letBarsChange_65 rfl rfl ?_
      refine v_iald (pc := 66) C rfl hw.1 dX6_letBarsChange_66 ?_
      replace hw := hw.2
      refine v_istore_n (pc := 67) C dX6_letBarsChange_67 rfl (by decide) rfl ?_
      refine v_aload_n (pc := 68) 1 C dX6_letBarsChange_68 rfl rfl ?_
      refine v_iload_n (pc := 69) 3 C dX6_letBarsChange_69 rfl rfl ?_
      refine v_iload_n (pc := 70) 0 C dX6_letBarsChange_70 rfl rfl ?_
      refine v_iload_n (pc := 71) 0 C dX6_letBarsChange_71 rfl rfl ?_
      refine v_iconst (pc := 72) (v := 1) C dX6_letBarsChange_72 (by decide) ?_
      refine v_isub (pc := 73) C dX6_letBarsChange_73 ?_
      refine v_iand (pc := 74) C dX6_letBarsChange_74 ?_
      refine v_callSi (pc := 75) (As := [.int ((σ.1 8 (Int32.toNatClampNeg x2)) &&& ((σ.1 8 (Int32.toNatClampNeg x2)) - 1))]) (rest := [.int x2, .ref (gA G 24)]) C (c_X4_gripOf hw) pk_X4_gripOf (Or.inl k_926) (by decide) rfl rfl (Nat.le_of_ble_eq_true rfl) dX6_letBarsChange_75 (fun r_11 σ_12 hw => ?_)
      refine v_cVv (pc := 78) (o := 24) (As := [.int x2, .int r_11]) (rest := []) (ci := 6) C (c_X6_ease hw) pk_X6_ease k_930 rfl (by decide) rfl (by decide) rfl rfl (Nat.le_of_ble_eq_true rfl) dX6_letBarsChange_78 (fun σ_13 hw => ?_)
      refine v_aload_n (pc := 81) 1 C dX6_letBarsChange_81 rfl rfl ?_
      refine v_iload_n (pc := 82) 3 C dX6_letBarsChange_82 rfl rfl ?_
      refine v_iload_n (pc := 83) 0 C dX6_letBarsChange_83 rfl rfl ?_
      refine v_iload_n (pc := 84) 0 C dX6_letBarsChange_84 rfl rfl ?_
      refine v_callSi (pc := 85) (As := [.int (σ.1 8 (Int32.toNatClampNeg x2))]) (rest := [.int (σ.1 8 (Int32.toNatClampNeg x2)), .int x2, .ref (gA G 24)]) C (c_J6_highestOneBit_0f7a4 hw) pk_J6_highestOneBit_0f7a4 (Or.inl k_937) (by decide) rfl rfl (Nat.le_of_ble_eq_true rfl) dX6_letBarsChange_85 (fun r_14 σ_15 hw => ?_)
      refine v_ixor (pc := 88) C dX6_letBarsChange_88 ?_
      refine v_callSi (pc := 89) (As := [.int ((σ.1 8 (Int32.toNatClampNeg x2)) ^^^ r_14)]) (rest := [.int x2, .ref (gA G 24)]) C (c_X4_gripOf hw) pk_X4_gripOf (Or.inl k_926) (by decide) rfl rfl (Nat.le_of_ble_eq_true rfl) dX6_letBarsChange_89 (fun r_16 σ_17 hw => ?_)
      refine v_cVv (pc := 92) (o := 24) (As := [.int x2, .int r_16]) (rest := []) (ci := 6) C (c_X6_ease hw) pk_X6_ease k_930 rfl (by decide) rfl (by decide) rfl rfl (Nat.le_of_ble_eq_true rfl) dX6_letBarsChange_92 (fun σ_18 hw => ?_)
      refine v_iinc (pc := 95) (v := x2 + 1) 3 C dX6_letBarsChange_95 rfl rfl (by decide) rfl ?_
      refine v_goto (pc := 98) (tgt := 53) C dX6_letBarsChange_98 (by decide) ?_
      refine v_sub [2, 3, 0] rfl ?_
      exact ih _ _ hw

theorem c_X6_letBarsChange {l : Launch} {G : Gl} {σ : Mem} {P : Mem → Prop} (hw : v_X6_letBarsChange σ P) : MetV l yX6_letBarsChange cX6_letBarsChange 4 2 G [.ref (gA G 24), .ref (gA G 7)] σ P := by
  refine MetV.of RX6 (by decide +kernel) rfl (Nat.le_of_ble_eq_true rfl) (fun X C r => ?_)
  show V X G 4 0 [(0, .ref (gA G 24)), (1, .ref (gA G 7))] [] σ
  unfold v_X6_letBarsChange at hw
  refine v_aload_n (pc := 0) 1 C dX6_letBarsChange_0 rfl rfl ?_
  refine g_4_5 (pc := 1) C k_186 dX6_letBarsChange_1 ?_
  refine v_iconst (pc := 4) (v := 1) C dX6_letBarsChange_4 (by decide) ?_
  refine v_isub (pc := 5) C dX6_letBarsChange_5 ?_
  refine v_istore_n (pc := 6) C dX6_letBarsChange_6 rfl (by decide) rfl ?_
  refine v_sub [1, 2, 0] rfl ?_
  refine w_X6_letBarsChange_L7 C r ?_ 5000 _ _ hw
  · intro σ_10 hw
    refine v_iconst (pc := 51) (v := 1) C dX6_letBarsChange_51 (by decide) ?_
    refine v_istore_n (pc := 52) C dX6_letBarsChange_52 rfl (by decide) rfl ?_
    refine v_sub [1, 2, 0] rfl ?_
    refine w_X6_letBarsChange_L53 C r 5000 _ _ hw

theorem w_X6_plan_L22 {X : Cx} {G : Gl} {P : Mem → Prop} {o1 : Nat} {x3 : Int32} {K74 : Mem → Prop} (C : Ck X G RX6 cX6_plan 5 3) (r : RetV X G P) (h1 : kd o1 = (9, 0)) (hK74 : ∀ (σ : Mem), K74 σ → V X G 5 74 [(0, .ref (gA G 24)), (1, .ref (gA G o1)), (2, .ref (gA G 7)), (3, .int x3)] [] σ) : ∀ (n : Nat) (x4 : Int32) (σ : Mem), v_X6_plan_L22 o1 x3 K74 P n x4 σ → V X G 5 22 [(0, .ref (gA G 24)), (1, .ref (gA G o1)), (2, .ref (gA G 7)), (3, .int x3), (4, .int x4)] [] σ := by
  intro n
  induction n with
  | zero => intro x4 σ hw; exact hw.elim
  | succ n ih =>
    intro x4 σ hw
    refine v_iload (pc := 22) 4 C dX6_plan_22 rfl ?_
    refine v_aload_n (pc := 24) 2 C dX6_plan_24 rfl rfl ?_
    refine g_4_5 (pc := 25) C k_186 dX6_plan_25 ?_
    refine v_icmp_ge (pc := 28) (tgt := 74) C dX6_plan_28 (by decide) (fun c => ?_) (fun c => ?_)
    · replace hw := hw.1 c
      refine v_sub [0, 1, 2, 3] rfl ?_
      exact hK74 _ hw
    · replace hw := hw.2 c
      refine v_aload_n (pc := 31) 0 C dX6_plan_31 rfl rfl ?_
      refine g_6_1 (pc := 32) C k_302 dX6_plan_32 ?_
      refine v_iload (pc := 35) 4 C dX6_plan_35 rfl ?_
      refine v_dup2 (pc := 37) C dX6_plan_37 rfl rfl ?_
      refine v_iald (pc := 38) C rfl hw.1 dX6_plan_38 ?_
      replace hw := hw.2
      refine v_aload_n (pc := 39) 1 C dX6_plan_39 rfl rfl ?_
      refine v_iload_n (pc := 40) 3 C dX6_plan_40 rfl rfl ?_
      refine v_iload (pc := 41) 4 C dX6_plan_41 rfl ?_
      refine v_aload_n (pc := 43) 2 C dX6_plan_43 rfl rfl ?_
      refine v_callSi (pc := 44) (As := [.ref (gA G o1), .int x3, .int x4, .ref (gA G 7)]) (rest := [.int (σ.1 26 (Int32.toNatClampNeg x4)), .int x4, .ref (gA G 26)]) C (c_X6_troubleOf h1 hw) pk_X6_troubleOf (Or.inl k_915) (by decide) rfl rfl (Nat.le_of_ble_eq_true rfl) dX6_plan_44 (fun r_2 σ_3 hw => ?_)
      refine v_iadd (pc := 47) C dX6_plan_47 ?_
      refine v_iast (pc := 48) C rfl hw.1 dX6_plan_48 ?_
      replace hw := hw.2
      refine v_aload_n (pc := 49) 0 C dX6_plan_49 rfl rfl ?_
      refine g_6_0 (pc := 50) C k_301 dX6_plan_50 ?_
      refine v_iload_n (pc := 53) 3 C dX6_plan_53 rfl rfl ?_
      refine v_bipush (pc := 54) (v := 79) C dX6_plan_54 (by decide) ?_
      refine v_imul (pc := 56) C dX6_plan_56 ?_
      refine v_iload (pc := 57) 4 C dX6_plan_57 rfl ?_
      refine v_iadd (pc := 59) C dX6_plan_59 ?_
      refine v_aload_n (pc := 60) 0 C dX6_plan_60 rfl rfl ?_
      refine g_6_1 (pc := 61) C k_302 dX6_plan_61 ?_
      refine v_iload (pc := 64) 4 C dX6_plan_64 rfl ?_
      refine v_iald (pc := 66) C rfl hw.1 dX6_plan_66 ?_
      replace hw := hw.2
      refine v_iast (pc := 67) C rfl hw.1 dX6_plan_67 ?_
      replace hw := hw.2
      refine v_iinc (pc := 68) (v := x4 + 1) 4 C dX6_plan_68 rfl rfl (by decide) rfl ?_
      refine v_goto (pc := 71) (tgt := 22) C dX6_plan_71 (by decide) ?_
      refine v_sub [1, 2, 3, 4, 0] rfl ?_
      exact ih _ _ hw

theorem w_X6_plan_L15 {X : Cx} {G : Gl} {P : Mem → Prop} {o1 : Nat} (C : Ck X G RX6 cX6_plan 5 3) (r : RetV X G P) (h1 : kd o1 = (9, 0)) : ∀ (n : Nat) (x3 : Int32) (σ : Mem), v_X6_plan_L15 o1 P n x3 σ → V X G 5 15 [(0, .ref (gA G 24)), (1, .ref (gA G o1)), (2, .ref (gA G 7)), (3, .int x3)] [] σ := by
  intro n
  induction n with
  | zero => intro x3 σ hw; exact hw.elim
  | succ n ih =>
    intro x3 σ hw
    refine v_iload_n (pc := 15) 3 C dX6_plan_15 rfl rfl ?_
    refine v_if_lt (pc := 16) (tgt := 85) C dX6_plan_16 (by decide) (fun c => ?_) (fun c => ?_)
    · replace hw := hw.1 c
      exact v_vret (pc := 85) C r hw dX6_plan_85
    · replace hw := hw.2 c
      refine v_iconst (pc := 19) (v := 0) C dX6_plan_19 (by decide) ?_
      refine v_istore (pc := 20) C dX6_plan_20 (by decide) rfl ?_
      refine v_sub [1, 2, 3, 4, 0] rfl ?_
      refine w_X6_plan_L22 C r h1 ?_ 5000 _ _ hw
      · intro σ_5 hw
        refine v_aload_n (pc := 74) 0 C dX6_plan_74 rfl rfl ?_
        refine v_aload_n (pc := 75) 2 C dX6_plan_75 rfl rfl ?_
        refine v_cVv (pc := 76) (o := 24) (As := [.ref (gA G 7)]) (rest := []) (ci := 6) C (c_X6_letBarsChange hw) pk_X6_letBarsChange k_922 rfl (by decide) rfl (by decide) rfl rfl (Nat.le_of_ble_eq_true rfl) dX6_plan_76 (fun σ_6 hw => ?_)
        refine v_iinc (pc := 79) (v := x3 + (-1)) 3 C dX6_plan_79 rfl rfl (by decide) rfl ?_
        refine v_goto (pc := 82) (tgt := 15) C dX6_plan_82 (by decide) ?_
        refine v_sub [1, 2, 3, 0] rfl ?_
        exact ih _ _ hw

theorem c_X6_plan {l : Launch} {G : Gl} {o1 : Nat} {σ : Mem} {P : Mem → Prop} (h1 : kd o1 = (9, 0)) (hw : v_X6_plan o1 σ P) : MetV l yX6_plan cX6_plan 5 3 G [.ref (gA G 24), .ref (gA G o1), .ref (gA G 7)] σ P := by
  refine MetV.of RX6 (by decide +kernel) rfl (Nat.le_of_ble_eq_true rfl) (fun X C r => ?_)
  show V X G 5 0 [(0, .ref (gA G 24)), (1, .ref (gA G o1)), (2, .ref (gA G 7))] [] σ
  unfold v_X6_plan at hw
  refine v_aload_n (pc := 0) 0 C dX6_plan_0 rfl rfl ?_
  refine g_6_1 (pc := 1) C k_302 dX6_plan_1 ?_
  refine v_iconst (pc := 4) (v := 0) C dX6_plan_4 (by decide) ?_
  refine v_callSv (pc := 5) (As := [.ref (gA G 26), .int 0]) (rest := []) C (c_J7_fill_53178 rfl hw) pk_J7_fill_53178 (Or.inl k_914) (by decide) rfl rfl (Nat.le_of_ble_eq_true rfl) dX6_plan_5 (fun σ_1 hw => ?_)
  refine v_aload_n (pc := 8) 1 C dX6_plan_8 rfl rfl ?_
  refine g_9_2 (pc := 9) h1 C k_218 dX6_plan_9 ?_
  refine v_iconst (pc := 12) (v := 1) C dX6_plan_12 (by decide) ?_
  refine v_isub (pc := 13) C dX6_plan_13 ?_
  refine v_istore_n (pc := 14) C dX6_plan_14 rfl (by decide) rfl ?_
  refine v_sub [1, 2, 3, 0] rfl ?_
  refine w_X6_plan_L15 C r h1 5000 _ _ hw

theorem w_X6_troubleFrom_J20 {X : Cx} {G : Gl} {P : Int32 → Mem → Prop} (C : Ck X G RX6 cX6_troubleFrom 6 1) (r : RetI X G .int P) (x1 : Int32) (x3 : Int32) (xs0 : Int32) (σ : Mem) (hw : v_X6_troubleFrom_J20 P x1 x3 xs0 σ) : V X G 6 20 [(0, .ref (gA G 24)), (1, .int x1), (3, .int x3)] [.int xs0] σ := by
  unfold v_X6_troubleFrom_J20 at hw
  refine v_istore (pc := 20) C dX6_troubleFrom_20 (by decide) rfl ?_
  refine v_iconst (pc := 22) (v := 2) C dX6_troubleFrom_22 (by decide) ?_
  refine v_iload (pc := 23) 0 C dX6_troubleFrom_23 rfl ?_
  refine v_imul (pc := 25) C dX6_troubleFrom_25 ?_
  refine v_aload_n (pc := 26) 1 C dX6_troubleFrom_26 rfl rfl ?_
  refine g_6_0 (pc := 27) C k_301 dX6_troubleFrom_27 ?_
  refine v_iload_n (pc := 30) 2 C dX6_troubleFrom_30 rfl rfl ?_
  refine v_bipush (pc := 31) (v := 79) C dX6_troubleFrom_31 (by decide) ?_
  refine v_imul (pc := 33) C dX6_troubleFrom_33 ?_
  refine v_iload_n (pc := 34) 3 C dX6_troubleFrom_34 rfl rfl ?_
  refine v_iadd (pc := 35) C dX6_troubleFrom_35 ?_
  refine v_iald (pc := 36) C rfl hw.1 dX6_troubleFrom_36 ?_
  replace hw := hw.2
  refine v_iadd (pc := 37) C dX6_troubleFrom_37 ?_
  exact v_iret (pc := 38) C r hw dX6_troubleFrom_38

theorem c_X6_troubleFrom {l : Launch} {G : Gl} {a1 : Int32} {a2 : Int32} {a3 : Int32} {σ : Mem} {P : Int32 → Mem → Prop} (hw : v_X6_troubleFrom a1 a2 a3 σ P) : MetI l yX6_troubleFrom cX6_troubleFrom 6 .int 1 G [.ref (gA G 24), .int a1, .int a2, .int a3, .ref (gA G 7)] σ P := by
  refine MetI.of RX6 (by decide +kernel) rfl (Nat.le_of_ble_eq_true rfl) (fun X C r => ?_)
  show V X G 6 0 [(0, .ref (gA G 24)), (1, .int a1), (2, .int a2), (3, .int a3), (4, .ref (gA G 7))] [] σ
  unfold v_X6_troubleFrom at hw
  refine v_iload_n (pc := 0) 1 C dX6_troubleFrom_0 rfl rfl ?_
  refine v_if_ne (pc := 1) (tgt := 8) C dX6_troubleFrom_1 (by decide) (fun c => ?_) (fun c => ?_)
  · replace hw := hw.2 c
    refine v_iload_n (pc := 8) 2 C dX6_troubleFrom_8 rfl rfl ?_
    refine v_aload (pc := 9) 4 C dX6_troubleFrom_9 rfl ?_
    refine g_4_0 (pc := 11) C k_178 dX6_troubleFrom_11 ?_
    refine v_iload_n (pc := 14) 3 C dX6_troubleFrom_14 rfl rfl ?_
    refine v_iald (pc := 15) C rfl hw.1 dX6_troubleFrom_15 ?_
    replace hw := hw.2
    refine v_ixor (pc := 16) C dX6_troubleFrom_16 ?_
    refine v_callSi (pc := 17) (As := [.int (a2 ^^^ (σ.1 8 (Int32.toNatClampNeg a3)))]) (rest := []) C (c_J6_bitCount_0f7a4 hw) pk_J6_bitCount_0f7a4 (Or.inl k_921) (by decide) rfl rfl (Nat.le_of_ble_eq_true rfl) dX6_troubleFrom_17 (fun r_1 σ_2 hw => ?_)
    refine v_sub [0, 1, 3] rfl ?_
    exact w_X6_troubleFrom_J20 C r _ _ _ _ hw
  · replace hw := hw.1 c
    refine v_iconst (pc := 4) (v := 0) C dX6_troubleFrom_4 (by decide) ?_
    refine v_goto (pc := 5) (tgt := 20) C dX6_troubleFrom_5 (by decide) ?_
    refine v_sub [0, 1, 3] rfl ?_
    exact w_X6_troubleFrom_J20 C r _ _ _ _ hw

theorem w_X6_firstBest_L16 {X : Cx} {G : Gl} {P : Int32 → Mem → Prop} {x1 : Int32} {x2 : Int32} (C : Ck X G RX6 cX6_firstBest 8 2) (r : RetI X G .int P) : ∀ (n : Nat) (x4 : Int32) (x5 : Int32) (x6 : Int32) (σ : Mem), v_X6_firstBest_L16 x1 x2 P n x4 x5 x6 σ → V X G 8 16 [(0, .ref (gA G 24)), (1, .int x1), (2, .int x2), (3, .ref (gA G 7)), (4, .int x4), (5, .int x5), (6, .int x6)] [] σ := by
  intro n
  induction n with
  | zero => intro x4 x5 x6 σ hw; exact hw.elim
  | succ n ih =>
    intro x4 x5 x6 σ hw
    refine v_iload (pc := 16) 6 C dX6_firstBest_16 rfl ?_
    refine v_aload_n (pc := 18) 3 C dX6_firstBest_18 rfl rfl ?_
    refine g_4_5 (pc := 19) C k_186 dX6_firstBest_19 ?_
    refine v_icmp_ge (pc := 22) (tgt := 57) C dX6_firstBest_22 (by decide) (fun c => ?_) (fun c => ?_)
    · replace hw := hw.1 c
      refine v_iload (pc := 57) 4 C dX6_firstBest_57 rfl ?_
      exact v_iret (pc := 59) C r hw dX6_firstBest_59
    · replace hw := hw.2 c
      refine v_aload_n (pc := 25) 0 C dX6_firstBest_25 rfl rfl ?_
      refine v_iload_n (pc := 26) 1 C dX6_firstBest_26 rfl rfl ?_
      refine v_iload_n (pc := 27) 2 C dX6_firstBest_27 rfl rfl ?_
      refine v_iload (pc := 28) 6 C dX6_firstBest_28 rfl ?_
      refine v_aload_n (pc := 30) 3 C dX6_firstBest_30 rfl rfl ?_
      refine v_cVi (pc := 31) (o := 24) (As := [.int x1, .int x2, .int x6, .ref (gA G 7)]) (rest := []) (ci := 6) C (c_X6_troubleFrom hw) pk_X6_troubleFrom k_950 rfl (by decide) rfl (by decide) rfl rfl (Nat.le_of_ble_eq_true rfl) dX6_firstBest_31 (fun r_3 σ_4 hw => ?_)
      refine v_istore (pc := 34) C dX6_firstBest_34 (by decide) rfl ?_
      refine v_iload (pc := 36) 0 C dX6_firstBest_36 rfl ?_
      refine v_iload (pc := 38) 6 C dX6_firstBest_38 rfl ?_
      refine v_icmp_ge (pc := 40) (tgt := 51) C dX6_firstBest_40 (by decide) (fun c => ?_) (fun c => ?_)
      · replace hw := hw.1 c
        refine v_iinc (pc := 51) (v := x6 + 1) 7 C dX6_firstBest_51 rfl rfl (by decide) rfl ?_
        refine v_goto (pc := 54) (tgt := 16) C dX6_firstBest_54 (by decide) ?_
        refine v_sub [2, 3, 4, 5, 6, 7, 0] rfl ?_
        exact ih _ _ _ _ hw
      · replace hw := hw.2 c
        refine v_iload (pc := 43) 7 C dX6_firstBest_43 rfl ?_
        refine v_istore (pc := 45) C dX6_firstBest_45 (by decide) rfl ?_
        refine v_iload (pc := 47) 1 C dX6_firstBest_47 rfl ?_
        refine v_istore (pc := 49) C dX6_firstBest_49 (by decide) rfl ?_
        refine v_iinc (pc := 51) (v := x6 + 1) 7 C dX6_firstBest_51 rfl rfl (by decide) rfl ?_
        refine v_goto (pc := 54) (tgt := 16) C dX6_firstBest_54 (by decide) ?_
        refine v_sub [4, 5, 6, 7, 2, 1, 0] rfl ?_
        exact ih _ _ _ _ hw

theorem c_X6_firstBest {l : Launch} {G : Gl} {a1 : Int32} {a2 : Int32} {σ : Mem} {P : Int32 → Mem → Prop} (hw : v_X6_firstBest a1 a2 σ P) : MetI l yX6_firstBest cX6_firstBest 8 .int 2 G [.ref (gA G 24), .int a1, .int a2, .ref (gA G 7)] σ P := by
  refine MetI.of RX6 (by decide +kernel) rfl (Nat.le_of_ble_eq_true rfl) (fun X C r => ?_)
  show V X G 8 0 [(0, .ref (gA G 24)), (1, .int a1), (2, .int a2), (3, .ref (gA G 7))] [] σ
  unfold v_X6_firstBest at hw
  refine v_iconst (pc := 0) (v := 0) C dX6_firstBest_0 (by decide) ?_
  refine v_istore (pc := 1) C dX6_firstBest_1 (by decide) rfl ?_
  refine v_aload_n (pc := 3) 1 C dX6_firstBest_3 rfl rfl ?_
  refine v_iload_n (pc := 4) 2 C dX6_firstBest_4 rfl rfl ?_
  refine v_iload_n (pc := 5) 3 C dX6_firstBest_5 rfl rfl ?_
  refine v_iconst (pc := 6) (v := 0) C dX6_firstBest_6 (by decide) ?_
  refine v_aload_n (pc := 7) 4 C dX6_firstBest_7 rfl rfl ?_
  refine v_cVi (pc := 8) (o := 24) (As := [.int a1, .int a2, .int 0, .ref (gA G 7)]) (rest := []) (ci := 6) C (c_X6_troubleFrom hw) pk_X6_troubleFrom k_950 rfl (by decide) rfl (by decide) rfl rfl (Nat.le_of_ble_eq_true rfl) dX6_firstBest_8 (fun r_1 σ_2 hw => ?_)
  refine v_istore (pc := 11) C dX6_firstBest_11 (by decide) rfl ?_
  refine v_iconst (pc := 13) (v := 1) C dX6_firstBest_13 (by decide) ?_
  refine v_istore (pc := 14) C dX6_firstBest_14 (by decide) rfl ?_
  refine v_sub [3, 4, 5, 6, 2, 1, 0] rfl ?_
  refine w_X6_firstBest_L16 C r 5000 _ _ _ _ hw

theorem c_X6_leastTrouble {l : Launch} {G : Gl} {σ : Mem} {P : Int32 → Mem → Prop} (hw : v_X6_leastTrouble σ P) : MetI l yX6_leastTrouble cX6_leastTrouble 2 .int 3 G [.ref (gA G 24), .ref (gA G 7)] σ P := by
  refine MetI.of RX6 (by decide +kernel) rfl (Nat.le_of_ble_eq_true rfl) (fun X C r => ?_)
  show V X G 2 0 [(0, .ref (gA G 24)), (1, .ref (gA G 7))] [] σ
  unfold v_X6_leastTrouble at hw
  refine v_aload_n (pc := 0) 0 C dX6_leastTrouble_0 rfl rfl ?_
  refine g_6_0 (pc := 1) C k_301 dX6_leastTrouble_1 ?_
  refine v_aload_n (pc := 4) 0 C dX6_leastTrouble_4 rfl rfl ?_
  refine v_iconst (pc := 5) (v := 0) C dX6_leastTrouble_5 (by decide) ?_
  refine v_iconst (pc := 6) (v := 0) C dX6_leastTrouble_6 (by decide) ?_
  refine v_aload_n (pc := 7) 1 C dX6_leastTrouble_7 rfl rfl ?_
  refine v_cVi (pc := 8) (o := 24) (As := [.int 0, .int 0, .ref (gA G 7)]) (rest := [.ref (gA G 25)]) (ci := 6) C (c_X6_firstBest hw) pk_X6_firstBest k_946 rfl (by decide) rfl (by decide) rfl rfl (Nat.le_of_ble_eq_true rfl) dX6_leastTrouble_8 (fun r_1 σ_2 hw => ?_)
  refine v_iald (pc := 11) C rfl hw.1 dX6_leastTrouble_11 ?_
  replace hw := hw.2
  exact v_iret (pc := 12) C r hw dX6_leastTrouble_12

theorem w_X6_setAt_L5 {X : Cx} {G : Gl} {P : Int32 → Mem → Prop} {x1 : Int32} (C : Ck X G RX6 cX6_setAt 5 3) (r : RetI X G .int P) : ∀ (n : Nat) (x3 : Int32) (x4 : Int32) (σ : Mem), v_X6_setAt_L5 x1 P n x3 x4 σ → V X G 5 5 [(0, .ref (gA G 24)), (1, .int x1), (2, .ref (gA G 7)), (3, .int x3), (4, .int x4)] [] σ := by
  intro n
  induction n with
  | zero => intro x3 x4 σ hw; exact hw.elim
  | succ n ih =>
    intro x3 x4 σ hw
    refine v_iload (pc := 5) 4 C dX6_setAt_5 rfl ?_
    refine v_iload_n (pc := 7) 1 C dX6_setAt_7 rfl rfl ?_
    refine v_icmp_gt (pc := 8) (tgt := 38) C dX6_setAt_8 (by decide) (fun c => ?_) (fun c => ?_)
    · replace hw := hw.1 c
      refine v_iload_n (pc := 38) 3 C dX6_setAt_38 rfl rfl ?_
      exact v_iret (pc := 39) C r hw dX6_setAt_39
    · replace hw := hw.2 c
      refine v_iload (pc := 11) 4 C dX6_setAt_11 rfl ?_
      refine v_bipush (pc := 13) (v := 24) C dX6_setAt_13 (by decide) ?_
      refine v_icmp_ge (pc := 15) (tgt := 38) C dX6_setAt_15 (by decide) (fun c => ?_) (fun c => ?_)
      · replace hw := hw.1 c
        refine v_iload_n (pc := 38) 3 C dX6_setAt_38 rfl rfl ?_
        exact v_iret (pc := 39) C r hw dX6_setAt_39
      · replace hw := hw.2 c
        refine v_aload_n (pc := 18) 2 C dX6_setAt_18 rfl rfl ?_
        refine g_4_0 (pc := 19) C k_178 dX6_setAt_19 ?_
        refine v_aload_n (pc := 22) 0 C dX6_setAt_22 rfl rfl ?_
        refine v_iload (pc := 23) 4 C dX6_setAt_23 rfl ?_
        refine v_iload_n (pc := 25) 3 C dX6_setAt_25 rfl rfl ?_
        refine v_aload_n (pc := 26) 2 C dX6_setAt_26 rfl rfl ?_
        refine v_cVi (pc := 27) (o := 24) (As := [.int x4, .int x3, .ref (gA G 7)]) (rest := [.ref (gA G 8)]) (ci := 6) C (c_X6_firstBest hw) pk_X6_firstBest k_946 rfl (by decide) rfl (by decide) rfl rfl (Nat.le_of_ble_eq_true rfl) dX6_setAt_27 (fun r_1 σ_2 hw => ?_)
        refine v_iald (pc := 30) C rfl hw.1 dX6_setAt_30 ?_
        replace hw := hw.2
        refine v_istore_n (pc := 31) C dX6_setAt_31 rfl (by decide) rfl ?_
        refine v_iinc (pc := 32) (v := x4 + 1) 4 C dX6_setAt_32 rfl rfl (by decide) rfl ?_
        refine v_goto (pc := 35) (tgt := 5) C dX6_setAt_35 (by decide) ?_
        refine v_sub [2, 3, 4, 1, 0] rfl ?_
        exact ih _ _ _ hw

theorem c_X6_setAt {l : Launch} {G : Gl} {a1 : Int32} {σ : Mem} {P : Int32 → Mem → Prop} (hw : v_X6_setAt a1 σ P) : MetI l yX6_setAt cX6_setAt 5 .int 3 G [.ref (gA G 24), .int a1, .ref (gA G 7)] σ P := by
  refine MetI.of RX6 (by decide +kernel) rfl (Nat.le_of_ble_eq_true rfl) (fun X C r => ?_)
  show V X G 5 0 [(0, .ref (gA G 24)), (1, .int a1), (2, .ref (gA G 7))] [] σ
  unfold v_X6_setAt at hw
  refine v_iconst (pc := 0) (v := 0) C dX6_setAt_0 (by decide) ?_
  refine v_istore_n (pc := 1) C dX6_setAt_1 rfl (by decide) rfl ?_
  refine v_iconst (pc := 2) (v := 0) C dX6_setAt_2 (by decide) ?_
  refine v_istore (pc := 3) C dX6_setAt_3 (by decide) rfl ?_
  refine v_sub [2, 3, 4, 1, 0] rfl ?_
  refine w_X6_setAt_L5 C r 5000 _ _ _ hw

theorem c_X7_knows {l : Launch} {G : Gl} {a1 : Int32} {σ : Mem} {P : Int32 → Mem → Prop} (hw : v_X7_knows a1 σ P) : MetI l yX7_knows cX7_knows 2 .boolean 0 G [.ref (gA G 5), .int a1] σ P := by
  refine MetI.of RX7 (by decide +kernel) rfl (Nat.le_of_ble_eq_true rfl) (fun X C r => ?_)
  show V X G 2 0 [(0, .ref (gA G 5)), (1, .int a1)] [] σ
  unfold v_X7_knows at hw
  refine v_iload_n (pc := 0) 1 C dX7_knows_0 rfl rfl ?_
  refine v_if_lt (pc := 1) (tgt := 16) C dX7_knows_1 (by decide) (fun c => ?_) (fun c => ?_)
  · replace hw := hw.1 c
    refine v_iconst (pc := 16) (v := 0) C dX7_knows_16 (by decide) ?_
    exact v_zret (pc := 17) C r (Or.inl rfl) hw dX7_knows_17
  · replace hw := hw.2 c
    refine v_iload_n (pc := 4) 1 C dX7_knows_4 rfl rfl ?_
    refine v_aload_n (pc := 5) 0 C dX7_knows_5 rfl rfl ?_
    refine g_7_1 (pc := 6) C k_161 dX7_knows_6 ?_
    refine v_icmp_ge (pc := 9) (tgt := 16) C dX7_knows_9 (by decide) (fun c => ?_) (fun c => ?_)
    · replace hw := hw.1 c
      refine v_iconst (pc := 16) (v := 0) C dX7_knows_16 (by decide) ?_
      exact v_zret (pc := 17) C r (Or.inl rfl) hw dX7_knows_17
    · replace hw := hw.2 c
      refine v_iconst (pc := 12) (v := 1) C dX7_knows_12 (by decide) ?_
      refine v_goto (pc := 13) (tgt := 17) C dX7_knows_13 (by decide) ?_
      exact v_zret (pc := 17) C r (Or.inr rfl) hw dX7_knows_17

theorem c_X7_isFull {l : Launch} {G : Gl} {σ : Mem} {P : Int32 → Mem → Prop} (hw : v_X7_isFull σ P) : MetI l yX7_isFull cX7_isFull 1 .boolean 0 G [.ref (gA G 5)] σ P := by
  refine MetI.of RX7 (by decide +kernel) rfl (Nat.le_of_ble_eq_true rfl) (fun X C r => ?_)
  show V X G 1 0 [(0, .ref (gA G 5))] [] σ
  unfold v_X7_isFull at hw
  refine v_aload_n (pc := 0) 0 C dX7_isFull_0 rfl rfl ?_
  refine g_7_1 (pc := 1) C k_161 dX7_isFull_1 ?_
  refine v_bipush (pc := 4) (v := 12) C dX7_isFull_4 (by decide) ?_
  refine v_icmp_lt (pc := 6) (tgt := 13) C dX7_isFull_6 (by decide) (fun c => ?_) (fun c => ?_)
  · replace hw := hw.1 c
    refine v_iconst (pc := 13) (v := 0) C dX7_isFull_13 (by decide) ?_
    exact v_zret (pc := 14) C r (Or.inl rfl) hw dX7_isFull_14
  · replace hw := hw.2 c
    refine v_iconst (pc := 9) (v := 1) C dX7_isFull_9 (by decide) ?_
    refine v_goto (pc := 10) (tgt := 14) C dX7_isFull_10 (by decide) ?_
    exact v_zret (pc := 14) C r (Or.inr rfl) hw dX7_isFull_14

theorem c_X7_isSet {l : Launch} {G : Gl} {a1 : Int32} {σ : Mem} {P : Int32 → Mem → Prop} (hw : v_X7_isSet a1 σ P) : MetI l yX7_isSet cX7_isSet 2 .boolean 0 G [.ref (gA G 5), .int a1] σ P := by
  refine MetI.of RX7 (by decide +kernel) rfl (Nat.le_of_ble_eq_true rfl) (fun X C r => ?_)
  show V X G 2 0 [(0, .ref (gA G 5)), (1, .int a1)] [] σ
  unfold v_X7_isSet at hw
  refine v_iload_n (pc := 0) 1 C dX7_isSet_0 rfl rfl ?_
  refine v_aload_n (pc := 1) 0 C dX7_isSet_1 rfl rfl ?_
  refine g_7_1 (pc := 2) C k_161 dX7_isSet_2 ?_
  refine v_iushr (pc := 5) C dX7_isSet_5 ?_
  refine v_if_ne (pc := 6) (tgt := 13) C dX7_isSet_6 (by decide) (fun c => ?_) (fun c => ?_)
  · replace hw := hw.2 c
    refine v_iconst (pc := 13) (v := 0) C dX7_isSet_13 (by decide) ?_
    exact v_zret (pc := 14) C r (Or.inl rfl) hw dX7_isSet_14
  · replace hw := hw.1 c
    refine v_iconst (pc := 9) (v := 1) C dX7_isSet_9 (by decide) ?_
    refine v_goto (pc := 10) (tgt := 14) C dX7_isSet_10 (by decide) ?_
    exact v_zret (pc := 14) C r (Or.inr rfl) hw dX7_isSet_14

theorem c_X7_add {l : Launch} {G : Gl} {a1 : Int32} {a2 : Int64} {σ : Mem} {P : Int32 → Mem → Prop} (hw : v_X7_add a1 a2 σ P) : MetI l yX7_add cX7_add 5 .int 0 G [.ref (gA G 5), .int a1, .long a2] σ P := by
  refine MetI.of RX7 (by decide +kernel) rfl (Nat.le_of_ble_eq_true rfl) (fun X C r => ?_)
  show V X G 5 0 [(0, .ref (gA G 5)), (1, .int a1), (2, .long a2)] [] σ
  unfold v_X7_add at hw
  refine v_aload_n (pc := 0) 0 C dX7_add_0 rfl rfl ?_
  refine g_7_1 (pc := 1) C k_161 dX7_add_1 ?_
  refine v_istore (pc := 4) C dX7_add_4 (by decide) rfl ?_
  refine v_aload_n (pc := 6) 1 C dX7_add_6 rfl rfl ?_
  refine v_dup (pc := 7) C dX7_add_7 rfl ?_
  refine g_7_1 (pc := 8) C k_161 dX7_add_8 ?_
  refine v_iconst (pc := 11) (v := 1) C dX7_add_11 (by decide) ?_
  refine v_iadd (pc := 12) C dX7_add_12 ?_
  refine p_7_1 (pc := 13) C k_161 dX7_add_13 ?_
  refine v_aload_n (pc := 16) 1 C dX7_add_16 rfl rfl ?_
  refine g_7_0 (pc := 17) C k_156 dX7_add_17 ?_
  refine v_iload (pc := 20) 0 C dX7_add_20 rfl ?_
  have q_1 := hw.1
  refine v_aldB (pc := 22) C rfl q_1 dX7_add_22 ?_
  replace hw := hw.2
  refine v_iload_n (pc := 23) 2 C dX7_add_23 rfl rfl ?_
  refine p_0_0 (pc := 24) (kd_bar (vp_lt q_1)) C k_134 dX7_add_24 ?_
  refine v_aload_n (pc := 27) 1 C dX7_add_27 rfl rfl ?_
  refine g_7_0 (pc := 28) C k_156 dX7_add_28 ?_
  refine v_iload (pc := 31) 0 C dX7_add_31 rfl ?_
  have q_2 := hw.1
  refine v_aldB (pc := 33) C rfl q_2 dX7_add_33 ?_
  replace hw := hw.2
  refine v_lload_n (pc := 34) 3 C dX7_add_34 rfl rfl ?_
  refine p_0_1 (pc := 35) (kd_bar (vp_lt q_2)) C k_137 dX7_add_35 ?_
  refine v_aload_n (pc := 38) 1 C dX7_add_38 rfl rfl ?_
  refine g_7_0 (pc := 39) C k_156 dX7_add_39 ?_
  refine v_iload (pc := 42) 0 C dX7_add_42 rfl ?_
  have q_3 := hw.1
  refine v_aldB (pc := 44) C rfl q_3 dX7_add_44 ?_
  replace hw := hw.2
  refine v_lconst (pc := 45) (v := 0) C dX7_add_45 rfl ?_
  refine p_0_2 (pc := 46) (kd_bar (vp_lt q_3)) C k_141 dX7_add_46 ?_
  refine v_aload_n (pc := 49) 1 C dX7_add_49 rfl rfl ?_
  refine g_7_0 (pc := 50) C k_156 dX7_add_50 ?_
  refine v_iload (pc := 53) 0 C dX7_add_53 rfl ?_
  have q_4 := hw.1
  refine v_aldB (pc := 55) C rfl q_4 dX7_add_55 ?_
  replace hw := hw.2
  refine v_iload (pc := 56) 0 C dX7_add_56 rfl ?_
  refine p_0_3 (pc := 58) (kd_bar (vp_lt q_4)) C k_145 dX7_add_58 ?_
  refine v_iload (pc := 61) 0 C dX7_add_61 rfl ?_
  exact v_iret (pc := 63) C r hw dX7_add_63

theorem c_X7_clear {l : Launch} {G : Gl} {σ : Mem} {P : Mem → Prop} (hw : v_X7_clear σ P) : MetV l yX7_clear cX7_clear 1 0 G [.ref (gA G 5)] σ P := by
  refine MetV.of RX7 (by decide +kernel) rfl (Nat.le_of_ble_eq_true rfl) (fun X C r => ?_)
  show V X G 1 0 [(0, .ref (gA G 5))] [] σ
  unfold v_X7_clear at hw
  refine v_aload_n (pc := 0) 0 C dX7_clear_0 rfl rfl ?_
  refine v_iconst (pc := 1) (v := 0) C dX7_clear_1 (by decide) ?_
  refine p_7_1 (pc := 2) C k_161 dX7_clear_2 ?_
  exact v_vret (pc := 5) C r hw dX7_clear_5

theorem w_X7_hushed_L5 {X : Cx} {G : Gl} {P : Int64 → Mem → Prop} {x1 : Int32} (C : Ck X G RX7 cX7_hushed 5 1) (r : RetJ X G P) : ∀ (n : Nat) (x2 : Int64) (x4 : Int32) (σ : Mem), v_X7_hushed_L5 x1 P n x2 x4 σ → V X G 5 5 [(0, .ref (gA G 5)), (1, .int x1), (2, .long x2), (4, .int x4)] [] σ := by
  intro n
  induction n with
  | zero => intro x2 x4 σ hw; exact hw.elim
  | succ n ih =>
    intro x2 x4 σ hw
    refine v_iload (pc := 5) 3 C dX7_hushed_5 rfl ?_
    refine v_aload_n (pc := 7) 0 C dX7_hushed_7 rfl rfl ?_
    refine g_7_1 (pc := 8) C k_161 dX7_hushed_8 ?_
    refine v_icmp_ge (pc := 11) (tgt := 43) C dX7_hushed_11 (by decide) (fun c => ?_) (fun c => ?_)
    · replace hw := hw.1 c
      refine v_lload_n (pc := 43) 2 C dX7_hushed_43 rfl rfl ?_
      exact v_lret (pc := 44) C r hw dX7_hushed_44
    · replace hw := hw.2 c
      refine v_iload_n (pc := 14) 1 C dX7_hushed_14 rfl rfl ?_
      refine v_i2l (pc := 15) C dX7_hushed_15 ?_
      refine v_iload (pc := 16) 3 C dX7_hushed_16 rfl ?_
      refine v_callSi (pc := 18) (As := [.long (Int32.toInt64 x1), .int x4]) (rest := []) C (c_X11_hasBit hw) pk_X11_hasBit (Or.inr (by decide +kernel)) (by decide) rfl rfl (Nat.le_of_ble_eq_true rfl) dX7_hushed_18 (fun r_1 σ_2 hw => ?_)
      refine v_if_eq (pc := 21) (tgt := 37) C dX7_hushed_21 (by decide) (fun c => ?_) (fun c => ?_)
      · replace hw := hw.1 c
        refine v_iinc (pc := 37) (v := x4 + 1) 3 C dX7_hushed_37 rfl rfl (by decide) rfl ?_
        refine v_goto (pc := 40) (tgt := 5) C dX7_hushed_40 (by decide) ?_
        refine v_sub [1, 2, 3, 0] rfl ?_
        exact ih _ _ _ hw
      · replace hw := hw.2 c
        refine v_lload_n (pc := 24) 2 C dX7_hushed_24 rfl rfl ?_
        refine v_aload_n (pc := 25) 0 C dX7_hushed_25 rfl rfl ?_
        refine g_7_0 (pc := 26) C k_156 dX7_hushed_26 ?_
        refine v_iload (pc := 29) 3 C dX7_hushed_29 rfl ?_
        have q_3 := hw.1
        refine v_aldB (pc := 31) C rfl q_3 dX7_hushed_31 ?_
        replace hw := hw.2
        refine v_cVl (pc := 32) (o := bB + Int32.toNatClampNeg x4) (As := []) (rest := [.long x2]) (ci := 0) C (c_X0_wholeOnes (kd_bar (vp_lt q_3)) hw) pk_X0_wholeOnes k_497 (kd_bar (vp_lt q_3)) (by decide) rfl (by decide) rfl rfl (Nat.le_of_ble_eq_true rfl) dX7_hushed_32 (fun r_4 σ_5 hw => ?_)
        refine v_lor (pc := 35) C dX7_hushed_35 ?_
        refine v_lstore_n (pc := 36) C dX7_hushed_36 rfl (by decide) rfl ?_
        refine v_iinc (pc := 37) (v := x4 + 1) 3 C dX7_hushed_37 rfl rfl (by decide) rfl ?_
        refine v_goto (pc := 40) (tgt := 5) C dX7_hushed_40 (by decide) ?_
        refine v_sub [2, 3, 1, 0] rfl ?_
        exact ih _ _ _ hw

theorem c_X7_hushed {l : Launch} {G : Gl} {a1 : Int32} {σ : Mem} {P : Int64 → Mem → Prop} (hw : v_X7_hushed a1 σ P) : MetJ l yX7_hushed cX7_hushed 5 1 G [.ref (gA G 5), .int a1] σ P := by
  refine MetJ.of RX7 (by decide +kernel) rfl (Nat.le_of_ble_eq_true rfl) (fun X C r => ?_)
  show V X G 5 0 [(0, .ref (gA G 5)), (1, .int a1)] [] σ
  unfold v_X7_hushed at hw
  refine v_lconst (pc := 0) (v := 0) C dX7_hushed_0 rfl ?_
  refine v_lstore_n (pc := 1) C dX7_hushed_1 rfl (by decide) rfl ?_
  refine v_iconst (pc := 2) (v := 0) C dX7_hushed_2 (by decide) ?_
  refine v_istore (pc := 3) C dX7_hushed_3 (by decide) rfl ?_
  refine v_sub [2, 3, 1, 0] rfl ?_
  refine w_X7_hushed_L5 C r 5000 _ _ _ hw

theorem w_X7_wholeFeltsOn_L4 {X : Cx} {G : Gl} {P : Int32 → Mem → Prop} {x1 : Int32} (C : Ck X G RX7 cX7_wholeFeltsOn 4 1) (r : RetI X G .int P) : ∀ (n : Nat) (x2 : Int32) (x3 : Int32) (σ : Mem), v_X7_wholeFeltsOn_L4 x1 P n x2 x3 σ → V X G 4 4 [(0, .ref (gA G 5)), (1, .int x1), (2, .int x2), (3, .int x3)] [] σ := by
  intro n
  induction n with
  | zero => intro x2 x3 σ hw; exact hw.elim
  | succ n ih =>
    intro x2 x3 σ hw
    refine v_iload_n (pc := 4) 3 C dX7_wholeFeltsOn_4 rfl rfl ?_
    refine v_aload_n (pc := 5) 0 C dX7_wholeFeltsOn_5 rfl rfl ?_
    refine g_7_1 (pc := 6) C k_161 dX7_wholeFeltsOn_6 ?_
    refine v_icmp_ge (pc := 9) (tgt := 37) C dX7_wholeFeltsOn_9 (by decide) (fun c => ?_) (fun c => ?_)
    · replace hw := hw.1 c
      refine v_iload_n (pc := 37) 2 C dX7_wholeFeltsOn_37 rfl rfl ?_
      exact v_iret (pc := 38) C r hw dX7_wholeFeltsOn_38
    · replace hw := hw.2 c
      refine v_aload_n (pc := 12) 0 C dX7_wholeFeltsOn_12 rfl rfl ?_
      refine g_7_0 (pc := 13) C k_156 dX7_wholeFeltsOn_13 ?_
      refine v_iload_n (pc := 16) 3 C dX7_wholeFeltsOn_16 rfl rfl ?_
      have q_1 := hw.1
      refine v_aldB (pc := 17) C rfl q_1 dX7_wholeFeltsOn_17 ?_
      replace hw := hw.2
      refine v_cVl (pc := 18) (o := bB + Int32.toNatClampNeg x3) (As := []) (rest := []) (ci := 0) C (c_X0_wholeOnes (kd_bar (vp_lt q_1)) hw) pk_X0_wholeOnes k_497 (kd_bar (vp_lt q_1)) (by decide) rfl (by decide) rfl rfl (Nat.le_of_ble_eq_true rfl) dX7_wholeFeltsOn_18 (fun r_2 σ_3 hw => ?_)
      refine v_iload_n (pc := 21) 1 C dX7_wholeFeltsOn_21 rfl rfl ?_
      refine v_callSi (pc := 22) (As := [.long r_2, .int x1]) (rest := []) C (c_X11_hasBit hw) pk_X11_hasBit (Or.inr (by decide +kernel)) (by decide) rfl rfl (Nat.le_of_ble_eq_true rfl) dX7_wholeFeltsOn_22 (fun r_4 σ_5 hw => ?_)
      refine v_if_eq (pc := 25) (tgt := 31) C dX7_wholeFeltsOn_25 (by decide) (fun c => ?_) (fun c => ?_)
      · replace hw := hw.1 c
        refine v_iinc (pc := 31) (v := x3 + 1) 3 C dX7_wholeFeltsOn_31 rfl rfl (by decide) rfl ?_
        refine v_goto (pc := 34) (tgt := 4) C dX7_wholeFeltsOn_34 (by decide) ?_
        refine v_sub [1, 2, 3, 0] rfl ?_
        exact ih _ _ _ hw
      · replace hw := hw.2 c
        refine v_iinc (pc := 28) (v := x2 + 1) 2 C dX7_wholeFeltsOn_28 rfl rfl (by decide) rfl ?_
        refine v_iinc (pc := 31) (v := x3 + 1) 3 C dX7_wholeFeltsOn_31 rfl rfl (by decide) rfl ?_
        refine v_goto (pc := 34) (tgt := 4) C dX7_wholeFeltsOn_34 (by decide) ?_
        refine v_sub [2, 3, 1, 0] rfl ?_
        exact ih _ _ _ hw

theorem c_X7_wholeFeltsOn {l : Launch} {G : Gl} {a1 : Int32} {σ : Mem} {P : Int32 → Mem → Prop} (hw : v_X7_wholeFeltsOn a1 σ P) : MetI l yX7_wholeFeltsOn cX7_wholeFeltsOn 4 .int 1 G [.ref (gA G 5), .int a1] σ P := by
  refine MetI.of RX7 (by decide +kernel) rfl (Nat.le_of_ble_eq_true rfl) (fun X C r => ?_)
  show V X G 4 0 [(0, .ref (gA G 5)), (1, .int a1)] [] σ
  unfold v_X7_wholeFeltsOn at hw
  refine v_iconst (pc := 0) (v := 0) C dX7_wholeFeltsOn_0 (by decide) ?_
  refine v_istore_n (pc := 1) C dX7_wholeFeltsOn_1 rfl (by decide) rfl ?_
  refine v_iconst (pc := 2) (v := 0) C dX7_wholeFeltsOn_2 (by decide) ?_
  refine v_istore_n (pc := 3) C dX7_wholeFeltsOn_3 rfl (by decide) rfl ?_
  refine v_sub [2, 3, 1, 0] rfl ?_
  refine w_X7_wholeFeltsOn_L4 C r 5000 _ _ _ hw

theorem c_X8_isNothing {l : Launch} {G : Gl} {o0 : Nat} {σ : Mem} {P : Int32 → Mem → Prop} (h0 : kd o0 = (8, 0)) (hw : v_X8_isNothing o0 σ P) : MetI l yX8_isNothing cX8_isNothing 1 .boolean 0 G [.ref (gA G o0)] σ P := by
  refine MetI.of RX8 (by decide +kernel) rfl (Nat.le_of_ble_eq_true rfl) (fun X C r => ?_)
  show V X G 1 0 [(0, .ref (gA G o0))] [] σ
  unfold v_X8_isNothing at hw
  refine v_aload_n (pc := 0) 0 C dX8_isNothing_0 rfl rfl ?_
  refine g_8_1 (pc := 1) h0 C k_341 dX8_isNothing_1 ?_
  refine v_iconst (pc := 4) (v := (-1)) C dX8_isNothing_4 (by decide) ?_
  refine v_icmp_ne (pc := 5) (tgt := 12) C dX8_isNothing_5 (by decide) (fun c => ?_) (fun c => ?_)
  · replace hw := hw.2 c
    refine v_iconst (pc := 12) (v := 0) C dX8_isNothing_12 (by decide) ?_
    exact v_zret (pc := 13) C r (Or.inl rfl) hw dX8_isNothing_13
  · replace hw := hw.1 c
    refine v_iconst (pc := 8) (v := 1) C dX8_isNothing_8 (by decide) ?_
    refine v_goto (pc := 9) (tgt := 13) C dX8_isNothing_9 (by decide) ?_
    exact v_zret (pc := 13) C r (Or.inr rfl) hw dX8_isNothing_13

theorem c_X8_begin {l : Launch} {G : Gl} {o0 : Nat} {a1 : Int32} {a2 : Int32} {σ : Mem} {P : Mem → Prop} (h0 : kd o0 = (8, 0)) (hw : v_X8_begin o0 a1 a2 σ P) : MetV l yX8_begin cX8_begin 3 1 G [.ref (gA G o0), .int a1, .int a2] σ P := by
  refine MetV.of RX8 (by decide +kernel) rfl (Nat.le_of_ble_eq_true rfl) (fun X C r => ?_)
  show V X G 3 0 [(0, .ref (gA G o0)), (1, .int a1), (2, .int a2)] [] σ
  unfold v_X8_begin at hw
  refine v_aload_n (pc := 0) 0 C dX8_begin_0 rfl rfl ?_
  refine v_iload_n (pc := 1) 1 C dX8_begin_1 rfl rfl ?_
  refine p_8_1 (pc := 2) h0 C k_341 dX8_begin_2 ?_
  refine v_aload_n (pc := 5) 0 C dX8_begin_5 rfl rfl ?_
  refine v_iload_n (pc := 6) 2 C dX8_begin_6 rfl rfl ?_
  refine p_8_2 (pc := 7) h0 C k_342 dX8_begin_7 ?_
  refine v_aload_n (pc := 10) 0 C dX8_begin_10 rfl rfl ?_
  refine g_8_0 (pc := 11) h0 C k_338 dX8_begin_11 ?_
  refine v_iconst (pc := 14) (v := 0) C dX8_begin_14 (by decide) ?_
  refine v_callSv (pc := 15) (As := [.ref (gA G (o0 + 4)), .int 0]) (rest := []) C (c_J7_fill_53178 (kd_self (kds_8 _ (kd_lt h0 (by decide)) h0)) hw) pk_J7_fill_53178 (Or.inl k_1041) (by decide) rfl rfl (Nat.le_of_ble_eq_true rfl) dX8_begin_15 (fun σ_1 hw => ?_)
  exact v_vret (pc := 18) C r hw dX8_begin_18

theorem c_X8_drop {l : Launch} {G : Gl} {o0 : Nat} {σ : Mem} {P : Int32 → Mem → Prop} (h0 : kd o0 = (8, 0)) (hw : v_X8_drop o0 σ P) : MetI l yX8_drop cX8_drop 2 .boolean 1 G [.ref (gA G o0)] σ P := by
  refine MetI.of RX8 (by decide +kernel) rfl (Nat.le_of_ble_eq_true rfl) (fun X C r => ?_)
  show V X G 2 0 [(0, .ref (gA G o0))] [] σ
  unfold v_X8_drop at hw
  refine v_aload_n (pc := 0) 0 C dX8_drop_0 rfl rfl ?_
  refine v_cVi (pc := 1) (o := o0) (As := []) (rest := []) (ci := 8) C (c_X8_isNothing h0 hw) pk_X8_isNothing k_646 h0 (by decide) rfl (by decide) rfl rfl (Nat.le_of_ble_eq_true rfl) dX8_drop_1 (fun r_1 σ_2 hw => ?_)
  refine v_if_ne (pc := 4) (tgt := 11) C dX8_drop_4 (by decide) (fun c => ?_) (fun c => ?_)
  · replace hw := hw.2 c
    refine v_iconst (pc := 11) (v := 0) C dX8_drop_11 (by decide) ?_
    refine v_istore_n (pc := 12) C dX8_drop_12 rfl (by decide) rfl ?_
    refine v_aload_n (pc := 13) 1 C dX8_drop_13 rfl rfl ?_
    refine v_iconst (pc := 14) (v := (-1)) C dX8_drop_14 (by decide) ?_
    refine p_8_1 (pc := 15) h0 C k_341 dX8_drop_15 ?_
    refine v_aload_n (pc := 18) 1 C dX8_drop_18 rfl rfl ?_
    refine v_iconst (pc := 19) (v := 0) C dX8_drop_19 (by decide) ?_
    refine p_8_2 (pc := 20) h0 C k_342 dX8_drop_20 ?_
    refine v_iload_n (pc := 23) 0 C dX8_drop_23 rfl rfl ?_
    exact v_zret (pc := 24) C r (Or.inl rfl) hw dX8_drop_24
  · replace hw := hw.1 c
    refine v_iconst (pc := 7) (v := 1) C dX8_drop_7 (by decide) ?_
    refine v_goto (pc := 8) (tgt := 12) C dX8_drop_8 (by decide) ?_
    refine v_istore_n (pc := 12) C dX8_drop_12 rfl (by decide) rfl ?_
    refine v_aload_n (pc := 13) 1 C dX8_drop_13 rfl rfl ?_
    refine v_iconst (pc := 14) (v := (-1)) C dX8_drop_14 (by decide) ?_
    refine p_8_1 (pc := 15) h0 C k_341 dX8_drop_15 ?_
    refine v_aload_n (pc := 18) 1 C dX8_drop_18 rfl rfl ?_
    refine v_iconst (pc := 19) (v := 0) C dX8_drop_19 (by decide) ?_
    refine p_8_2 (pc := 20) h0 C k_342 dX8_drop_20 ?_
    refine v_iload_n (pc := 23) 0 C dX8_drop_23 rfl rfl ?_
    exact v_zret (pc := 24) C r (Or.inr rfl) hw dX8_drop_24

theorem c_X8_faultAs {l : Launch} {G : Gl} {o0 : Nat} {a1 : Int32} {σ : Mem} {P : Int32 → Mem → Prop} (h0 : kd o0 = (8, 0)) (hw : v_X8_faultAs o0 a1 σ P) : MetI l yX8_faultAs cX8_faultAs 2 .int 1 G [.ref (gA G o0), .int a1] σ P := by
  refine MetI.of RX8 (by decide +kernel) rfl (Nat.le_of_ble_eq_true rfl) (fun X C r => ?_)
  show V X G 2 0 [(0, .ref (gA G o0)), (1, .int a1)] [] σ
  unfold v_X8_faultAs at hw
  refine v_aload_n (pc := 0) 0 C dX8_faultAs_0 rfl rfl ?_
  refine v_cVi (pc := 1) (o := o0) (As := []) (rest := []) (ci := 8) C (c_X8_isNothing h0 hw) pk_X8_isNothing k_646 h0 (by decide) rfl (by decide) rfl rfl (Nat.le_of_ble_eq_true rfl) dX8_faultAs_1 (fun r_1 σ_2 hw => ?_)
  refine v_if_eq (pc := 4) (tgt := 9) C dX8_faultAs_4 (by decide) (fun c => ?_) (fun c => ?_)
  · replace hw := hw.1 c
    refine v_aload_n (pc := 9) 0 C dX8_faultAs_9 rfl rfl ?_
    refine g_8_1 (pc := 10) h0 C k_341 dX8_faultAs_10 ?_
    refine v_iload_n (pc := 13) 1 C dX8_faultAs_13 rfl rfl ?_
    refine v_icmp_ne (pc := 14) (tgt := 21) C dX8_faultAs_14 (by decide) (fun c => ?_) (fun c => ?_)
    · replace hw := hw.2 c
      refine v_iconst (pc := 21) (v := 2) C dX8_faultAs_21 (by decide) ?_
      exact v_iret (pc := 22) C r hw dX8_faultAs_22
    · replace hw := hw.1 c
      refine v_iconst (pc := 17) (v := 0) C dX8_faultAs_17 (by decide) ?_
      refine v_goto (pc := 18) (tgt := 22) C dX8_faultAs_18 (by decide) ?_
      exact v_iret (pc := 22) C r hw dX8_faultAs_22
  · replace hw := hw.2 c
    refine v_iconst (pc := 7) (v := 1) C dX8_faultAs_7 (by decide) ?_
    exact v_iret (pc := 8) C r hw dX8_faultAs_8

theorem c_X8_hasCell {l : Launch} {G : Gl} {o0 : Nat} {a1 : Int32} {σ : Mem} {P : Int32 → Mem → Prop} (h0 : kd o0 = (8, 0)) (hw : v_X8_hasCell o0 a1 σ P) : MetI l yX8_hasCell cX8_hasCell 2 .boolean 0 G [.ref (gA G o0), .int a1] σ P := by
  refine MetI.of RX8 (by decide +kernel) rfl (Nat.le_of_ble_eq_true rfl) (fun X C r => ?_)
  show V X G 2 0 [(0, .ref (gA G o0)), (1, .int a1)] [] σ
  unfold v_X8_hasCell at hw
  refine v_iload_n (pc := 0) 1 C dX8_hasCell_0 rfl rfl ?_
  refine v_if_lt (pc := 1) (tgt := 16) C dX8_hasCell_1 (by decide) (fun c => ?_) (fun c => ?_)
  · replace hw := hw.1 c
    refine v_iconst (pc := 16) (v := 0) C dX8_hasCell_16 (by decide) ?_
    exact v_zret (pc := 17) C r (Or.inl rfl) hw dX8_hasCell_17
  · replace hw := hw.2 c
    refine v_iload_n (pc := 4) 1 C dX8_hasCell_4 rfl rfl ?_
    refine v_aload_n (pc := 5) 0 C dX8_hasCell_5 rfl rfl ?_
    refine g_8_2 (pc := 6) h0 C k_342 dX8_hasCell_6 ?_
    refine v_icmp_ge (pc := 9) (tgt := 16) C dX8_hasCell_9 (by decide) (fun c => ?_) (fun c => ?_)
    · replace hw := hw.1 c
      refine v_iconst (pc := 16) (v := 0) C dX8_hasCell_16 (by decide) ?_
      exact v_zret (pc := 17) C r (Or.inl rfl) hw dX8_hasCell_17
    · replace hw := hw.2 c
      refine v_iconst (pc := 12) (v := 1) C dX8_hasCell_12 (by decide) ?_
      refine v_goto (pc := 13) (tgt := 17) C dX8_hasCell_13 (by decide) ?_
      exact v_zret (pc := 17) C r (Or.inr rfl) hw dX8_hasCell_17

theorem c_X8_hasCells {l : Launch} {G : Gl} {o0 : Nat} {a1 : Int32} {a2 : Int64} {σ : Mem} {P : Int32 → Mem → Prop} (h0 : kd o0 = (8, 0)) (hw : v_X8_hasCells o0 a1 a2 σ P) : MetI l yX8_hasCells cX8_hasCells 4 .boolean 0 G [.ref (gA G o0), .int a1, .long a2] σ P := by
  refine MetI.of RX8 (by decide +kernel) rfl (Nat.le_of_ble_eq_true rfl) (fun X C r => ?_)
  show V X G 4 0 [(0, .ref (gA G o0)), (1, .int a1), (2, .long a2)] [] σ
  unfold v_X8_hasCells at hw
  refine v_iload_n (pc := 0) 1 C dX8_hasCells_0 rfl rfl ?_
  refine v_if_lt (pc := 1) (tgt := 28) C dX8_hasCells_1 (by decide) (fun c => ?_) (fun c => ?_)
  · replace hw := hw.1 c
    refine v_iconst (pc := 28) (v := 0) C dX8_hasCells_28 (by decide) ?_
    exact v_zret (pc := 29) C r (Or.inl rfl) hw dX8_hasCells_29
  · replace hw := hw.2 c
    refine v_iload_n (pc := 4) 1 C dX8_hasCells_4 rfl rfl ?_
    refine v_aload_n (pc := 5) 0 C dX8_hasCells_5 rfl rfl ?_
    refine g_8_2 (pc := 6) h0 C k_342 dX8_hasCells_6 ?_
    refine v_icmp_gt (pc := 9) (tgt := 28) C dX8_hasCells_9 (by decide) (fun c => ?_) (fun c => ?_)
    · replace hw := hw.1 c
      refine v_iconst (pc := 28) (v := 0) C dX8_hasCells_28 (by decide) ?_
      exact v_zret (pc := 29) C r (Or.inl rfl) hw dX8_hasCells_29
    · replace hw := hw.2 c
      refine v_lload_n (pc := 12) 2 C dX8_hasCells_12 rfl rfl ?_
      refine v_aload_n (pc := 13) 0 C dX8_hasCells_13 rfl rfl ?_
      refine g_8_2 (pc := 14) h0 C k_342 dX8_hasCells_14 ?_
      refine v_iload_n (pc := 17) 1 C dX8_hasCells_17 rfl rfl ?_
      refine v_isub (pc := 18) C dX8_hasCells_18 ?_
      refine v_i2l (pc := 19) C dX8_hasCells_19 ?_
      refine v_lcmp_gt (pc := 20) (tgt := 28) C dX8_hasCells_20 dX8_hasCells_21 (by decide) (fun c => ?_) (fun c => ?_)
      · replace hw := hw.1 c
        refine v_iconst (pc := 28) (v := 0) C dX8_hasCells_28 (by decide) ?_
        exact v_zret (pc := 29) C r (Or.inl rfl) hw dX8_hasCells_29
      · replace hw := hw.2 c
        refine v_iconst (pc := 24) (v := 1) C dX8_hasCells_24 (by decide) ?_
        refine v_goto (pc := 25) (tgt := 29) C dX8_hasCells_25 (by decide) ?_
        exact v_zret (pc := 29) C r (Or.inr rfl) hw dX8_hasCells_29

theorem c_X8_write {l : Launch} {G : Gl} {o0 : Nat} {a1 : Int32} {a2 : Int32} {σ : Mem} {P : Mem → Prop} (h0 : kd o0 = (8, 0)) (hw : v_X8_write o0 a1 a2 σ P) : MetV l yX8_write cX8_write 3 0 G [.ref (gA G o0), .int a1, .int a2] σ P := by
  refine MetV.of RX8 (by decide +kernel) rfl (Nat.le_of_ble_eq_true rfl) (fun X C r => ?_)
  show V X G 3 0 [(0, .ref (gA G o0)), (1, .int a1), (2, .int a2)] [] σ
  unfold v_X8_write at hw
  refine v_aload_n (pc := 0) 0 C dX8_write_0 rfl rfl ?_
  refine g_8_1 (pc := 1) h0 C k_341 dX8_write_1 ?_
  refine v_if_ne (pc := 4) (tgt := 18) C dX8_write_4 (by decide) (fun c => ?_) (fun c => ?_)
  · replace hw := hw.2 c
    refine v_aload_n (pc := 18) 0 C dX8_write_18 rfl rfl ?_
    refine g_8_1 (pc := 19) h0 C k_341 dX8_write_19 ?_
    refine v_iconst (pc := 22) (v := 1) C dX8_write_22 (by decide) ?_
    refine v_icmp_ne (pc := 23) (tgt := 37) C dX8_write_23 (by decide) (fun c => ?_) (fun c => ?_)
    · replace hw := hw.2 c
      refine v_aload_n (pc := 37) 0 C dX8_write_37 rfl rfl ?_
      refine g_8_0 (pc := 38) h0 C k_338 dX8_write_38 ?_
      refine v_iload_n (pc := 41) 1 C dX8_write_41 rfl rfl ?_
      refine v_iload_n (pc := 42) 2 C dX8_write_42 rfl rfl ?_
      refine v_iast (pc := 43) C (kds_8 _ (kd_lt h0 (by decide)) h0) hw.1 dX8_write_43 ?_
      replace hw := hw.2
      exact v_vret (pc := 44) C r hw dX8_write_44
    · replace hw := hw.1 c
      refine v_aload_n (pc := 26) 0 C dX8_write_26 rfl rfl ?_
      refine g_8_0 (pc := 27) h0 C k_338 dX8_write_27 ?_
      refine v_iload_n (pc := 30) 1 C dX8_write_30 rfl rfl ?_
      refine v_iload_n (pc := 31) 2 C dX8_write_31 rfl rfl ?_
      refine v_i2s (pc := 32) C dX8_write_32 ?_
      refine v_iast (pc := 33) C (kds_8 _ (kd_lt h0 (by decide)) h0) hw.1 dX8_write_33 ?_
      replace hw := hw.2
      refine v_goto (pc := 34) (tgt := 44) C dX8_write_34 (by decide) ?_
      exact v_vret (pc := 44) C r hw dX8_write_44
  · replace hw := hw.1 c
    refine v_aload_n (pc := 7) 0 C dX8_write_7 rfl rfl ?_
    refine g_8_0 (pc := 8) h0 C k_338 dX8_write_8 ?_
    refine v_iload_n (pc := 11) 1 C dX8_write_11 rfl rfl ?_
    refine v_iload_n (pc := 12) 2 C dX8_write_12 rfl rfl ?_
    refine v_i2b (pc := 13) C dX8_write_13 ?_
    refine v_iast (pc := 14) C (kds_8 _ (kd_lt h0 (by decide)) h0) hw.1 dX8_write_14 ?_
    replace hw := hw.2
    refine v_goto (pc := 15) (tgt := 44) C dX8_write_15 (by decide) ?_
    exact v_vret (pc := 44) C r hw dX8_write_44

theorem c_X10_knows {l : Launch} {G : Gl} {a1 : Int32} {σ : Mem} {P : Int32 → Mem → Prop} (hw : v_X10_knows a1 σ P) : MetI l yX10_knows cX10_knows 2 .boolean 0 G [.ref (gA G 1), .int a1] σ P := by
  refine MetI.of RX10 (by decide +kernel) rfl (Nat.le_of_ble_eq_true rfl) (fun X C r => ?_)
  show V X G 2 0 [(0, .ref (gA G 1)), (1, .int a1)] [] σ
  unfold v_X10_knows at hw
  refine v_iload_n (pc := 0) 1 C dX10_knows_0 rfl rfl ?_
  refine v_if_lt (pc := 1) (tgt := 16) C dX10_knows_1 (by decide) (fun c => ?_) (fun c => ?_)
  · replace hw := hw.1 c
    refine v_iconst (pc := 16) (v := 0) C dX10_knows_16 (by decide) ?_
    exact v_zret (pc := 17) C r (Or.inl rfl) hw dX10_knows_17
  · replace hw := hw.2 c
    refine v_iload_n (pc := 4) 1 C dX10_knows_4 rfl rfl ?_
    refine v_aload_n (pc := 5) 0 C dX10_knows_5 rfl rfl ?_
    refine g_10_4 (pc := 6) C k_105 dX10_knows_6 ?_
    refine v_icmp_ge (pc := 9) (tgt := 16) C dX10_knows_9 (by decide) (fun c => ?_) (fun c => ?_)
    · replace hw := hw.1 c
      refine v_iconst (pc := 16) (v := 0) C dX10_knows_16 (by decide) ?_
      exact v_zret (pc := 17) C r (Or.inl rfl) hw dX10_knows_17
    · replace hw := hw.2 c
      refine v_iconst (pc := 12) (v := 1) C dX10_knows_12 (by decide) ?_
      refine v_goto (pc := 13) (tgt := 17) C dX10_knows_13 (by decide) ?_
      exact v_zret (pc := 17) C r (Or.inr rfl) hw dX10_knows_17

theorem c_X10_isFull {l : Launch} {G : Gl} {σ : Mem} {P : Int32 → Mem → Prop} (hw : v_X10_isFull σ P) : MetI l yX10_isFull cX10_isFull 1 .boolean 0 G [.ref (gA G 1)] σ P := by
  refine MetI.of RX10 (by decide +kernel) rfl (Nat.le_of_ble_eq_true rfl) (fun X C r => ?_)
  show V X G 1 0 [(0, .ref (gA G 1))] [] σ
  unfold v_X10_isFull at hw
  refine v_aload_n (pc := 0) 0 C dX10_isFull_0 rfl rfl ?_
  refine g_10_4 (pc := 1) C k_105 dX10_isFull_1 ?_
  refine v_bipush (pc := 4) (v := 36) C dX10_isFull_4 (by decide) ?_
  refine v_icmp_lt (pc := 6) (tgt := 13) C dX10_isFull_6 (by decide) (fun c => ?_) (fun c => ?_)
  · replace hw := hw.1 c
    refine v_iconst (pc := 13) (v := 0) C dX10_isFull_13 (by decide) ?_
    exact v_zret (pc := 14) C r (Or.inl rfl) hw dX10_isFull_14
  · replace hw := hw.2 c
    refine v_iconst (pc := 9) (v := 1) C dX10_isFull_9 (by decide) ?_
    refine v_goto (pc := 10) (tgt := 14) C dX10_isFull_10 (by decide) ?_
    exact v_zret (pc := 14) C r (Or.inr rfl) hw dX10_isFull_14

theorem c_X10_isFree {l : Launch} {G : Gl} {a1 : Int32} {σ : Mem} {P : Int32 → Mem → Prop} (hw : v_X10_isFree a1 σ P) : MetI l yX10_isFree cX10_isFree 2 .boolean 1 G [.ref (gA G 1), .int a1] σ P := by
  refine MetI.of RX10 (by decide +kernel) rfl (Nat.le_of_ble_eq_true rfl) (fun X C r => ?_)
  show V X G 2 0 [(0, .ref (gA G 1)), (1, .int a1)] [] σ
  unfold v_X10_isFree at hw
  refine v_aload_n (pc := 0) 0 C dX10_isFree_0 rfl rfl ?_
  refine g_10_3 (pc := 1) C k_103 dX10_isFree_1 ?_
  refine v_iload_n (pc := 4) 1 C dX10_isFree_4 rfl rfl ?_
  refine v_callSi (pc := 5) (As := [.long (σ.2 1 3), .int a1]) (rest := []) C (c_X11_hasBit hw) pk_X11_hasBit (Or.inr (by decide +kernel)) (by decide) rfl rfl (Nat.le_of_ble_eq_true rfl) dX10_isFree_5 (fun r_1 σ_2 hw => ?_)
  exact v_zret (pc := 8) C r hw.1 hw.2 dX10_isFree_8

theorem c_X10_all {l : Launch} {G : Gl} {σ : Mem} {P : Int64 → Mem → Prop} (hw : v_X10_all σ P) : MetJ l yX10_all cX10_all 1 0 G [.ref (gA G 1)] σ P := by
  refine MetJ.of RX10 (by decide +kernel) rfl (Nat.le_of_ble_eq_true rfl) (fun X C r => ?_)
  show V X G 1 0 [(0, .ref (gA G 1))] [] σ
  unfold v_X10_all at hw
  refine v_lconst (pc := 0) (v := 1) C dX10_all_0 rfl ?_
  refine v_aload_n (pc := 1) 0 C dX10_all_1 rfl rfl ?_
  refine g_10_4 (pc := 2) C k_105 dX10_all_2 ?_
  refine v_lshl (pc := 5) C dX10_all_5 ?_
  refine v_lconst (pc := 6) (v := 1) C dX10_all_6 rfl ?_
  refine v_lsub (pc := 7) C dX10_all_7 ?_
  exact v_lret (pc := 8) C r hw dX10_all_8

theorem c_X10_turnBits {l : Launch} {G : Gl} {a1 : Int32} {σ : Mem} {P : Mem → Prop} (hw : v_X10_turnBits a1 σ P) : MetV l yX10_turnBits cX10_turnBits 2 2 G [.ref (gA G 1), .int a1] σ P := by
  refine MetV.of RX10 (by decide +kernel) rfl (Nat.le_of_ble_eq_true rfl) (fun X C r => ?_)
  show V X G 2 0 [(0, .ref (gA G 1)), (1, .int a1)] [] σ
  unfold v_X10_turnBits at hw
  refine v_aload_n (pc := 0) 0 C dX10_turnBits_0 rfl rfl ?_
  refine g_10_2 (pc := 1) C k_101 dX10_turnBits_1 ?_
  refine v_aload_n (pc := 4) 0 C dX10_turnBits_4 rfl rfl ?_
  refine g_10_0 (pc := 5) C k_98 dX10_turnBits_5 ?_
  refine v_iload_n (pc := 8) 1 C dX10_turnBits_8 rfl rfl ?_
  refine v_iald (pc := 9) C rfl hw.1 dX10_turnBits_9 ?_
  replace hw := hw.2
  refine v_dup2 (pc := 10) C dX10_turnBits_10 rfl rfl ?_
  refine v_lald (pc := 11) C rfl hw.1 dX10_turnBits_11 ?_
  replace hw := hw.2
  refine v_lconst (pc := 12) (v := 1) C dX10_turnBits_12 rfl ?_
  refine v_iload_n (pc := 13) 1 C dX10_turnBits_13 rfl rfl ?_
  refine v_lshl (pc := 14) C dX10_turnBits_14 ?_
  refine v_lxor (pc := 15) C dX10_turnBits_15 ?_
  refine v_last (pc := 16) C rfl hw.1 dX10_turnBits_16 ?_
  replace hw := hw.2
  refine v_aload_n (pc := 17) 0 C dX10_turnBits_17 rfl rfl ?_
  refine v_iload_n (pc := 18) 1 C dX10_turnBits_18 rfl rfl ?_
  refine v_cVi (pc := 19) (o := 1) (As := [.int a1]) (rest := []) (ci := 10) C (c_X10_isFree hw) pk_X10_isFree k_403 rfl (by decide) rfl (by decide) rfl rfl (Nat.le_of_ble_eq_true rfl) dX10_turnBits_19 (fun r_1 σ_2 hw => ?_)
  refine v_if_ne (pc := 22) (tgt := 45) C dX10_turnBits_22 (by decide) (fun c => ?_) (fun c => ?_)
  · replace hw := hw.2 c
    exact v_vret (pc := 45) C r hw dX10_turnBits_45
  · replace hw := hw.1 c
    refine v_aload_n (pc := 25) 0 C dX10_turnBits_25 rfl rfl ?_
    refine g_10_1 (pc := 26) C k_100 dX10_turnBits_26 ?_
    refine v_aload_n (pc := 29) 0 C dX10_turnBits_29 rfl rfl ?_
    refine g_10_0 (pc := 30) C k_98 dX10_turnBits_30 ?_
    refine v_iload_n (pc := 33) 1 C dX10_turnBits_33 rfl rfl ?_
    refine v_iald (pc := 34) C rfl hw.1 dX10_turnBits_34 ?_
    replace hw := hw.2
    refine v_bipush (pc := 35) (v := 12) C dX10_turnBits_35 (by decide) ?_
    refine v_irem (pc := 37) C dX10_turnBits_37 (by decide) ?_
    refine v_dup2 (pc := 38) C dX10_turnBits_38 rfl rfl ?_
    refine v_lald (pc := 39) C rfl hw.1 dX10_turnBits_39 ?_
    replace hw := hw.2
    refine v_lconst (pc := 40) (v := 1) C dX10_turnBits_40 rfl ?_
    refine v_iload_n (pc := 41) 1 C dX10_turnBits_41 rfl rfl ?_
    refine v_lshl (pc := 42) C dX10_turnBits_42 ?_
    refine v_lxor (pc := 43) C dX10_turnBits_43 ?_
    refine v_last (pc := 44) C rfl hw.1 dX10_turnBits_44 ?_
    replace hw := hw.2
    exact v_vret (pc := 45) C r hw dX10_turnBits_45

theorem w_X10_add_J38 {X : Cx} {G : Gl} {P : Int32 → Mem → Prop} (C : Ck X G RX10 cX10_add 4 3) (r : RetI X G .int P) (x3 : Int32) (σ : Mem) (hw : v_X10_add_J38 P x3 σ) : V X G 4 38 [(0, .ref (gA G 1)), (3, .int x3)] [] σ := by
  unfold v_X10_add_J38 at hw
  refine v_aload_n (pc := 38) 0 C dX10_add_38 rfl rfl ?_
  refine v_iload_n (pc := 39) 1 C dX10_add_39 rfl rfl ?_
  refine v_cVv (pc := 40) (o := 1) (As := [.int x3]) (rest := []) (ci := 10) C (c_X10_turnBits hw) pk_X10_turnBits k_399 rfl (by decide) rfl (by decide) rfl rfl (Nat.le_of_ble_eq_true rfl) dX10_add_40 (fun σ_1 hw => ?_)
  refine v_iload_n (pc := 43) 1 C dX10_add_43 rfl rfl ?_
  exact v_iret (pc := 44) C r hw dX10_add_44

theorem c_X10_add {l : Launch} {G : Gl} {a1 : Int32} {a2 : Int32} {σ : Mem} {P : Int32 → Mem → Prop} (hw : v_X10_add a1 a2 σ P) : MetI l yX10_add cX10_add 4 .int 3 G [.ref (gA G 1), .int a1, .int a2] σ P := by
  refine MetI.of RX10 (by decide +kernel) rfl (Nat.le_of_ble_eq_true rfl) (fun X C r => ?_)
  show V X G 4 0 [(0, .ref (gA G 1)), (1, .int a1), (2, .int a2)] [] σ
  unfold v_X10_add at hw
  refine v_aload_n (pc := 0) 0 C dX10_add_0 rfl rfl ?_
  refine g_10_4 (pc := 1) C k_105 dX10_add_1 ?_
  refine v_istore_n (pc := 4) C dX10_add_4 rfl (by decide) rfl ?_
  refine v_aload_n (pc := 5) 1 C dX10_add_5 rfl rfl ?_
  refine v_dup (pc := 6) C dX10_add_6 rfl ?_
  refine g_10_4 (pc := 7) C k_105 dX10_add_7 ?_
  refine v_iconst (pc := 10) (v := 1) C dX10_add_10 (by decide) ?_
  refine v_iadd (pc := 11) C dX10_add_11 ?_
  refine p_10_4 (pc := 12) C k_105 dX10_add_12 ?_
  refine v_aload_n (pc := 15) 1 C dX10_add_15 rfl rfl ?_
  refine g_10_0 (pc := 16) C k_98 dX10_add_16 ?_
  refine v_iload_n (pc := 19) 0 C dX10_add_19 rfl rfl ?_
  refine v_iload_n (pc := 20) 2 C dX10_add_20 rfl rfl ?_
  refine v_iast (pc := 21) C rfl hw.1 dX10_add_21 ?_
  replace hw := hw.2
  refine v_iload_n (pc := 22) 3 C dX10_add_22 rfl rfl ?_
  refine v_if_eq (pc := 23) (tgt := 38) C dX10_add_23 (by decide) (fun c => ?_) (fun c => ?_)
  · replace hw := hw.1 c
    refine v_sub [1, 0] rfl ?_
    exact w_X10_add_J38 C r _ _ hw
  · replace hw := hw.2 c
    refine v_aload_n (pc := 26) 1 C dX10_add_26 rfl rfl ?_
    refine v_dup (pc := 27) C dX10_add_27 rfl ?_
    refine g_10_3 (pc := 28) C k_103 dX10_add_28 ?_
    refine v_lconst (pc := 31) (v := 1) C dX10_add_31 rfl ?_
    refine v_iload_n (pc := 32) 0 C dX10_add_32 rfl rfl ?_
    refine v_lshl (pc := 33) C dX10_add_33 ?_
    refine v_lor (pc := 34) C dX10_add_34 ?_
    refine p_10_3 (pc := 35) C k_103 dX10_add_35 ?_
    refine v_sub [1, 0] rfl ?_
    exact w_X10_add_J38 C r _ _ hw

theorem c_X10_retune {l : Launch} {G : Gl} {a1 : Int32} {a2 : Int32} {σ : Mem} {P : Mem → Prop} (hw : v_X10_retune a1 a2 σ P) : MetV l yX10_retune cX10_retune 3 3 G [.ref (gA G 1), .int a1, .int a2] σ P := by
  refine MetV.of RX10 (by decide +kernel) rfl (Nat.le_of_ble_eq_true rfl) (fun X C r => ?_)
  show V X G 3 0 [(0, .ref (gA G 1)), (1, .int a1), (2, .int a2)] [] σ
  unfold v_X10_retune at hw
  refine v_aload_n (pc := 0) 0 C dX10_retune_0 rfl rfl ?_
  refine v_iload_n (pc := 1) 1 C dX10_retune_1 rfl rfl ?_
  refine v_cVv (pc := 2) (o := 1) (As := [.int a1]) (rest := []) (ci := 10) C (c_X10_turnBits hw) pk_X10_turnBits k_399 rfl (by decide) rfl (by decide) rfl rfl (Nat.le_of_ble_eq_true rfl) dX10_retune_2 (fun σ_1 hw => ?_)
  refine v_aload_n (pc := 5) 0 C dX10_retune_5 rfl rfl ?_
  refine g_10_0 (pc := 6) C k_98 dX10_retune_6 ?_
  refine v_iload_n (pc := 9) 1 C dX10_retune_9 rfl rfl ?_
  refine v_iload_n (pc := 10) 2 C dX10_retune_10 rfl rfl ?_
  refine v_iast (pc := 11) C rfl hw.1 dX10_retune_11 ?_
  replace hw := hw.2
  refine v_aload_n (pc := 12) 0 C dX10_retune_12 rfl rfl ?_
  refine v_iload_n (pc := 13) 1 C dX10_retune_13 rfl rfl ?_
  refine v_cVv (pc := 14) (o := 1) (As := [.int a1]) (rest := []) (ci := 10) C (c_X10_turnBits hw) pk_X10_turnBits k_399 rfl (by decide) rfl (by decide) rfl rfl (Nat.le_of_ble_eq_true rfl) dX10_retune_14 (fun σ_2 hw => ?_)
  exact v_vret (pc := 17) C r hw dX10_retune_17

theorem w_X10_notOfClasses_L5 {X : Cx} {G : Gl} {P : Int64 → Mem → Prop} {x1 : Int32} (C : Ck X G RX10 cX10_notOfClasses 5 1) (r : RetJ X G P) : ∀ (n : Nat) (x2 : Int64) (x4 : Int32) (σ : Mem), v_X10_notOfClasses_L5 x1 P n x2 x4 σ → V X G 5 5 [(0, .ref (gA G 1)), (1, .int x1), (2, .long x2), (4, .int x4)] [] σ := by
  intro n
  induction n with
  | zero => intro x2 x4 σ hw; exact hw.elim
  | succ n ih =>
    intro x2 x4 σ hw
    refine v_iload (pc := 5) 3 C dX10_notOfClasses_5 rfl ?_
    refine v_bipush (pc := 7) (v := 12) C dX10_notOfClasses_7 (by decide) ?_
    refine v_icmp_ge (pc := 9) (tgt := 38) C dX10_notOfClasses_9 (by decide) (fun c => ?_) (fun c => ?_)
    · replace hw := hw.1 c
      refine v_lload_n (pc := 38) 2 C dX10_notOfClasses_38 rfl rfl ?_
      exact v_lret (pc := 39) C r hw dX10_notOfClasses_39
    · replace hw := hw.2 c
      refine v_iload_n (pc := 12) 1 C dX10_notOfClasses_12 rfl rfl ?_
      refine v_i2l (pc := 13) C dX10_notOfClasses_13 ?_
      refine v_iload (pc := 14) 3 C dX10_notOfClasses_14 rfl ?_
      refine v_callSi (pc := 16) (As := [.long (Int32.toInt64 x1), .int x4]) (rest := []) C (c_X11_hasBit hw) pk_X11_hasBit (Or.inr (by decide +kernel)) (by decide) rfl rfl (Nat.le_of_ble_eq_true rfl) dX10_notOfClasses_16 (fun r_1 σ_2 hw => ?_)
      refine v_if_ne (pc := 19) (tgt := 32) C dX10_notOfClasses_19 (by decide) (fun c => ?_) (fun c => ?_)
      · replace hw := hw.2 c
        refine v_iinc (pc := 32) (v := x4 + 1) 3 C dX10_notOfClasses_32 rfl rfl (by decide) rfl ?_
        refine v_goto (pc := 35) (tgt := 5) C dX10_notOfClasses_35 (by decide) ?_
        refine v_sub [1, 2, 3, 0] rfl ?_
        exact ih _ _ _ hw
      · replace hw := hw.1 c
        refine v_lload_n (pc := 22) 2 C dX10_notOfClasses_22 rfl rfl ?_
        refine v_aload_n (pc := 23) 0 C dX10_notOfClasses_23 rfl rfl ?_
        refine g_10_1 (pc := 24) C k_100 dX10_notOfClasses_24 ?_
        refine v_iload (pc := 27) 3 C dX10_notOfClasses_27 rfl ?_
        refine v_lald (pc := 29) C rfl hw.1 dX10_notOfClasses_29 ?_
        replace hw := hw.2
        refine v_lor (pc := 30) C dX10_notOfClasses_30 ?_
        refine v_lstore_n (pc := 31) C dX10_notOfClasses_31 rfl (by decide) rfl ?_
        refine v_iinc (pc := 32) (v := x4 + 1) 3 C dX10_notOfClasses_32 rfl rfl (by decide) rfl ?_
        refine v_goto (pc := 35) (tgt := 5) C dX10_notOfClasses_35 (by decide) ?_
        refine v_sub [2, 3, 1, 0] rfl ?_
        exact ih _ _ _ hw

theorem c_X10_notOfClasses {l : Launch} {G : Gl} {a1 : Int32} {σ : Mem} {P : Int64 → Mem → Prop} (hw : v_X10_notOfClasses a1 σ P) : MetJ l yX10_notOfClasses cX10_notOfClasses 5 1 G [.ref (gA G 1), .int a1] σ P := by
  refine MetJ.of RX10 (by decide +kernel) rfl (Nat.le_of_ble_eq_true rfl) (fun X C r => ?_)
  show V X G 5 0 [(0, .ref (gA G 1)), (1, .int a1)] [] σ
  unfold v_X10_notOfClasses at hw
  refine v_lconst (pc := 0) (v := 0) C dX10_notOfClasses_0 rfl ?_
  refine v_lstore_n (pc := 1) C dX10_notOfClasses_1 rfl (by decide) rfl ?_
  refine v_iconst (pc := 2) (v := 0) C dX10_notOfClasses_2 (by decide) ?_
  refine v_istore (pc := 3) C dX10_notOfClasses_3 (by decide) rfl ?_
  refine v_sub [2, 3, 1, 0] rfl ?_
  refine w_X10_notOfClasses_L5 C r 5000 _ _ _ hw

theorem w_X10_tonesAmong_L5 {X : Cx} {G : Gl} {P : Int64 → Mem → Prop} {x1 : Int64} (C : Ck X G RX10 cX10_tonesAmong 6 0) (r : RetJ X G P) : ∀ (n : Nat) (x3 : Int64) (x5 : Int32) (σ : Mem), v_X10_tonesAmong_L5 x1 P n x3 x5 σ → V X G 6 5 [(0, .ref (gA G 1)), (1, .long x1), (3, .long x3), (5, .int x5)] [] σ := by
  intro n
  induction n with
  | zero => intro x3 x5 σ hw; exact hw.elim
  | succ n ih =>
    intro x3 x5 σ hw
    refine v_iload (pc := 5) 3 C dX10_tonesAmong_5 rfl ?_
    refine v_bipush (pc := 7) (v := 61) C dX10_tonesAmong_7 (by decide) ?_
    refine v_icmp_ge (pc := 9) (tgt := 39) C dX10_tonesAmong_9 (by decide) (fun c => ?_) (fun c => ?_)
    · replace hw := hw.1 c
      refine v_lload_n (pc := 39) 2 C dX10_tonesAmong_39 rfl rfl ?_
      exact v_lret (pc := 40) C r hw dX10_tonesAmong_40
    · replace hw := hw.2 c
      refine v_aload_n (pc := 12) 0 C dX10_tonesAmong_12 rfl rfl ?_
      refine g_10_2 (pc := 13) C k_101 dX10_tonesAmong_13 ?_
      refine v_iload (pc := 16) 3 C dX10_tonesAmong_16 rfl ?_
      refine v_lald (pc := 18) C rfl hw.1 dX10_tonesAmong_18 ?_
      replace hw := hw.2
      refine v_lload_n (pc := 19) 1 C dX10_tonesAmong_19 rfl rfl ?_
      refine v_land (pc := 20) C dX10_tonesAmong_20 ?_
      refine v_lconst (pc := 21) (v := 0) C dX10_tonesAmong_21 rfl ?_
      refine v_lcmp_eq (pc := 22) (tgt := 33) C dX10_tonesAmong_22 dX10_tonesAmong_23 (by decide) (fun c => ?_) (fun c => ?_)
      · replace hw := hw.1 c
        refine v_iinc (pc := 33) (v := x5 + 1) 3 C dX10_tonesAmong_33 rfl rfl (by decide) rfl ?_
        refine v_goto (pc := 36) (tgt := 5) C dX10_tonesAmong_36 (by decide) ?_
        refine v_sub [1, 2, 3, 0] rfl ?_
        exact ih _ _ _ hw
      · replace hw := hw.2 c
        refine v_lload_n (pc := 26) 2 C dX10_tonesAmong_26 rfl rfl ?_
        refine v_lconst (pc := 27) (v := 1) C dX10_tonesAmong_27 rfl ?_
        refine v_iload (pc := 28) 3 C dX10_tonesAmong_28 rfl ?_
        refine v_lshl (pc := 30) C dX10_tonesAmong_30 ?_
        refine v_lor (pc := 31) C dX10_tonesAmong_31 ?_
        refine v_lstore_n (pc := 32) C dX10_tonesAmong_32 rfl (by decide) rfl ?_
        refine v_iinc (pc := 33) (v := x5 + 1) 3 C dX10_tonesAmong_33 rfl rfl (by decide) rfl ?_
        refine v_goto (pc := 36) (tgt := 5) C dX10_tonesAmong_36 (by decide) ?_
        refine v_sub [2, 3, 1, 0] rfl ?_
        exact ih _ _ _ hw

theorem c_X10_tonesAmong {l : Launch} {G : Gl} {a1 : Int64} {σ : Mem} {P : Int64 → Mem → Prop} (hw : v_X10_tonesAmong a1 σ P) : MetJ l yX10_tonesAmong cX10_tonesAmong 6 0 G [.ref (gA G 1), .long a1] σ P := by
  refine MetJ.of RX10 (by decide +kernel) rfl (Nat.le_of_ble_eq_true rfl) (fun X C r => ?_)
  show V X G 6 0 [(0, .ref (gA G 1)), (1, .long a1)] [] σ
  unfold v_X10_tonesAmong at hw
  refine v_lconst (pc := 0) (v := 0) C dX10_tonesAmong_0 rfl ?_
  refine v_lstore_n (pc := 1) C dX10_tonesAmong_1 rfl (by decide) rfl ?_
  refine v_iconst (pc := 2) (v := 0) C dX10_tonesAmong_2 (by decide) ?_
  refine v_istore (pc := 3) C dX10_tonesAmong_3 (by decide) rfl ?_
  refine v_sub [2, 3, 1, 0] rfl ?_
  refine w_X10_tonesAmong_L5 C r 5000 _ _ _ hw

theorem c_X11_string {l : Launch} {G : Gl} {a1 : Int32} {a2 : Int32} {σ : Mem} {P : Int32 → Mem → Prop} (hw : v_X11_string a1 a2 σ P) : MetI l yX11_string cX11_string 3 .int 4 G [.ref (gA G 0), .int a1, .int a2] σ P := by
  refine MetI.of RX11 (by decide +kernel) rfl (Nat.le_of_ble_eq_true rfl) (fun X C r => ?_)
  show V X G 3 0 [(0, .ref (gA G 0)), (1, .int a1), (2, .int a2)] [] σ
  unfold v_X11_string at hw
  refine v_iload_n (pc := 0) 1 C dX11_string_0 rfl rfl ?_
  refine v_callSi (pc := 1) (As := [.int a1]) (rest := []) C (c_X11_isTone hw) pk_X11_isTone (Or.inl k_388) (by decide) rfl rfl (Nat.le_of_ble_eq_true rfl) dX11_string_1 (fun r_1 σ_2 hw => ?_)
  refine v_if_ne (pc := 4) (tgt := 10) C dX11_string_4 (by decide) (fun c => ?_) (fun c => ?_)
  · replace hw := hw.2 c
    refine v_aload_n (pc := 10) 0 C dX11_string_10 rfl rfl ?_
    refine g_11_0 (pc := 11) C k_350 dX11_string_11 ?_
    refine v_cVi (pc := 14) (o := 1) (As := []) (rest := []) (ci := 10) C (c_X10_isFull hw) pk_X10_isFull k_391 rfl (by decide) rfl (by decide) rfl rfl (Nat.le_of_ble_eq_true rfl) dX11_string_14 (fun r_3 σ_4 hw => ?_)
    refine v_if_eq (pc := 17) (tgt := 23) C dX11_string_17 (by decide) (fun c => ?_) (fun c => ?_)
    · replace hw := hw.1 c
      refine v_aload_n (pc := 23) 0 C dX11_string_23 rfl rfl ?_
      refine g_11_0 (pc := 24) C k_350 dX11_string_24 ?_
      refine v_iload_n (pc := 27) 1 C dX11_string_27 rfl rfl ?_
      refine v_iload_n (pc := 28) 2 C dX11_string_28 rfl rfl ?_
      refine v_cVi (pc := 29) (o := 1) (As := [.int a1, .int a2]) (rest := []) (ci := 10) C (c_X10_add hw) pk_X10_add k_395 rfl (by decide) rfl (by decide) rfl rfl (Nat.le_of_ble_eq_true rfl) dX11_string_29 (fun r_5 σ_6 hw => ?_)
      exact v_iret (pc := 32) C r hw dX11_string_32
    · replace hw := hw.2 c
      refine v_bipush (pc := 20) (v := (-4)) C dX11_string_20 (by decide) ?_
      exact v_iret (pc := 22) C r hw dX11_string_22
  · replace hw := hw.1 c
    refine v_bipush (pc := 7) (v := (-2)) C dX11_string_7 (by decide) ?_
    exact v_iret (pc := 9) C r hw dX11_string_9

theorem c_X11_tune {l : Launch} {G : Gl} {a1 : Int32} {a2 : Int32} {σ : Mem} {P : Int32 → Mem → Prop} (hw : v_X11_tune a1 a2 σ P) : MetI l yX11_tune cX11_tune 4 .int 4 G [.ref (gA G 0), .int a1, .int a2] σ P := by
  refine MetI.of RX11 (by decide +kernel) rfl (Nat.le_of_ble_eq_true rfl) (fun X C r => ?_)
  show V X G 4 0 [(0, .ref (gA G 0)), (1, .int a1), (2, .int a2)] [] σ
  unfold v_X11_tune at hw
  refine v_aload_n (pc := 0) 0 C dX11_tune_0 rfl rfl ?_
  refine g_11_0 (pc := 1) C k_350 dX11_tune_1 ?_
  refine v_iload_n (pc := 4) 1 C dX11_tune_4 rfl rfl ?_
  refine v_cVi (pc := 5) (o := 1) (As := [.int a1]) (rest := []) (ci := 10) C (c_X10_knows hw) pk_X10_knows k_414 rfl (by decide) rfl (by decide) rfl rfl (Nat.le_of_ble_eq_true rfl) dX11_tune_5 (fun r_1 σ_2 hw => ?_)
  refine v_if_ne (pc := 8) (tgt := 13) C dX11_tune_8 (by decide) (fun c => ?_) (fun c => ?_)
  · replace hw := hw.2 c
    refine v_iload_n (pc := 13) 2 C dX11_tune_13 rfl rfl ?_
    refine v_callSi (pc := 14) (As := [.int a2]) (rest := []) C (c_X11_isTone hw) pk_X11_isTone (Or.inl k_388) (by decide) rfl rfl (Nat.le_of_ble_eq_true rfl) dX11_tune_14 (fun r_3 σ_4 hw => ?_)
    refine v_if_ne (pc := 17) (tgt := 23) C dX11_tune_17 (by decide) (fun c => ?_) (fun c => ?_)
    · replace hw := hw.2 c
      refine v_aload_n (pc := 23) 0 C dX11_tune_23 rfl rfl ?_
      refine g_11_0 (pc := 24) C k_350 dX11_tune_24 ?_
      refine g_10_0 (pc := 27) C k_99 dX11_tune_27 ?_
      refine v_iload_n (pc := 30) 1 C dX11_tune_30 rfl rfl ?_
      refine v_iald (pc := 31) C rfl hw.1 dX11_tune_31 ?_
      replace hw := hw.2
      refine v_istore_n (pc := 32) C dX11_tune_32 rfl (by decide) rfl ?_
      refine v_aload_n (pc := 33) 1 C dX11_tune_33 rfl rfl ?_
      refine g_11_0 (pc := 34) C k_350 dX11_tune_34 ?_
      refine v_iload_n (pc := 37) 2 C dX11_tune_37 rfl rfl ?_
      refine v_iload_n (pc := 38) 3 C dX11_tune_38 rfl rfl ?_
      refine v_cVv (pc := 39) (o := 1) (As := [.int a1, .int a2]) (rest := []) (ci := 10) C (c_X10_retune hw) pk_X10_retune k_418 rfl (by decide) rfl (by decide) rfl rfl (Nat.le_of_ble_eq_true rfl) dX11_tune_39 (fun σ_5 hw => ?_)
      refine v_iload_n (pc := 42) 0 C dX11_tune_42 rfl rfl ?_
      exact v_iret (pc := 43) C r hw dX11_tune_43
    · replace hw := hw.1 c
      refine v_bipush (pc := 20) (v := (-2)) C dX11_tune_20 (by decide) ?_
      exact v_iret (pc := 22) C r hw dX11_tune_22
  · replace hw := hw.1 c
    refine v_iconst (pc := 11) (v := (-1)) C dX11_tune_11 (by decide) ?_
    exact v_iret (pc := 12) C r hw dX11_tune_12

theorem c_X11_bar {l : Launch} {G : Gl} {a1 : Int32} {σ : Mem} {P : Int32 → Mem → Prop} (hw : v_X11_bar a1 σ P) : MetI l yX11_bar cX11_bar 2 .int 2 G [.ref (gA G 0), .int a1] σ P := by
  refine MetI.of RX11 (by decide +kernel) rfl (Nat.le_of_ble_eq_true rfl) (fun X C r => ?_)
  show V X G 2 0 [(0, .ref (gA G 0)), (1, .int a1)] [] σ
  unfold v_X11_bar at hw
  refine v_iload_n (pc := 0) 1 C dX11_bar_0 rfl rfl ?_
  refine v_callSi (pc := 1) (As := [.int a1]) (rest := []) C (c_X11_isChord hw) pk_X11_isChord (Or.inl k_426) (by decide) rfl rfl (Nat.le_of_ble_eq_true rfl) dX11_bar_1 (fun r_1 σ_2 hw => ?_)
  refine v_if_ne (pc := 4) (tgt := 10) C dX11_bar_4 (by decide) (fun c => ?_) (fun c => ?_)
  · replace hw := hw.2 c
    refine v_aload_n (pc := 10) 0 C dX11_bar_10 rfl rfl ?_
    refine g_11_1 (pc := 11) C k_351 dX11_bar_11 ?_
    refine v_cVi (pc := 14) (o := 5) (As := []) (rest := []) (ci := 7) C (c_X7_isFull hw) pk_X7_isFull k_429 rfl (by decide) rfl (by decide) rfl rfl (Nat.le_of_ble_eq_true rfl) dX11_bar_14 (fun r_3 σ_4 hw => ?_)
    refine v_if_eq (pc := 17) (tgt := 23) C dX11_bar_17 (by decide) (fun c => ?_) (fun c => ?_)
    · replace hw := hw.1 c
      refine v_aload_n (pc := 23) 0 C dX11_bar_23 rfl rfl ?_
      refine g_11_1 (pc := 24) C k_351 dX11_bar_24 ?_
      refine v_iload_n (pc := 27) 1 C dX11_bar_27 rfl rfl ?_
      refine v_aload_n (pc := 28) 0 C dX11_bar_28 rfl rfl ?_
      refine g_11_0 (pc := 29) C k_350 dX11_bar_29 ?_
      refine v_iload_n (pc := 32) 1 C dX11_bar_32 rfl rfl ?_
      refine v_callSi (pc := 33) (As := [.int a1]) (rest := [.ref (gA G 1), .int a1, .ref (gA G 5)]) C (c_X11_classesOf hw) pk_X11_classesOf (Or.inl k_433) (by decide) rfl rfl (Nat.le_of_ble_eq_true rfl) dX11_bar_33 (fun r_5 σ_6 hw => ?_)
      refine v_cVl (pc := 36) (o := 1) (As := [.int r_5]) (rest := [.int a1, .ref (gA G 5)]) (ci := 10) C (c_X10_notOfClasses hw) pk_X10_notOfClasses k_438 rfl (by decide) rfl (by decide) rfl rfl (Nat.le_of_ble_eq_true rfl) dX11_bar_36 (fun r_7 σ_8 hw => ?_)
      refine v_cVi (pc := 39) (o := 5) (As := [.int a1, .long r_7]) (rest := []) (ci := 7) C (c_X7_add hw) pk_X7_add k_442 rfl (by decide) rfl (by decide) rfl rfl (Nat.le_of_ble_eq_true rfl) dX11_bar_39 (fun r_9 σ_10 hw => ?_)
      exact v_iret (pc := 42) C r hw dX11_bar_42
    · replace hw := hw.2 c
      refine v_bipush (pc := 20) (v := (-4)) C dX11_bar_20 (by decide) ?_
      exact v_iret (pc := 22) C r hw dX11_bar_22
  · replace hw := hw.1 c
    refine v_bipush (pc := 7) (v := (-2)) C dX11_bar_7 (by decide) ?_
    exact v_iret (pc := 9) C r hw dX11_bar_9

theorem c_X11_blank {l : Launch} {G : Gl} {σ : Mem} {P : Int32 → Mem → Prop} (hw : v_X11_blank σ P) : MetI l yX11_blank cX11_blank 1 .int 1 G [.ref (gA G 0)] σ P := by
  refine MetI.of RX11 (by decide +kernel) rfl (Nat.le_of_ble_eq_true rfl) (fun X C r => ?_)
  show V X G 1 0 [(0, .ref (gA G 0))] [] σ
  unfold v_X11_blank at hw
  refine v_aload_n (pc := 0) 0 C dX11_blank_0 rfl rfl ?_
  refine g_11_1 (pc := 1) C k_351 dX11_blank_1 ?_
  refine v_cVi (pc := 4) (o := 5) (As := []) (rest := []) (ci := 7) C (c_X7_isFull hw) pk_X7_isFull k_429 rfl (by decide) rfl (by decide) rfl rfl (Nat.le_of_ble_eq_true rfl) dX11_blank_4 (fun r_1 σ_2 hw => ?_)
  refine v_if_eq (pc := 7) (tgt := 13) C dX11_blank_7 (by decide) (fun c => ?_) (fun c => ?_)
  · replace hw := hw.1 c
    refine v_aload_n (pc := 13) 0 C dX11_blank_13 rfl rfl ?_
    refine g_11_1 (pc := 14) C k_351 dX11_blank_14 ?_
    refine v_bipush (pc := 17) (v := (-9)) C dX11_blank_17 (by decide) ?_
    refine v_lconst (pc := 19) (v := 0) C dX11_blank_19 rfl ?_
    refine v_cVi (pc := 20) (o := 5) (As := [.int (-9), .long 0]) (rest := []) (ci := 7) C (c_X7_add hw) pk_X7_add k_442 rfl (by decide) rfl (by decide) rfl rfl (Nat.le_of_ble_eq_true rfl) dX11_blank_20 (fun r_3 σ_4 hw => ?_)
    exact v_iret (pc := 23) C r hw dX11_blank_23
  · replace hw := hw.2 c
    refine v_bipush (pc := 10) (v := (-4)) C dX11_blank_10 (by decide) ?_
    exact v_iret (pc := 12) C r hw dX11_blank_12

theorem c_X11_asNumber {l : Launch} {G : Gl} {a0 : Int32} {σ : Mem} {P : Int32 → Mem → Prop} (hw : v_X11_asNumber a0 σ P) : MetI l yX11_asNumber cX11_asNumber 1 .int 0 G [.int a0] σ P := by
  refine MetI.of RX11 (by decide +kernel) rfl (Nat.le_of_ble_eq_true rfl) (fun X C r => ?_)
  show V X G 1 0 [(0, .int a0)] [] σ
  unfold v_X11_asNumber at hw
  refine v_iload_n (pc := 0) 0 C dX11_asNumber_0 rfl rfl ?_
  refine v_if_eq (pc := 1) (tgt := 8) C dX11_asNumber_1 (by decide) (fun c => ?_) (fun c => ?_)
  · replace hw := hw.1 c
    refine v_iconst (pc := 8) (v := 0) C dX11_asNumber_8 (by decide) ?_
    exact v_iret (pc := 9) C r hw dX11_asNumber_9
  · replace hw := hw.2 c
    refine v_iconst (pc := 4) (v := 1) C dX11_asNumber_4 (by decide) ?_
    refine v_goto (pc := 5) (tgt := 9) C dX11_asNumber_5 (by decide) ?_
    exact v_iret (pc := 9) C r hw dX11_asNumber_9

theorem c_X11_felt {l : Launch} {G : Gl} {a1 : Int32} {a2 : Int32} {a3 : Int32} {σ : Mem} {P : Int32 → Mem → Prop} (hw : v_X11_felt a1 a2 a3 σ P) : MetI l yX11_felt cX11_felt 4 .int 3 G [.ref (gA G 0), .int a1, .int a2, .int a3] σ P := by
  refine MetI.of RX11 (by decide +kernel) rfl (Nat.le_of_ble_eq_true rfl) (fun X C r => ?_)
  show V X G 4 0 [(0, .ref (gA G 0)), (1, .int a1), (2, .int a2), (3, .int a3)] [] σ
  unfold v_X11_felt at hw
  refine v_aload_n (pc := 0) 0 C dX11_felt_0 rfl rfl ?_
  refine g_11_1 (pc := 1) C k_351 dX11_felt_1 ?_
  refine v_iload_n (pc := 4) 1 C dX11_felt_4 rfl rfl ?_
  refine v_cVi (pc := 5) (o := 5) (As := [.int a1]) (rest := []) (ci := 7) C (c_X7_knows hw) pk_X7_knows k_454 rfl (by decide) rfl (by decide) rfl rfl (Nat.le_of_ble_eq_true rfl) dX11_felt_5 (fun r_1 σ_2 hw => ?_)
  refine v_if_eq (pc := 8) (tgt := 22) C dX11_felt_8 (by decide) (fun c => ?_) (fun c => ?_)
  · replace hw := hw.1 c
    refine v_iconst (pc := 22) (v := (-1)) C dX11_felt_22 (by decide) ?_
    exact v_iret (pc := 23) C r hw dX11_felt_23
  · replace hw := hw.2 c
    refine v_aload_n (pc := 11) 0 C dX11_felt_11 rfl rfl ?_
    refine g_11_0 (pc := 12) C k_350 dX11_felt_12 ?_
    refine v_iload_n (pc := 15) 2 C dX11_felt_15 rfl rfl ?_
    refine v_cVi (pc := 16) (o := 1) (As := [.int a2]) (rest := []) (ci := 10) C (c_X10_knows hw) pk_X10_knows k_414 rfl (by decide) rfl (by decide) rfl rfl (Nat.le_of_ble_eq_true rfl) dX11_felt_16 (fun r_3 σ_4 hw => ?_)
    refine v_if_ne (pc := 19) (tgt := 24) C dX11_felt_19 (by decide) (fun c => ?_) (fun c => ?_)
    · replace hw := hw.2 c
      refine v_aload_n (pc := 24) 0 C dX11_felt_24 rfl rfl ?_
      refine g_11_0 (pc := 25) C k_350 dX11_felt_25 ?_
      refine v_iload_n (pc := 28) 2 C dX11_felt_28 rfl rfl ?_
      refine v_cVi (pc := 29) (o := 1) (As := [.int a2]) (rest := []) (ci := 10) C (c_X10_isFree hw) pk_X10_isFree k_458 rfl (by decide) rfl (by decide) rfl rfl (Nat.le_of_ble_eq_true rfl) dX11_felt_29 (fun r_5 σ_6 hw => ?_)
      refine v_if_eq (pc := 32) (tgt := 38) C dX11_felt_32 (by decide) (fun c => ?_) (fun c => ?_)
      · replace hw := hw.1 c
        refine v_aload_n (pc := 38) 0 C dX11_felt_38 rfl rfl ?_
        refine g_11_1 (pc := 39) C k_351 dX11_felt_39 ?_
        refine g_7_0 (pc := 42) C k_160 dX11_felt_42 ?_
        refine v_iload_n (pc := 45) 1 C dX11_felt_45 rfl rfl ?_
        have q_7 := hw.1
        refine v_aldB (pc := 46) C rfl q_7 dX11_felt_46 ?_
        replace hw := hw.2
        refine v_iload_n (pc := 47) 2 C dX11_felt_47 rfl rfl ?_
        refine v_iload_n (pc := 48) 3 C dX11_felt_48 rfl rfl ?_
        refine v_cVi (pc := 49) (o := bB + Int32.toNatClampNeg a1) (As := [.int a2, .int a3]) (rest := []) (ci := 0) C (c_X0_setFelt (kd_bar (vp_lt q_7)) hw) pk_X0_setFelt k_459 (kd_bar (vp_lt q_7)) (by decide) rfl (by decide) rfl rfl (Nat.le_of_ble_eq_true rfl) dX11_felt_49 (fun r_8 σ_9 hw => ?_)
        refine v_callSi (pc := 52) (As := [.int r_8]) (rest := []) C (c_X11_asNumber hw) pk_X11_asNumber (Or.inl k_469) (by decide) rfl rfl (Nat.le_of_ble_eq_true rfl) dX11_felt_52 (fun r_10 σ_11 hw => ?_)
        exact v_iret (pc := 55) C r hw dX11_felt_55
      · replace hw := hw.2 c
        refine v_bipush (pc := 35) (v := (-3)) C dX11_felt_35 (by decide) ?_
        exact v_iret (pc := 37) C r hw dX11_felt_37
    · replace hw := hw.1 c
      refine v_iconst (pc := 22) (v := (-1)) C dX11_felt_22 (by decide) ?_
      exact v_iret (pc := 23) C r hw dX11_felt_23

theorem c_X11_hasFelt {l : Launch} {G : Gl} {a1 : Int32} {a2 : Int32} {σ : Mem} {P : Int32 → Mem → Prop} (hw : v_X11_hasFelt a1 a2 σ P) : MetI l yX11_hasFelt cX11_hasFelt 3 .boolean 2 G [.ref (gA G 0), .int a1, .int a2] σ P := by
  refine MetI.of RX11 (by decide +kernel) rfl (Nat.le_of_ble_eq_true rfl) (fun X C r => ?_)
  show V X G 3 0 [(0, .ref (gA G 0)), (1, .int a1), (2, .int a2)] [] σ
  unfold v_X11_hasFelt at hw
  refine v_aload_n (pc := 0) 0 C dX11_hasFelt_0 rfl rfl ?_
  refine g_11_1 (pc := 1) C k_351 dX11_hasFelt_1 ?_
  refine v_iload_n (pc := 4) 1 C dX11_hasFelt_4 rfl rfl ?_
  refine v_cVi (pc := 5) (o := 5) (As := [.int a1]) (rest := []) (ci := 7) C (c_X7_knows hw) pk_X7_knows k_454 rfl (by decide) rfl (by decide) rfl rfl (Nat.le_of_ble_eq_true rfl) dX11_hasFelt_5 (fun r_1 σ_2 hw => ?_)
  refine v_if_eq (pc := 8) (tgt := 42) C dX11_hasFelt_8 (by decide) (fun c => ?_) (fun c => ?_)
  · replace hw := hw.1 c
    refine v_iconst (pc := 42) (v := 0) C dX11_hasFelt_42 (by decide) ?_
    exact v_zret (pc := 43) C r (Or.inl rfl) hw dX11_hasFelt_43
  · replace hw := hw.2 c
    refine v_aload_n (pc := 11) 0 C dX11_hasFelt_11 rfl rfl ?_
    refine g_11_0 (pc := 12) C k_350 dX11_hasFelt_12 ?_
    refine v_iload_n (pc := 15) 2 C dX11_hasFelt_15 rfl rfl ?_
    refine v_cVi (pc := 16) (o := 1) (As := [.int a2]) (rest := []) (ci := 10) C (c_X10_knows hw) pk_X10_knows k_414 rfl (by decide) rfl (by decide) rfl rfl (Nat.le_of_ble_eq_true rfl) dX11_hasFelt_16 (fun r_3 σ_4 hw => ?_)
    refine v_if_eq (pc := 19) (tgt := 42) C dX11_hasFelt_19 (by decide) (fun c => ?_) (fun c => ?_)
    · replace hw := hw.1 c
      refine v_iconst (pc := 42) (v := 0) C dX11_hasFelt_42 (by decide) ?_
      exact v_zret (pc := 43) C r (Or.inl rfl) hw dX11_hasFelt_43
    · replace hw := hw.2 c
      refine v_aload_n (pc := 22) 0 C dX11_hasFelt_22 rfl rfl ?_
      refine g_11_1 (pc := 23) C k_351 dX11_hasFelt_23 ?_
      refine g_7_0 (pc := 26) C k_160 dX11_hasFelt_26 ?_
      refine v_iload_n (pc := 29) 1 C dX11_hasFelt_29 rfl rfl ?_
      have q_5 := hw.1
      refine v_aldB (pc := 30) C rfl q_5 dX11_hasFelt_30 ?_
      replace hw := hw.2
      refine v_iload_n (pc := 31) 2 C dX11_hasFelt_31 rfl rfl ?_
      refine v_cVi (pc := 32) (o := bB + Int32.toNatClampNeg a1) (As := [.int a2]) (rest := []) (ci := 0) C (c_X0_hasFelt (kd_bar (vp_lt q_5)) hw) pk_X0_hasFelt k_480 (kd_bar (vp_lt q_5)) (by decide) rfl (by decide) rfl rfl (Nat.le_of_ble_eq_true rfl) dX11_hasFelt_32 (fun r_6 σ_7 hw => ?_)
      refine v_if_eq (pc := 35) (tgt := 42) C dX11_hasFelt_35 (by decide) (fun c => ?_) (fun c => ?_)
      · replace hw := hw.1 c
        refine v_iconst (pc := 42) (v := 0) C dX11_hasFelt_42 (by decide) ?_
        exact v_zret (pc := 43) C r (Or.inl rfl) hw dX11_hasFelt_43
      · replace hw := hw.2 c
        refine v_iconst (pc := 38) (v := 1) C dX11_hasFelt_38 (by decide) ?_
        refine v_goto (pc := 39) (tgt := 43) C dX11_hasFelt_39 (by decide) ?_
        exact v_zret (pc := 43) C r (Or.inr rfl) hw dX11_hasFelt_43

