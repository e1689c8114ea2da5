theorem c_X12_least {l : Launch} {G : Gl} {σ : Mem} {P : Int32 → Mem → Prop} (hw : v_X12_least σ P) : MetI l yX12_least cX12_least 1 .int 7 G [.ref (gA G 33)] σ P := by
  refine MetI.of RX12 (by decide +kernel) rfl (Nat.le_of_ble_eq_true rfl) (fun X C r => ?_)
  show V X G 1 0 [(0, .ref (gA G 33))] [] σ
  unfold v_X12_least at hw
  refine v_aload_n (pc := 0) 0 C dX12_least_0 rfl rfl ?_
  refine v_cVv (pc := 1) (o := 33) (As := []) (rest := []) (ci := 12) C (c_X12_findLeast hw) pk_X12_findLeast k_1496 rfl (by decide) rfl (by decide) rfl rfl (Nat.le_of_ble_eq_true rfl) dX12_least_1 (fun σ_1 hw => ?_)
  refine v_aload_n (pc := 4) 0 C dX12_least_4 rfl rfl ?_
  refine g_12_30 (pc := 5) C k_1144 dX12_least_5 ?_
  refine v_iconst (pc := 8) (v := 0) C dX12_least_8 (by decide) ?_
  refine v_iald (pc := 9) C rfl hw.1 dX12_least_9 ?_
  replace hw := hw.2
  exact v_iret (pc := 10) C r hw dX12_least_10

theorem w_X12_arrange_L21 {X : Cx} {G : Gl} {P : Int32 → Mem → Prop} {x1 : Int32} {x2 : Int32} {x3 : Int32} {K69 : Int32 → Mem → Prop} (C : Ck X G RX12 cX12_arrange 5 7) (r : RetI X G .int P) (hK69 : ∀ (x4 : Int32) (σ : Mem), K69 x4 σ → V X G 5 69 [(0, .ref (gA G 33)), (1, .int x1), (2, .int x2), (3, .int x3), (4, .int x4)] [] σ) : ∀ (n : Nat) (x4 : Int32) (σ : Mem), v_X12_arrange_L21 x1 x2 x3 K69 P n x4 σ → V X G 5 21 [(0, .ref (gA G 33)), (1, .int x1), (2, .int x2), (3, .int x3), (4, .int x4)] [] σ := by
  intro n
  induction n with
  | zero => intro x4 σ hw; exact hw.elim
  | succ n ih =>
    intro x4 σ hw
    refine v_iload_n (pc := 21) 1 C dX12_arrange_21 rfl rfl ?_
    refine v_iload (pc := 22) 4 C dX12_arrange_22 rfl ?_
    refine v_ishr (pc := 24) C dX12_arrange_24 ?_
    refine v_iconst (pc := 25) (v := 1) C dX12_arrange_25 (by decide) ?_
    refine v_iand (pc := 26) C dX12_arrange_26 ?_
    refine v_iconst (pc := 27) (v := 1) C dX12_arrange_27 (by decide) ?_
    refine v_icmp_eq (pc := 28) (tgt := 63) C dX12_arrange_28 (by decide) (fun c => ?_) (fun c => ?_)
    · replace hw := hw.1 c
      refine v_iinc (pc := 63) (v := x4 + 1) 4 C dX12_arrange_63 rfl rfl (by decide) rfl ?_
      refine v_goto (pc := 66) (tgt := 21) C dX12_arrange_66 (by decide) ?_
      refine v_sub [1, 2, 3, 4, 0] rfl ?_
      exact ih _ _ hw
    · replace hw := hw.2 c
      refine v_aload_n (pc := 31) 0 C dX12_arrange_31 rfl rfl ?_
      refine g_12_29 (pc := 32) C k_1143 dX12_arrange_32 ?_
      refine v_iload_n (pc := 35) 1 C dX12_arrange_35 rfl rfl ?_
      refine v_iconst (pc := 36) (v := 1) C dX12_arrange_36 (by decide) ?_
      refine v_iload (pc := 37) 4 C dX12_arrange_37 rfl ?_
      refine v_ishl (pc := 39) C dX12_arrange_39 ?_
      refine v_ior (pc := 40) C dX12_arrange_40 ?_
      refine v_iald (pc := 41) C rfl hw.1 dX12_arrange_41 ?_
      replace hw := hw.2
      refine v_aload_n (pc := 42) 0 C dX12_arrange_42 rfl rfl ?_
      refine g_12_30 (pc := 43) C k_1144 dX12_arrange_43 ?_
      refine v_iload_n (pc := 46) 1 C dX12_arrange_46 rfl rfl ?_
      refine v_iconst (pc := 47) (v := 1) C dX12_arrange_47 (by decide) ?_
      refine v_iload (pc := 48) 4 C dX12_arrange_48 rfl ?_
      refine v_ishl (pc := 50) C dX12_arrange_50 ?_
      refine v_ior (pc := 51) C dX12_arrange_51 ?_
      refine v_iald (pc := 52) C rfl hw.1 dX12_arrange_52 ?_
      replace hw := hw.2
      refine v_iadd (pc := 53) C dX12_arrange_53 ?_
      refine v_aload_n (pc := 54) 0 C dX12_arrange_54 rfl rfl ?_
      refine g_12_30 (pc := 55) C k_1144 dX12_arrange_55 ?_
      refine v_iload_n (pc := 58) 1 C dX12_arrange_58 rfl rfl ?_
      refine v_iald (pc := 59) C rfl hw.1 dX12_arrange_59 ?_
      replace hw := hw.2
      refine v_icmp_eq (pc := 60) (tgt := 69) C dX12_arrange_60 (by decide) (fun c => ?_) (fun c => ?_)
      · replace hw := hw.1 c
        refine v_sub [0, 1, 2, 3, 4] rfl ?_
        exact hK69 _ _ hw
      · replace hw := hw.2 c
        refine v_iinc (pc := 63) (v := x4 + 1) 4 C dX12_arrange_63 rfl rfl (by decide) rfl ?_
        refine v_goto (pc := 66) (tgt := 21) C dX12_arrange_66 (by decide) ?_
        refine v_sub [1, 2, 3, 4, 0] rfl ?_
        exact ih _ _ hw

theorem w_X12_arrange_J86 {X : Cx} {G : Gl} {P : Int32 → Mem → Prop} {kb : Int32 → Int32 → Int32 → Mem → Prop} (C : Ck X G RX12 cX12_arrange 5 7) (r : RetI X G .int P) (x1 : Int32) (x3 : Int32) (x4 : Int32) (xs0 : Int32) (xs1 : Int32) (hkb : ∀ (x1 : Int32) (x2 : Int32) (x3 : Int32) (σ : Mem), kb x1 x2 x3 σ → V X G 5 10 [(0, .ref (gA G 33)), (1, .int x1), (2, .int x2), (3, .int x3)] [] σ) (σ : Mem) (hw : v_X12_arrange_J86 kb P x1 x3 x4 xs0 xs1 σ) : V X G 5 86 [(0, .ref (gA G 33)), (1, .int x1), (3, .int x3), (4, .int x4)] [.int xs0, .int xs1] σ := by
  unfold v_X12_arrange_J86 at hw
  refine v_iadd (pc := 86) C dX12_arrange_86 ?_
  refine v_istore_n (pc := 87) C dX12_arrange_87 rfl (by decide) rfl ?_
  refine v_aload_n (pc := 88) 1 C dX12_arrange_88 rfl rfl ?_
  refine g_12_8 (pc := 89) C k_1122 dX12_arrange_89 ?_
  refine v_iload (pc := 92) 4 C dX12_arrange_92 rfl ?_
  refine v_iload_n (pc := 94) 3 C dX12_arrange_94 rfl rfl ?_
  refine v_iast (pc := 95) C rfl hw.1 dX12_arrange_95 ?_
  replace hw := hw.2
  refine v_iload_n (pc := 96) 2 C dX12_arrange_96 rfl rfl ?_
  refine v_iconst (pc := 97) (v := 1) C dX12_arrange_97 (by decide) ?_
  refine v_iload (pc := 98) 4 C dX12_arrange_98 rfl ?_
  refine v_ishl (pc := 100) C dX12_arrange_100 ?_
  refine v_ior (pc := 101) C dX12_arrange_101 ?_
  refine v_istore_n (pc := 102) C dX12_arrange_102 rfl (by decide) rfl ?_
  refine v_iinc (pc := 103) (v := x3 + 1) 3 C dX12_arrange_103 rfl rfl (by decide) rfl ?_
  refine v_goto (pc := 106) (tgt := 10) C dX12_arrange_106 (by decide) ?_
  refine v_sub [3, 1, 2, 0] rfl ?_
  exact hkb _ _ _ _ hw

theorem w_X12_arrange_L10 {X : Cx} {G : Gl} {P : Int32 → Mem → Prop} (C : Ck X G RX12 cX12_arrange 5 7) (r : RetI X G .int P) : ∀ (n : Nat) (x1 : Int32) (x2 : Int32) (x3 : Int32) (σ : Mem), v_X12_arrange_L10 P n x1 x2 x3 σ → V X G 5 10 [(0, .ref (gA G 33)), (1, .int x1), (2, .int x2), (3, .int x3)] [] σ := by
  intro n
  induction n with
  | zero => intro x1 x2 x3 σ hw; exact hw.elim
  | succ n ih =>
    intro x1 x2 x3 σ hw
    refine v_iload_n (pc := 10) 3 C dX12_arrange_10 rfl rfl ?_
    refine v_aload_n (pc := 11) 0 C dX12_arrange_11 rfl rfl ?_
    refine g_12_5 (pc := 12) C k_1119 dX12_arrange_12 ?_
    refine v_icmp_ge (pc := 15) (tgt := 109) C dX12_arrange_15 (by decide) (fun c => ?_) (fun c => ?_)
    · replace hw := hw.1 c
      refine v_iload_n (pc := 109) 2 C dX12_arrange_109 rfl rfl ?_
      exact v_iret (pc := 110) C r hw dX12_arrange_110
    · replace hw := hw.2 c
      refine v_iconst (pc := 18) (v := 0) C dX12_arrange_18 (by decide) ?_
      refine v_istore (pc := 19) C dX12_arrange_19 (by decide) rfl ?_
      refine v_sub [1, 2, 3, 4, 0] rfl ?_
      refine w_X12_arrange_L21 C r ?_ 5000 _ _ hw
      · intro x4_2 σ_3 hw
        refine v_iload_n (pc := 69) 2 C dX12_arrange_69 rfl rfl ?_
        refine v_aload_n (pc := 70) 0 C dX12_arrange_70 rfl rfl ?_
        refine g_12_8 (pc := 71) C k_1122 dX12_arrange_71 ?_
        refine v_iload (pc := 74) 4 C dX12_arrange_74 rfl ?_
        refine v_iald (pc := 76) C rfl hw.1 dX12_arrange_76 ?_
        replace hw := hw.2
        refine v_iload_n (pc := 77) 3 C dX12_arrange_77 rfl rfl ?_
        refine v_icmp_ne (pc := 78) (tgt := 85) C dX12_arrange_78 (by decide) (fun c => ?_) (fun c => ?_)
        · replace hw := hw.2 c
          refine v_iconst (pc := 85) (v := 1) C dX12_arrange_85 (by decide) ?_
          refine v_sub [0, 1, 3, 4] rfl ?_
          exact w_X12_arrange_J86 C r _ _ _ _ _ ih _ hw
        · replace hw := hw.1 c
          refine v_iconst (pc := 81) (v := 0) C dX12_arrange_81 (by decide) ?_
          refine v_goto (pc := 82) (tgt := 86) C dX12_arrange_82 (by decide) ?_
          refine v_sub [0, 1, 3, 4] rfl ?_
          exact w_X12_arrange_J86 C r _ _ _ _ _ ih _ hw

theorem c_X12_arrange {l : Launch} {G : Gl} {σ : Mem} {P : Int32 → Mem → Prop} (hw : v_X12_arrange σ P) : MetI l yX12_arrange cX12_arrange 5 .int 7 G [.ref (gA G 33)] σ P := by
  refine MetI.of RX12 (by decide +kernel) rfl (Nat.le_of_ble_eq_true rfl) (fun X C r => ?_)
  show V X G 5 0 [(0, .ref (gA G 33))] [] σ
  unfold v_X12_arrange at hw
  refine v_aload_n (pc := 0) 0 C dX12_arrange_0 rfl rfl ?_
  refine v_cVv (pc := 1) (o := 33) (As := []) (rest := []) (ci := 12) C (c_X12_findLeast hw) pk_X12_findLeast k_1496 rfl (by decide) rfl (by decide) rfl rfl (Nat.le_of_ble_eq_true rfl) dX12_arrange_1 (fun σ_1 hw => ?_)
  refine v_iconst (pc := 4) (v := 0) C dX12_arrange_4 (by decide) ?_
  refine v_istore_n (pc := 5) C dX12_arrange_5 rfl (by decide) rfl ?_
  refine v_iconst (pc := 6) (v := 0) C dX12_arrange_6 (by decide) ?_
  refine v_istore_n (pc := 7) C dX12_arrange_7 rfl (by decide) rfl ?_
  refine v_iconst (pc := 8) (v := 0) C dX12_arrange_8 (by decide) ?_
  refine v_istore_n (pc := 9) C dX12_arrange_9 rfl (by decide) rfl ?_
  refine v_sub [3, 2, 1, 0] rfl ?_
  refine w_X12_arrange_L10 C r 5000 _ _ _ _ hw

theorem w_X12_troubleAt_J73 {X : Cx} {G : Gl} {P : Int32 → Mem → Prop} (C : Ck X G RX12 cX12_troubleAt 7 2) (r : RetI X G .int P) (x5 : Int32) (xs0 : Int32) (σ : Mem) (hw : v_X12_troubleAt_J73 P x5 xs0 σ) : V X G 7 73 [(5, .int x5)] [.int xs0] σ := by
  unfold v_X12_troubleAt_J73 at hw
  refine v_istore (pc := 73) C dX12_troubleAt_73 (by decide) rfl ?_
  refine v_iload (pc := 75) 0 C dX12_troubleAt_75 rfl ?_
  refine v_if_eq (pc := 77) (tgt := 88) C dX12_troubleAt_77 (by decide) (fun c => ?_) (fun c => ?_)
  · replace hw := hw.1 c
    refine v_iload (pc := 88) 1 C dX12_troubleAt_88 rfl ?_
    exact v_iret (pc := 90) C r hw dX12_troubleAt_90
  · replace hw := hw.2 c
    refine v_iload (pc := 80) 1 C dX12_troubleAt_80 rfl ?_
    refine v_bipush (pc := 82) (v := 30) C dX12_troubleAt_82 (by decide) ?_
    refine v_iadd (pc := 84) C dX12_troubleAt_84 ?_
    refine v_goto (pc := 85) (tgt := 90) C dX12_troubleAt_85 (by decide) ?_
    exact v_iret (pc := 90) C r hw dX12_troubleAt_90

theorem w_X12_troubleAt_J72 {X : Cx} {G : Gl} {P : Int32 → Mem → Prop} (C : Ck X G RX12 cX12_troubleAt 7 2) (r : RetI X G .int P) (x5 : Int32) (σ : Mem) (hw : v_X12_troubleAt_J72 P x5 σ) : V X G 7 72 [(5, .int x5)] [] σ := by
  unfold v_X12_troubleAt_J72 at hw
  refine v_iconst (pc := 72) (v := 0) C dX12_troubleAt_72 (by decide) ?_
  refine v_sub [0] rfl ?_
  exact w_X12_troubleAt_J73 C r _ _ _ hw

theorem c_X12_troubleAt {l : Launch} {G : Gl} {a1 : Int32} {a2 : Int32} {a3 : Int32} {σ : Mem} {P : Int32 → Mem → Prop} (hw : v_X12_troubleAt a1 a2 a3 σ P) : MetI l yX12_troubleAt cX12_troubleAt 7 .int 2 G [.ref (gA G 33), .int a1, .int a2, .int a3] σ P := by
  refine MetI.of RX12 (by decide +kernel) rfl (Nat.le_of_ble_eq_true rfl) (fun X C r => ?_)
  show V X G 7 0 [(0, .ref (gA G 33)), (1, .int a1), (2, .int a2), (3, .int a3)] [] σ
  unfold v_X12_troubleAt at hw
  refine v_aload_n (pc := 0) 0 C dX12_troubleAt_0 rfl rfl ?_
  refine v_iload_n (pc := 1) 1 C dX12_troubleAt_1 rfl rfl ?_
  refine v_iload_n (pc := 2) 2 C dX12_troubleAt_2 rfl rfl ?_
  refine v_aload_n (pc := 3) 0 C dX12_troubleAt_3 rfl rfl ?_
  refine g_12_17 (pc := 4) C k_1131 dX12_troubleAt_4 ?_
  refine v_iload_n (pc := 7) 1 C dX12_troubleAt_7 rfl rfl ?_
  refine v_iald (pc := 8) C rfl hw.1 dX12_troubleAt_8 ?_
  replace hw := hw.2
  refine v_cVi (pc := 9) (o := 33) (As := [.int a1, .int a2, .int (σ.1 45 (Int32.toNatClampNeg a1))]) (rest := []) (ci := 12) C (c_X12_chordAt hw) pk_X12_chordAt k_1390 rfl (by decide) rfl (by decide) rfl rfl (Nat.le_of_ble_eq_true rfl) dX12_troubleAt_9 (fun r_1 σ_2 hw => ?_)
  refine v_callSi (pc := 12) (As := [.int r_1]) (rest := []) C (c_X12_classesOf hw) pk_X12_classesOf (Or.inl k_1267) (by decide) rfl rfl (Nat.le_of_ble_eq_true rfl) dX12_troubleAt_12 (fun r_3 σ_4 hw => ?_)
  refine v_istore (pc := 15) C dX12_troubleAt_15 (by decide) rfl ?_
  refine v_bipush (pc := 17) (v := 10) C dX12_troubleAt_17 (by decide) ?_
  refine v_iload (pc := 19) 0 C dX12_troubleAt_19 rfl ?_
  refine v_aload_n (pc := 21) 1 C dX12_troubleAt_21 rfl rfl ?_
  refine g_12_12 (pc := 22) C k_1126 dX12_troubleAt_22 ?_
  refine v_iload_n (pc := 25) 4 C dX12_troubleAt_25 rfl rfl ?_
  refine v_iald (pc := 26) C rfl hw.1 dX12_troubleAt_26 ?_
  replace hw := hw.2
  refine v_ixor (pc := 27) C dX12_troubleAt_27 ?_
  refine v_callSi (pc := 28) (As := [.int (r_3 ^^^ (σ_4.1 41 (Int32.toNatClampNeg a3)))]) (rest := [.int 10]) C (c_X12_countOf hw) pk_X12_countOf (Or.inl k_1469) (by decide) rfl rfl (Nat.le_of_ble_eq_true rfl) dX12_troubleAt_28 (fun r_5 σ_6 hw => ?_)
  refine v_imul (pc := 31) C dX12_troubleAt_31 ?_
  refine v_istore (pc := 32) C dX12_troubleAt_32 (by decide) rfl ?_
  refine v_aload_n (pc := 34) 2 C dX12_troubleAt_34 rfl rfl ?_
  refine v_iload_n (pc := 35) 3 C dX12_troubleAt_35 rfl rfl ?_
  refine v_iload_n (pc := 36) 4 C dX12_troubleAt_36 rfl rfl ?_
  refine v_cVi (pc := 37) (o := 33) (As := [.int a1, .int a2]) (rest := []) (ci := 12) C (c_X12_hasNote hw) pk_X12_hasNote k_1394 rfl (by decide) rfl (by decide) rfl rfl (Nat.le_of_ble_eq_true rfl) dX12_troubleAt_37 (fun r_7 σ_8 hw => ?_)
  refine v_if_eq (pc := 40) (tgt := 72) C dX12_troubleAt_40 (by decide) (fun c => ?_) (fun c => ?_)
  · replace hw := hw.1 c
    refine v_sub [0] rfl ?_
    exact w_X12_troubleAt_J72 C r _ _ hw
  · replace hw := hw.2 c
    refine v_aload_n (pc := 43) 2 C dX12_troubleAt_43 rfl rfl ?_
    refine v_aload_n (pc := 44) 2 C dX12_troubleAt_44 rfl rfl ?_
    refine v_iload_n (pc := 45) 3 C dX12_troubleAt_45 rfl rfl ?_
    refine v_iload_n (pc := 46) 4 C dX12_troubleAt_46 rfl rfl ?_
    refine v_aload_n (pc := 47) 2 C dX12_troubleAt_47 rfl rfl ?_
    refine g_12_17 (pc := 48) C k_1131 dX12_troubleAt_48 ?_
    refine v_iload_n (pc := 51) 3 C dX12_troubleAt_51 rfl rfl ?_
    refine v_iald (pc := 52) C rfl hw.1 dX12_troubleAt_52 ?_
    replace hw := hw.2
    refine v_cVi (pc := 53) (o := 33) (As := [.int a1, .int a2, .int (σ_8.1 45 (Int32.toNatClampNeg a1))]) (rest := [.ref (gA G 33)]) (ci := 12) C (c_X12_noteAt hw) pk_X12_noteAt k_1398 rfl (by decide) rfl (by decide) rfl rfl (Nat.le_of_ble_eq_true rfl) dX12_troubleAt_53 (fun r_9 σ_10 hw => ?_)
    refine v_aload_n (pc := 56) 2 C dX12_troubleAt_56 rfl rfl ?_
    refine g_12_11 (pc := 57) C k_1125 dX12_troubleAt_57 ?_
    refine v_iload_n (pc := 60) 5 C dX12_troubleAt_60 rfl rfl ?_
    refine v_iald (pc := 61) C rfl hw.1 dX12_troubleAt_61 ?_
    replace hw := hw.2
    refine v_cVi (pc := 62) (o := 33) (As := [.int r_9, .int (σ_10.1 40 (Int32.toNatClampNeg a3))]) (rest := []) (ci := 12) C (c_X12_isHeard hw) pk_X12_isHeard k_1410 rfl (by decide) rfl (by decide) rfl rfl (Nat.le_of_ble_eq_true rfl) dX12_troubleAt_62 (fun r_11 σ_12 hw => ?_)
    refine v_if_ne (pc := 65) (tgt := 72) C dX12_troubleAt_65 (by decide) (fun c => ?_) (fun c => ?_)
    · replace hw := hw.2 c
      refine v_sub [0] rfl ?_
      exact w_X12_troubleAt_J72 C r _ _ hw
    · replace hw := hw.1 c
      refine v_iconst (pc := 68) (v := 1) C dX12_troubleAt_68 (by decide) ?_
      refine v_goto (pc := 69) (tgt := 73) C dX12_troubleAt_69 (by decide) ?_
      refine v_sub [0] rfl ?_
      exact w_X12_troubleAt_J73 C r _ _ _ hw

theorem c_X12_goingOn {l : Launch} {G : Gl} {a1 : Int32} {a2 : Int32} {a3 : Int32} {σ : Mem} {P : Int32 → Mem → Prop} (hw : v_X12_goingOn a1 a2 a3 σ P) : MetI l yX12_goingOn cX12_goingOn 4 .int 1 G [.ref (gA G 33), .int a1, .int a2, .int a3] σ P := by
  refine MetI.of RX12 (by decide +kernel) rfl (Nat.le_of_ble_eq_true rfl) (fun X C r => ?_)
  show V X G 4 0 [(0, .ref (gA G 33)), (1, .int a1), (2, .int a2), (3, .int a3)] [] σ
  unfold v_X12_goingOn at hw
  refine v_iconst (pc := 0) (v := 2) C dX12_goingOn_0 (by decide) ?_
  refine v_aload_n (pc := 1) 0 C dX12_goingOn_1 rfl rfl ?_
  refine g_12_11 (pc := 2) C k_1125 dX12_goingOn_2 ?_
  refine v_iload_n (pc := 5) 2 C dX12_goingOn_5 rfl rfl ?_
  refine v_iald (pc := 6) C rfl hw.1 dX12_goingOn_6 ?_
  replace hw := hw.2
  refine v_aload_n (pc := 7) 0 C dX12_goingOn_7 rfl rfl ?_
  refine g_12_11 (pc := 8) C k_1125 dX12_goingOn_8 ?_
  refine v_iload_n (pc := 11) 3 C dX12_goingOn_11 rfl rfl ?_
  refine v_iald (pc := 12) C rfl hw.1 dX12_goingOn_12 ?_
  replace hw := hw.2
  refine v_ixor (pc := 13) C dX12_goingOn_13 ?_
  refine v_callSi (pc := 14) (As := [.int ((σ.1 40 (Int32.toNatClampNeg a2)) ^^^ (σ.1 40 (Int32.toNatClampNeg a3)))]) (rest := [.int 2]) C (c_X12_countOf hw) pk_X12_countOf (Or.inl k_1469) (by decide) rfl rfl (Nat.le_of_ble_eq_true rfl) dX12_goingOn_14 (fun r_1 σ_2 hw => ?_)
  refine v_imul (pc := 17) C dX12_goingOn_17 ?_
  refine v_aload_n (pc := 18) 0 C dX12_goingOn_18 rfl rfl ?_
  refine g_12_32 (pc := 19) C k_1146 dX12_goingOn_19 ?_
  refine v_bipush (pc := 22) (v := 79) C dX12_goingOn_22 (by decide) ?_
  refine v_iload_n (pc := 24) 1 C dX12_goingOn_24 rfl rfl ?_
  refine v_imul (pc := 25) C dX12_goingOn_25 ?_
  refine v_bipush (pc := 26) (v := 79) C dX12_goingOn_26 (by decide) ?_
  refine v_iadd (pc := 28) C dX12_goingOn_28 ?_
  refine v_iload_n (pc := 29) 3 C dX12_goingOn_29 rfl rfl ?_
  refine v_iadd (pc := 30) C dX12_goingOn_30 ?_
  refine v_iald (pc := 31) C rfl hw.1 dX12_goingOn_31 ?_
  replace hw := hw.2
  refine v_iadd (pc := 32) C dX12_goingOn_32 ?_
  exact v_iret (pc := 33) C r hw dX12_goingOn_33

theorem w_X12_findTrouble_L50 {X : Cx} {G : Gl} {P : Mem → Prop} {x1 : Int32} {x2 : Int32} {x3 : Int32} {K103 : Int32 → Mem → Prop} (C : Ck X G RX12 cX12_findTrouble 7 4) (r : RetV X G P) (hK103 : ∀ (x4 : Int32) (σ : Mem), K103 x4 σ → V X G 7 103 [(0, .ref (gA G 33)), (1, .int x1), (2, .int x2), (3, .int x3), (4, .int x4)] [] σ) : ∀ (n : Nat) (x4 : Int32) (x5 : Int32) (σ : Mem), v_X12_findTrouble_L50 x1 x2 x3 K103 P n x4 x5 σ → V X G 7 50 [(0, .ref (gA G 33)), (1, .int x1), (2, .int x2), (3, .int x3), (4, .int x4), (5, .int x5)] [] σ := by
  intro n
  induction n with
  | zero => intro x4 x5 σ hw; exact hw.elim
  | succ n ih =>
    intro x4 x5 σ hw
    refine v_iload (pc := 50) 5 C dX12_findTrouble_50 rfl ?_
    refine v_aload_n (pc := 52) 0 C dX12_findTrouble_52 rfl rfl ?_
    refine g_12_10 (pc := 53) C k_1124 dX12_findTrouble_53 ?_
    refine v_icmp_ge (pc := 56) (tgt := 103) C dX12_findTrouble_56 (by decide) (fun c => ?_) (fun c => ?_)
    · replace hw := hw.1 c
      refine v_sub [0, 1, 2, 3, 4] rfl ?_
      exact hK103 _ _ hw
    · replace hw := hw.2 c
      refine v_iload_n (pc := 59) 2 C dX12_findTrouble_59 rfl rfl ?_
      refine v_aload_n (pc := 60) 0 C dX12_findTrouble_60 rfl rfl ?_
      refine g_12_16 (pc := 61) C k_1130 dX12_findTrouble_61 ?_
      refine v_iload_n (pc := 64) 1 C dX12_findTrouble_64 rfl rfl ?_
      refine v_iald (pc := 65) C rfl hw.1 dX12_findTrouble_65 ?_
      replace hw := hw.2
      refine v_iconst (pc := 66) (v := 1) C dX12_findTrouble_66 (by decide) ?_
      refine v_isub (pc := 67) C dX12_findTrouble_67 ?_
      refine v_icmp_ge (pc := 68) (tgt := 103) C dX12_findTrouble_68 (by decide) (fun c => ?_) (fun c => ?_)
      · replace hw := hw.1 c
        refine v_sub [0, 1, 2, 3, 4] rfl ?_
        exact hK103 _ _ hw
      · replace hw := hw.2 c
        refine v_aload_n (pc := 71) 0 C dX12_findTrouble_71 rfl rfl ?_
        refine v_iload_n (pc := 72) 2 C dX12_findTrouble_72 rfl rfl ?_
        refine v_iload_n (pc := 73) 3 C dX12_findTrouble_73 rfl rfl ?_
        refine v_iload (pc := 74) 5 C dX12_findTrouble_74 rfl ?_
        refine v_cVi (pc := 76) (o := 33) (As := [.int x2, .int x3, .int x5]) (rest := []) (ci := 12) C (c_X12_goingOn hw) pk_X12_goingOn k_1513 rfl (by decide) rfl (by decide) rfl rfl (Nat.le_of_ble_eq_true rfl) dX12_findTrouble_76 (fun r_2 σ_3 hw => ?_)
        refine v_istore (pc := 79) C dX12_findTrouble_79 (by decide) rfl ?_
        refine v_iload (pc := 81) 0 C dX12_findTrouble_81 rfl ?_
        refine v_iload (pc := 83) 5 C dX12_findTrouble_83 rfl ?_
        refine v_icmp_ge (pc := 85) (tgt := 93) C dX12_findTrouble_85 (by decide) (fun c => ?_) (fun c => ?_)
        · replace hw := hw.1 c
          refine v_iload (pc := 93) 5 C dX12_findTrouble_93 rfl ?_
          refine v_istore (pc := 95) C dX12_findTrouble_95 (by decide) rfl ?_
          refine v_iinc (pc := 97) (v := x5 + 1) 6 C dX12_findTrouble_97 rfl rfl (by decide) rfl ?_
          refine v_goto (pc := 100) (tgt := 50) C dX12_findTrouble_100 (by decide) ?_
          refine v_sub [3, 4, 5, 6, 1, 0] rfl ?_
          exact ih _ _ _ hw
        · replace hw := hw.2 c
          refine v_iload (pc := 88) 0 C dX12_findTrouble_88 rfl ?_
          refine v_goto (pc := 90) (tgt := 95) C dX12_findTrouble_90 (by decide) ?_
          refine v_istore (pc := 95) C dX12_findTrouble_95 (by decide) rfl ?_
          refine v_iinc (pc := 97) (v := x5 + 1) 6 C dX12_findTrouble_97 rfl rfl (by decide) rfl ?_
          refine v_goto (pc := 100) (tgt := 50) C dX12_findTrouble_100 (by decide) ?_
          refine v_sub [3, 4, 5, 6, 1, 0] rfl ?_
          exact ih _ _ _ hw

theorem w_X12_findTrouble_J103 {X : Cx} {G : Gl} {P : Mem → Prop} {kb : Int32 → Mem → Prop} {K130 : Mem → Prop} (C : Ck X G RX12 cX12_findTrouble 7 4) (r : RetV X G P) (x1 : Int32) (x2 : Int32) (x3 : Int32) (x4 : Int32) (hkb : ∀ (x3 : Int32) (σ : Mem), kb x3 σ → V X G 7 19 [(0, .ref (gA G 33)), (1, .int x1), (2, .int x2), (3, .int x3)] [] σ) (hK130 : ∀ (σ : Mem), K130 σ → V X G 7 130 [(0, .ref (gA G 33)), (1, .int x1), (2, .int x2)] [] σ) (σ : Mem) (hw : v_X12_findTrouble_J103 kb K130 P x1 x2 x3 x4 σ) : V X G 7 103 [(0, .ref (gA G 33)), (1, .int x1), (2, .int x2), (3, .int x3), (4, .int x4)] [] σ := by
  unfold v_X12_findTrouble_J103 at hw
  refine v_aload_n (pc := 103) 0 C dX12_findTrouble_103 rfl rfl ?_
  refine g_12_32 (pc := 104) C k_1146 dX12_findTrouble_104 ?_
  refine v_bipush (pc := 107) (v := 79) C dX12_findTrouble_107 (by decide) ?_
  refine v_iload_n (pc := 109) 2 C dX12_findTrouble_109 rfl rfl ?_
  refine v_imul (pc := 110) C dX12_findTrouble_110 ?_
  refine v_iload_n (pc := 111) 3 C dX12_findTrouble_111 rfl rfl ?_
  refine v_iadd (pc := 112) C dX12_findTrouble_112 ?_
  refine v_aload_n (pc := 113) 0 C dX12_findTrouble_113 rfl rfl ?_
  refine v_iload_n (pc := 114) 1 C dX12_findTrouble_114 rfl rfl ?_
  refine v_iload_n (pc := 115) 2 C dX12_findTrouble_115 rfl rfl ?_
  refine v_iload_n (pc := 116) 3 C dX12_findTrouble_116 rfl rfl ?_
  refine v_cVi (pc := 117) (o := 33) (As := [.int x1, .int x2, .int x3]) (rest := [.int ((79 * x2) + x3), .ref (gA G 59)]) (ci := 12) C (c_X12_troubleAt hw) pk_X12_troubleAt k_1517 rfl (by decide) rfl (by decide) rfl rfl (Nat.le_of_ble_eq_true rfl) dX12_findTrouble_117 (fun r_6 σ_7 hw => ?_)
  refine v_iload (pc := 120) 4 C dX12_findTrouble_120 rfl ?_
  refine v_iadd (pc := 122) C dX12_findTrouble_122 ?_
  refine v_iast (pc := 123) C rfl hw.1 dX12_findTrouble_123 ?_
  replace hw := hw.2
  refine v_iinc (pc := 124) (v := x3 + 1) 3 C dX12_findTrouble_124 rfl rfl (by decide) rfl ?_
  refine v_goto (pc := 127) (tgt := 19) C dX12_findTrouble_127 (by decide) ?_
  refine v_sub [1, 2, 3, 0] rfl ?_
  exact hkb _ _ hw

theorem w_X12_findTrouble_L19 {X : Cx} {G : Gl} {P : Mem → Prop} {x1 : Int32} {x2 : Int32} {K130 : Mem → Prop} (C : Ck X G RX12 cX12_findTrouble 7 4) (r : RetV X G P) (hK130 : ∀ (σ : Mem), K130 σ → V X G 7 130 [(0, .ref (gA G 33)), (1, .int x1), (2, .int x2)] [] σ) : ∀ (n : Nat) (x3 : Int32) (σ : Mem), v_X12_findTrouble_L19 x1 x2 K130 P n x3 σ → V X G 7 19 [(0, .ref (gA G 33)), (1, .int x1), (2, .int x2), (3, .int x3)] [] σ := by
  intro n
  induction n with
  | zero => intro x3 σ hw; exact hw.elim
  | succ n ih =>
    intro x3 σ hw
    refine v_iload_n (pc := 19) 3 C dX12_findTrouble_19 rfl rfl ?_
    refine v_aload_n (pc := 20) 0 C dX12_findTrouble_20 rfl rfl ?_
    refine g_12_10 (pc := 21) C k_1124 dX12_findTrouble_21 ?_
    refine v_icmp_ge (pc := 24) (tgt := 130) C dX12_findTrouble_24 (by decide) (fun c => ?_) (fun c => ?_)
    · replace hw := hw.1 c
      refine v_sub [0, 1, 2] rfl ?_
      exact hK130 _ hw
    · replace hw := hw.2 c
      refine v_iload_n (pc := 27) 2 C dX12_findTrouble_27 rfl rfl ?_
      refine v_aload_n (pc := 28) 0 C dX12_findTrouble_28 rfl rfl ?_
      refine g_12_16 (pc := 29) C k_1130 dX12_findTrouble_29 ?_
      refine v_iload_n (pc := 32) 1 C dX12_findTrouble_32 rfl rfl ?_
      refine v_iald (pc := 33) C rfl hw.1 dX12_findTrouble_33 ?_
      replace hw := hw.2
      refine v_iconst (pc := 34) (v := 1) C dX12_findTrouble_34 (by decide) ?_
      refine v_isub (pc := 35) C dX12_findTrouble_35 ?_
      refine v_icmp_ne (pc := 36) (tgt := 43) C dX12_findTrouble_36 (by decide) (fun c => ?_) (fun c => ?_)
      · replace hw := hw.2 c
        refine v_ldc (pc := 43) C k_1500 dX12_findTrouble_43 ?_
        refine v_istore (pc := 45) C dX12_findTrouble_45 (by decide) rfl ?_
        refine v_iconst (pc := 47) (v := 0) C dX12_findTrouble_47 (by decide) ?_
        refine v_istore (pc := 48) C dX12_findTrouble_48 (by decide) rfl ?_
        refine v_sub [2, 3, 4, 5, 1, 0] rfl ?_
        refine w_X12_findTrouble_L50 C r ?_ 5000 _ _ _ hw
        · intro x4_8 σ_9 hw
          refine v_sub [0, 1, 2, 3, 4] rfl ?_
          exact w_X12_findTrouble_J103 C r _ _ _ _ ih hK130 _ hw
      · replace hw := hw.1 c
        refine v_iconst (pc := 39) (v := 0) C dX12_findTrouble_39 (by decide) ?_
        refine v_goto (pc := 40) (tgt := 45) C dX12_findTrouble_40 (by decide) ?_
        refine v_istore (pc := 45) C dX12_findTrouble_45 (by decide) rfl ?_
        refine v_iconst (pc := 47) (v := 0) C dX12_findTrouble_47 (by decide) ?_
        refine v_istore (pc := 48) C dX12_findTrouble_48 (by decide) rfl ?_
        refine v_sub [2, 3, 4, 5, 1, 0] rfl ?_
        refine w_X12_findTrouble_L50 C r ?_ 5000 _ _ _ hw
        · intro x4_4 σ_5 hw
          refine v_sub [0, 1, 2, 3, 4] rfl ?_
          exact w_X12_findTrouble_J103 C r _ _ _ _ ih hK130 _ hw

theorem w_X12_findTrouble_L13 {X : Cx} {G : Gl} {P : Mem → Prop} {x1 : Int32} (C : Ck X G RX12 cX12_findTrouble 7 4) (r : RetV X G P) : ∀ (n : Nat) (x2 : Int32) (σ : Mem), v_X12_findTrouble_L13 x1 P n x2 σ → V X G 7 13 [(0, .ref (gA G 33)), (1, .int x1), (2, .int x2)] [] σ := by
  intro n
  induction n with
  | zero => intro x2 σ hw; exact hw.elim
  | succ n ih =>
    intro x2 σ hw
    refine v_iload_n (pc := 13) 2 C dX12_findTrouble_13 rfl rfl ?_
    refine v_if_lt (pc := 14) (tgt := 136) C dX12_findTrouble_14 (by decide) (fun c => ?_) (fun c => ?_)
    · replace hw := hw.1 c
      exact v_vret (pc := 136) C r hw dX12_findTrouble_136
    · replace hw := hw.2 c
      refine v_iconst (pc := 17) (v := 0) C dX12_findTrouble_17 (by decide) ?_
      refine v_istore_n (pc := 18) C dX12_findTrouble_18 rfl (by decide) rfl ?_
      refine v_sub [1, 2, 3, 0] rfl ?_
      refine w_X12_findTrouble_L19 C r ?_ 5000 _ _ hw
      · intro σ_11 hw
        refine v_iinc (pc := 130) (v := x2 + (-1)) 2 C dX12_findTrouble_130 rfl rfl (by decide) rfl ?_
        refine v_goto (pc := 133) (tgt := 13) C dX12_findTrouble_133 (by decide) ?_
        refine v_sub [1, 2, 0] rfl ?_
        exact ih _ _ hw

theorem c_X12_findTrouble {l : Launch} {G : Gl} {a1 : Int32} {σ : Mem} {P : Mem → Prop} (hw : v_X12_findTrouble a1 σ P) : MetV l yX12_findTrouble cX12_findTrouble 7 4 G [.ref (gA G 33), .int a1] σ P := by
  refine MetV.of RX12 (by decide +kernel) rfl (Nat.le_of_ble_eq_true rfl) (fun X C r => ?_)
  show V X G 7 0 [(0, .ref (gA G 33)), (1, .int a1)] [] σ
  unfold v_X12_findTrouble at hw
  refine v_aload_n (pc := 0) 0 C dX12_findTrouble_0 rfl rfl ?_
  refine v_cVv (pc := 1) (o := 33) (As := []) (rest := []) (ci := 12) C (c_X12_findGrips hw) pk_X12_findGrips k_1353 rfl (by decide) rfl (by decide) rfl rfl (Nat.le_of_ble_eq_true rfl) dX12_findTrouble_1 (fun σ_1 hw => ?_)
  refine v_aload_n (pc := 4) 0 C dX12_findTrouble_4 rfl rfl ?_
  refine g_12_16 (pc := 5) C k_1130 dX12_findTrouble_5 ?_
  refine v_iload_n (pc := 8) 1 C dX12_findTrouble_8 rfl rfl ?_
  refine v_iald (pc := 9) C rfl hw.1 dX12_findTrouble_9 ?_
  replace hw := hw.2
  refine v_iconst (pc := 10) (v := 1) C dX12_findTrouble_10 (by decide) ?_
  refine v_isub (pc := 11) C dX12_findTrouble_11 ?_
  refine v_istore_n (pc := 12) C dX12_findTrouble_12 rfl (by decide) rfl ?_
  refine v_sub [1, 2, 0] rfl ?_
  refine w_X12_findTrouble_L13 C r 5000 _ _ hw

theorem w_X12_leastFirst_L4 {X : Cx} {G : Gl} {P : Int32 → Mem → Prop} (C : Ck X G RX12 cX12_leastFirst 3 0) (r : RetI X G .int P) : ∀ (n : Nat) (x1 : Int32) (x2 : Int32) (σ : Mem), v_X12_leastFirst_L4 P n x1 x2 σ → V X G 3 4 [(0, .ref (gA G 33)), (1, .int x1), (2, .int x2)] [] σ := by
  intro n
  induction n with
  | zero => intro x1 x2 σ hw; exact hw.elim
  | succ n ih =>
    intro x1 x2 σ hw
    refine v_iload_n (pc := 4) 2 C dX12_leastFirst_4 rfl rfl ?_
    refine v_aload_n (pc := 5) 0 C dX12_leastFirst_5 rfl rfl ?_
    refine g_12_10 (pc := 6) C k_1124 dX12_leastFirst_6 ?_
    refine v_icmp_ge (pc := 9) (tgt := 39) C dX12_leastFirst_9 (by decide) (fun c => ?_) (fun c => ?_)
    · replace hw := hw.1 c
      refine v_iload_n (pc := 39) 1 C dX12_leastFirst_39 rfl rfl ?_
      exact v_iret (pc := 40) C r hw dX12_leastFirst_40
    · replace hw := hw.2 c
      refine v_aload_n (pc := 12) 0 C dX12_leastFirst_12 rfl rfl ?_
      refine g_12_32 (pc := 13) C k_1146 dX12_leastFirst_13 ?_
      refine v_iload_n (pc := 16) 2 C dX12_leastFirst_16 rfl rfl ?_
      refine v_iald (pc := 17) C rfl hw.1 dX12_leastFirst_17 ?_
      replace hw := hw.2
      refine v_aload_n (pc := 18) 0 C dX12_leastFirst_18 rfl rfl ?_
      refine g_12_32 (pc := 19) C k_1146 dX12_leastFirst_19 ?_
      refine v_iload_n (pc := 22) 1 C dX12_leastFirst_22 rfl rfl ?_
      refine v_iald (pc := 23) C rfl hw.1 dX12_leastFirst_23 ?_
      replace hw := hw.2
      refine v_icmp_ge (pc := 24) (tgt := 31) C dX12_leastFirst_24 (by decide) (fun c => ?_) (fun c => ?_)
      · replace hw := hw.1 c
        refine v_iload_n (pc := 31) 1 C dX12_leastFirst_31 rfl rfl ?_
        refine v_istore_n (pc := 32) C dX12_leastFirst_32 rfl (by decide) rfl ?_
        refine v_iinc (pc := 33) (v := x2 + 1) 2 C dX12_leastFirst_33 rfl rfl (by decide) rfl ?_
        refine v_goto (pc := 36) (tgt := 4) C dX12_leastFirst_36 (by decide) ?_
        refine v_sub [2, 1, 0] rfl ?_
        exact ih _ _ _ hw
      · replace hw := hw.2 c
        refine v_iload_n (pc := 27) 2 C dX12_leastFirst_27 rfl rfl ?_
        refine v_goto (pc := 28) (tgt := 32) C dX12_leastFirst_28 (by decide) ?_
        refine v_istore_n (pc := 32) C dX12_leastFirst_32 rfl (by decide) rfl ?_
        refine v_iinc (pc := 33) (v := x2 + 1) 2 C dX12_leastFirst_33 rfl rfl (by decide) rfl ?_
        refine v_goto (pc := 36) (tgt := 4) C dX12_leastFirst_36 (by decide) ?_
        refine v_sub [2, 1, 0] rfl ?_
        exact ih _ _ _ hw

theorem c_X12_leastFirst {l : Launch} {G : Gl} {σ : Mem} {P : Int32 → Mem → Prop} (hw : v_X12_leastFirst σ P) : MetI l yX12_leastFirst cX12_leastFirst 3 .int 0 G [.ref (gA G 33)] σ P := by
  refine MetI.of RX12 (by decide +kernel) rfl (Nat.le_of_ble_eq_true rfl) (fun X C r => ?_)
  show V X G 3 0 [(0, .ref (gA G 33))] [] σ
  unfold v_X12_leastFirst at hw
  refine v_iconst (pc := 0) (v := 0) C dX12_leastFirst_0 (by decide) ?_
  refine v_istore_n (pc := 1) C dX12_leastFirst_1 rfl (by decide) rfl ?_
  refine v_iconst (pc := 2) (v := 1) C dX12_leastFirst_2 (by decide) ?_
  refine v_istore_n (pc := 3) C dX12_leastFirst_3 rfl (by decide) rfl ?_
  refine v_sub [2, 1, 0] rfl ?_
  refine w_X12_leastFirst_L4 C r 5000 _ _ _ hw

theorem c_X12_trouble {l : Launch} {G : Gl} {a1 : Int32} {σ : Mem} {P : Int32 → Mem → Prop} (hw : v_X12_trouble a1 σ P) : MetI l yX12_trouble cX12_trouble 2 .int 5 G [.ref (gA G 33), .int a1] σ P := by
  refine MetI.of RX12 (by decide +kernel) rfl (Nat.le_of_ble_eq_true rfl) (fun X C r => ?_)
  show V X G 2 0 [(0, .ref (gA G 33)), (1, .int a1)] [] σ
  unfold v_X12_trouble at hw
  refine v_aload_n (pc := 0) 0 C dX12_trouble_0 rfl rfl ?_
  refine v_iload_n (pc := 1) 1 C dX12_trouble_1 rfl rfl ?_
  refine v_cVi (pc := 2) (o := 33) (As := [.int a1]) (rest := []) (ci := 12) C (c_X12_isSong hw) pk_X12_isSong k_1386 rfl (by decide) rfl (by decide) rfl rfl (Nat.le_of_ble_eq_true rfl) dX12_trouble_2 (fun r_1 σ_2 hw => ?_)
  refine v_if_ne (pc := 5) (tgt := 10) C dX12_trouble_5 (by decide) (fun c => ?_) (fun c => ?_)
  · replace hw := hw.2 c
    refine v_aload_n (pc := 10) 0 C dX12_trouble_10 rfl rfl ?_
    refine v_iload_n (pc := 11) 1 C dX12_trouble_11 rfl rfl ?_
    refine v_cVv (pc := 12) (o := 33) (As := [.int a1]) (rest := []) (ci := 12) C (c_X12_findTrouble hw) pk_X12_findTrouble k_1509 rfl (by decide) rfl (by decide) rfl rfl (Nat.le_of_ble_eq_true rfl) dX12_trouble_12 (fun σ_3 hw => ?_)
    refine v_aload_n (pc := 15) 0 C dX12_trouble_15 rfl rfl ?_
    refine g_12_32 (pc := 16) C k_1146 dX12_trouble_16 ?_
    refine v_aload_n (pc := 19) 0 C dX12_trouble_19 rfl rfl ?_
    refine v_cVi (pc := 20) (o := 33) (As := []) (rest := [.ref (gA G 59)]) (ci := 12) C (c_X12_leastFirst hw) pk_X12_leastFirst k_1521 rfl (by decide) rfl (by decide) rfl rfl (Nat.le_of_ble_eq_true rfl) dX12_trouble_20 (fun r_4 σ_5 hw => ?_)
    refine v_iald (pc := 23) C rfl hw.1 dX12_trouble_23 ?_
    replace hw := hw.2
    exact v_iret (pc := 24) C r hw dX12_trouble_24
  · replace hw := hw.1 c
    refine v_iconst (pc := 8) (v := (-1)) C dX12_trouble_8 (by decide) ?_
    exact v_iret (pc := 9) C r hw dX12_trouble_9

theorem w_X12_grip_L36 {X : Cx} {G : Gl} {P : Int32 → Mem → Prop} {x2 : Int32} {x3 : Int32} {x4 : Int32} {K81 : Int32 → Mem → Prop} (C : Ck X G RX12 cX12_grip 7 5) (r : RetI X G .int P) (hK81 : ∀ (x5 : Int32) (σ : Mem), K81 x5 σ → V X G 7 81 [(0, .ref (gA G 33)), (2, .int x2), (4, .int x4), (5, .int x5)] [] σ) : ∀ (n : Nat) (x5 : Int32) (x6 : Int32) (σ : Mem), v_X12_grip_L36 x2 x3 x4 K81 P n x5 x6 σ → V X G 7 36 [(0, .ref (gA G 33)), (2, .int x2), (3, .int x3), (4, .int x4), (5, .int x5), (6, .int x6)] [] σ := by
  intro n
  induction n with
  | zero => intro x5 x6 σ hw; exact hw.elim
  | succ n ih =>
    intro x5 x6 σ hw
    refine v_iload (pc := 36) 5 C dX12_grip_36 rfl ?_
    refine v_aload_n (pc := 38) 0 C dX12_grip_38 rfl rfl ?_
    refine g_12_10 (pc := 39) C k_1124 dX12_grip_39 ?_
    refine v_icmp_ge (pc := 42) (tgt := 81) C dX12_grip_42 (by decide) (fun c => ?_) (fun c => ?_)
    · replace hw := hw.1 c
      refine v_sub [0, 1, 3, 4] rfl ?_
      exact hK81 _ _ hw
    · replace hw := hw.2 c
      refine v_aload_n (pc := 45) 0 C dX12_grip_45 rfl rfl ?_
      refine v_iload (pc := 46) 3 C dX12_grip_46 rfl ?_
      refine v_iload_n (pc := 48) 2 C dX12_grip_48 rfl rfl ?_
      refine v_iload (pc := 49) 5 C dX12_grip_49 rfl ?_
      refine v_cVi (pc := 51) (o := 33) (As := [.int x4, .int x3, .int x6]) (rest := []) (ci := 12) C (c_X12_goingOn hw) pk_X12_goingOn k_1513 rfl (by decide) rfl (by decide) rfl rfl (Nat.le_of_ble_eq_true rfl) dX12_grip_51 (fun r_6 σ_7 hw => ?_)
      refine v_aload_n (pc := 54) 0 C dX12_grip_54 rfl rfl ?_
      refine v_iload (pc := 55) 3 C dX12_grip_55 rfl ?_
      refine v_iload_n (pc := 57) 2 C dX12_grip_57 rfl rfl ?_
      refine v_iload (pc := 58) 4 C dX12_grip_58 rfl ?_
      refine v_cVi (pc := 60) (o := 33) (As := [.int x4, .int x3, .int x5]) (rest := [.int r_6]) (ci := 12) C (c_X12_goingOn hw) pk_X12_goingOn k_1513 rfl (by decide) rfl (by decide) rfl rfl (Nat.le_of_ble_eq_true rfl) dX12_grip_60 (fun r_8 σ_9 hw => ?_)
      refine v_icmp_ge (pc := 63) (tgt := 71) C dX12_grip_63 (by decide) (fun c => ?_) (fun c => ?_)
      · replace hw := hw.1 c
        refine v_iload (pc := 71) 4 C dX12_grip_71 rfl ?_
        refine v_istore (pc := 73) C dX12_grip_73 (by decide) rfl ?_
        refine v_iinc (pc := 75) (v := x6 + 1) 5 C dX12_grip_75 rfl rfl (by decide) rfl ?_
        refine v_goto (pc := 78) (tgt := 36) C dX12_grip_78 (by decide) ?_
        refine v_sub [2, 3, 4, 5, 1, 0] rfl ?_
        exact ih _ _ _ hw
      · replace hw := hw.2 c
        refine v_iload (pc := 66) 5 C dX12_grip_66 rfl ?_
        refine v_goto (pc := 68) (tgt := 73) C dX12_grip_68 (by decide) ?_
        refine v_istore (pc := 73) C dX12_grip_73 (by decide) rfl ?_
        refine v_iinc (pc := 75) (v := x6 + 1) 5 C dX12_grip_75 rfl rfl (by decide) rfl ?_
        refine v_goto (pc := 78) (tgt := 36) C dX12_grip_78 (by decide) ?_
        refine v_sub [2, 3, 4, 5, 1, 0] rfl ?_
        exact ih _ _ _ hw

theorem w_X12_grip_L24 {X : Cx} {G : Gl} {P : Int32 → Mem → Prop} {x2 : Int32} (C : Ck X G RX12 cX12_grip 7 5) (r : RetI X G .int P) : ∀ (n : Nat) (x3 : Int32) (x4 : Int32) (σ : Mem), v_X12_grip_L24 x2 P n x3 x4 σ → V X G 7 24 [(0, .ref (gA G 33)), (2, .int x2), (3, .int x3), (4, .int x4)] [] σ := by
  intro n
  induction n with
  | zero => intro x3 x4 σ hw; exact hw.elim
  | succ n ih =>
    intro x3 x4 σ hw
    refine v_iload (pc := 24) 3 C dX12_grip_24 rfl ?_
    refine v_iload_n (pc := 26) 1 C dX12_grip_26 rfl rfl ?_
    refine v_icmp_ge (pc := 27) (tgt := 90) C dX12_grip_27 (by decide) (fun c => ?_) (fun c => ?_)
    · replace hw := hw.1 c
      refine v_aload_n (pc := 90) 0 C dX12_grip_90 rfl rfl ?_
      refine g_12_11 (pc := 91) C k_1125 dX12_grip_91 ?_
      refine v_iload_n (pc := 94) 2 C dX12_grip_94 rfl rfl ?_
      refine v_iald (pc := 95) C rfl hw.1 dX12_grip_95 ?_
      replace hw := hw.2
      exact v_iret (pc := 96) C r hw dX12_grip_96
    · replace hw := hw.2 c
      refine v_iconst (pc := 30) (v := 0) C dX12_grip_30 (by decide) ?_
      refine v_istore (pc := 31) C dX12_grip_31 (by decide) rfl ?_
      refine v_iconst (pc := 33) (v := 1) C dX12_grip_33 (by decide) ?_
      refine v_istore (pc := 34) C dX12_grip_34 (by decide) rfl ?_
      refine v_sub [2, 3, 4, 5, 1, 0] rfl ?_
      refine w_X12_grip_L36 C r ?_ 5000 _ _ _ hw
      · intro x5_10 σ_11 hw
        refine v_iload (pc := 81) 3 C dX12_grip_81 rfl ?_
        refine v_istore_n (pc := 83) C dX12_grip_83 rfl (by decide) rfl ?_
        refine v_iinc (pc := 84) (v := x4 + 1) 3 C dX12_grip_84 rfl rfl (by decide) rfl ?_
        refine v_goto (pc := 87) (tgt := 24) C dX12_grip_87 (by decide) ?_
        refine v_sub [2, 3, 1, 0] rfl ?_
        exact ih _ _ _ hw

theorem c_X12_grip {l : Launch} {G : Gl} {a1 : Int32} {a2 : Int32} {σ : Mem} {P : Int32 → Mem → Prop} (hw : v_X12_grip a1 a2 σ P) : MetI l yX12_grip cX12_grip 7 .int 5 G [.ref (gA G 33), .int a1, .int a2] σ P := by
  refine MetI.of RX12 (by decide +kernel) rfl (Nat.le_of_ble_eq_true rfl) (fun X C r => ?_)
  show V X G 7 0 [(0, .ref (gA G 33)), (1, .int a1), (2, .int a2)] [] σ
  unfold v_X12_grip at hw
  refine v_aload_n (pc := 0) 0 C dX12_grip_0 rfl rfl ?_
  refine v_iload_n (pc := 1) 1 C dX12_grip_1 rfl rfl ?_
  refine v_iload_n (pc := 2) 2 C dX12_grip_2 rfl rfl ?_
  refine v_cVi (pc := 3) (o := 33) (As := [.int a1, .int a2]) (rest := []) (ci := 12) C (c_X12_isStep hw) pk_X12_isStep k_1382 rfl (by decide) rfl (by decide) rfl rfl (Nat.le_of_ble_eq_true rfl) dX12_grip_3 (fun r_1 σ_2 hw => ?_)
  refine v_if_ne (pc := 6) (tgt := 11) C dX12_grip_6 (by decide) (fun c => ?_) (fun c => ?_)
  · replace hw := hw.2 c
    refine v_aload_n (pc := 11) 0 C dX12_grip_11 rfl rfl ?_
    refine v_iload_n (pc := 12) 1 C dX12_grip_12 rfl rfl ?_
    refine v_cVv (pc := 13) (o := 33) (As := [.int a1]) (rest := []) (ci := 12) C (c_X12_findTrouble hw) pk_X12_findTrouble k_1509 rfl (by decide) rfl (by decide) rfl rfl (Nat.le_of_ble_eq_true rfl) dX12_grip_13 (fun σ_3 hw => ?_)
    refine v_aload_n (pc := 16) 0 C dX12_grip_16 rfl rfl ?_
    refine v_cVi (pc := 17) (o := 33) (As := []) (rest := []) (ci := 12) C (c_X12_leastFirst hw) pk_X12_leastFirst k_1521 rfl (by decide) rfl (by decide) rfl rfl (Nat.le_of_ble_eq_true rfl) dX12_grip_17 (fun r_4 σ_5 hw => ?_)
    refine v_istore_n (pc := 20) C dX12_grip_20 rfl (by decide) rfl ?_
    refine v_iconst (pc := 21) (v := 0) C dX12_grip_21 (by decide) ?_
    refine v_istore (pc := 22) C dX12_grip_22 (by decide) rfl ?_
    refine v_sub [2, 4, 1, 0] rfl ?_
    refine w_X12_grip_L24 C r 5000 _ _ _ hw
  · replace hw := hw.1 c
    refine v_iconst (pc := 9) (v := (-1)) C dX12_grip_9 (by decide) ?_
    exact v_iret (pc := 10) C r hw dX12_grip_10

theorem w_X12_heard_J101 {X : Cx} {G : Gl} {P : Int32 → Mem → Prop} (C : Ck X G RX12 cX12_heard 6 2) (r : RetI X G .int P) (σ : Mem) (hw : v_X12_heard_J101 P σ) : V X G 6 101 [(0, .ref (gA G 33))] [] σ := by
  unfold v_X12_heard_J101 at hw
  refine v_aload_n (pc := 101) 0 C dX12_heard_101 rfl rfl ?_
  refine v_iconst (pc := 102) (v := 3) C dX12_heard_102 (by decide) ?_
  refine v_cVi (pc := 103) (o := 33) (As := [.int 3]) (rest := []) (ci := 12) C (c_X12_fails hw) pk_X12_fails k_1373 rfl (by decide) rfl (by decide) rfl rfl (Nat.le_of_ble_eq_true rfl) dX12_heard_103 (fun r_9 σ_10 hw => ?_)
  exact v_iret (pc := 106) C r hw dX12_heard_106

theorem w_X12_heard_L110 {X : Cx} {G : Gl} {P : Int32 → Mem → Prop} {x1 : Int32} {x2 : Int32} {x4 : Int32} {K151 : Mem → Prop} (C : Ck X G RX12 cX12_heard 6 2) (r : RetI X G .int P) (hK151 : ∀ (σ : Mem), K151 σ → V X G 6 151 [(0, .ref (gA G 33)), (1, .int x1), (2, .int x2), (4, .int x4)] [] σ) : ∀ (n : Nat) (x5 : Int32) (σ : Mem), v_X12_heard_L110 x1 x2 x4 K151 P n x5 σ → V X G 6 110 [(0, .ref (gA G 33)), (1, .int x1), (2, .int x2), (4, .int x4), (5, .int x5)] [] σ := by
  intro n
  induction n with
  | zero => intro x5 σ hw; exact hw.elim
  | succ n ih =>
    intro x5 σ hw
    refine v_iload (pc := 110) 4 C dX12_heard_110 rfl ?_
    refine v_aload_n (pc := 112) 0 C dX12_heard_112 rfl rfl ?_
    refine g_12_2 (pc := 113) C k_1116 dX12_heard_113 ?_
    refine v_icmp_ge (pc := 116) (tgt := 151) C dX12_heard_116 (by decide) (fun c => ?_) (fun c => ?_)
    · replace hw := hw.1 c
      refine v_sub [0, 1, 2, 3] rfl ?_
      exact hK151 _ hw
    · replace hw := hw.2 c
      refine v_aload_n (pc := 119) 0 C dX12_heard_119 rfl rfl ?_
      refine g_12_22 (pc := 120) C k_1136 dX12_heard_120 ?_
      refine v_bipush (pc := 123) (v := 64) C dX12_heard_123 (by decide) ?_
      refine v_iload_n (pc := 125) 2 C dX12_heard_125 rfl rfl ?_
      refine v_imul (pc := 126) C dX12_heard_126 ?_
      refine v_iload (pc := 127) 3 C dX12_heard_127 rfl ?_
      refine v_iadd (pc := 129) C dX12_heard_129 ?_
      refine v_iload (pc := 130) 4 C dX12_heard_130 rfl ?_
      refine v_iadd (pc := 132) C dX12_heard_132 ?_
      refine v_iald (pc := 133) C rfl hw.1 dX12_heard_133 ?_
      replace hw := hw.2
      refine v_iconst (pc := 134) (v := 0) C dX12_heard_134 (by decide) ?_
      refine v_iconst (pc := 135) (v := 2) C dX12_heard_135 (by decide) ?_
      refine v_callSi (pc := 136) (As := [.int (σ.1 50 (Int32.toNatClampNeg (((64 * x2) + x4) + x5))), .int 0, .int 2]) (rest := []) C (c_X12_within hw) pk_X12_within (Or.inl k_1234) (by decide) rfl rfl (Nat.le_of_ble_eq_true rfl) dX12_heard_136 (fun r_11 σ_12 hw => ?_)
      refine v_if_ne (pc := 139) (tgt := 145) C dX12_heard_139 (by decide) (fun c => ?_) (fun c => ?_)
      · replace hw := hw.2 c
        refine v_iinc (pc := 145) (v := x5 + 1) 4 C dX12_heard_145 rfl rfl (by decide) rfl ?_
        refine v_goto (pc := 148) (tgt := 110) C dX12_heard_148 (by decide) ?_
        refine v_sub [1, 2, 3, 4, 0] rfl ?_
        exact ih _ _ hw
      · replace hw := hw.1 c
        refine v_bipush (pc := 142) (v := (-2)) C dX12_heard_142 (by decide) ?_
        exact v_iret (pc := 144) C r hw dX12_heard_144

theorem w_X12_heard_L189 {X : Cx} {G : Gl} {P : Int32 → Mem → Prop} {x2 : Int32} {x4 : Int32} {K234 : Mem → Prop} (C : Ck X G RX12 cX12_heard 6 2) (r : RetI X G .int P) (hK234 : ∀ (σ : Mem), K234 σ → V X G 6 234 [(0, .ref (gA G 33))] [] σ) : ∀ (n : Nat) (x5 : Int32) (σ : Mem), v_X12_heard_L189 x2 x4 K234 P n x5 σ → V X G 6 189 [(0, .ref (gA G 33)), (2, .int x2), (4, .int x4), (5, .int x5)] [] σ := by
  intro n
  induction n with
  | zero => intro x5 σ hw; exact hw.elim
  | succ n ih =>
    intro x5 σ hw
    refine v_iload (pc := 189) 3 C dX12_heard_189 rfl ?_
    refine v_aload_n (pc := 191) 0 C dX12_heard_191 rfl rfl ?_
    refine g_12_2 (pc := 192) C k_1116 dX12_heard_192 ?_
    refine v_icmp_ge (pc := 195) (tgt := 234) C dX12_heard_195 (by decide) (fun c => ?_) (fun c => ?_)
    · replace hw := hw.1 c
      refine v_sub [0] rfl ?_
      exact hK234 _ hw
    · replace hw := hw.2 c
      refine v_aload_n (pc := 198) 0 C dX12_heard_198 rfl rfl ?_
      refine g_12_36 (pc := 199) C k_1150 dX12_heard_199 ?_
      refine v_bipush (pc := 202) (v := 36) C dX12_heard_202 (by decide) ?_
      refine v_aload_n (pc := 204) 0 C dX12_heard_204 rfl rfl ?_
      refine g_12_33 (pc := 205) C k_1147 dX12_heard_205 ?_
      refine v_imul (pc := 208) C dX12_heard_208 ?_
      refine v_iload (pc := 209) 3 C dX12_heard_209 rfl ?_
      refine v_iadd (pc := 211) C dX12_heard_211 ?_
      refine v_aload_n (pc := 212) 0 C dX12_heard_212 rfl rfl ?_
      refine g_12_22 (pc := 213) C k_1136 dX12_heard_213 ?_
      refine v_bipush (pc := 216) (v := 64) C dX12_heard_216 (by decide) ?_
      refine v_iload_n (pc := 218) 1 C dX12_heard_218 rfl rfl ?_
      refine v_imul (pc := 219) C dX12_heard_219 ?_
      refine v_iload (pc := 220) 2 C dX12_heard_220 rfl ?_
      refine v_iadd (pc := 222) C dX12_heard_222 ?_
      refine v_iload (pc := 223) 3 C dX12_heard_223 rfl ?_
      refine v_iadd (pc := 225) C dX12_heard_225 ?_
      refine v_iald (pc := 226) C rfl hw.1 dX12_heard_226 ?_
      replace hw := hw.2
      refine v_iast (pc := 227) C rfl hw.1 dX12_heard_227 ?_
      replace hw := hw.2
      refine v_iinc (pc := 228) (v := x5 + 1) 3 C dX12_heard_228 rfl rfl (by decide) rfl ?_
      refine v_goto (pc := 231) (tgt := 189) C dX12_heard_231 (by decide) ?_
      refine v_sub [1, 2, 3, 0] rfl ?_
      exact ih _ _ hw

theorem w_X12_heard_J63 {X : Cx} {G : Gl} {P : Int32 → Mem → Prop} (C : Ck X G RX12 cX12_heard 6 2) (r : RetI X G .int P) (x1 : Int32) (x2 : Int32) (x4 : Int32) (σ : Mem) (hw : v_X12_heard_J63 P x1 x2 x4 σ) : V X G 6 63 [(0, .ref (gA G 33)), (1, .int x1), (2, .int x2), (4, .int x4)] [] σ := by
  unfold v_X12_heard_J63 at hw
  refine v_aload_n (pc := 63) 0 C dX12_heard_63 rfl rfl ?_
  refine g_12_20 (pc := 64) C k_1134 dX12_heard_64 ?_
  refine v_iload_n (pc := 67) 2 C dX12_heard_67 rfl rfl ?_
  refine v_iald (pc := 68) C rfl hw.1 dX12_heard_68 ?_
  replace hw := hw.2
  refine v_bipush (pc := 69) (v := (-9)) C dX12_heard_69 (by decide) ?_
  refine v_icmp_ne (pc := 71) (tgt := 80) C dX12_heard_71 (by decide) (fun c => ?_) (fun c => ?_)
  · replace hw := hw.2 c
    refine v_iload (pc := 80) 3 C dX12_heard_80 rfl ?_
    refine v_if_lt (pc := 82) (tgt := 101) C dX12_heard_82 (by decide) (fun c => ?_) (fun c => ?_)
    · replace hw := hw.1 c
      refine v_sub [0] rfl ?_
      exact w_X12_heard_J101 C r _ hw
    · replace hw := hw.2 c
      refine v_iload (pc := 85) 3 C dX12_heard_85 rfl ?_
      refine v_aload_n (pc := 87) 0 C dX12_heard_87 rfl rfl ?_
      refine g_12_21 (pc := 88) C k_1135 dX12_heard_88 ?_
      refine v_iload_n (pc := 91) 2 C dX12_heard_91 rfl rfl ?_
      refine v_iald (pc := 92) C rfl hw.1 dX12_heard_92 ?_
      replace hw := hw.2
      refine v_aload_n (pc := 93) 0 C dX12_heard_93 rfl rfl ?_
      refine g_12_2 (pc := 94) C k_1116 dX12_heard_94 ?_
      refine v_isub (pc := 97) C dX12_heard_97 ?_
      refine v_icmp_le (pc := 98) (tgt := 107) C dX12_heard_98 (by decide) (fun c => ?_) (fun c => ?_)
      · replace hw := hw.1 c
        refine v_iconst (pc := 107) (v := 0) C dX12_heard_107 (by decide) ?_
        refine v_istore (pc := 108) C dX12_heard_108 (by decide) rfl ?_
        refine v_sub [1, 2, 3, 4, 0] rfl ?_
        refine w_X12_heard_L110 C r ?_ 5000 _ _ hw
        · intro σ_14 hw
          refine v_aload_n (pc := 151) 0 C dX12_heard_151 rfl rfl ?_
          refine g_12_33 (pc := 152) C k_1147 dX12_heard_152 ?_
          refine v_bipush (pc := 155) (v := 20) C dX12_heard_155 (by decide) ?_
          refine v_icmp_ne (pc := 157) (tgt := 163) C dX12_heard_157 (by decide) (fun c => ?_) (fun c => ?_)
          · replace hw := hw.2 c
            refine v_aload_n (pc := 163) 0 C dX12_heard_163 rfl rfl ?_
            refine g_12_34 (pc := 164) C k_1148 dX12_heard_164 ?_
            refine v_aload_n (pc := 167) 0 C dX12_heard_167 rfl rfl ?_
            refine g_12_33 (pc := 168) C k_1147 dX12_heard_168 ?_
            refine v_iload_n (pc := 171) 1 C dX12_heard_171 rfl rfl ?_
            refine v_iast (pc := 172) C rfl hw.1 dX12_heard_172 ?_
            replace hw := hw.2
            refine v_aload_n (pc := 173) 0 C dX12_heard_173 rfl rfl ?_
            refine g_12_35 (pc := 174) C k_1149 dX12_heard_174 ?_
            refine v_aload_n (pc := 177) 0 C dX12_heard_177 rfl rfl ?_
            refine g_12_33 (pc := 178) C k_1147 dX12_heard_178 ?_
            refine v_aload_n (pc := 181) 0 C dX12_heard_181 rfl rfl ?_
            refine g_12_2 (pc := 182) C k_1116 dX12_heard_182 ?_
            refine v_iast (pc := 185) C rfl hw.1 dX12_heard_185 ?_
            replace hw := hw.2
            refine v_iconst (pc := 186) (v := 0) C dX12_heard_186 (by decide) ?_
            refine v_istore (pc := 187) C dX12_heard_187 (by decide) rfl ?_
            refine v_sub [1, 3, 4, 0] rfl ?_
            refine w_X12_heard_L189 C r ?_ 5000 _ _ hw
            · intro σ_16 hw
              refine v_aload_n (pc := 234) 0 C dX12_heard_234 rfl rfl ?_
              refine v_dup (pc := 235) C dX12_heard_235 rfl ?_
              refine g_12_33 (pc := 236) C k_1147 dX12_heard_236 ?_
              refine v_iconst (pc := 239) (v := 1) C dX12_heard_239 (by decide) ?_
              refine v_iadd (pc := 240) C dX12_heard_240 ?_
              refine p_12_33 (pc := 241) C k_1147 dX12_heard_241 ?_
              refine v_aload_n (pc := 244) 0 C dX12_heard_244 rfl rfl ?_
              refine g_12_33 (pc := 245) C k_1147 dX12_heard_245 ?_
              refine v_iconst (pc := 248) (v := 1) C dX12_heard_248 (by decide) ?_
              refine v_isub (pc := 249) C dX12_heard_249 ?_
              exact v_iret (pc := 250) C r hw dX12_heard_250
          · replace hw := hw.1 c
            refine v_bipush (pc := 160) (v := (-4)) C dX12_heard_160 (by decide) ?_
            exact v_iret (pc := 162) C r hw dX12_heard_162
      · replace hw := hw.2 c
        refine v_sub [0] rfl ?_
        exact w_X12_heard_J101 C r _ hw
  · replace hw := hw.1 c
    refine v_aload_n (pc := 74) 0 C dX12_heard_74 rfl rfl ?_
    refine v_iconst (pc := 75) (v := 1) C dX12_heard_75 (by decide) ?_
    refine v_cVi (pc := 76) (o := 33) (As := [.int 1]) (rest := []) (ci := 12) C (c_X12_fails hw) pk_X12_fails k_1373 rfl (by decide) rfl (by decide) rfl rfl (Nat.le_of_ble_eq_true rfl) dX12_heard_76 (fun r_7 σ_8 hw => ?_)
    exact v_iret (pc := 79) C r hw dX12_heard_79

theorem c_X12_heard {l : Launch} {G : Gl} {a1 : Int32} {a2 : Int32} {a3 : Int32} {a4 : Int32} {σ : Mem} {P : Int32 → Mem → Prop} (hw : v_X12_heard a1 a2 a3 a4 σ P) : MetI l yX12_heard cX12_heard 6 .int 2 G [.ref (gA G 33), .int a1, .int a2, .int a3, .int a4] σ P := by
  refine MetI.of RX12 (by decide +kernel) rfl (Nat.le_of_ble_eq_true rfl) (fun X C r => ?_)
  show V X G 6 0 [(0, .ref (gA G 33)), (1, .int a1), (2, .int a2), (3, .int a3), (4, .int a4)] [] σ
  unfold v_X12_heard at hw
  refine v_aload_n (pc := 0) 0 C dX12_heard_0 rfl rfl ?_
  refine v_iconst (pc := 1) (v := 0) C dX12_heard_1 (by decide) ?_
  refine p_12_0 (pc := 2) C k_1114 dX12_heard_2 ?_
  refine v_iload_n (pc := 5) 2 C dX12_heard_5 rfl rfl ?_
  refine v_iconst (pc := 6) (v := 0) C dX12_heard_6 (by decide) ?_
  refine v_iconst (pc := 7) (v := 3) C dX12_heard_7 (by decide) ?_
  refine v_callSi (pc := 8) (As := [.int a2, .int 0, .int 3]) (rest := []) C (c_X12_within hw) pk_X12_within (Or.inl k_1234) (by decide) rfl rfl (Nat.le_of_ble_eq_true rfl) dX12_heard_8 (fun r_1 σ_2 hw => ?_)
  refine v_if_ne (pc := 11) (tgt := 16) C dX12_heard_11 (by decide) (fun c => ?_) (fun c => ?_)
  · replace hw := hw.2 c
    refine v_aload_n (pc := 16) 0 C dX12_heard_16 rfl rfl ?_
    refine v_iload_n (pc := 17) 1 C dX12_heard_17 rfl rfl ?_
    refine v_cVi (pc := 18) (o := 33) (As := [.int a1]) (rest := []) (ci := 12) C (c_X12_isSet hw) pk_X12_isSet k_1321 rfl (by decide) rfl (by decide) rfl rfl (Nat.le_of_ble_eq_true rfl) dX12_heard_18 (fun r_3 σ_4 hw => ?_)
    refine v_if_eq (pc := 21) (tgt := 33) C dX12_heard_21 (by decide) (fun c => ?_) (fun c => ?_)
    · replace hw := hw.1 c
      refine v_bipush (pc := 33) (v := (-2)) C dX12_heard_33 (by decide) ?_
      exact v_iret (pc := 35) C r hw dX12_heard_35
    · replace hw := hw.2 c
      refine v_iload_n (pc := 24) 3 C dX12_heard_24 rfl rfl ?_
      refine v_iconst (pc := 25) (v := 0) C dX12_heard_25 (by decide) ?_
      refine v_iconst (pc := 26) (v := 2) C dX12_heard_26 (by decide) ?_
      refine v_callSi (pc := 27) (As := [.int a3, .int 0, .int 2]) (rest := []) C (c_X12_within hw) pk_X12_within (Or.inl k_1234) (by decide) rfl rfl (Nat.le_of_ble_eq_true rfl) dX12_heard_27 (fun r_5 σ_6 hw => ?_)
      refine v_if_ne (pc := 30) (tgt := 36) C dX12_heard_30 (by decide) (fun c => ?_) (fun c => ?_)
      · replace hw := hw.2 c
        refine v_aload_n (pc := 36) 0 C dX12_heard_36 rfl rfl ?_
        refine g_12_20 (pc := 37) C k_1134 dX12_heard_37 ?_
        refine v_iload_n (pc := 40) 2 C dX12_heard_40 rfl rfl ?_
        refine v_iald (pc := 41) C rfl hw.1 dX12_heard_41 ?_
        replace hw := hw.2
        refine v_bipush (pc := 42) (v := (-9)) C dX12_heard_42 (by decide) ?_
        refine v_icmp_eq (pc := 44) (tgt := 63) C dX12_heard_44 (by decide) (fun c => ?_) (fun c => ?_)
        · replace hw := hw.1 c
          refine v_sub [0, 1, 2, 4] rfl ?_
          exact w_X12_heard_J63 C r _ _ _ _ hw
        · replace hw := hw.2 c
          refine v_aload_n (pc := 47) 0 C dX12_heard_47 rfl rfl ?_
          refine g_12_20 (pc := 48) C k_1134 dX12_heard_48 ?_
          refine v_iload_n (pc := 51) 2 C dX12_heard_51 rfl rfl ?_
          refine v_iald (pc := 52) C rfl hw.1 dX12_heard_52 ?_
          replace hw := hw.2
          refine v_iload_n (pc := 53) 3 C dX12_heard_53 rfl rfl ?_
          refine v_icmp_eq (pc := 54) (tgt := 63) C dX12_heard_54 (by decide) (fun c => ?_) (fun c => ?_)
          · replace hw := hw.1 c
            refine v_sub [0, 1, 2, 4] rfl ?_
            exact w_X12_heard_J63 C r _ _ _ _ hw
          · replace hw := hw.2 c
            refine v_aload_n (pc := 57) 0 C dX12_heard_57 rfl rfl ?_
            refine v_iconst (pc := 58) (v := 2) C dX12_heard_58 (by decide) ?_
            refine v_cVi (pc := 59) (o := 33) (As := [.int 2]) (rest := []) (ci := 12) C (c_X12_fails hw) pk_X12_fails k_1373 rfl (by decide) rfl (by decide) rfl rfl (Nat.le_of_ble_eq_true rfl) dX12_heard_59 (fun r_17 σ_18 hw => ?_)
            exact v_iret (pc := 62) C r hw dX12_heard_62
      · replace hw := hw.1 c
        refine v_bipush (pc := 33) (v := (-2)) C dX12_heard_33 (by decide) ?_
        exact v_iret (pc := 35) C r hw dX12_heard_35
  · replace hw := hw.1 c
    refine v_iconst (pc := 14) (v := (-1)) C dX12_heard_14 (by decide) ?_
    exact v_iret (pc := 15) C r hw dX12_heard_15

theorem w_X12_findMust_L2 {X : Cx} {G : Gl} {P : Mem → Prop} {K22 : Mem → Prop} (C : Ck X G RX12 cX12_findMust 5 0) (r : RetV X G P) (hK22 : ∀ (σ : Mem), K22 σ → V X G 5 22 [(0, .ref (gA G 33))] [] σ) : ∀ (n : Nat) (x1 : Int32) (σ : Mem), v_X12_findMust_L2 K22 P n x1 σ → V X G 5 2 [(0, .ref (gA G 33)), (1, .int x1)] [] σ := by
  intro n
  induction n with
  | zero => intro x1 σ hw; exact hw.elim
  | succ n ih =>
    intro x1 σ hw
    refine v_iload_n (pc := 2) 1 C dX12_findMust_2 rfl rfl ?_
    refine v_sipush (pc := 3) (v := 432) C dX12_findMust_3 (by decide) ?_
    refine v_icmp_ge (pc := 6) (tgt := 22) C dX12_findMust_6 (by decide) (fun c => ?_) (fun c => ?_)
    · replace hw := hw.1 c
      refine v_sub [0] rfl ?_
      exact hK22 _ hw
    · replace hw := hw.2 c
      refine v_aload_n (pc := 9) 0 C dX12_findMust_9 rfl rfl ?_
      refine g_12_37 (pc := 10) C k_1151 dX12_findMust_10 ?_
      refine v_iload_n (pc := 13) 1 C dX12_findMust_13 rfl rfl ?_
      refine v_iconst (pc := 14) (v := 0) C dX12_findMust_14 (by decide) ?_
      refine v_zast (pc := 15) C rfl hw.1 dX12_findMust_15 ?_
      replace hw := hw.2
      refine v_iinc (pc := 16) (v := x1 + 1) 1 C dX12_findMust_16 rfl rfl (by decide) rfl ?_
      refine v_goto (pc := 19) (tgt := 2) C dX12_findMust_19 (by decide) ?_
      refine v_sub [1, 0] rfl ?_
      exact ih _ _ hw

theorem w_X12_findMust_J102 {X : Cx} {G : Gl} {P : Mem → Prop} {kb : Int32 → Mem → Prop} {K126 : Mem → Prop} (C : Ck X G RX12 cX12_findMust 5 0) (r : RetV X G P) (x1 : Int32) (x2 : Int32) (x3 : Int32) (xs0 : Int32) (hkb : ∀ (x3 : Int32) (σ : Mem), kb x3 σ → V X G 5 46 [(0, .ref (gA G 33)), (1, .int x1), (2, .int x2), (3, .int x3)] [] σ) (hK126 : ∀ (σ : Mem), K126 σ → V X G 5 126 [(0, .ref (gA G 33)), (1, .int x1), (2, .int x2)] [] σ) (σ : Mem) (hw : v_X12_findMust_J102 kb K126 P x1 x2 x3 xs0 σ) : V X G 5 102 [(0, .ref (gA G 33)), (1, .int x1), (2, .int x2), (3, .int x3)] [.int xs0] σ := by
  unfold v_X12_findMust_J102 at hw
  refine v_istore (pc := 102) C dX12_findMust_102 (by decide) rfl ?_
  refine v_aload_n (pc := 104) 1 C dX12_findMust_104 rfl rfl ?_
  refine g_12_37 (pc := 105) C k_1151 dX12_findMust_105 ?_
  refine v_bipush (pc := 108) (v := 36) C dX12_findMust_108 (by decide) ?_
  refine v_iload_n (pc := 110) 4 C dX12_findMust_110 rfl rfl ?_
  refine v_imul (pc := 111) C dX12_findMust_111 ?_
  refine v_iload_n (pc := 112) 3 C dX12_findMust_112 rfl rfl ?_
  refine v_iadd (pc := 113) C dX12_findMust_113 ?_
  refine v_dup2 (pc := 114) C dX12_findMust_114 rfl rfl ?_
  refine v_zald (pc := 115) C rfl hw.1 dX12_findMust_115 ?_
  replace hw := hw.2
  refine v_iload (pc := 116) 0 C dX12_findMust_116 rfl ?_
  refine v_ior (pc := 118) C dX12_findMust_118 ?_
  refine v_zast (pc := 119) C rfl hw.1 dX12_findMust_119 ?_
  replace hw := hw.2
  refine v_iinc (pc := 120) (v := x3 + 1) 4 C dX12_findMust_120 rfl rfl (by decide) rfl ?_
  refine v_goto (pc := 123) (tgt := 46) C dX12_findMust_123 (by decide) ?_
  refine v_sub [2, 3, 4, 0] rfl ?_
  exact hkb _ _ hw

theorem w_X12_findMust_J101 {X : Cx} {G : Gl} {P : Mem → Prop} {kb : Int32 → Mem → Prop} {K126 : Mem → Prop} (C : Ck X G RX12 cX12_findMust 5 0) (r : RetV X G P) (x1 : Int32) (x2 : Int32) (x3 : Int32) (hkb : ∀ (x3 : Int32) (σ : Mem), kb x3 σ → V X G 5 46 [(0, .ref (gA G 33)), (1, .int x1), (2, .int x2), (3, .int x3)] [] σ) (hK126 : ∀ (σ : Mem), K126 σ → V X G 5 126 [(0, .ref (gA G 33)), (1, .int x1), (2, .int x2)] [] σ) (σ : Mem) (hw : v_X12_findMust_J101 kb K126 P x1 x2 x3 σ) : V X G 5 101 [(0, .ref (gA G 33)), (1, .int x1), (2, .int x2), (3, .int x3)] [] σ := by
  unfold v_X12_findMust_J101 at hw
  refine v_iconst (pc := 101) (v := 0) C dX12_findMust_101 (by decide) ?_
  refine v_sub [0, 1, 2, 3] rfl ?_
  exact w_X12_findMust_J102 C r _ _ _ _ hkb hK126 _ hw

theorem w_X12_findMust_L46 {X : Cx} {G : Gl} {P : Mem → Prop} {x1 : Int32} {x2 : Int32} {K126 : Mem → Prop} (C : Ck X G RX12 cX12_findMust 5 0) (r : RetV X G P) (hK126 : ∀ (σ : Mem), K126 σ → V X G 5 126 [(0, .ref (gA G 33)), (1, .int x1), (2, .int x2)] [] σ) : ∀ (n : Nat) (x3 : Int32) (σ : Mem), v_X12_findMust_L46 x1 x2 K126 P n x3 σ → V X G 5 46 [(0, .ref (gA G 33)), (1, .int x1), (2, .int x2), (3, .int x3)] [] σ := by
  intro n
  induction n with
  | zero => intro x3 σ hw; exact hw.elim
  | succ n ih =>
    intro x3 σ hw
    refine v_iload_n (pc := 46) 3 C dX12_findMust_46 rfl rfl ?_
    refine v_aload_n (pc := 47) 0 C dX12_findMust_47 rfl rfl ?_
    refine g_12_5 (pc := 48) C k_1119 dX12_findMust_48 ?_
    refine v_icmp_ge (pc := 51) (tgt := 126) C dX12_findMust_51 (by decide) (fun c => ?_) (fun c => ?_)
    · replace hw := hw.1 c
      refine v_sub [0, 1, 2] rfl ?_
      exact hK126 _ hw
    · replace hw := hw.2 c
      refine v_aload_n (pc := 54) 0 C dX12_findMust_54 rfl rfl ?_
      refine g_12_36 (pc := 55) C k_1150 dX12_findMust_55 ?_
      refine v_bipush (pc := 58) (v := 36) C dX12_findMust_58 (by decide) ?_
      refine v_iload_n (pc := 60) 1 C dX12_findMust_60 rfl rfl ?_
      refine v_imul (pc := 61) C dX12_findMust_61 ?_
      refine v_iload_n (pc := 62) 2 C dX12_findMust_62 rfl rfl ?_
      refine v_iadd (pc := 63) C dX12_findMust_63 ?_
      refine v_iald (pc := 64) C rfl hw.1 dX12_findMust_64 ?_
      replace hw := hw.2
      refine v_iconst (pc := 65) (v := 1) C dX12_findMust_65 (by decide) ?_
      refine v_icmp_ne (pc := 66) (tgt := 101) C dX12_findMust_66 (by decide) (fun c => ?_) (fun c => ?_)
      · replace hw := hw.2 c
        refine v_sub [0, 1, 2, 3] rfl ?_
        exact w_X12_findMust_J101 C r _ _ _ ih hK126 _ hw
      · replace hw := hw.1 c
        refine v_aload_n (pc := 69) 0 C dX12_findMust_69 rfl rfl ?_
        refine g_12_34 (pc := 70) C k_1148 dX12_findMust_70 ?_
        refine v_iload_n (pc := 73) 1 C dX12_findMust_73 rfl rfl ?_
        refine v_iald (pc := 74) C rfl hw.1 dX12_findMust_74 ?_
        replace hw := hw.2
        refine v_iload_n (pc := 75) 3 C dX12_findMust_75 rfl rfl ?_
        refine v_ishr (pc := 76) C dX12_findMust_76 ?_
        refine v_iconst (pc := 77) (v := 1) C dX12_findMust_77 (by decide) ?_
        refine v_iand (pc := 78) C dX12_findMust_78 ?_
        refine v_iconst (pc := 79) (v := 1) C dX12_findMust_79 (by decide) ?_
        refine v_icmp_ne (pc := 80) (tgt := 101) C dX12_findMust_80 (by decide) (fun c => ?_) (fun c => ?_)
        · replace hw := hw.2 c
          refine v_sub [0, 1, 2, 3] rfl ?_
          exact w_X12_findMust_J101 C r _ _ _ ih hK126 _ hw
        · replace hw := hw.1 c
          refine v_aload_n (pc := 83) 0 C dX12_findMust_83 rfl rfl ?_
          refine g_12_9 (pc := 84) C k_1123 dX12_findMust_84 ?_
          refine v_bipush (pc := 87) (v := 36) C dX12_findMust_87 (by decide) ?_
          refine v_iload_n (pc := 89) 3 C dX12_findMust_89 rfl rfl ?_
          refine v_imul (pc := 90) C dX12_findMust_90 ?_
          refine v_iload_n (pc := 91) 2 C dX12_findMust_91 rfl rfl ?_
          refine v_iadd (pc := 92) C dX12_findMust_92 ?_
          refine v_iald (pc := 93) C rfl hw.1 dX12_findMust_93 ?_
          replace hw := hw.2
          refine v_if_le (pc := 94) (tgt := 101) C dX12_findMust_94 (by decide) (fun c => ?_) (fun c => ?_)
          · replace hw := hw.1 c
            refine v_sub [0, 1, 2, 3] rfl ?_
            exact w_X12_findMust_J101 C r _ _ _ ih hK126 _ hw
          · replace hw := hw.2 c
            refine v_iconst (pc := 97) (v := 1) C dX12_findMust_97 (by decide) ?_
            refine v_goto (pc := 98) (tgt := 102) C dX12_findMust_98 (by decide) ?_
            refine v_sub [0, 1, 2, 3] rfl ?_
            exact w_X12_findMust_J102 C r _ _ _ _ ih hK126 _ hw

theorem w_X12_findMust_L34 {X : Cx} {G : Gl} {P : Mem → Prop} {x1 : Int32} {K132 : Mem → Prop} (C : Ck X G RX12 cX12_findMust 5 0) (r : RetV X G P) (hK132 : ∀ (σ : Mem), K132 σ → V X G 5 132 [(0, .ref (gA G 33)), (1, .int x1)] [] σ) : ∀ (n : Nat) (x2 : Int32) (σ : Mem), v_X12_findMust_L34 x1 K132 P n x2 σ → V X G 5 34 [(0, .ref (gA G 33)), (1, .int x1), (2, .int x2)] [] σ := by
  intro n
  induction n with
  | zero => intro x2 σ hw; exact hw.elim
  | succ n ih =>
    intro x2 σ hw
    refine v_iload_n (pc := 34) 2 C dX12_findMust_34 rfl rfl ?_
    refine v_aload_n (pc := 35) 0 C dX12_findMust_35 rfl rfl ?_
    refine g_12_35 (pc := 36) C k_1149 dX12_findMust_36 ?_
    refine v_iload_n (pc := 39) 1 C dX12_findMust_39 rfl rfl ?_
    refine v_iald (pc := 40) C rfl hw.1 dX12_findMust_40 ?_
    replace hw := hw.2
    refine v_icmp_ge (pc := 41) (tgt := 132) C dX12_findMust_41 (by decide) (fun c => ?_) (fun c => ?_)
    · replace hw := hw.1 c
      refine v_sub [0, 1] rfl ?_
      exact hK132 _ hw
    · replace hw := hw.2 c
      refine v_iconst (pc := 44) (v := 0) C dX12_findMust_44 (by decide) ?_
      refine v_istore_n (pc := 45) C dX12_findMust_45 rfl (by decide) rfl ?_
      refine v_sub [1, 2, 3, 0] rfl ?_
      refine w_X12_findMust_L46 C r ?_ 5000 _ _ hw
      · intro σ_4 hw
        refine v_iinc (pc := 126) (v := x2 + 1) 2 C dX12_findMust_126 rfl rfl (by decide) rfl ?_
        refine v_goto (pc := 129) (tgt := 34) C dX12_findMust_129 (by decide) ?_
        refine v_sub [1, 2, 0] rfl ?_
        exact ih _ _ hw

theorem w_X12_findMust_L24 {X : Cx} {G : Gl} {P : Mem → Prop} (C : Ck X G RX12 cX12_findMust 5 0) (r : RetV X G P) : ∀ (n : Nat) (x1 : Int32) (σ : Mem), v_X12_findMust_L24 P n x1 σ → V X G 5 24 [(0, .ref (gA G 33)), (1, .int x1)] [] σ := by
  intro n
  induction n with
  | zero => intro x1 σ hw; exact hw.elim
  | succ n ih =>
    intro x1 σ hw
    refine v_iload_n (pc := 24) 1 C dX12_findMust_24 rfl rfl ?_
    refine v_aload_n (pc := 25) 0 C dX12_findMust_25 rfl rfl ?_
    refine g_12_33 (pc := 26) C k_1147 dX12_findMust_26 ?_
    refine v_icmp_ge (pc := 29) (tgt := 138) C dX12_findMust_29 (by decide) (fun c => ?_) (fun c => ?_)
    · replace hw := hw.1 c
      exact v_vret (pc := 138) C r hw dX12_findMust_138
    · replace hw := hw.2 c
      refine v_iconst (pc := 32) (v := 0) C dX12_findMust_32 (by decide) ?_
      refine v_istore_n (pc := 33) C dX12_findMust_33 rfl (by decide) rfl ?_
      refine v_sub [1, 2, 0] rfl ?_
      refine w_X12_findMust_L34 C r ?_ 5000 _ _ hw
      · intro σ_6 hw
        refine v_iinc (pc := 132) (v := x1 + 1) 1 C dX12_findMust_132 rfl rfl (by decide) rfl ?_
        refine v_goto (pc := 135) (tgt := 24) C dX12_findMust_135 (by decide) ?_
        refine v_sub [1, 0] rfl ?_
        exact ih _ _ hw

theorem c_X12_findMust {l : Launch} {G : Gl} {σ : Mem} {P : Mem → Prop} (hw : v_X12_findMust σ P) : MetV l yX12_findMust cX12_findMust 5 0 G [.ref (gA G 33)] σ P := by
  refine MetV.of RX12 (by decide +kernel) rfl (Nat.le_of_ble_eq_true rfl) (fun X C r => ?_)
  show V X G 5 0 [(0, .ref (gA G 33))] [] σ
  unfold v_X12_findMust at hw
  refine v_iconst (pc := 0) (v := 0) C dX12_findMust_0 (by decide) ?_
  refine v_istore_n (pc := 1) C dX12_findMust_1 rfl (by decide) rfl ?_
  refine v_sub [1, 0] rfl ?_
  refine w_X12_findMust_L2 C r ?_ 5000 _ _ hw
  · intro σ_2 hw
    refine v_iconst (pc := 22) (v := 0) C dX12_findMust_22 (by decide) ?_
    refine v_istore_n (pc := 23) C dX12_findMust_23 rfl (by decide) rfl ?_
    refine v_sub [1, 0] rfl ?_
    refine w_X12_findMust_L24 C r 5000 _ _ hw

theorem w_X12_mayBeWhole_L5 {X : Cx} {G : Gl} {P : Int32 → Mem → Prop} {x1 : Int32} {x2 : Int32} (C : Ck X G RX12 cX12_mayBeWhole 5 0) (r : RetI X G .int P) : ∀ (n : Nat) (x3 : Int32) (x4 : Int32) (σ : Mem), v_X12_mayBeWhole_L5 x1 x2 P n x3 x4 σ → V X G 5 5 [(0, .ref (gA G 33)), (1, .int x1), (2, .int x2), (3, .int x3), (4, .int x4)] [] σ := by
  intro n
  induction n with
  | zero => intro x3 x4 σ hw; exact hw.elim
  | succ n ih =>
    intro x3 x4 σ hw
    refine v_iload (pc := 5) 4 C dX12_mayBeWhole_5 rfl ?_
    refine v_aload_n (pc := 7) 0 C dX12_mayBeWhole_7 rfl rfl ?_
    refine g_12_5 (pc := 8) C k_1119 dX12_mayBeWhole_8 ?_
    refine v_icmp_ge (pc := 11) (tgt := 73) C dX12_mayBeWhole_11 (by decide) (fun c => ?_) (fun c => ?_)
    · replace hw := hw.1 c
      refine v_iload_n (pc := 73) 3 C dX12_mayBeWhole_73 rfl rfl ?_
      exact v_iret (pc := 74) C r hw dX12_mayBeWhole_74
    · replace hw := hw.2 c
      refine v_iload_n (pc := 14) 3 C dX12_mayBeWhole_14 rfl rfl ?_
      refine v_aload_n (pc := 15) 0 C dX12_mayBeWhole_15 rfl rfl ?_
      refine g_12_34 (pc := 16) C k_1148 dX12_mayBeWhole_16 ?_
      refine v_iload_n (pc := 19) 1 C dX12_mayBeWhole_19 rfl rfl ?_
      refine v_iald (pc := 20) C rfl hw.1 dX12_mayBeWhole_20 ?_
      replace hw := hw.2
      refine v_iload (pc := 21) 4 C dX12_mayBeWhole_21 rfl ?_
      refine v_ishr (pc := 23) C dX12_mayBeWhole_23 ?_
      refine v_iconst (pc := 24) (v := 1) C dX12_mayBeWhole_24 (by decide) ?_
      refine v_iand (pc := 25) C dX12_mayBeWhole_25 ?_
      refine v_iconst (pc := 26) (v := 1) C dX12_mayBeWhole_26 (by decide) ?_
      refine v_icmp_ne (pc := 27) (tgt := 64) C dX12_mayBeWhole_27 (by decide) (fun c => ?_) (fun c => ?_)
      · replace hw := hw.2 c
        refine v_iconst (pc := 64) (v := 0) C dX12_mayBeWhole_64 (by decide) ?_
        refine v_iadd (pc := 65) C dX12_mayBeWhole_65 ?_
        refine v_istore_n (pc := 66) C dX12_mayBeWhole_66 rfl (by decide) rfl ?_
        refine v_iinc (pc := 67) (v := x4 + 1) 4 C dX12_mayBeWhole_67 rfl rfl (by decide) rfl ?_
        refine v_goto (pc := 70) (tgt := 5) C dX12_mayBeWhole_70 (by decide) ?_
        refine v_sub [2, 3, 4, 1, 0] rfl ?_
        exact ih _ _ _ hw
      · replace hw := hw.1 c
        refine v_aload_n (pc := 30) 0 C dX12_mayBeWhole_30 rfl rfl ?_
        refine g_12_9 (pc := 31) C k_1123 dX12_mayBeWhole_31 ?_
        refine v_bipush (pc := 34) (v := 36) C dX12_mayBeWhole_34 (by decide) ?_
        refine v_iload (pc := 36) 4 C dX12_mayBeWhole_36 rfl ?_
        refine v_imul (pc := 38) C dX12_mayBeWhole_38 ?_
        refine v_iload_n (pc := 39) 2 C dX12_mayBeWhole_39 rfl rfl ?_
        refine v_iadd (pc := 40) C dX12_mayBeWhole_40 ?_
        refine v_iald (pc := 41) C rfl hw.1 dX12_mayBeWhole_41 ?_
        replace hw := hw.2
        refine v_if_le (pc := 42) (tgt := 64) C dX12_mayBeWhole_42 (by decide) (fun c => ?_) (fun c => ?_)
        · replace hw := hw.1 c
          refine v_iconst (pc := 64) (v := 0) C dX12_mayBeWhole_64 (by decide) ?_
          refine v_iadd (pc := 65) C dX12_mayBeWhole_65 ?_
          refine v_istore_n (pc := 66) C dX12_mayBeWhole_66 rfl (by decide) rfl ?_
          refine v_iinc (pc := 67) (v := x4 + 1) 4 C dX12_mayBeWhole_67 rfl rfl (by decide) rfl ?_
          refine v_goto (pc := 70) (tgt := 5) C dX12_mayBeWhole_70 (by decide) ?_
          refine v_sub [2, 3, 4, 1, 0] rfl ?_
          exact ih _ _ _ hw
        · replace hw := hw.2 c
          refine v_aload_n (pc := 45) 0 C dX12_mayBeWhole_45 rfl rfl ?_
          refine g_12_37 (pc := 46) C k_1151 dX12_mayBeWhole_46 ?_
          refine v_bipush (pc := 49) (v := 36) C dX12_mayBeWhole_49 (by decide) ?_
          refine v_iload (pc := 51) 4 C dX12_mayBeWhole_51 rfl ?_
          refine v_imul (pc := 53) C dX12_mayBeWhole_53 ?_
          refine v_iload_n (pc := 54) 2 C dX12_mayBeWhole_54 rfl rfl ?_
          refine v_iadd (pc := 55) C dX12_mayBeWhole_55 ?_
          refine v_zald (pc := 56) C rfl hw.1 dX12_mayBeWhole_56 ?_
          replace hw := hw.2
          refine v_if_ne (pc := 57) (tgt := 64) C dX12_mayBeWhole_57 (by decide) (fun c => ?_) (fun c => ?_)
          · replace hw := hw.2 c
            refine v_iconst (pc := 64) (v := 0) C dX12_mayBeWhole_64 (by decide) ?_
            refine v_iadd (pc := 65) C dX12_mayBeWhole_65 ?_
            refine v_istore_n (pc := 66) C dX12_mayBeWhole_66 rfl (by decide) rfl ?_
            refine v_iinc (pc := 67) (v := x4 + 1) 4 C dX12_mayBeWhole_67 rfl rfl (by decide) rfl ?_
            refine v_goto (pc := 70) (tgt := 5) C dX12_mayBeWhole_70 (by decide) ?_
            refine v_sub [2, 3, 4, 1, 0] rfl ?_
            exact ih _ _ _ hw
          · replace hw := hw.1 c
            refine v_iconst (pc := 60) (v := 1) C dX12_mayBeWhole_60 (by decide) ?_
            refine v_goto (pc := 61) (tgt := 65) C dX12_mayBeWhole_61 (by decide) ?_
            refine v_iadd (pc := 65) C dX12_mayBeWhole_65 ?_
            refine v_istore_n (pc := 66) C dX12_mayBeWhole_66 rfl (by decide) rfl ?_
            refine v_iinc (pc := 67) (v := x4 + 1) 4 C dX12_mayBeWhole_67 rfl rfl (by decide) rfl ?_
            refine v_goto (pc := 70) (tgt := 5) C dX12_mayBeWhole_70 (by decide) ?_
            refine v_sub [2, 3, 4, 1, 0] rfl ?_
            exact ih _ _ _ hw

theorem c_X12_mayBeWhole {l : Launch} {G : Gl} {a1 : Int32} {a2 : Int32} {σ : Mem} {P : Int32 → Mem → Prop} (hw : v_X12_mayBeWhole a1 a2 σ P) : MetI l yX12_mayBeWhole cX12_mayBeWhole 5 .int 0 G [.ref (gA G 33), .int a1, .int a2] σ P := by
  refine MetI.of RX12 (by decide +kernel) rfl (Nat.le_of_ble_eq_true rfl) (fun X C r => ?_)
  show V X G 5 0 [(0, .ref (gA G 33)), (1, .int a1), (2, .int a2)] [] σ
  unfold v_X12_mayBeWhole at hw
  refine v_iconst (pc := 0) (v := 0) C dX12_mayBeWhole_0 (by decide) ?_
  refine v_istore_n (pc := 1) C dX12_mayBeWhole_1 rfl (by decide) rfl ?_
  refine v_iconst (pc := 2) (v := 0) C dX12_mayBeWhole_2 (by decide) ?_
  refine v_istore (pc := 3) C dX12_mayBeWhole_3 (by decide) rfl ?_
  refine v_sub [2, 3, 4, 1, 0] rfl ?_
  refine w_X12_mayBeWhole_L5 C r 5000 _ _ _ hw

theorem w_X12_isExplained_L16 {X : Cx} {G : Gl} {P : Int32 → Mem → Prop} {x1 : Int32} {K57 : Mem → Prop} (C : Ck X G RX12 cX12_isExplained 3 1) (r : RetI X G .boolean P) (hK57 : ∀ (σ : Mem), K57 σ → V X G 3 57 [(0, .ref (gA G 33)), (1, .int x1)] [] σ) : ∀ (n : Nat) (x2 : Int32) (σ : Mem), v_X12_isExplained_L16 x1 K57 P n x2 σ → V X G 3 16 [(0, .ref (gA G 33)), (1, .int x1), (2, .int x2)] [] σ := by
  intro n
  induction n with
  | zero => intro x2 σ hw; exact hw.elim
  | succ n ih =>
    intro x2 σ hw
    refine v_iload_n (pc := 16) 2 C dX12_isExplained_16 rfl rfl ?_
    refine v_aload_n (pc := 17) 0 C dX12_isExplained_17 rfl rfl ?_
    refine g_12_35 (pc := 18) C k_1149 dX12_isExplained_18 ?_
    refine v_iload_n (pc := 21) 1 C dX12_isExplained_21 rfl rfl ?_
    refine v_iald (pc := 22) C rfl hw.1 dX12_isExplained_22 ?_
    replace hw := hw.2
    refine v_icmp_ge (pc := 23) (tgt := 57) C dX12_isExplained_23 (by decide) (fun c => ?_) (fun c => ?_)
    · replace hw := hw.1 c
      refine v_sub [0, 1] rfl ?_
      exact hK57 _ hw
    · replace hw := hw.2 c
      refine v_aload_n (pc := 26) 0 C dX12_isExplained_26 rfl rfl ?_
      refine g_12_36 (pc := 27) C k_1150 dX12_isExplained_27 ?_
      refine v_bipush (pc := 30) (v := 36) C dX12_isExplained_30 (by decide) ?_
      refine v_iload_n (pc := 32) 1 C dX12_isExplained_32 rfl rfl ?_
      refine v_imul (pc := 33) C dX12_isExplained_33 ?_
      refine v_iload_n (pc := 34) 2 C dX12_isExplained_34 rfl rfl ?_
      refine v_iadd (pc := 35) C dX12_isExplained_35 ?_
      refine v_iald (pc := 36) C rfl hw.1 dX12_isExplained_36 ?_
      replace hw := hw.2
      refine v_if_ne (pc := 37) (tgt := 51) C dX12_isExplained_37 (by decide) (fun c => ?_) (fun c => ?_)
      · replace hw := hw.2 c
        refine v_iinc (pc := 51) (v := x2 + 1) 2 C dX12_isExplained_51 rfl rfl (by decide) rfl ?_
        refine v_goto (pc := 54) (tgt := 16) C dX12_isExplained_54 (by decide) ?_
        refine v_sub [1, 2, 0] rfl ?_
        exact ih _ _ hw
      · replace hw := hw.1 c
        refine v_aload_n (pc := 40) 0 C dX12_isExplained_40 rfl rfl ?_
        refine v_iload_n (pc := 41) 1 C dX12_isExplained_41 rfl rfl ?_
        refine v_iload_n (pc := 42) 2 C dX12_isExplained_42 rfl rfl ?_
        refine v_cVi (pc := 43) (o := 33) (As := [.int x1, .int x2]) (rest := []) (ci := 12) C (c_X12_mayBeWhole hw) pk_X12_mayBeWhole k_1545 rfl (by decide) rfl (by decide) rfl rfl (Nat.le_of_ble_eq_true rfl) dX12_isExplained_43 (fun r_2 σ_3 hw => ?_)
        refine v_if_ne (pc := 46) (tgt := 51) C dX12_isExplained_46 (by decide) (fun c => ?_) (fun c => ?_)
        · replace hw := hw.2 c
          refine v_iinc (pc := 51) (v := x2 + 1) 2 C dX12_isExplained_51 rfl rfl (by decide) rfl ?_
          refine v_goto (pc := 54) (tgt := 16) C dX12_isExplained_54 (by decide) ?_
          refine v_sub [1, 2, 0] rfl ?_
          exact ih _ _ hw
        · replace hw := hw.1 c
          refine v_iconst (pc := 49) (v := 0) C dX12_isExplained_49 (by decide) ?_
          exact v_zret (pc := 50) C r (Or.inl rfl) hw dX12_isExplained_50

theorem w_X12_isExplained_L6 {X : Cx} {G : Gl} {P : Int32 → Mem → Prop} (C : Ck X G RX12 cX12_isExplained 3 1) (r : RetI X G .boolean P) : ∀ (n : Nat) (x1 : Int32) (σ : Mem), v_X12_isExplained_L6 P n x1 σ → V X G 3 6 [(0, .ref (gA G 33)), (1, .int x1)] [] σ := by
  intro n
  induction n with
  | zero => intro x1 σ hw; exact hw.elim
  | succ n ih =>
    intro x1 σ hw
    refine v_iload_n (pc := 6) 1 C dX12_isExplained_6 rfl rfl ?_
    refine v_aload_n (pc := 7) 0 C dX12_isExplained_7 rfl rfl ?_
    refine g_12_33 (pc := 8) C k_1147 dX12_isExplained_8 ?_
    refine v_icmp_ge (pc := 11) (tgt := 63) C dX12_isExplained_11 (by decide) (fun c => ?_) (fun c => ?_)
    · replace hw := hw.1 c
      refine v_iconst (pc := 63) (v := 1) C dX12_isExplained_63 (by decide) ?_
      exact v_zret (pc := 64) C r (Or.inr rfl) hw dX12_isExplained_64
    · replace hw := hw.2 c
      refine v_iconst (pc := 14) (v := 0) C dX12_isExplained_14 (by decide) ?_
      refine v_istore_n (pc := 15) C dX12_isExplained_15 rfl (by decide) rfl ?_
      refine v_sub [1, 2, 0] rfl ?_
      refine w_X12_isExplained_L16 C r ?_ 5000 _ _ hw
      · intro σ_5 hw
        refine v_iinc (pc := 57) (v := x1 + 1) 1 C dX12_isExplained_57 rfl rfl (by decide) rfl ?_
        refine v_goto (pc := 60) (tgt := 6) C dX12_isExplained_60 (by decide) ?_
        refine v_sub [1, 0] rfl ?_
        exact ih _ _ hw

theorem c_X12_isExplained {l : Launch} {G : Gl} {σ : Mem} {P : Int32 → Mem → Prop} (hw : v_X12_isExplained σ P) : MetI l yX12_isExplained cX12_isExplained 3 .boolean 1 G [.ref (gA G 33)] σ P := by
  refine MetI.of RX12 (by decide +kernel) rfl (Nat.le_of_ble_eq_true rfl) (fun X C r => ?_)
  show V X G 3 0 [(0, .ref (gA G 33))] [] σ
  unfold v_X12_isExplained at hw
  refine v_aload_n (pc := 0) 0 C dX12_isExplained_0 rfl rfl ?_
  refine v_cVv (pc := 1) (o := 33) (As := []) (rest := []) (ci := 12) C (c_X12_findMust hw) pk_X12_findMust k_1541 rfl (by decide) rfl (by decide) rfl rfl (Nat.le_of_ble_eq_true rfl) dX12_isExplained_1 (fun σ_1 hw => ?_)
  refine v_iconst (pc := 4) (v := 0) C dX12_isExplained_4 (by decide) ?_
  refine v_istore_n (pc := 5) C dX12_isExplained_5 rfl (by decide) rfl ?_
  refine v_sub [1, 0] rfl ?_
  refine w_X12_isExplained_L6 C r 5000 _ _ hw

theorem w_X12_worn_L14 {X : Cx} {G : Gl} {P : Int32 → Mem → Prop} (C : Ck X G RX12 cX12_worn 3 2) (r : RetI X G .int P) : ∀ (n : Nat) (x1 : Int32) (x2 : Int32) (σ : Mem), v_X12_worn_L14 P n x1 x2 σ → V X G 3 14 [(0, .ref (gA G 33)), (1, .int x1), (2, .int x2)] [] σ := by
  intro n
  induction n with
  | zero => intro x1 x2 σ hw; exact hw.elim
  | succ n ih =>
    intro x1 x2 σ hw
    refine v_iload_n (pc := 14) 2 C dX12_worn_14 rfl rfl ?_
    refine v_sipush (pc := 15) (v := 432) C dX12_worn_15 (by decide) ?_
    refine v_icmp_ge (pc := 18) (tgt := 44) C dX12_worn_18 (by decide) (fun c => ?_) (fun c => ?_)
    · replace hw := hw.1 c
      refine v_iload_n (pc := 44) 1 C dX12_worn_44 rfl rfl ?_
      exact v_iret (pc := 45) C r hw dX12_worn_45
    · replace hw := hw.2 c
      refine v_iload_n (pc := 21) 1 C dX12_worn_21 rfl rfl ?_
      refine v_aload_n (pc := 22) 0 C dX12_worn_22 rfl rfl ?_
      refine g_12_37 (pc := 23) C k_1151 dX12_worn_23 ?_
      refine v_iload_n (pc := 26) 2 C dX12_worn_26 rfl rfl ?_
      refine v_zald (pc := 27) C rfl hw.1 dX12_worn_27 ?_
      replace hw := hw.2
      refine v_if_eq (pc := 28) (tgt := 35) C dX12_worn_28 (by decide) (fun c => ?_) (fun c => ?_)
      · replace hw := hw.1 c
        refine v_iconst (pc := 35) (v := 0) C dX12_worn_35 (by decide) ?_
        refine v_iadd (pc := 36) C dX12_worn_36 ?_
        refine v_istore_n (pc := 37) C dX12_worn_37 rfl (by decide) rfl ?_
        refine v_iinc (pc := 38) (v := x2 + 1) 2 C dX12_worn_38 rfl rfl (by decide) rfl ?_
        refine v_goto (pc := 41) (tgt := 14) C dX12_worn_41 (by decide) ?_
        refine v_sub [2, 1, 0] rfl ?_
        exact ih _ _ _ hw
      · replace hw := hw.2 c
        refine v_iconst (pc := 31) (v := 1) C dX12_worn_31 (by decide) ?_
        refine v_goto (pc := 32) (tgt := 36) C dX12_worn_32 (by decide) ?_
        refine v_iadd (pc := 36) C dX12_worn_36 ?_
        refine v_istore_n (pc := 37) C dX12_worn_37 rfl (by decide) rfl ?_
        refine v_iinc (pc := 38) (v := x2 + 1) 2 C dX12_worn_38 rfl rfl (by decide) rfl ?_
        refine v_goto (pc := 41) (tgt := 14) C dX12_worn_41 (by decide) ?_
        refine v_sub [2, 1, 0] rfl ?_
        exact ih _ _ _ hw

theorem c_X12_worn {l : Launch} {G : Gl} {σ : Mem} {P : Int32 → Mem → Prop} (hw : v_X12_worn σ P) : MetI l yX12_worn cX12_worn 3 .int 2 G [.ref (gA G 33)] σ P := by
  refine MetI.of RX12 (by decide +kernel) rfl (Nat.le_of_ble_eq_true rfl) (fun X C r => ?_)
  show V X G 3 0 [(0, .ref (gA G 33))] [] σ
  unfold v_X12_worn at hw
  refine v_aload_n (pc := 0) 0 C dX12_worn_0 rfl rfl ?_
  refine v_cVi (pc := 1) (o := 33) (As := []) (rest := []) (ci := 12) C (c_X12_isExplained hw) pk_X12_isExplained k_1537 rfl (by decide) rfl (by decide) rfl rfl (Nat.le_of_ble_eq_true rfl) dX12_worn_1 (fun r_1 σ_2 hw => ?_)
  refine v_if_ne (pc := 4) (tgt := 10) C dX12_worn_4 (by decide) (fun c => ?_) (fun c => ?_)
  · replace hw := hw.2 c
    refine v_iconst (pc := 10) (v := 0) C dX12_worn_10 (by decide) ?_
    refine v_istore_n (pc := 11) C dX12_worn_11 rfl (by decide) rfl ?_
    refine v_iconst (pc := 12) (v := 0) C dX12_worn_12 (by decide) ?_
    refine v_istore_n (pc := 13) C dX12_worn_13 rfl (by decide) rfl ?_
    refine v_sub [2, 1, 0] rfl ?_
    refine w_X12_worn_L14 C r 5000 _ _ _ hw
  · replace hw := hw.1 c
    refine v_bipush (pc := 7) (v := (-9)) C dX12_worn_7 (by decide) ?_
    exact v_iret (pc := 9) C r hw dX12_worn_9

theorem w_X12_sure_J111 {X : Cx} {G : Gl} {P : Int32 → Mem → Prop} {kb : Int32 → Mem → Prop} (C : Ck X G RX12 cX12_sure 5 2) (r : RetI X G .int P) (x1 : Int32) (x2 : Int32) (x3 : Int32) (xs0 : Int32) (hkb : ∀ (x3 : Int32) (σ : Mem), kb x3 σ → V X G 5 60 [(0, .ref (gA G 33)), (1, .int x1), (2, .int x2), (3, .int x3)] [] σ) (σ : Mem) (hw : v_X12_sure_J111 kb P x1 x2 x3 xs0 σ) : V X G 5 111 [(0, .ref (gA G 33)), (1, .int x1), (2, .int x2), (3, .int x3)] [.int xs0] σ := by
  unfold v_X12_sure_J111 at hw
  refine v_istore (pc := 111) C dX12_sure_111 (by decide) rfl ?_
  refine v_iload (pc := 113) 0 C dX12_sure_113 rfl ?_
  refine v_if_eq (pc := 115) (tgt := 130) C dX12_sure_115 (by decide) (fun c => ?_) (fun c => ?_)
  · replace hw := hw.1 c
    refine v_iinc (pc := 130) (v := x3 + 1) 4 C dX12_sure_130 rfl rfl (by decide) rfl ?_
    refine v_goto (pc := 133) (tgt := 60) C dX12_sure_133 (by decide) ?_
    refine v_sub [2, 3, 4, 0] rfl ?_
    exact hkb _ _ hw
  · replace hw := hw.2 c
    refine v_aload_n (pc := 118) 1 C dX12_sure_118 rfl rfl ?_
    refine v_iload_n (pc := 119) 4 C dX12_sure_119 rfl rfl ?_
    refine v_iload_n (pc := 120) 3 C dX12_sure_120 rfl rfl ?_
    refine v_cVi (pc := 121) (o := 33) (As := [.int x3, .int x2]) (rest := []) (ci := 12) C (c_X12_mayBeWhole hw) pk_X12_mayBeWhole k_1545 rfl (by decide) rfl (by decide) rfl rfl (Nat.le_of_ble_eq_true rfl) dX12_sure_121 (fun r_7 σ_8 hw => ?_)
    refine v_iconst (pc := 124) (v := 1) C dX12_sure_124 (by decide) ?_
    refine v_icmp_ne (pc := 125) (tgt := 130) C dX12_sure_125 (by decide) (fun c => ?_) (fun c => ?_)
    · replace hw := hw.2 c
      refine v_iinc (pc := 130) (v := x3 + 1) 4 C dX12_sure_130 rfl rfl (by decide) rfl ?_
      refine v_goto (pc := 133) (tgt := 60) C dX12_sure_133 (by decide) ?_
      refine v_sub [2, 3, 4, 0] rfl ?_
      exact hkb _ _ hw
    · replace hw := hw.1 c
      refine v_iconst (pc := 128) (v := 0) C dX12_sure_128 (by decide) ?_
      exact v_iret (pc := 129) C r hw dX12_sure_129

theorem w_X12_sure_J110 {X : Cx} {G : Gl} {P : Int32 → Mem → Prop} {kb : Int32 → Mem → Prop} (C : Ck X G RX12 cX12_sure 5 2) (r : RetI X G .int P) (x1 : Int32) (x2 : Int32) (x3 : Int32) (hkb : ∀ (x3 : Int32) (σ : Mem), kb x3 σ → V X G 5 60 [(0, .ref (gA G 33)), (1, .int x1), (2, .int x2), (3, .int x3)] [] σ) (σ : Mem) (hw : v_X12_sure_J110 kb P x1 x2 x3 σ) : V X G 5 110 [(0, .ref (gA G 33)), (1, .int x1), (2, .int x2), (3, .int x3)] [] σ := by
  unfold v_X12_sure_J110 at hw
  refine v_iconst (pc := 110) (v := 0) C dX12_sure_110 (by decide) ?_
  refine v_sub [0, 1, 2, 3] rfl ?_
  exact w_X12_sure_J111 C r _ _ _ _ hkb _ hw

theorem w_X12_sure_L60 {X : Cx} {G : Gl} {P : Int32 → Mem → Prop} {x1 : Int32} {x2 : Int32} (C : Ck X G RX12 cX12_sure 5 2) (r : RetI X G .int P) : ∀ (n : Nat) (x3 : Int32) (σ : Mem), v_X12_sure_L60 x1 x2 P n x3 σ → V X G 5 60 [(0, .ref (gA G 33)), (1, .int x1), (2, .int x2), (3, .int x3)] [] σ := by
  intro n
  induction n with
  | zero => intro x3 σ hw; exact hw.elim
  | succ n ih =>
    intro x3 σ hw
    refine v_iload_n (pc := 60) 3 C dX12_sure_60 rfl rfl ?_
    refine v_aload_n (pc := 61) 0 C dX12_sure_61 rfl rfl ?_
    refine g_12_33 (pc := 62) C k_1147 dX12_sure_62 ?_
    refine v_icmp_ge (pc := 65) (tgt := 136) C dX12_sure_65 (by decide) (fun c => ?_) (fun c => ?_)
    · replace hw := hw.1 c
      refine v_iconst (pc := 136) (v := 2) C dX12_sure_136 (by decide) ?_
      exact v_iret (pc := 137) C r hw dX12_sure_137
    · replace hw := hw.2 c
      refine v_iload_n (pc := 68) 2 C dX12_sure_68 rfl rfl ?_
      refine v_aload_n (pc := 69) 0 C dX12_sure_69 rfl rfl ?_
      refine g_12_35 (pc := 70) C k_1149 dX12_sure_70 ?_
      refine v_iload_n (pc := 73) 3 C dX12_sure_73 rfl rfl ?_
      refine v_iald (pc := 74) C rfl hw.1 dX12_sure_74 ?_
      replace hw := hw.2
      refine v_icmp_ge (pc := 75) (tgt := 110) C dX12_sure_75 (by decide) (fun c => ?_) (fun c => ?_)
      · replace hw := hw.1 c
        refine v_sub [0, 1, 2, 3] rfl ?_
        exact w_X12_sure_J110 C r _ _ _ ih _ hw
      · replace hw := hw.2 c
        refine v_aload_n (pc := 78) 0 C dX12_sure_78 rfl rfl ?_
        refine g_12_36 (pc := 79) C k_1150 dX12_sure_79 ?_
        refine v_bipush (pc := 82) (v := 36) C dX12_sure_82 (by decide) ?_
        refine v_iload_n (pc := 84) 3 C dX12_sure_84 rfl rfl ?_
        refine v_imul (pc := 85) C dX12_sure_85 ?_
        refine v_iload_n (pc := 86) 2 C dX12_sure_86 rfl rfl ?_
        refine v_iadd (pc := 87) C dX12_sure_87 ?_
        refine v_iald (pc := 88) C rfl hw.1 dX12_sure_88 ?_
        replace hw := hw.2
        refine v_if_ne (pc := 89) (tgt := 110) C dX12_sure_89 (by decide) (fun c => ?_) (fun c => ?_)
        · replace hw := hw.2 c
          refine v_sub [0, 1, 2, 3] rfl ?_
          exact w_X12_sure_J110 C r _ _ _ ih _ hw
        · replace hw := hw.1 c
          refine v_aload_n (pc := 92) 0 C dX12_sure_92 rfl rfl ?_
          refine g_12_34 (pc := 93) C k_1148 dX12_sure_93 ?_
          refine v_iload_n (pc := 96) 3 C dX12_sure_96 rfl rfl ?_
          refine v_iald (pc := 97) C rfl hw.1 dX12_sure_97 ?_
          replace hw := hw.2
          refine v_iload_n (pc := 98) 1 C dX12_sure_98 rfl rfl ?_
          refine v_ishr (pc := 99) C dX12_sure_99 ?_
          refine v_iconst (pc := 100) (v := 1) C dX12_sure_100 (by decide) ?_
          refine v_iand (pc := 101) C dX12_sure_101 ?_
          refine v_iconst (pc := 102) (v := 1) C dX12_sure_102 (by decide) ?_
          refine v_icmp_ne (pc := 103) (tgt := 110) C dX12_sure_103 (by decide) (fun c => ?_) (fun c => ?_)
          · replace hw := hw.2 c
            refine v_sub [0, 1, 2, 3] rfl ?_
            exact w_X12_sure_J110 C r _ _ _ ih _ hw
          · replace hw := hw.1 c
            refine v_iconst (pc := 106) (v := 1) C dX12_sure_106 (by decide) ?_
            refine v_goto (pc := 107) (tgt := 111) C dX12_sure_107 (by decide) ?_
            refine v_sub [0, 1, 2, 3] rfl ?_
            exact w_X12_sure_J111 C r _ _ _ _ ih _ hw

theorem c_X12_sure {l : Launch} {G : Gl} {a1 : Int32} {a2 : Int32} {σ : Mem} {P : Int32 → Mem → Prop} (hw : v_X12_sure a1 a2 σ P) : MetI l yX12_sure cX12_sure 5 .int 2 G [.ref (gA G 33), .int a1, .int a2] σ P := by
  refine MetI.of RX12 (by decide +kernel) rfl (Nat.le_of_ble_eq_true rfl) (fun X C r => ?_)
  show V X G 5 0 [(0, .ref (gA G 33)), (1, .int a1), (2, .int a2)] [] σ
  unfold v_X12_sure at hw
  refine v_aload_n (pc := 0) 0 C dX12_sure_0 rfl rfl ?_
  refine v_iload_n (pc := 1) 1 C dX12_sure_1 rfl rfl ?_
  refine v_cVi (pc := 2) (o := 33) (As := [.int a1]) (rest := []) (ci := 12) C (c_X12_isBar hw) pk_X12_isBar k_1285 rfl (by decide) rfl (by decide) rfl rfl (Nat.le_of_ble_eq_true rfl) dX12_sure_2 (fun r_1 σ_2 hw => ?_)
  refine v_if_eq (pc := 5) (tgt := 30) C dX12_sure_5 (by decide) (fun c => ?_) (fun c => ?_)
  · replace hw := hw.1 c
    refine v_iconst (pc := 30) (v := (-1)) C dX12_sure_30 (by decide) ?_
    exact v_iret (pc := 31) C r hw dX12_sure_31
  · replace hw := hw.2 c
    refine v_aload_n (pc := 8) 0 C dX12_sure_8 rfl rfl ?_
    refine v_iload_n (pc := 9) 2 C dX12_sure_9 rfl rfl ?_
    refine v_cVi (pc := 10) (o := 33) (As := [.int a2]) (rest := []) (ci := 12) C (c_X12_isString hw) pk_X12_isString k_1241 rfl (by decide) rfl (by decide) rfl rfl (Nat.le_of_ble_eq_true rfl) dX12_sure_10 (fun r_3 σ_4 hw => ?_)
    refine v_if_eq (pc := 13) (tgt := 30) C dX12_sure_13 (by decide) (fun c => ?_) (fun c => ?_)
    · replace hw := hw.1 c
      refine v_iconst (pc := 30) (v := (-1)) C dX12_sure_30 (by decide) ?_
      exact v_iret (pc := 31) C r hw dX12_sure_31
    · replace hw := hw.2 c
      refine v_aload_n (pc := 16) 0 C dX12_sure_16 rfl rfl ?_
      refine g_12_9 (pc := 17) C k_1123 dX12_sure_17 ?_
      refine v_bipush (pc := 20) (v := 36) C dX12_sure_20 (by decide) ?_
      refine v_iload_n (pc := 22) 1 C dX12_sure_22 rfl rfl ?_
      refine v_imul (pc := 23) C dX12_sure_23 ?_
      refine v_iload_n (pc := 24) 2 C dX12_sure_24 rfl rfl ?_
      refine v_iadd (pc := 25) C dX12_sure_25 ?_
      refine v_iald (pc := 26) C rfl hw.1 dX12_sure_26 ?_
      replace hw := hw.2
      refine v_if_ne (pc := 27) (tgt := 32) C dX12_sure_27 (by decide) (fun c => ?_) (fun c => ?_)
      · replace hw := hw.2 c
        refine v_aload_n (pc := 32) 0 C dX12_sure_32 rfl rfl ?_
        refine v_cVi (pc := 33) (o := 33) (As := []) (rest := []) (ci := 12) C (c_X12_isExplained hw) pk_X12_isExplained k_1537 rfl (by decide) rfl (by decide) rfl rfl (Nat.le_of_ble_eq_true rfl) dX12_sure_33 (fun r_5 σ_6 hw => ?_)
        refine v_if_ne (pc := 36) (tgt := 42) C dX12_sure_36 (by decide) (fun c => ?_) (fun c => ?_)
        · replace hw := hw.2 c
          refine v_aload_n (pc := 42) 0 C dX12_sure_42 rfl rfl ?_
          refine g_12_37 (pc := 43) C k_1151 dX12_sure_43 ?_
          refine v_bipush (pc := 46) (v := 36) C dX12_sure_46 (by decide) ?_
          refine v_iload_n (pc := 48) 1 C dX12_sure_48 rfl rfl ?_
          refine v_imul (pc := 49) C dX12_sure_49 ?_
          refine v_iload_n (pc := 50) 2 C dX12_sure_50 rfl rfl ?_
          refine v_iadd (pc := 51) C dX12_sure_51 ?_
          refine v_zald (pc := 52) C rfl hw.1 dX12_sure_52 ?_
          replace hw := hw.2
          refine v_if_eq (pc := 53) (tgt := 58) C dX12_sure_53 (by decide) (fun c => ?_) (fun c => ?_)
          · replace hw := hw.1 c
            refine v_iconst (pc := 58) (v := 0) C dX12_sure_58 (by decide) ?_
            refine v_istore_n (pc := 59) C dX12_sure_59 rfl (by decide) rfl ?_
            refine v_sub [1, 2, 3, 0] rfl ?_
            refine w_X12_sure_L60 C r 5000 _ _ hw
          · replace hw := hw.2 c
            refine v_iconst (pc := 56) (v := 1) C dX12_sure_56 (by decide) ?_
            exact v_iret (pc := 57) C r hw dX12_sure_57
        · replace hw := hw.1 c
          refine v_bipush (pc := 39) (v := (-3)) C dX12_sure_39 (by decide) ?_
          exact v_iret (pc := 41) C r hw dX12_sure_41
      · replace hw := hw.1 c
        refine v_iconst (pc := 30) (v := (-1)) C dX12_sure_30 (by decide) ?_
        exact v_iret (pc := 31) C r hw dX12_sure_31

theorem c_X12_unhear {l : Launch} {G : Gl} {σ : Mem} {P : Int32 → Mem → Prop} (hw : v_X12_unhear σ P) : MetI l yX12_unhear cX12_unhear 2 .int 0 G [.ref (gA G 33)] σ P := by
  refine MetI.of RX12 (by decide +kernel) rfl (Nat.le_of_ble_eq_true rfl) (fun X C r => ?_)
  show V X G 2 0 [(0, .ref (gA G 33))] [] σ
  unfold v_X12_unhear at hw
  refine v_aload_n (pc := 0) 0 C dX12_unhear_0 rfl rfl ?_
  refine g_12_33 (pc := 1) C k_1147 dX12_unhear_1 ?_
  refine v_istore_n (pc := 4) C dX12_unhear_4 rfl (by decide) rfl ?_
  refine v_aload_n (pc := 5) 1 C dX12_unhear_5 rfl rfl ?_
  refine v_iconst (pc := 6) (v := 0) C dX12_unhear_6 (by decide) ?_
  refine p_12_33 (pc := 7) C k_1147 dX12_unhear_7 ?_
  refine v_iload_n (pc := 10) 0 C dX12_unhear_10 rfl rfl ?_
  exact v_iret (pc := 11) C r hw dX12_unhear_11

theorem c_X12_songsWith {l : Launch} {G : Gl} {a1 : Int32} {a2 : Int32} {σ : Mem} {P : Int32 → Mem → Prop} (hw : v_X12_songsWith a1 a2 σ P) : MetI l yX12_songsWith cX12_songsWith 4 .int 6 G [.ref (gA G 33), .int a1, .int a2] σ P := by
  refine MetI.of RX12 (by decide +kernel) rfl (Nat.le_of_ble_eq_true rfl) (fun X C r => ?_)
  show V X G 4 0 [(0, .ref (gA G 33)), (1, .int a1), (2, .int a2)] [] σ
  unfold v_X12_songsWith at hw
  refine v_aload_n (pc := 0) 0 C dX12_songsWith_0 rfl rfl ?_
  refine g_12_3 (pc := 1) C k_1117 dX12_songsWith_1 ?_
  refine v_iload_n (pc := 4) 1 C dX12_songsWith_4 rfl rfl ?_
  refine v_dup2 (pc := 5) C dX12_songsWith_5 rfl rfl ?_
  refine v_iald (pc := 6) C rfl hw.1 dX12_songsWith_6 ?_
  replace hw := hw.2
  refine v_iload_n (pc := 7) 2 C dX12_songsWith_7 rfl rfl ?_
  refine v_iadd (pc := 8) C dX12_songsWith_8 ?_
  refine v_iast (pc := 9) C rfl hw.1 dX12_songsWith_9 ?_
  replace hw := hw.2
  refine v_aload_n (pc := 10) 0 C dX12_songsWith_10 rfl rfl ?_
  refine v_cVi (pc := 11) (o := 33) (As := []) (rest := []) (ci := 12) C (c_X12_played hw) pk_X12_played k_1434 rfl (by decide) rfl (by decide) rfl rfl (Nat.le_of_ble_eq_true rfl) dX12_songsWith_11 (fun r_1 σ_2 hw => ?_)
  refine v_callSi (pc := 14) (As := [.int r_1]) (rest := []) C (c_X12_countOf hw) pk_X12_countOf (Or.inl k_1469) (by decide) rfl rfl (Nat.le_of_ble_eq_true rfl) dX12_songsWith_14 (fun r_3 σ_4 hw => ?_)
  refine v_istore_n (pc := 17) C dX12_songsWith_17 rfl (by decide) rfl ?_
  refine v_aload_n (pc := 18) 1 C dX12_songsWith_18 rfl rfl ?_
  refine g_12_3 (pc := 19) C k_1117 dX12_songsWith_19 ?_
  refine v_iload_n (pc := 22) 2 C dX12_songsWith_22 rfl rfl ?_
  refine v_dup2 (pc := 23) C dX12_songsWith_23 rfl rfl ?_
  refine v_iald (pc := 24) C rfl hw.1 dX12_songsWith_24 ?_
  replace hw := hw.2
  refine v_iload_n (pc := 25) 3 C dX12_songsWith_25 rfl rfl ?_
  refine v_isub (pc := 26) C dX12_songsWith_26 ?_
  refine v_iast (pc := 27) C rfl hw.1 dX12_songsWith_27 ?_
  replace hw := hw.2
  refine v_iload_n (pc := 28) 0 C dX12_songsWith_28 rfl rfl ?_
  exact v_iret (pc := 29) C r hw dX12_songsWith_29

theorem c_X12_isTurn {l : Launch} {G : Gl} {a0 : Int32} {σ : Mem} {P : Int32 → Mem → Prop} (hw : v_X12_isTurn a0 σ P) : MetI l yX12_isTurn cX12_isTurn 1 .boolean 0 G [.int a0] σ P := by
  refine MetI.of RX12 (by decide +kernel) rfl (Nat.le_of_ble_eq_true rfl) (fun X C r => ?_)
  show V X G 1 0 [(0, .int a0)] [] σ
  unfold v_X12_isTurn at hw
  refine v_iload_n (pc := 0) 0 C dX12_isTurn_0 rfl rfl ?_
  refine v_bipush (pc := 1) (v := (-2)) C dX12_isTurn_1 (by decide) ?_
  refine v_icmp_eq (pc := 3) (tgt := 21) C dX12_isTurn_3 (by decide) (fun c => ?_) (fun c => ?_)
  · replace hw := hw.1 c
    refine v_iconst (pc := 21) (v := 1) C dX12_isTurn_21 (by decide) ?_
    refine v_goto (pc := 22) (tgt := 26) C dX12_isTurn_22 (by decide) ?_
    exact v_zret (pc := 26) C r (Or.inr rfl) hw dX12_isTurn_26
  · replace hw := hw.2 c
    refine v_iload_n (pc := 6) 0 C dX12_isTurn_6 rfl rfl ?_
    refine v_iconst (pc := 7) (v := (-1)) C dX12_isTurn_7 (by decide) ?_
    refine v_icmp_eq (pc := 8) (tgt := 21) C dX12_isTurn_8 (by decide) (fun c => ?_) (fun c => ?_)
    · replace hw := hw.1 c
      refine v_iconst (pc := 21) (v := 1) C dX12_isTurn_21 (by decide) ?_
      refine v_goto (pc := 22) (tgt := 26) C dX12_isTurn_22 (by decide) ?_
      exact v_zret (pc := 26) C r (Or.inr rfl) hw dX12_isTurn_26
    · replace hw := hw.2 c
      refine v_iload_n (pc := 11) 0 C dX12_isTurn_11 rfl rfl ?_
      refine v_iconst (pc := 12) (v := 1) C dX12_isTurn_12 (by decide) ?_
      refine v_icmp_eq (pc := 13) (tgt := 21) C dX12_isTurn_13 (by decide) (fun c => ?_) (fun c => ?_)
      · replace hw := hw.1 c
        refine v_iconst (pc := 21) (v := 1) C dX12_isTurn_21 (by decide) ?_
        refine v_goto (pc := 22) (tgt := 26) C dX12_isTurn_22 (by decide) ?_
        exact v_zret (pc := 26) C r (Or.inr rfl) hw dX12_isTurn_26
      · replace hw := hw.2 c
        refine v_iload_n (pc := 16) 0 C dX12_isTurn_16 rfl rfl ?_
        refine v_iconst (pc := 17) (v := 2) C dX12_isTurn_17 (by decide) ?_
        refine v_icmp_ne (pc := 18) (tgt := 25) C dX12_isTurn_18 (by decide) (fun c => ?_) (fun c => ?_)
        · replace hw := hw.2 c
          refine v_iconst (pc := 25) (v := 0) C dX12_isTurn_25 (by decide) ?_
          exact v_zret (pc := 26) C r (Or.inl rfl) hw dX12_isTurn_26
        · replace hw := hw.1 c
          refine v_iconst (pc := 21) (v := 1) C dX12_isTurn_21 (by decide) ?_
          refine v_goto (pc := 22) (tgt := 26) C dX12_isTurn_22 (by decide) ?_
          exact v_zret (pc := 26) C r (Or.inr rfl) hw dX12_isTurn_26

theorem c_X12_otherwise {l : Launch} {G : Gl} {a1 : Int32} {a2 : Int32} {σ : Mem} {P : Int32 → Mem → Prop} (hw : v_X12_otherwise a1 a2 σ P) : MetI l yX12_otherwise cX12_otherwise 3 .int 7 G [.ref (gA G 33), .int a1, .int a2] σ P := by
  refine MetI.of RX12 (by decide +kernel) rfl (Nat.le_of_ble_eq_true rfl) (fun X C r => ?_)
  show V X G 3 0 [(0, .ref (gA G 33)), (1, .int a1), (2, .int a2)] [] σ
  unfold v_X12_otherwise at hw
  refine v_aload_n (pc := 0) 0 C dX12_otherwise_0 rfl rfl ?_
  refine v_iload_n (pc := 1) 1 C dX12_otherwise_1 rfl rfl ?_
  refine v_cVi (pc := 2) (o := 33) (As := [.int a1]) (rest := []) (ci := 12) C (c_X12_isString hw) pk_X12_isString k_1241 rfl (by decide) rfl (by decide) rfl rfl (Nat.le_of_ble_eq_true rfl) dX12_otherwise_2 (fun r_1 σ_2 hw => ?_)
  refine v_if_ne (pc := 5) (tgt := 10) C dX12_otherwise_5 (by decide) (fun c => ?_) (fun c => ?_)
  · replace hw := hw.2 c
    refine v_iload_n (pc := 10) 2 C dX12_otherwise_10 rfl rfl ?_
    refine v_callSi (pc := 11) (As := [.int a2]) (rest := []) C (c_X12_isTurn hw) pk_X12_isTurn (Or.inl k_1561) (by decide) rfl rfl (Nat.le_of_ble_eq_true rfl) dX12_otherwise_11 (fun r_3 σ_4 hw => ?_)
    refine v_if_eq (pc := 14) (tgt := 34) C dX12_otherwise_14 (by decide) (fun c => ?_) (fun c => ?_)
    · replace hw := hw.1 c
      refine v_bipush (pc := 34) (v := (-2)) C dX12_otherwise_34 (by decide) ?_
      exact v_iret (pc := 36) C r hw dX12_otherwise_36
    · replace hw := hw.2 c
      refine v_aload_n (pc := 17) 0 C dX12_otherwise_17 rfl rfl ?_
      refine g_12_3 (pc := 18) C k_1117 dX12_otherwise_18 ?_
      refine v_iload_n (pc := 21) 1 C dX12_otherwise_21 rfl rfl ?_
      refine v_iald (pc := 22) C rfl hw.1 dX12_otherwise_22 ?_
      replace hw := hw.2
      refine v_iload_n (pc := 23) 2 C dX12_otherwise_23 rfl rfl ?_
      refine v_iadd (pc := 24) C dX12_otherwise_24 ?_
      refine v_iconst (pc := 25) (v := 0) C dX12_otherwise_25 (by decide) ?_
      refine v_bipush (pc := 26) (v := 60) C dX12_otherwise_26 (by decide) ?_
      refine v_callSi (pc := 28) (As := [.int ((σ_4.1 34 (Int32.toNatClampNeg a1)) + a2), .int 0, .int 60]) (rest := []) C (c_X12_within hw) pk_X12_within (Or.inl k_1234) (by decide) rfl rfl (Nat.le_of_ble_eq_true rfl) dX12_otherwise_28 (fun r_5 σ_6 hw => ?_)
      refine v_if_ne (pc := 31) (tgt := 37) C dX12_otherwise_31 (by decide) (fun c => ?_) (fun c => ?_)
      · replace hw := hw.2 c
        refine v_aload_n (pc := 37) 0 C dX12_otherwise_37 rfl rfl ?_
        refine v_iload_n (pc := 38) 1 C dX12_otherwise_38 rfl rfl ?_
        refine v_iload_n (pc := 39) 2 C dX12_otherwise_39 rfl rfl ?_
        refine v_cVi (pc := 40) (o := 33) (As := [.int a1, .int a2]) (rest := []) (ci := 12) C (c_X12_songsWith hw) pk_X12_songsWith k_1564 rfl (by decide) rfl (by decide) rfl rfl (Nat.le_of_ble_eq_true rfl) dX12_otherwise_40 (fun r_7 σ_8 hw => ?_)
        exact v_iret (pc := 43) C r hw dX12_otherwise_43
      · replace hw := hw.1 c
        refine v_bipush (pc := 34) (v := (-2)) C dX12_otherwise_34 (by decide) ?_
        exact v_iret (pc := 36) C r hw dX12_otherwise_36
  · replace hw := hw.1 c
    refine v_iconst (pc := 8) (v := (-1)) C dX12_otherwise_8 (by decide) ?_
    exact v_iret (pc := 9) C r hw dX12_otherwise_9

theorem w_X12_best_L42 {X : Cx} {G : Gl} {P : Int32 → Mem → Prop} {x1 : Int32} {x5 : Int32} {K108 : Int32 → Int32 → Int32 → Mem → Prop} (C : Ck X G RX12 cX12_best 8 7) (r : RetI X G .int P) (hK108 : ∀ (x2 : Int32) (x3 : Int32) (x4 : Int32) (σ : Mem), K108 x2 x3 x4 σ → V X G 8 108 [(0, .ref (gA G 33)), (1, .int x1), (2, .int x2), (3, .int x3), (4, .int x4), (5, .int x5)] [] σ) : ∀ (n : Nat) (x2 : Int32) (x3 : Int32) (x4 : Int32) (x6 : Int32) (σ : Mem), v_X12_best_L42 x1 x5 K108 P n x2 x3 x4 x6 σ → V X G 8 42 [(0, .ref (gA G 33)), (1, .int x1), (2, .int x2), (3, .int x3), (4, .int x4), (5, .int x5), (6, .int x6)] [] σ := by
  intro n
  induction n with
  | zero => intro x2 x3 x4 x6 σ hw; exact hw.elim
  | succ n ih =>
    intro x2 x3 x4 x6 σ hw
    refine v_iload (pc := 42) 6 C dX12_best_42 rfl ?_
    refine v_iconst (pc := 44) (v := 2) C dX12_best_44 (by decide) ?_
    refine v_icmp_gt (pc := 45) (tgt := 108) C dX12_best_45 (by decide) (fun c => ?_) (fun c => ?_)
    · replace hw := hw.1 c
      refine v_sub [0, 1, 2, 3, 4, 5] rfl ?_
      exact hK108 _ _ _ _ hw
    · replace hw := hw.2 c
      refine v_iload (pc := 48) 6 C dX12_best_48 rfl ?_
      refine v_if_eq (pc := 50) (tgt := 102) C dX12_best_50 (by decide) (fun c => ?_) (fun c => ?_)
      · replace hw := hw.1 c
        refine v_iinc (pc := 102) (v := x6 + 1) 6 C dX12_best_102 rfl rfl (by decide) rfl ?_
        refine v_goto (pc := 105) (tgt := 42) C dX12_best_105 (by decide) ?_
        refine v_sub [1, 2, 3, 4, 5, 6, 0] rfl ?_
        exact ih _ _ _ _ _ hw
      · replace hw := hw.2 c
        refine v_aload_n (pc := 53) 0 C dX12_best_53 rfl rfl ?_
        refine g_12_3 (pc := 54) C k_1117 dX12_best_54 ?_
        refine v_iload (pc := 57) 5 C dX12_best_57 rfl ?_
        refine v_iald (pc := 59) C rfl hw.1 dX12_best_59 ?_
        replace hw := hw.2
        refine v_iload (pc := 60) 6 C dX12_best_60 rfl ?_
        refine v_iadd (pc := 62) C dX12_best_62 ?_
        refine v_iconst (pc := 63) (v := 0) C dX12_best_63 (by decide) ?_
        refine v_bipush (pc := 64) (v := 60) C dX12_best_64 (by decide) ?_
        refine v_callSi (pc := 66) (As := [.int ((σ.1 34 (Int32.toNatClampNeg x5)) + x6), .int 0, .int 60]) (rest := []) C (c_X12_within hw) pk_X12_within (Or.inl k_1234) (by decide) rfl rfl (Nat.le_of_ble_eq_true rfl) dX12_best_66 (fun r_7 σ_8 hw => ?_)
        refine v_if_ne (pc := 69) (tgt := 75) C dX12_best_69 (by decide) (fun c => ?_) (fun c => ?_)
        · replace hw := hw.2 c
          refine v_aload_n (pc := 75) 0 C dX12_best_75 rfl rfl ?_
          refine v_iload (pc := 76) 5 C dX12_best_76 rfl ?_
          refine v_iload (pc := 78) 6 C dX12_best_78 rfl ?_
          refine v_cVi (pc := 80) (o := 33) (As := [.int x5, .int x6]) (rest := []) (ci := 12) C (c_X12_songsWith hw) pk_X12_songsWith k_1564 rfl (by decide) rfl (by decide) rfl rfl (Nat.le_of_ble_eq_true rfl) dX12_best_80 (fun r_9 σ_10 hw => ?_)
          refine v_istore (pc := 83) C dX12_best_83 (by decide) rfl ?_
          refine v_iload (pc := 85) 0 C dX12_best_85 rfl ?_
          refine v_iload (pc := 87) 5 C dX12_best_87 rfl ?_
          refine v_icmp_le (pc := 89) (tgt := 102) C dX12_best_89 (by decide) (fun c => ?_) (fun c => ?_)
          · replace hw := hw.1 c
            refine v_iinc (pc := 102) (v := x6 + 1) 7 C dX12_best_102 rfl rfl (by decide) rfl ?_
            refine v_goto (pc := 105) (tgt := 42) C dX12_best_105 (by decide) ?_
            refine v_sub [2, 3, 4, 5, 6, 7, 0] rfl ?_
            exact ih _ _ _ _ _ hw
          · replace hw := hw.2 c
            refine v_iload (pc := 92) 0 C dX12_best_92 rfl ?_
            refine v_istore (pc := 94) C dX12_best_94 (by decide) rfl ?_
            refine v_iload (pc := 96) 6 C dX12_best_96 rfl ?_
            refine v_istore_n (pc := 98) C dX12_best_98 rfl (by decide) rfl ?_
            refine v_iload (pc := 99) 7 C dX12_best_99 rfl ?_
            refine v_istore_n (pc := 101) C dX12_best_101 rfl (by decide) rfl ?_
            refine v_iinc (pc := 102) (v := x6 + 1) 7 C dX12_best_102 rfl rfl (by decide) rfl ?_
            refine v_goto (pc := 105) (tgt := 42) C dX12_best_105 (by decide) ?_
            refine v_sub [5, 6, 2, 1, 3, 7, 0] rfl ?_
            exact ih _ _ _ _ _ hw
        · replace hw := hw.1 c
          refine v_goto (pc := 72) (tgt := 102) C dX12_best_72 (by decide) ?_
          refine v_iinc (pc := 102) (v := x6 + 1) 6 C dX12_best_102 rfl rfl (by decide) rfl ?_
          refine v_goto (pc := 105) (tgt := 42) C dX12_best_105 (by decide) ?_
          refine v_sub [1, 2, 3, 4, 5, 6, 0] rfl ?_
          exact ih _ _ _ _ _ hw

theorem w_X12_best_L29 {X : Cx} {G : Gl} {P : Int32 → Mem → Prop} {x1 : Int32} {K114 : Int32 → Int32 → Int32 → Mem → Prop} (C : Ck X G RX12 cX12_best 8 7) (r : RetI X G .int P) (hK114 : ∀ (x2 : Int32) (x3 : Int32) (x4 : Int32) (σ : Mem), K114 x2 x3 x4 σ → V X G 8 114 [(1, .int x1), (2, .int x2), (3, .int x3), (4, .int x4)] [] σ) : ∀ (n : Nat) (x2 : Int32) (x3 : Int32) (x4 : Int32) (x5 : Int32) (σ : Mem), v_X12_best_L29 x1 K114 P n x2 x3 x4 x5 σ → V X G 8 29 [(0, .ref (gA G 33)), (1, .int x1), (2, .int x2), (3, .int x3), (4, .int x4), (5, .int x5)] [] σ := by
  intro n
  induction n with
  | zero => intro x2 x3 x4 x5 σ hw; exact hw.elim
  | succ n ih =>
    intro x2 x3 x4 x5 σ hw
    refine v_iload (pc := 29) 5 C dX12_best_29 rfl ?_
    refine v_aload_n (pc := 31) 0 C dX12_best_31 rfl rfl ?_
    refine g_12_2 (pc := 32) C k_1116 dX12_best_32 ?_
    refine v_icmp_ge (pc := 35) (tgt := 114) C dX12_best_35 (by decide) (fun c => ?_) (fun c => ?_)
    · replace hw := hw.1 c
      refine v_sub [1, 2, 3, 4] rfl ?_
      exact hK114 _ _ _ _ hw
    · replace hw := hw.2 c
      refine v_bipush (pc := 38) (v := (-2)) C dX12_best_38 (by decide) ?_
      refine v_istore (pc := 40) C dX12_best_40 (by decide) rfl ?_
      refine v_sub [1, 2, 3, 4, 5, 6, 0] rfl ?_
      refine w_X12_best_L42 C r ?_ 5000 _ _ _ _ _ hw
      · intro x2_11 x3_11 x4_11 σ_12 hw
        refine v_iinc (pc := 108) (v := x5 + 1) 5 C dX12_best_108 rfl rfl (by decide) rfl ?_
        refine v_goto (pc := 111) (tgt := 29) C dX12_best_111 (by decide) ?_
        refine v_sub [1, 2, 3, 4, 5, 0] rfl ?_
        exact ih _ _ _ _ _ hw

theorem c_X12_best {l : Launch} {G : Gl} {a1 : Int32} {σ : Mem} {P : Int32 → Mem → Prop} (hw : v_X12_best a1 σ P) : MetI l yX12_best cX12_best 8 .int 7 G [.ref (gA G 33), .int a1] σ P := by
  refine MetI.of RX12 (by decide +kernel) rfl (Nat.le_of_ble_eq_true rfl) (fun X C r => ?_)
  show V X G 8 0 [(0, .ref (gA G 33)), (1, .int a1)] [] σ
  unfold v_X12_best at hw
  refine v_iload_n (pc := 0) 1 C dX12_best_0 rfl rfl ?_
  refine v_iconst (pc := 1) (v := 0) C dX12_best_1 (by decide) ?_
  refine v_iconst (pc := 2) (v := 2) C dX12_best_2 (by decide) ?_
  refine v_callSi (pc := 3) (As := [.int a1, .int 0, .int 2]) (rest := []) C (c_X12_within hw) pk_X12_within (Or.inl k_1234) (by decide) rfl rfl (Nat.le_of_ble_eq_true rfl) dX12_best_3 (fun r_1 σ_2 hw => ?_)
  refine v_if_ne (pc := 6) (tgt := 12) C dX12_best_6 (by decide) (fun c => ?_) (fun c => ?_)
  · replace hw := hw.2 c
    refine v_bipush (pc := 12) (v := (-9)) C dX12_best_12 (by decide) ?_
    refine v_istore_n (pc := 14) C dX12_best_14 rfl (by decide) rfl ?_
    refine v_iconst (pc := 15) (v := 0) C dX12_best_15 (by decide) ?_
    refine v_istore_n (pc := 16) C dX12_best_16 rfl (by decide) rfl ?_
    refine v_aload_n (pc := 17) 2 C dX12_best_17 rfl rfl ?_
    refine v_cVi (pc := 18) (o := 33) (As := []) (rest := []) (ci := 12) C (c_X12_played hw) pk_X12_played k_1434 rfl (by decide) rfl (by decide) rfl rfl (Nat.le_of_ble_eq_true rfl) dX12_best_18 (fun r_3 σ_4 hw => ?_)
    refine v_callSi (pc := 21) (As := [.int r_3]) (rest := []) C (c_X12_countOf hw) pk_X12_countOf (Or.inl k_1469) (by decide) rfl rfl (Nat.le_of_ble_eq_true rfl) dX12_best_21 (fun r_5 σ_6 hw => ?_)
    refine v_istore (pc := 24) C dX12_best_24 (by decide) rfl ?_
    refine v_iconst (pc := 26) (v := 0) C dX12_best_26 (by decide) ?_
    refine v_istore (pc := 27) C dX12_best_27 (by decide) rfl ?_
    refine v_sub [4, 5, 3, 2, 1, 0] rfl ?_
    refine w_X12_best_L29 C r ?_ 5000 _ _ _ _ _ hw
    · intro x2_13 x3_13 x4_13 σ_14 hw
      refine v_iload_n (pc := 114) 0 C dX12_best_114 rfl rfl ?_
      refine v_if_ne (pc := 115) (tgt := 122) C dX12_best_115 (by decide) (fun c => ?_) (fun c => ?_)
      · replace hw := hw.2 c
        refine v_iload_n (pc := 122) 0 C dX12_best_122 rfl rfl ?_
        refine v_iconst (pc := 123) (v := 1) C dX12_best_123 (by decide) ?_
        refine v_icmp_ne (pc := 124) (tgt := 131) C dX12_best_124 (by decide) (fun c => ?_) (fun c => ?_)
        · replace hw := hw.2 c
          refine v_iload_n (pc := 131) 1 C dX12_best_131 rfl rfl ?_
          refine v_bipush (pc := 132) (v := (-9)) C dX12_best_132 (by decide) ?_
          refine v_icmp_ne (pc := 134) (tgt := 142) C dX12_best_134 (by decide) (fun c => ?_) (fun c => ?_)
          · replace hw := hw.2 c
            refine v_iload (pc := 142) 3 C dX12_best_142 rfl ?_
            exact v_iret (pc := 144) C r hw dX12_best_144
          · replace hw := hw.1 c
            refine v_bipush (pc := 137) (v := (-9)) C dX12_best_137 (by decide) ?_
            refine v_goto (pc := 139) (tgt := 144) C dX12_best_139 (by decide) ?_
            exact v_iret (pc := 144) C r hw dX12_best_144
        · replace hw := hw.1 c
          refine v_iload_n (pc := 127) 2 C dX12_best_127 rfl rfl ?_
          refine v_goto (pc := 128) (tgt := 144) C dX12_best_128 (by decide) ?_
          exact v_iret (pc := 144) C r hw dX12_best_144
      · replace hw := hw.1 c
        refine v_iload_n (pc := 118) 1 C dX12_best_118 rfl rfl ?_
        refine v_goto (pc := 119) (tgt := 144) C dX12_best_119 (by decide) ?_
        exact v_iret (pc := 144) C r hw dX12_best_144
  · replace hw := hw.1 c
    refine v_bipush (pc := 9) (v := 99) C dX12_best_9 (by decide) ?_
    exact v_iret (pc := 11) C r hw dX12_best_11

theorem w_X12_sheet_L61 {X : Cx} {G : Gl} {P : Int32 → Mem → Prop} {x1 : Int32} (C : Ck X G RX12 cX12_sheet 5 1) (r : RetI X G .int P) : ∀ (n : Nat) (x4 : Int32) (σ : Mem), v_X12_sheet_L61 x1 P n x4 σ → V X G 5 61 [(0, .ref (gA G 33)), (1, .int x1), (4, .int x4)] [] σ := by
  intro n
  induction n with
  | zero => intro x4 σ hw; exact hw.elim
  | succ n ih =>
    intro x4 σ hw
    refine v_iload (pc := 61) 2 C dX12_sheet_61 rfl ?_
    refine v_bipush (pc := 63) (v := 64) C dX12_sheet_63 (by decide) ?_
    refine v_icmp_ge (pc := 65) (tgt := 87) C dX12_sheet_65 (by decide) (fun c => ?_) (fun c => ?_)
    · replace hw := hw.1 c
      refine v_iconst (pc := 87) (v := 1) C dX12_sheet_87 (by decide) ?_
      exact v_iret (pc := 88) C r hw dX12_sheet_88
    · replace hw := hw.2 c
      refine v_aload_n (pc := 68) 0 C dX12_sheet_68 rfl rfl ?_
      refine g_12_22 (pc := 69) C k_1136 dX12_sheet_69 ?_
      refine v_bipush (pc := 72) (v := 64) C dX12_sheet_72 (by decide) ?_
      refine v_iload_n (pc := 74) 1 C dX12_sheet_74 rfl rfl ?_
      refine v_imul (pc := 75) C dX12_sheet_75 ?_
      refine v_iload (pc := 76) 2 C dX12_sheet_76 rfl ?_
      refine v_iadd (pc := 78) C dX12_sheet_78 ?_
      refine v_iconst (pc := 79) (v := 0) C dX12_sheet_79 (by decide) ?_
      refine v_iast (pc := 80) C rfl hw.1 dX12_sheet_80 ?_
      replace hw := hw.2
      refine v_iinc (pc := 81) (v := x4 + 1) 2 C dX12_sheet_81 rfl rfl (by decide) rfl ?_
      refine v_goto (pc := 84) (tgt := 61) C dX12_sheet_84 (by decide) ?_
      refine v_sub [1, 2, 0] rfl ?_
      exact ih _ _ hw

theorem c_X12_sheet {l : Launch} {G : Gl} {a1 : Int32} {a2 : Int32} {a3 : Int32} {σ : Mem} {P : Int32 → Mem → Prop} (hw : v_X12_sheet a1 a2 a3 σ P) : MetI l yX12_sheet cX12_sheet 5 .int 1 G [.ref (gA G 33), .int a1, .int a2, .int a3] σ P := by
  refine MetI.of RX12 (by decide +kernel) rfl (Nat.le_of_ble_eq_true rfl) (fun X C r => ?_)
  show V X G 5 0 [(0, .ref (gA G 33)), (1, .int a1), (2, .int a2), (3, .int a3)] [] σ
  unfold v_X12_sheet at hw
  refine v_aload_n (pc := 0) 0 C dX12_sheet_0 rfl rfl ?_
  refine v_iconst (pc := 1) (v := 0) C dX12_sheet_1 (by decide) ?_
  refine p_12_0 (pc := 2) C k_1114 dX12_sheet_2 ?_
  refine v_iload_n (pc := 5) 1 C dX12_sheet_5 rfl rfl ?_
  refine v_iconst (pc := 6) (v := 0) C dX12_sheet_6 (by decide) ?_
  refine v_iconst (pc := 7) (v := 3) C dX12_sheet_7 (by decide) ?_
  refine v_callSi (pc := 8) (As := [.int a1, .int 0, .int 3]) (rest := []) C (c_X12_within hw) pk_X12_within (Or.inl k_1234) (by decide) rfl rfl (Nat.le_of_ble_eq_true rfl) dX12_sheet_8 (fun r_1 σ_2 hw => ?_)
  refine v_if_ne (pc := 11) (tgt := 16) C dX12_sheet_11 (by decide) (fun c => ?_) (fun c => ?_)
  · replace hw := hw.2 c
    refine v_iload_n (pc := 16) 2 C dX12_sheet_16 rfl rfl ?_
    refine v_iconst (pc := 17) (v := 0) C dX12_sheet_17 (by decide) ?_
    refine v_iconst (pc := 18) (v := 2) C dX12_sheet_18 (by decide) ?_
    refine v_callSi (pc := 19) (As := [.int a2, .int 0, .int 2]) (rest := []) C (c_X12_within hw) pk_X12_within (Or.inl k_1234) (by decide) rfl rfl (Nat.le_of_ble_eq_true rfl) dX12_sheet_19 (fun r_3 σ_4 hw => ?_)
    refine v_if_eq (pc := 22) (tgt := 31) C dX12_sheet_22 (by decide) (fun c => ?_) (fun c => ?_)
    · replace hw := hw.1 c
      refine v_bipush (pc := 31) (v := (-2)) C dX12_sheet_31 (by decide) ?_
      exact v_iret (pc := 33) C r hw dX12_sheet_33
    · replace hw := hw.2 c
      refine v_iload_n (pc := 25) 3 C dX12_sheet_25 rfl rfl ?_
      refine v_bipush (pc := 26) (v := 64) C dX12_sheet_26 (by decide) ?_
      refine v_icmp_le (pc := 28) (tgt := 34) C dX12_sheet_28 (by decide) (fun c => ?_) (fun c => ?_)
      · replace hw := hw.1 c
        refine v_iload_n (pc := 34) 3 C dX12_sheet_34 rfl rfl ?_
        refine v_if_ge (pc := 35) (tgt := 44) C dX12_sheet_35 (by decide) (fun c => ?_) (fun c => ?_)
        · replace hw := hw.1 c
          refine v_aload_n (pc := 44) 0 C dX12_sheet_44 rfl rfl ?_
          refine g_12_20 (pc := 45) C k_1134 dX12_sheet_45 ?_
          refine v_iload_n (pc := 48) 1 C dX12_sheet_48 rfl rfl ?_
          refine v_iload_n (pc := 49) 2 C dX12_sheet_49 rfl rfl ?_
          refine v_iast (pc := 50) C rfl hw.1 dX12_sheet_50 ?_
          replace hw := hw.2
          refine v_aload_n (pc := 51) 0 C dX12_sheet_51 rfl rfl ?_
          refine g_12_21 (pc := 52) C k_1135 dX12_sheet_52 ?_
          refine v_iload_n (pc := 55) 1 C dX12_sheet_55 rfl rfl ?_
          refine v_iload_n (pc := 56) 3 C dX12_sheet_56 rfl rfl ?_
          refine v_iast (pc := 57) C rfl hw.1 dX12_sheet_57 ?_
          replace hw := hw.2
          refine v_iconst (pc := 58) (v := 0) C dX12_sheet_58 (by decide) ?_
          refine v_istore (pc := 59) C dX12_sheet_59 (by decide) rfl ?_
          refine v_sub [1, 2, 0] rfl ?_
          refine w_X12_sheet_L61 C r 5000 _ _ hw
        · replace hw := hw.2 c
          refine v_aload_n (pc := 38) 0 C dX12_sheet_38 rfl rfl ?_
          refine v_iconst (pc := 39) (v := 4) C dX12_sheet_39 (by decide) ?_
          refine v_cVi (pc := 40) (o := 33) (As := [.int 4]) (rest := []) (ci := 12) C (c_X12_fails hw) pk_X12_fails k_1373 rfl (by decide) rfl (by decide) rfl rfl (Nat.le_of_ble_eq_true rfl) dX12_sheet_40 (fun r_5 σ_6 hw => ?_)
          exact v_iret (pc := 43) C r hw dX12_sheet_43
      · replace hw := hw.2 c
        refine v_bipush (pc := 31) (v := (-2)) C dX12_sheet_31 (by decide) ?_
        exact v_iret (pc := 33) C r hw dX12_sheet_33
  · replace hw := hw.1 c
    refine v_iconst (pc := 14) (v := (-1)) C dX12_sheet_14 (by decide) ?_
    exact v_iret (pc := 15) C r hw dX12_sheet_15

theorem c_X12_lose {l : Launch} {G : Gl} {a1 : Int32} {σ : Mem} {P : Int32 → Mem → Prop} (hw : v_X12_lose a1 σ P) : MetI l yX12_lose cX12_lose 3 .int 1 G [.ref (gA G 33), .int a1] σ P := by
  refine MetI.of RX12 (by decide +kernel) rfl (Nat.le_of_ble_eq_true rfl) (fun X C r => ?_)
  show V X G 3 0 [(0, .ref (gA G 33)), (1, .int a1)] [] σ
  unfold v_X12_lose at hw
  refine v_iload_n (pc := 0) 1 C dX12_lose_0 rfl rfl ?_
  refine v_iconst (pc := 1) (v := 0) C dX12_lose_1 (by decide) ?_
  refine v_iconst (pc := 2) (v := 3) C dX12_lose_2 (by decide) ?_
  refine v_callSi (pc := 3) (As := [.int a1, .int 0, .int 3]) (rest := []) C (c_X12_within hw) pk_X12_within (Or.inl k_1234) (by decide) rfl rfl (Nat.le_of_ble_eq_true rfl) dX12_lose_3 (fun r_1 σ_2 hw => ?_)
  refine v_if_ne (pc := 6) (tgt := 11) C dX12_lose_6 (by decide) (fun c => ?_) (fun c => ?_)
  · replace hw := hw.2 c
    refine v_aload_n (pc := 11) 0 C dX12_lose_11 rfl rfl ?_
    refine g_12_20 (pc := 12) C k_1134 dX12_lose_12 ?_
    refine v_iload_n (pc := 15) 1 C dX12_lose_15 rfl rfl ?_
    refine v_iald (pc := 16) C rfl hw.1 dX12_lose_16 ?_
    replace hw := hw.2
    refine v_bipush (pc := 17) (v := (-9)) C dX12_lose_17 (by decide) ?_
    refine v_icmp_ne (pc := 19) (tgt := 26) C dX12_lose_19 (by decide) (fun c => ?_) (fun c => ?_)
    · replace hw := hw.2 c
      refine v_iconst (pc := 26) (v := 1) C dX12_lose_26 (by decide) ?_
      refine v_istore_n (pc := 27) C dX12_lose_27 rfl (by decide) rfl ?_
      refine v_aload_n (pc := 28) 1 C dX12_lose_28 rfl rfl ?_
      refine g_12_20 (pc := 29) C k_1134 dX12_lose_29 ?_
      refine v_iload_n (pc := 32) 2 C dX12_lose_32 rfl rfl ?_
      refine v_bipush (pc := 33) (v := (-9)) C dX12_lose_33 (by decide) ?_
      refine v_iast (pc := 35) C rfl hw.1 dX12_lose_35 ?_
      replace hw := hw.2
      refine v_iload_n (pc := 36) 0 C dX12_lose_36 rfl rfl ?_
      exact v_iret (pc := 37) C r hw dX12_lose_37
    · replace hw := hw.1 c
      refine v_iconst (pc := 22) (v := 0) C dX12_lose_22 (by decide) ?_
      refine v_goto (pc := 23) (tgt := 27) C dX12_lose_23 (by decide) ?_
      refine v_istore_n (pc := 27) C dX12_lose_27 rfl (by decide) rfl ?_
      refine v_aload_n (pc := 28) 1 C dX12_lose_28 rfl rfl ?_
      refine g_12_20 (pc := 29) C k_1134 dX12_lose_29 ?_
      refine v_iload_n (pc := 32) 2 C dX12_lose_32 rfl rfl ?_
      refine v_bipush (pc := 33) (v := (-9)) C dX12_lose_33 (by decide) ?_
      refine v_iast (pc := 35) C rfl hw.1 dX12_lose_35 ?_
      replace hw := hw.2
      refine v_iload_n (pc := 36) 0 C dX12_lose_36 rfl rfl ?_
      exact v_iret (pc := 37) C r hw dX12_lose_37
  · replace hw := hw.1 c
    refine v_iconst (pc := 9) (v := (-1)) C dX12_lose_9 (by decide) ?_
    exact v_iret (pc := 10) C r hw dX12_lose_10

theorem c_X12_put {l : Launch} {G : Gl} {a1 : Int32} {a2 : Int32} {a3 : Int32} {σ : Mem} {P : Int32 → Mem → Prop} (hw : v_X12_put a1 a2 a3 σ P) : MetI l yX12_put cX12_put 4 .int 1 G [.ref (gA G 33), .int a1, .int a2, .int a3] σ P := by
  refine MetI.of RX12 (by decide +kernel) rfl (Nat.le_of_ble_eq_true rfl) (fun X C r => ?_)
  show V X G 4 0 [(0, .ref (gA G 33)), (1, .int a1), (2, .int a2), (3, .int a3)] [] σ
  unfold v_X12_put at hw
  refine v_aload_n (pc := 0) 0 C dX12_put_0 rfl rfl ?_
  refine v_iconst (pc := 1) (v := 0) C dX12_put_1 (by decide) ?_
  refine p_12_0 (pc := 2) C k_1114 dX12_put_2 ?_
  refine v_iload_n (pc := 5) 1 C dX12_put_5 rfl rfl ?_
  refine v_iconst (pc := 6) (v := 0) C dX12_put_6 (by decide) ?_
  refine v_iconst (pc := 7) (v := 3) C dX12_put_7 (by decide) ?_
  refine v_callSi (pc := 8) (As := [.int a1, .int 0, .int 3]) (rest := []) C (c_X12_within hw) pk_X12_within (Or.inl k_1234) (by decide) rfl rfl (Nat.le_of_ble_eq_true rfl) dX12_put_8 (fun r_1 σ_2 hw => ?_)
  refine v_if_ne (pc := 11) (tgt := 16) C dX12_put_11 (by decide) (fun c => ?_) (fun c => ?_)
  · replace hw := hw.2 c
    refine v_aload_n (pc := 16) 0 C dX12_put_16 rfl rfl ?_
    refine g_12_20 (pc := 17) C k_1134 dX12_put_17 ?_
    refine v_iload_n (pc := 20) 1 C dX12_put_20 rfl rfl ?_
    refine v_iald (pc := 21) C rfl hw.1 dX12_put_21 ?_
    replace hw := hw.2
    refine v_bipush (pc := 22) (v := (-9)) C dX12_put_22 (by decide) ?_
    refine v_icmp_ne (pc := 24) (tgt := 33) C dX12_put_24 (by decide) (fun c => ?_) (fun c => ?_)
    · replace hw := hw.2 c
      refine v_iload_n (pc := 33) 2 C dX12_put_33 rfl rfl ?_
      refine v_iconst (pc := 34) (v := 0) C dX12_put_34 (by decide) ?_
      refine v_aload_n (pc := 35) 0 C dX12_put_35 rfl rfl ?_
      refine g_12_21 (pc := 36) C k_1135 dX12_put_36 ?_
      refine v_iload_n (pc := 39) 1 C dX12_put_39 rfl rfl ?_
      refine v_iald (pc := 40) C rfl hw.1 dX12_put_40 ?_
      replace hw := hw.2
      refine v_iconst (pc := 41) (v := 1) C dX12_put_41 (by decide) ?_
      refine v_isub (pc := 42) C dX12_put_42 ?_
      refine v_callSi (pc := 43) (As := [.int a2, .int 0, .int ((σ_2.1 49 (Int32.toNatClampNeg a1)) - 1)]) (rest := []) C (c_X12_within hw) pk_X12_within (Or.inl k_1234) (by decide) rfl rfl (Nat.le_of_ble_eq_true rfl) dX12_put_43 (fun r_5 σ_6 hw => ?_)
      refine v_if_ne (pc := 46) (tgt := 55) C dX12_put_46 (by decide) (fun c => ?_) (fun c => ?_)
      · replace hw := hw.2 c
        refine v_aload_n (pc := 55) 0 C dX12_put_55 rfl rfl ?_
        refine g_12_22 (pc := 56) C k_1136 dX12_put_56 ?_
        refine v_bipush (pc := 59) (v := 64) C dX12_put_59 (by decide) ?_
        refine v_iload_n (pc := 61) 1 C dX12_put_61 rfl rfl ?_
        refine v_imul (pc := 62) C dX12_put_62 ?_
        refine v_iload_n (pc := 63) 2 C dX12_put_63 rfl rfl ?_
        refine v_iadd (pc := 64) C dX12_put_64 ?_
        refine v_aload_n (pc := 65) 0 C dX12_put_65 rfl rfl ?_
        refine g_12_20 (pc := 66) C k_1134 dX12_put_66 ?_
        refine v_iload_n (pc := 69) 1 C dX12_put_69 rfl rfl ?_
        refine v_iald (pc := 70) C rfl hw.1 dX12_put_70 ?_
        replace hw := hw.2
        refine v_if_ne (pc := 71) (tgt := 79) C dX12_put_71 (by decide) (fun c => ?_) (fun c => ?_)
        · replace hw := hw.2 c
          refine v_aload_n (pc := 79) 0 C dX12_put_79 rfl rfl ?_
          refine g_12_20 (pc := 80) C k_1134 dX12_put_80 ?_
          refine v_iload_n (pc := 83) 1 C dX12_put_83 rfl rfl ?_
          refine v_iald (pc := 84) C rfl hw.1 dX12_put_84 ?_
          replace hw := hw.2
          refine v_iconst (pc := 85) (v := 1) C dX12_put_85 (by decide) ?_
          refine v_icmp_ne (pc := 86) (tgt := 94) C dX12_put_86 (by decide) (fun c => ?_) (fun c => ?_)
          · replace hw := hw.2 c
            refine v_iload_n (pc := 94) 3 C dX12_put_94 rfl rfl ?_
            refine v_iast (pc := 95) C rfl hw.1 dX12_put_95 ?_
            replace hw := hw.2
            refine v_iconst (pc := 96) (v := 1) C dX12_put_96 (by decide) ?_
            exact v_iret (pc := 97) C r hw dX12_put_97
          · replace hw := hw.1 c
            refine v_iload_n (pc := 89) 3 C dX12_put_89 rfl rfl ?_
            refine v_i2s (pc := 90) C dX12_put_90 ?_
            refine v_goto (pc := 91) (tgt := 95) C dX12_put_91 (by decide) ?_
            refine v_iast (pc := 95) C rfl hw.1 dX12_put_95 ?_
            replace hw := hw.2
            refine v_iconst (pc := 96) (v := 1) C dX12_put_96 (by decide) ?_
            exact v_iret (pc := 97) C r hw dX12_put_97
        · replace hw := hw.1 c
          refine v_iload_n (pc := 74) 3 C dX12_put_74 rfl rfl ?_
          refine v_i2b (pc := 75) C dX12_put_75 ?_
          refine v_goto (pc := 76) (tgt := 95) C dX12_put_76 (by decide) ?_
          refine v_iast (pc := 95) C rfl hw.1 dX12_put_95 ?_
          replace hw := hw.2
          refine v_iconst (pc := 96) (v := 1) C dX12_put_96 (by decide) ?_
          exact v_iret (pc := 97) C r hw dX12_put_97
      · replace hw := hw.1 c
        refine v_aload_n (pc := 49) 0 C dX12_put_49 rfl rfl ?_
        refine v_iconst (pc := 50) (v := 3) C dX12_put_50 (by decide) ?_
        refine v_cVi (pc := 51) (o := 33) (As := [.int 3]) (rest := []) (ci := 12) C (c_X12_fails hw) pk_X12_fails k_1373 rfl (by decide) rfl (by decide) rfl rfl (Nat.le_of_ble_eq_true rfl) dX12_put_51 (fun r_7 σ_8 hw => ?_)
        exact v_iret (pc := 54) C r hw dX12_put_54
    · replace hw := hw.1 c
      refine v_aload_n (pc := 27) 0 C dX12_put_27 rfl rfl ?_
      refine v_iconst (pc := 28) (v := 1) C dX12_put_28 (by decide) ?_
      refine v_cVi (pc := 29) (o := 33) (As := [.int 1]) (rest := []) (ci := 12) C (c_X12_fails hw) pk_X12_fails k_1373 rfl (by decide) rfl (by decide) rfl rfl (Nat.le_of_ble_eq_true rfl) dX12_put_29 (fun r_3 σ_4 hw => ?_)
      exact v_iret (pc := 32) C r hw dX12_put_32
  · replace hw := hw.1 c
    refine v_iconst (pc := 14) (v := (-1)) C dX12_put_14 (by decide) ?_
    exact v_iret (pc := 15) C r hw dX12_put_15

theorem w_X12_at_J54 {X : Cx} {G : Gl} {P : Int64 → Mem → Prop} (C : Ck X G RX12 cX12_at 4 1) (r : RetJ X G P) (x1 : Int32) (x2 : Int32) (σ : Mem) (hw : v_X12_at_J54 P x1 x2 σ) : V X G 4 54 [(0, .ref (gA G 33)), (1, .int x1), (2, .int x2)] [] σ := by
  unfold v_X12_at_J54 at hw
  refine v_aload_n (pc := 54) 0 C dX12_at_54 rfl rfl ?_
  refine g_12_20 (pc := 55) C k_1134 dX12_at_55 ?_
  refine v_iload_n (pc := 58) 1 C dX12_at_58 rfl rfl ?_
  refine v_iald (pc := 59) C rfl hw.1 dX12_at_59 ?_
  replace hw := hw.2
  refine v_bipush (pc := 60) (v := (-9)) C dX12_at_60 (by decide) ?_
  refine v_icmp_ne (pc := 62) (tgt := 71) C dX12_at_62 (by decide) (fun c => ?_) (fun c => ?_)
  · replace hw := hw.2 c
    refine v_iload_n (pc := 71) 2 C dX12_at_71 rfl rfl ?_
    refine v_iconst (pc := 72) (v := 0) C dX12_at_72 (by decide) ?_
    refine v_aload_n (pc := 73) 0 C dX12_at_73 rfl rfl ?_
    refine g_12_21 (pc := 74) C k_1135 dX12_at_74 ?_
    refine v_iload_n (pc := 77) 1 C dX12_at_77 rfl rfl ?_
    refine v_iald (pc := 78) C rfl hw.1 dX12_at_78 ?_
    replace hw := hw.2
    refine v_iconst (pc := 79) (v := 1) C dX12_at_79 (by decide) ?_
    refine v_isub (pc := 80) C dX12_at_80 ?_
    refine v_callSi (pc := 81) (As := [.int x2, .int 0, .int ((σ.1 49 (Int32.toNatClampNeg x1)) - 1)]) (rest := []) C (c_X12_within hw) pk_X12_within (Or.inl k_1234) (by decide) rfl rfl (Nat.le_of_ble_eq_true rfl) dX12_at_81 (fun r_7 σ_8 hw => ?_)
    refine v_if_ne (pc := 84) (tgt := 93) C dX12_at_84 (by decide) (fun c => ?_) (fun c => ?_)
    · replace hw := hw.2 c
      refine v_aload_n (pc := 93) 0 C dX12_at_93 rfl rfl ?_
      refine g_12_22 (pc := 94) C k_1136 dX12_at_94 ?_
      refine v_bipush (pc := 97) (v := 64) C dX12_at_97 (by decide) ?_
      refine v_iload_n (pc := 99) 1 C dX12_at_99 rfl rfl ?_
      refine v_imul (pc := 100) C dX12_at_100 ?_
      refine v_iload_n (pc := 101) 2 C dX12_at_101 rfl rfl ?_
      refine v_iadd (pc := 102) C dX12_at_102 ?_
      refine v_iald (pc := 103) C rfl hw.1 dX12_at_103 ?_
      replace hw := hw.2
      refine v_i2l (pc := 104) C dX12_at_104 ?_
      exact v_lret (pc := 105) C r hw dX12_at_105
    · replace hw := hw.1 c
      refine v_aload_n (pc := 87) 0 C dX12_at_87 rfl rfl ?_
      refine v_iconst (pc := 88) (v := 3) C dX12_at_88 (by decide) ?_
      refine v_cVl (pc := 89) (o := 33) (As := [.int 3]) (rest := []) (ci := 12) C (c_X12_lost hw) pk_X12_lost k_1589 rfl (by decide) rfl (by decide) rfl rfl (Nat.le_of_ble_eq_true rfl) dX12_at_89 (fun r_9 σ_10 hw => ?_)
      exact v_lret (pc := 92) C r hw dX12_at_92
  · replace hw := hw.1 c
    refine v_aload_n (pc := 65) 0 C dX12_at_65 rfl rfl ?_
    refine v_iconst (pc := 66) (v := 1) C dX12_at_66 (by decide) ?_
    refine v_cVl (pc := 67) (o := 33) (As := [.int 1]) (rest := []) (ci := 12) C (c_X12_lost hw) pk_X12_lost k_1589 rfl (by decide) rfl (by decide) rfl rfl (Nat.le_of_ble_eq_true rfl) dX12_at_67 (fun r_5 σ_6 hw => ?_)
    exact v_lret (pc := 70) C r hw dX12_at_70

theorem c_X12_at {l : Launch} {G : Gl} {a1 : Int32} {a2 : Int32} {a3 : Int32} {σ : Mem} {P : Int64 → Mem → Prop} (hw : v_X12_at a1 a2 a3 σ P) : MetJ l yX12_at cX12_at 4 1 G [.ref (gA G 33), .int a1, .int a2, .int a3] σ P := by
  refine MetJ.of RX12 (by decide +kernel) rfl (Nat.le_of_ble_eq_true rfl) (fun X C r => ?_)
  show V X G 4 0 [(0, .ref (gA G 33)), (1, .int a1), (2, .int a2), (3, .int a3)] [] σ
  unfold v_X12_at at hw
  refine v_aload_n (pc := 0) 0 C dX12_at_0 rfl rfl ?_
  refine v_iconst (pc := 1) (v := 0) C dX12_at_1 (by decide) ?_
  refine p_12_0 (pc := 2) C k_1114 dX12_at_2 ?_
  refine v_iload_n (pc := 5) 1 C dX12_at_5 rfl rfl ?_
  refine v_iconst (pc := 6) (v := 0) C dX12_at_6 (by decide) ?_
  refine v_iconst (pc := 7) (v := 3) C dX12_at_7 (by decide) ?_
  refine v_callSi (pc := 8) (As := [.int a1, .int 0, .int 3]) (rest := []) C (c_X12_within hw) pk_X12_within (Or.inl k_1234) (by decide) rfl rfl (Nat.le_of_ble_eq_true rfl) dX12_at_8 (fun r_1 σ_2 hw => ?_)
  refine v_if_eq (pc := 11) (tgt := 23) C dX12_at_11 (by decide) (fun c => ?_) (fun c => ?_)
  · replace hw := hw.1 c
    refine v_ldc2 (pc := 23) C k_1588 dX12_at_23 ?_
    exact v_lret (pc := 26) C r hw dX12_at_26
  · replace hw := hw.2 c
    refine v_iload_n (pc := 14) 3 C dX12_at_14 rfl rfl ?_
    refine v_iconst (pc := 15) (v := 0) C dX12_at_15 (by decide) ?_
    refine v_iconst (pc := 16) (v := 2) C dX12_at_16 (by decide) ?_
    refine v_callSi (pc := 17) (As := [.int a3, .int 0, .int 2]) (rest := []) C (c_X12_within hw) pk_X12_within (Or.inl k_1234) (by decide) rfl rfl (Nat.le_of_ble_eq_true rfl) dX12_at_17 (fun r_3 σ_4 hw => ?_)
    refine v_if_ne (pc := 20) (tgt := 27) C dX12_at_20 (by decide) (fun c => ?_) (fun c => ?_)
    · replace hw := hw.2 c
      refine v_aload_n (pc := 27) 0 C dX12_at_27 rfl rfl ?_
      refine g_12_20 (pc := 28) C k_1134 dX12_at_28 ?_
      refine v_iload_n (pc := 31) 1 C dX12_at_31 rfl rfl ?_
      refine v_iald (pc := 32) C rfl hw.1 dX12_at_32 ?_
      replace hw := hw.2
      refine v_bipush (pc := 33) (v := (-9)) C dX12_at_33 (by decide) ?_
      refine v_icmp_eq (pc := 35) (tgt := 54) C dX12_at_35 (by decide) (fun c => ?_) (fun c => ?_)
      · replace hw := hw.1 c
        refine v_sub [0, 1, 2] rfl ?_
        exact w_X12_at_J54 C r _ _ _ hw
      · replace hw := hw.2 c
        refine v_aload_n (pc := 38) 0 C dX12_at_38 rfl rfl ?_
        refine g_12_20 (pc := 39) C k_1134 dX12_at_39 ?_
        refine v_iload_n (pc := 42) 1 C dX12_at_42 rfl rfl ?_
        refine v_iald (pc := 43) C rfl hw.1 dX12_at_43 ?_
        replace hw := hw.2
        refine v_iload_n (pc := 44) 3 C dX12_at_44 rfl rfl ?_
        refine v_icmp_eq (pc := 45) (tgt := 54) C dX12_at_45 (by decide) (fun c => ?_) (fun c => ?_)
        · replace hw := hw.1 c
          refine v_sub [0, 1, 2] rfl ?_
          exact w_X12_at_J54 C r _ _ _ hw
        · replace hw := hw.2 c
          refine v_aload_n (pc := 48) 0 C dX12_at_48 rfl rfl ?_
          refine v_iconst (pc := 49) (v := 2) C dX12_at_49 (by decide) ?_
          refine v_cVl (pc := 50) (o := 33) (As := [.int 2]) (rest := []) (ci := 12) C (c_X12_lost hw) pk_X12_lost k_1589 rfl (by decide) rfl (by decide) rfl rfl (Nat.le_of_ble_eq_true rfl) dX12_at_50 (fun r_11 σ_12 hw => ?_)
          exact v_lret (pc := 53) C r hw dX12_at_53
    · replace hw := hw.1 c
      refine v_ldc2 (pc := 23) C k_1588 dX12_at_23 ?_
      exact v_lret (pc := 26) C r hw dX12_at_26

theorem c_X12_begins {l : Launch} {G : Gl} {a1 : Int32} {σ : Mem} {P : Mem → Prop} (hw : v_X12_begins a1 σ P) : MetV l yX12_begins cX12_begins 2 0 G [.ref (gA G 33), .int a1] σ P := by
  refine MetV.of RX12 (by decide +kernel) rfl (Nat.le_of_ble_eq_true rfl) (fun X C r => ?_)
  show V X G 2 0 [(0, .ref (gA G 33)), (1, .int a1)] [] σ
  unfold v_X12_begins at hw
  refine v_aload_n (pc := 0) 0 C dX12_begins_0 rfl rfl ?_
  refine v_bipush (pc := 1) (v := 31) C dX12_begins_1 (by decide) ?_
  refine v_aload_n (pc := 3) 0 C dX12_begins_3 rfl rfl ?_
  refine g_12_1 (pc := 4) C k_1115 dX12_begins_4 ?_
  refine v_imul (pc := 7) C dX12_begins_7 ?_
  refine v_iload_n (pc := 8) 1 C dX12_begins_8 rfl rfl ?_
  refine v_iadd (pc := 9) C dX12_begins_9 ?_
  refine p_12_1 (pc := 10) C k_1115 dX12_begins_10 ?_
  exact v_vret (pc := 13) C r hw dX12_begins_13

theorem c_X12_tell {l : Launch} {G : Gl} {a1 : Int32} {σ : Mem} {P : Int32 → Mem → Prop} (hw : v_X12_tell a1 σ P) : MetI l yX12_tell cX12_tell 3 .int 1 G [.ref (gA G 33), .int a1] σ P := by
  refine MetI.of RX12 (by decide +kernel) rfl (Nat.le_of_ble_eq_true rfl) (fun X C r => ?_)
  show V X G 3 0 [(0, .ref (gA G 33)), (1, .int a1)] [] σ
  unfold v_X12_tell at hw
  refine v_aload_n (pc := 0) 0 C dX12_tell_0 rfl rfl ?_
  refine v_iload_n (pc := 1) 1 C dX12_tell_1 rfl rfl ?_
  refine v_cVi (pc := 2) (o := 33) (As := [.int a1]) (rest := []) (ci := 12) C (c_X12_isBar hw) pk_X12_isBar k_1285 rfl (by decide) rfl (by decide) rfl rfl (Nat.le_of_ble_eq_true rfl) dX12_tell_2 (fun r_1 σ_2 hw => ?_)
  refine v_if_ne (pc := 5) (tgt := 10) C dX12_tell_5 (by decide) (fun c => ?_) (fun c => ?_)
  · replace hw := hw.2 c
    refine v_aload_n (pc := 10) 0 C dX12_tell_10 rfl rfl ?_
    refine v_iload_n (pc := 11) 1 C dX12_tell_11 rfl rfl ?_
    refine v_iconst (pc := 12) (v := 2) C dX12_tell_12 (by decide) ?_
    refine v_cVi (pc := 13) (o := 33) (As := [.int a1, .int 2]) (rest := []) (ci := 12) C (c_X12_feltsOf hw) pk_X12_feltsOf k_1301 rfl (by decide) rfl (by decide) rfl rfl (Nat.le_of_ble_eq_true rfl) dX12_tell_13 (fun r_3 σ_4 hw => ?_)
    refine v_istore_n (pc := 16) C dX12_tell_16 rfl (by decide) rfl ?_
    refine v_aload_n (pc := 17) 1 C dX12_tell_17 rfl rfl ?_
    refine g_12_6 (pc := 18) C k_1120 dX12_tell_18 ?_
    refine v_iload_n (pc := 21) 2 C dX12_tell_21 rfl rfl ?_
    refine v_iald (pc := 22) C rfl hw.1 dX12_tell_22 ?_
    replace hw := hw.2
    by_cases c1 : (σ_4.1 36 (Int32.toNatClampNeg a1)) = 1
    · replace hw := hw.1 c1
      refine v_lookup (pc := 23) (tgt := 48) (off := 25) C dX12_tell_23 (by decide) (by rw [c1]; rfl) (by decide) ?_
      refine v_aload_n (pc := 48) 1 C dX12_tell_48 rfl rfl ?_
      refine v_iconst (pc := 49) (v := 2) C dX12_tell_49 (by decide) ?_
      refine v_cVv (pc := 50) (o := 33) (As := [.int 2]) (rest := []) (ci := 12) C (c_X12_begins hw) pk_X12_begins k_1597 rfl (by decide) rfl (by decide) rfl rfl (Nat.le_of_ble_eq_true rfl) dX12_tell_50 (fun σ_5 hw => ?_)
      refine v_aload_n (pc := 53) 1 C dX12_tell_53 rfl rfl ?_
      refine v_iconst (pc := 54) (v := 1) C dX12_tell_54 (by decide) ?_
      refine v_cVv (pc := 55) (o := 33) (As := [.int 1]) (rest := []) (ci := 12) C (c_X12_begins hw) pk_X12_begins k_1597 rfl (by decide) rfl (by decide) rfl rfl (Nat.le_of_ble_eq_true rfl) dX12_tell_55 (fun σ_6 hw => ?_)
      refine v_iload_n (pc := 58) 0 C dX12_tell_58 rfl rfl ?_
      refine v_aload_n (pc := 59) 1 C dX12_tell_59 rfl rfl ?_
      refine g_12_7 (pc := 60) C k_1121 dX12_tell_60 ?_
      refine v_iload_n (pc := 63) 2 C dX12_tell_63 rfl rfl ?_
      refine v_iald (pc := 64) C rfl hw.1 dX12_tell_64 ?_
      replace hw := hw.2
      refine v_iadd (pc := 65) C dX12_tell_65 ?_
      exact v_iret (pc := 66) C r hw dX12_tell_66
    · replace hw := hw.2 c1
      by_cases c2 : (σ_4.1 36 (Int32.toNatClampNeg a1)) = 2
      · replace hw := hw.1 c2
        refine v_lookup (pc := 23) (tgt := 67) (off := 44) C dX12_tell_23 (by decide) (by rw [c2]; rfl) (by decide) ?_
        refine v_aload_n (pc := 67) 1 C dX12_tell_67 rfl rfl ?_
        refine v_iconst (pc := 68) (v := 3) C dX12_tell_68 (by decide) ?_
        refine v_cVv (pc := 69) (o := 33) (As := [.int 3]) (rest := []) (ci := 12) C (c_X12_begins hw) pk_X12_begins k_1597 rfl (by decide) rfl (by decide) rfl rfl (Nat.le_of_ble_eq_true rfl) dX12_tell_69 (fun σ_7 hw => ?_)
        refine v_aload_n (pc := 72) 1 C dX12_tell_72 rfl rfl ?_
        refine v_iconst (pc := 73) (v := 2) C dX12_tell_73 (by decide) ?_
        refine v_cVv (pc := 74) (o := 33) (As := [.int 2]) (rest := []) (ci := 12) C (c_X12_begins hw) pk_X12_begins k_1597 rfl (by decide) rfl (by decide) rfl rfl (Nat.le_of_ble_eq_true rfl) dX12_tell_74 (fun σ_8 hw => ?_)
        refine v_aload_n (pc := 77) 1 C dX12_tell_77 rfl rfl ?_
        refine v_iconst (pc := 78) (v := 1) C dX12_tell_78 (by decide) ?_
        refine v_cVv (pc := 79) (o := 33) (As := [.int 1]) (rest := []) (ci := 12) C (c_X12_begins hw) pk_X12_begins k_1597 rfl (by decide) rfl (by decide) rfl rfl (Nat.le_of_ble_eq_true rfl) dX12_tell_79 (fun σ_9 hw => ?_)
        refine v_aload_n (pc := 82) 1 C dX12_tell_82 rfl rfl ?_
        refine v_iconst (pc := 83) (v := 1) C dX12_tell_83 (by decide) ?_
        refine v_cVv (pc := 84) (o := 33) (As := [.int 1]) (rest := []) (ci := 12) C (c_X12_begins hw) pk_X12_begins k_1597 rfl (by decide) rfl (by decide) rfl rfl (Nat.le_of_ble_eq_true rfl) dX12_tell_84 (fun σ_10 hw => ?_)
        refine v_iconst (pc := 87) (v := 2) C dX12_tell_87 (by decide) ?_
        refine v_iload_n (pc := 88) 0 C dX12_tell_88 rfl rfl ?_
        refine v_imul (pc := 89) C dX12_tell_89 ?_
        refine v_aload_n (pc := 90) 1 C dX12_tell_90 rfl rfl ?_
        refine g_12_7 (pc := 91) C k_1121 dX12_tell_91 ?_
        refine v_iload_n (pc := 94) 2 C dX12_tell_94 rfl rfl ?_
        refine v_iald (pc := 95) C rfl hw.1 dX12_tell_95 ?_
        replace hw := hw.2
        refine v_iadd (pc := 96) C dX12_tell_96 ?_
        exact v_iret (pc := 97) C r hw dX12_tell_97
      · replace hw := hw.2 c2
        refine v_lookup (pc := 23) (tgt := 98) (off := 75) C dX12_tell_23 (by decide) (by have e1 := ne_toInt (k := 1) c1 (by decide); have e2 := ne_toInt (k := 2) c2 (by decide); simp [Op.lookupswitch.offset, e1, Ne.symm e1, e2, Ne.symm e2]) (by decide) ?_
        refine v_aload_n (pc := 98) 1 C dX12_tell_98 rfl rfl ?_
        refine v_iconst (pc := 99) (v := 1) C dX12_tell_99 (by decide) ?_
        refine v_cVv (pc := 100) (o := 33) (As := [.int 1]) (rest := []) (ci := 12) C (c_X12_begins hw) pk_X12_begins k_1597 rfl (by decide) rfl (by decide) rfl rfl (Nat.le_of_ble_eq_true rfl) dX12_tell_100 (fun σ_11 hw => ?_)
        refine v_iload_n (pc := 103) 0 C dX12_tell_103 rfl rfl ?_
        exact v_iret (pc := 104) C r hw dX12_tell_104
  · replace hw := hw.1 c
    refine v_iconst (pc := 8) (v := (-1)) C dX12_tell_8 (by decide) ?_
    exact v_iret (pc := 9) C r hw dX12_tell_9

theorem w_X12_name_J26 {X : Cx} {G : Gl} {P : Int32 → Mem → Prop} (C : Ck X G RX12 cX12_name 2 1) (r : RetI X G .int P) (x1 : Int32) (xs0 : Int32) (σ : Mem) (hw : v_X12_name_J26 P x1 xs0 σ) : V X G 2 26 [(0, .ref (gA G 33)), (1, .int x1)] [.int xs0, .ref (gA G 33)] σ := by
  unfold v_X12_name_J26 at hw
  refine v_cVv (pc := 26) (o := 33) (As := [.int xs0]) (rest := []) (ci := 12) C (c_X12_begins hw) pk_X12_begins k_1597 rfl (by decide) rfl (by decide) rfl rfl (Nat.le_of_ble_eq_true rfl) dX12_name_26 (fun σ_3 hw => ?_)
  refine v_aload_n (pc := 29) 0 C dX12_name_29 rfl rfl ?_
  refine g_12_6 (pc := 30) C k_1120 dX12_name_30 ?_
  refine v_iload_n (pc := 33) 1 C dX12_name_33 rfl rfl ?_
  refine v_iald (pc := 34) C rfl hw.1 dX12_name_34 ?_
  replace hw := hw.2
  refine v_iconst (pc := 35) (v := 2) C dX12_name_35 (by decide) ?_
  refine v_icmp_ne (pc := 36) (tgt := 44) C dX12_name_36 (by decide) (fun c => ?_) (fun c => ?_)
  · replace hw := hw.2 c
    refine v_iload_n (pc := 44) 1 C dX12_name_44 rfl rfl ?_
    refine v_bipush (pc := 45) (v := 10) C dX12_name_45 (by decide) ?_
    refine v_iadd (pc := 47) C dX12_name_47 ?_
    exact v_iret (pc := 48) C r hw dX12_name_48
  · replace hw := hw.1 c
    refine v_bipush (pc := 39) (v := 77) C dX12_name_39 (by decide) ?_
    refine v_goto (pc := 41) (tgt := 48) C dX12_name_41 (by decide) ?_
    exact v_iret (pc := 48) C r hw dX12_name_48

theorem c_X12_name {l : Launch} {G : Gl} {a1 : Int32} {σ : Mem} {P : Int32 → Mem → Prop} (hw : v_X12_name a1 σ P) : MetI l yX12_name cX12_name 2 .int 1 G [.ref (gA G 33), .int a1] σ P := by
  refine MetI.of RX12 (by decide +kernel) rfl (Nat.le_of_ble_eq_true rfl) (fun X C r => ?_)
  show V X G 2 0 [(0, .ref (gA G 33)), (1, .int a1)] [] σ
  unfold v_X12_name at hw
  refine v_aload_n (pc := 0) 0 C dX12_name_0 rfl rfl ?_
  refine v_iload_n (pc := 1) 1 C dX12_name_1 rfl rfl ?_
  refine v_cVi (pc := 2) (o := 33) (As := [.int a1]) (rest := []) (ci := 12) C (c_X12_isBar hw) pk_X12_isBar k_1285 rfl (by decide) rfl (by decide) rfl rfl (Nat.le_of_ble_eq_true rfl) dX12_name_2 (fun r_1 σ_2 hw => ?_)
  refine v_if_ne (pc := 5) (tgt := 10) C dX12_name_5 (by decide) (fun c => ?_) (fun c => ?_)
  · replace hw := hw.2 c
    refine v_aload_n (pc := 10) 0 C dX12_name_10 rfl rfl ?_
    refine v_aload_n (pc := 11) 0 C dX12_name_11 rfl rfl ?_
    refine g_12_6 (pc := 12) C k_1120 dX12_name_12 ?_
    refine v_iload_n (pc := 15) 1 C dX12_name_15 rfl rfl ?_
    refine v_iald (pc := 16) C rfl hw.1 dX12_name_16 ?_
    replace hw := hw.2
    refine v_iconst (pc := 17) (v := 2) C dX12_name_17 (by decide) ?_
    refine v_icmp_ne (pc := 18) (tgt := 25) C dX12_name_18 (by decide) (fun c => ?_) (fun c => ?_)
    · replace hw := hw.2 c
      refine v_iconst (pc := 25) (v := 4) C dX12_name_25 (by decide) ?_
      refine v_sub [0, 1] rfl ?_
      exact w_X12_name_J26 C r _ _ _ hw
    · replace hw := hw.1 c
      refine v_iconst (pc := 21) (v := 5) C dX12_name_21 (by decide) ?_
      refine v_goto (pc := 22) (tgt := 26) C dX12_name_22 (by decide) ?_
      refine v_sub [0, 1] rfl ?_
      exact w_X12_name_J26 C r _ _ _ hw
  · replace hw := hw.1 c
    refine v_iconst (pc := 8) (v := (-1)) C dX12_name_8 (by decide) ?_
    exact v_iret (pc := 9) C r hw dX12_name_9

theorem c_X12_as {l : Launch} {G : Gl} {a1 : Int32} {a2 : Int32} {σ : Mem} {P : Int32 → Mem → Prop} (hw : v_X12_as a1 a2 σ P) : MetI l yX12_as cX12_as 3 .int 1 G [.ref (gA G 33), .int a1, .int a2] σ P := by
  refine MetI.of RX12 (by decide +kernel) rfl (Nat.le_of_ble_eq_true rfl) (fun X C r => ?_)
  show V X G 3 0 [(0, .ref (gA G 33)), (1, .int a1), (2, .int a2)] [] σ
  unfold v_X12_as at hw
  refine v_aload_n (pc := 0) 0 C dX12_as_0 rfl rfl ?_
  refine v_iconst (pc := 1) (v := 0) C dX12_as_1 (by decide) ?_
  refine p_12_0 (pc := 2) C k_1114 dX12_as_2 ?_
  refine v_aload_n (pc := 5) 0 C dX12_as_5 rfl rfl ?_
  refine v_iload_n (pc := 6) 1 C dX12_as_6 rfl rfl ?_
  refine v_cVi (pc := 7) (o := 33) (As := [.int a1]) (rest := []) (ci := 12) C (c_X12_isBar hw) pk_X12_isBar k_1285 rfl (by decide) rfl (by decide) rfl rfl (Nat.le_of_ble_eq_true rfl) dX12_as_7 (fun r_1 σ_2 hw => ?_)
  refine v_if_ne (pc := 10) (tgt := 15) C dX12_as_10 (by decide) (fun c => ?_) (fun c => ?_)
  · replace hw := hw.2 c
    refine v_iload_n (pc := 15) 2 C dX12_as_15 rfl rfl ?_
    refine v_iconst (pc := 16) (v := 0) C dX12_as_16 (by decide) ?_
    refine v_iconst (pc := 17) (v := 2) C dX12_as_17 (by decide) ?_
    refine v_callSi (pc := 18) (As := [.int a2, .int 0, .int 2]) (rest := []) C (c_X12_within hw) pk_X12_within (Or.inl k_1234) (by decide) rfl rfl (Nat.le_of_ble_eq_true rfl) dX12_as_18 (fun r_3 σ_4 hw => ?_)
    refine v_if_ne (pc := 21) (tgt := 27) C dX12_as_21 (by decide) (fun c => ?_) (fun c => ?_)
    · replace hw := hw.2 c
      refine v_aload_n (pc := 27) 0 C dX12_as_27 rfl rfl ?_
      refine g_12_6 (pc := 28) C k_1120 dX12_as_28 ?_
      refine v_iload_n (pc := 31) 1 C dX12_as_31 rfl rfl ?_
      refine v_iald (pc := 32) C rfl hw.1 dX12_as_32 ?_
      replace hw := hw.2
      refine v_iload_n (pc := 33) 2 C dX12_as_33 rfl rfl ?_
      refine v_icmp_lt (pc := 34) (tgt := 41) C dX12_as_34 (by decide) (fun c => ?_) (fun c => ?_)
      · replace hw := hw.1 c
        refine v_aload_n (pc := 41) 0 C dX12_as_41 rfl rfl ?_
        refine v_iconst (pc := 42) (v := 2) C dX12_as_42 (by decide) ?_
        refine v_cVi (pc := 43) (o := 33) (As := [.int 2]) (rest := []) (ci := 12) C (c_X12_fails hw) pk_X12_fails k_1373 rfl (by decide) rfl (by decide) rfl rfl (Nat.le_of_ble_eq_true rfl) dX12_as_43 (fun r_5 σ_6 hw => ?_)
        exact v_iret (pc := 46) C r hw dX12_as_46
      · replace hw := hw.2 c
        refine v_iconst (pc := 37) (v := 1) C dX12_as_37 (by decide) ?_
        refine v_goto (pc := 38) (tgt := 46) C dX12_as_38 (by decide) ?_
        exact v_iret (pc := 46) C r hw dX12_as_46
    · replace hw := hw.1 c
      refine v_bipush (pc := 24) (v := (-2)) C dX12_as_24 (by decide) ?_
      exact v_iret (pc := 26) C r hw dX12_as_26
  · replace hw := hw.1 c
    refine v_iconst (pc := 13) (v := (-1)) C dX12_as_13 (by decide) ?_
    exact v_iret (pc := 14) C r hw dX12_as_14

theorem c_X12_trace {l : Launch} {G : Gl} {σ : Mem} {P : Int32 → Mem → Prop} (hw : v_X12_trace σ P) : MetI l yX12_trace cX12_trace 1 .int 0 G [.ref (gA G 33)] σ P := by
  refine MetI.of RX12 (by decide +kernel) rfl (Nat.le_of_ble_eq_true rfl) (fun X C r => ?_)
  show V X G 1 0 [(0, .ref (gA G 33))] [] σ
  unfold v_X12_trace at hw
  refine v_aload_n (pc := 0) 0 C dX12_trace_0 rfl rfl ?_
  refine g_12_1 (pc := 1) C k_1115 dX12_trace_1 ?_
  exact v_iret (pc := 4) C r hw dX12_trace_4

theorem c_X12_fault {l : Launch} {G : Gl} {σ : Mem} {P : Int32 → Mem → Prop} (hw : v_X12_fault σ P) : MetI l yX12_fault cX12_fault 1 .int 0 G [.ref (gA G 33)] σ P := by
  refine MetI.of RX12 (by decide +kernel) rfl (Nat.le_of_ble_eq_true rfl) (fun X C r => ?_)
  show V X G 1 0 [(0, .ref (gA G 33))] [] σ
  unfold v_X12_fault at hw
  refine v_aload_n (pc := 0) 0 C dX12_fault_0 rfl rfl ?_
  refine g_12_0 (pc := 1) C k_1114 dX12_fault_1 ?_
  exact v_iret (pc := 4) C r hw dX12_fault_4

theorem w_X12_told_L53 {X : Cx} {G : Gl} {P : Int32 → Mem → Prop} (C : Ck X G RX12 cX12_told 4 2) (r : RetI X G .int P) : ∀ (n : Nat) (x2 : Int32) (x3 : Int32) (σ : Mem), v_X12_told_L53 P n x2 x3 σ → V X G 4 53 [(0, .ref (gA G 33)), (2, .int x2), (3, .int x3)] [] σ := by
  intro n
  induction n with
  | zero => intro x2 x3 σ hw; exact hw.elim
  | succ n ih =>
    intro x2 x3 σ hw
    refine v_iload_n (pc := 53) 2 C dX12_told_53 rfl rfl ?_
    refine v_aload_n (pc := 54) 0 C dX12_told_54 rfl rfl ?_
    refine g_12_2 (pc := 55) C k_1116 dX12_told_55 ?_
    refine v_icmp_ge (pc := 58) (tgt := 84) C dX12_told_58 (by decide) (fun c => ?_) (fun c => ?_)
    · replace hw := hw.1 c
      refine v_iload_n (pc := 84) 1 C dX12_told_84 rfl rfl ?_
      exact v_iret (pc := 85) C r hw dX12_told_85
    · replace hw := hw.2 c
      refine v_iload_n (pc := 61) 1 C dX12_told_61 rfl rfl ?_
      refine v_aload_n (pc := 62) 0 C dX12_told_62 rfl rfl ?_
      refine g_12_4 (pc := 63) C k_1118 dX12_told_63 ?_
      refine v_iload_n (pc := 66) 2 C dX12_told_66 rfl rfl ?_
      refine v_zald (pc := 67) C rfl hw.1 dX12_told_67 ?_
      replace hw := hw.2
      refine v_if_eq (pc := 68) (tgt := 75) C dX12_told_68 (by decide) (fun c => ?_) (fun c => ?_)
      · replace hw := hw.1 c
        refine v_iconst (pc := 75) (v := 0) C dX12_told_75 (by decide) ?_
        refine v_iadd (pc := 76) C dX12_told_76 ?_
        refine v_istore_n (pc := 77) C dX12_told_77 rfl (by decide) rfl ?_
        refine v_iinc (pc := 78) (v := x3 + 1) 2 C dX12_told_78 rfl rfl (by decide) rfl ?_
        refine v_goto (pc := 81) (tgt := 53) C dX12_told_81 (by decide) ?_
        refine v_sub [2, 1, 0] rfl ?_
        exact ih _ _ _ hw
      · replace hw := hw.2 c
        refine v_iconst (pc := 71) (v := 1) C dX12_told_71 (by decide) ?_
        refine v_goto (pc := 72) (tgt := 76) C dX12_told_72 (by decide) ?_
        refine v_iadd (pc := 76) C dX12_told_76 ?_
        refine v_istore_n (pc := 77) C dX12_told_77 rfl (by decide) rfl ?_
        refine v_iinc (pc := 78) (v := x3 + 1) 2 C dX12_told_78 rfl rfl (by decide) rfl ?_
        refine v_goto (pc := 81) (tgt := 53) C dX12_told_81 (by decide) ?_
        refine v_sub [2, 1, 0] rfl ?_
        exact ih _ _ _ hw

theorem c_X12_told {l : Launch} {G : Gl} {a1 : Int32} {σ : Mem} {P : Int32 → Mem → Prop} (hw : v_X12_told a1 σ P) : MetI l yX12_told cX12_told 4 .int 2 G [.ref (gA G 33), .int a1] σ P := by
  refine MetI.of RX12 (by decide +kernel) rfl (Nat.le_of_ble_eq_true rfl) (fun X C r => ?_)
  show V X G 4 0 [(0, .ref (gA G 33)), (1, .int a1)] [] σ
  unfold v_X12_told at hw
  refine v_iload_n (pc := 0) 1 C dX12_told_0 rfl rfl ?_
  by_cases c0 : a1 = 0
  · replace hw := hw.1 c0
    refine v_tableIn (pc := 1) (tgt := 44) (off := 43) C dX12_told_1 (by rw [c0]; decide) (by rw [c0]; decide) (by rw [c0]; rfl) (by decide) ?_
    refine v_aload_n (pc := 44) 0 C dX12_told_44 rfl rfl ?_
    refine g_12_2 (pc := 45) C k_1116 dX12_told_45 ?_
    exact v_iret (pc := 48) C r hw dX12_told_48
  · replace hw := hw.2 c0
    by_cases c1 : a1 = 1
    · replace hw := hw.1 c1
      refine v_tableIn (pc := 1) (tgt := 49) (off := 48) C dX12_told_1 (by rw [c1]; decide) (by rw [c1]; decide) (by rw [c1]; rfl) (by decide) ?_
      refine v_iconst (pc := 49) (v := 0) C dX12_told_49 (by decide) ?_
      refine v_istore_n (pc := 50) C dX12_told_50 rfl (by decide) rfl ?_
      refine v_iconst (pc := 51) (v := 0) C dX12_told_51 (by decide) ?_
      refine v_istore_n (pc := 52) C dX12_told_52 rfl (by decide) rfl ?_
      refine v_sub [2, 1, 0] rfl ?_
      refine w_X12_told_L53 C r 5000 _ _ _ hw
    · replace hw := hw.2 c1
      by_cases c2 : a1 = 2
      · replace hw := hw.1 c2
        refine v_tableIn (pc := 1) (tgt := 86) (off := 85) C dX12_told_1 (by rw [c2]; decide) (by rw [c2]; decide) (by rw [c2]; rfl) (by decide) ?_
        refine v_aload_n (pc := 86) 0 C dX12_told_86 rfl rfl ?_
        refine g_12_5 (pc := 87) C k_1119 dX12_told_87 ?_
        exact v_iret (pc := 90) C r hw dX12_told_90
      · replace hw := hw.2 c2
        by_cases c3 : a1 = 3
        · replace hw := hw.1 c3
          refine v_tableIn (pc := 1) (tgt := 91) (off := 90) C dX12_told_1 (by rw [c3]; decide) (by rw [c3]; decide) (by rw [c3]; rfl) (by decide) ?_
          refine v_aload_n (pc := 91) 0 C dX12_told_91 rfl rfl ?_
          refine g_12_15 (pc := 92) C k_1129 dX12_told_92 ?_
          exact v_iret (pc := 95) C r hw dX12_told_95
        · replace hw := hw.2 c3
          by_cases c4 : a1 = 4
          · replace hw := hw.1 c4
            refine v_tableIn (pc := 1) (tgt := 96) (off := 95) C dX12_told_1 (by rw [c4]; decide) (by rw [c4]; decide) (by rw [c4]; rfl) (by decide) ?_
            refine v_aload_n (pc := 96) 0 C dX12_told_96 rfl rfl ?_
            refine g_12_23 (pc := 97) C k_1137 dX12_told_97 ?_
            exact v_iret (pc := 100) C r hw dX12_told_100
          · replace hw := hw.2 c4
            by_cases c5 : a1 = 5
            · replace hw := hw.1 c5
              refine v_tableIn (pc := 1) (tgt := 101) (off := 100) C dX12_told_1 (by rw [c5]; decide) (by rw [c5]; decide) (by rw [c5]; rfl) (by decide) ?_
              refine v_aload_n (pc := 101) 0 C dX12_told_101 rfl rfl ?_
              refine g_12_33 (pc := 102) C k_1147 dX12_told_102 ?_
              exact v_iret (pc := 105) C r hw dX12_told_105
            · replace hw := hw.2 c5
              by_cases c6 : a1 = 6
              · replace hw := hw.1 c6
                refine v_tableIn (pc := 1) (tgt := 106) (off := 105) C dX12_told_1 (by rw [c6]; decide) (by rw [c6]; decide) (by rw [c6]; rfl) (by decide) ?_
                refine v_aload_n (pc := 106) 0 C dX12_told_106 rfl rfl ?_
                refine v_cVi (pc := 107) (o := 33) (As := []) (rest := []) (ci := 12) C (c_X12_allClasses hw) pk_X12_allClasses k_1341 rfl (by decide) rfl (by decide) rfl rfl (Nat.le_of_ble_eq_true rfl) dX12_told_107 (fun r_1 σ_2 hw => ?_)
                refine v_callSi (pc := 110) (As := [.int r_1]) (rest := []) C (c_X12_countOf hw) pk_X12_countOf (Or.inl k_1469) (by decide) rfl rfl (Nat.le_of_ble_eq_true rfl) dX12_told_110 (fun r_3 σ_4 hw => ?_)
                exact v_iret (pc := 113) C r hw dX12_told_113
              · replace hw := hw.2 c6
                refine v_tableOut (pc := 1) (tgt := 114) C dX12_told_1 (by have e0 := ne_toInt (k := 0) c0 (by decide); have e1 := ne_toInt (k := 1) c1 (by decide); have e2 := ne_toInt (k := 2) c2 (by decide); have e3 := ne_toInt (k := 3) c3 (by decide); have e4 := ne_toInt (k := 4) c4 (by decide); have e5 := ne_toInt (k := 5) c5 (by decide); have e6 := ne_toInt (k := 6) c6 (by decide); omega) (by decide) ?_
                refine v_bipush (pc := 114) (v := (-2)) C dX12_told_114 (by decide) ?_
                exact v_iret (pc := 116) C r hw dX12_told_116

