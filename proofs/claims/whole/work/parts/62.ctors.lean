-- ===== the constructors =====
theorem vp_of {x : Int32} {N : Nat} (h : ¬ (x < 0 ∨ N ≤ x.toNatClampNeg)) : vp_in x N := h
theorem i_84 : Cond.classLink RL 7 RX11 ∈ gT := gT_in 84 (by decide +kernel) (by decide +kernel)
theorem i_85 : Cond.instantiable RX11 11 ∈ gT := gT_in 85 (by decide +kernel) (by decide +kernel)
theorem i_86 : Cond.methodLink RL 9 yX11_init ∈ gT := gT_in 86 (by decide +kernel) (by decide +kernel)
theorem i_87 : Cond.instanceMethod yX11_init ∈ gT := gT_in 87 (by decide +kernel) (by decide +kernel)
theorem i_88 : Cond.code yX11_init prog_1_method_1_code 2 none ∈ gT := gT_in 88 (by decide +kernel) (by decide +kernel)
theorem i_89 : Cond.methodLink RX11 5 Lib.objectInit ∈ gT := gT_in 89 (by decide +kernel) (by decide +kernel)
theorem i_90 : Cond.instanceMethod Lib.objectInit ∈ gT := gT_in 90 (by decide +kernel) (by decide +kernel)
theorem i_91 : Cond.code Lib.objectInit ⟨#[0xb1]⟩ 1 none ∈ gT := gT_in 91 (by decide +kernel) (by decide +kernel)
theorem i_92 : Cond.classLink RX11 11 RX10 ∈ gT := gT_in 92 (by decide +kernel) (by decide +kernel)
theorem i_93 : Cond.instantiable RX10 5 ∈ gT := gT_in 93 (by decide +kernel) (by decide +kernel)
theorem i_95 : Cond.instanceMethod yX10_init ∈ gT := gT_in 95 (by decide +kernel) (by decide +kernel)
theorem i_96 : Cond.code yX10_init prog_12_method_1_code 1 none ∈ gT := gT_in 96 (by decide +kernel) (by decide +kernel)
theorem i_97 : Cond.methodLink RX10 3 Lib.objectInit ∈ gT := gT_in 97 (by decide +kernel) (by decide +kernel)
theorem i_118 : Cond.arrayClass .int ∈ gT := gT_in 118 (by decide +kernel) (by decide +kernel)
theorem i_119 : Cond.arrayClass .long ∈ gT := gT_in 119 (by decide +kernel) (by decide +kernel)
theorem i_120 : Cond.classLink RX11 18 RX7 ∈ gT := gT_in 120 (by decide +kernel) (by decide +kernel)
theorem i_121 : Cond.instantiable RX7 2 ∈ gT := gT_in 121 (by decide +kernel) (by decide +kernel)
theorem i_122 : Cond.methodLink RX11 20 yX7_init ∈ gT := gT_in 122 (by decide +kernel) (by decide +kernel)
theorem i_123 : Cond.instanceMethod yX7_init ∈ gT := gT_in 123 (by decide +kernel) (by decide +kernel)
theorem i_124 : Cond.code yX7_init prog_9_method_1_code 2 none ∈ gT := gT_in 124 (by decide +kernel) (by decide +kernel)
theorem i_125 : Cond.methodLink RX7 3 Lib.objectInit ∈ gT := gT_in 125 (by decide +kernel) (by decide +kernel)
theorem i_126 : Cond.classLink RX7 9 RX0 ∈ gT := gT_in 126 (by decide +kernel) (by decide +kernel)
theorem i_128 : Cond.instantiable RX0 4 ∈ gT := gT_in 128 (by decide +kernel) (by decide +kernel)
theorem i_130 : Cond.instanceMethod yX0_init ∈ gT := gT_in 130 (by decide +kernel) (by decide +kernel)
theorem i_131 : Cond.code yX0_init prog_2_method_1_code 1 none ∈ gT := gT_in 131 (by decide +kernel) (by decide +kernel)
theorem i_132 : Cond.methodLink RX0 3 Lib.objectInit ∈ gT := gT_in 132 (by decide +kernel) (by decide +kernel)
theorem i_143 : Cond.fieldLink RX0 22 "FeltZither$Bar" "place" "I" ∈ gT := gT_in 143 (by decide +kernel) (by decide +kernel)
theorem i_170 : Cond.classLink RX11 25 RX4 ∈ gT := gT_in 170 (by decide +kernel) (by decide +kernel)
theorem i_171 : Cond.instantiable RX4 6 ∈ gT := gT_in 171 (by decide +kernel) (by decide +kernel)
theorem i_173 : Cond.instanceMethod yX4_init ∈ gT := gT_in 173 (by decide +kernel) (by decide +kernel)
theorem i_174 : Cond.code yX4_init prog_6_method_1_code 1 none ∈ gT := gT_in 174 (by decide +kernel) (by decide +kernel)
theorem i_175 : Cond.methodLink RX4 3 Lib.objectInit ∈ gT := gT_in 175 (by decide +kernel) (by decide +kernel)
theorem i_200 : Cond.classLink RX11 32 RX1 ∈ gT := gT_in 200 (by decide +kernel) (by decide +kernel)
theorem i_201 : Cond.instantiable RX1 2 ∈ gT := gT_in 201 (by decide +kernel) (by decide +kernel)
theorem i_202 : Cond.methodLink RX11 34 yX1_init ∈ gT := gT_in 202 (by decide +kernel) (by decide +kernel)
theorem i_203 : Cond.instanceMethod yX1_init ∈ gT := gT_in 203 (by decide +kernel) (by decide +kernel)
theorem i_204 : Cond.code yX1_init prog_3_method_1_code 2 none ∈ gT := gT_in 204 (by decide +kernel) (by decide +kernel)
theorem i_205 : Cond.methodLink RX1 3 Lib.objectInit ∈ gT := gT_in 205 (by decide +kernel) (by decide +kernel)
theorem i_206 : Cond.classLink RX1 9 RX9 ∈ gT := gT_in 206 (by decide +kernel) (by decide +kernel)
theorem i_208 : Cond.instantiable RX9 4 ∈ gT := gT_in 208 (by decide +kernel) (by decide +kernel)
theorem i_210 : Cond.instanceMethod yX9_init ∈ gT := gT_in 210 (by decide +kernel) (by decide +kernel)
theorem i_211 : Cond.code yX9_init prog_11_method_1_code 1 none ∈ gT := gT_in 211 (by decide +kernel) (by decide +kernel)
theorem i_212 : Cond.methodLink RX9 3 Lib.objectInit ∈ gT := gT_in 212 (by decide +kernel) (by decide +kernel)
theorem i_217 : Cond.fieldLink RX9 18 "FeltZither$Song" "steps" "I" ∈ gT := gT_in 217 (by decide +kernel) (by decide +kernel)
theorem i_224 : Cond.fieldLink RX9 22 "FeltZither$Song" "key" "I" ∈ gT := gT_in 224 (by decide +kernel) (by decide +kernel)
theorem i_252 : Cond.classLink RX11 39 RX5 ∈ gT := gT_in 252 (by decide +kernel) (by decide +kernel)
theorem i_253 : Cond.instantiable RX5 7 ∈ gT := gT_in 253 (by decide +kernel) (by decide +kernel)
theorem i_255 : Cond.instanceMethod yX5_init ∈ gT := gT_in 255 (by decide +kernel) (by decide +kernel)
theorem i_256 : Cond.code yX5_init prog_7_method_1_code 1 none ∈ gT := gT_in 256 (by decide +kernel) (by decide +kernel)
theorem i_257 : Cond.methodLink RX5 3 Lib.objectInit ∈ gT := gT_in 257 (by decide +kernel) (by decide +kernel)
theorem i_282 : Cond.classLink RX11 46 RX3 ∈ gT := gT_in 282 (by decide +kernel) (by decide +kernel)
theorem i_283 : Cond.instantiable RX3 2 ∈ gT := gT_in 283 (by decide +kernel) (by decide +kernel)
theorem i_285 : Cond.instanceMethod yX3_init ∈ gT := gT_in 285 (by decide +kernel) (by decide +kernel)
theorem i_286 : Cond.code yX3_init prog_5_method_1_code 1 none ∈ gT := gT_in 286 (by decide +kernel) (by decide +kernel)
theorem i_287 : Cond.methodLink RX3 3 Lib.objectInit ∈ gT := gT_in 287 (by decide +kernel) (by decide +kernel)
theorem i_295 : Cond.classLink RX11 53 RX6 ∈ gT := gT_in 295 (by decide +kernel) (by decide +kernel)
theorem i_296 : Cond.instantiable RX6 2 ∈ gT := gT_in 296 (by decide +kernel) (by decide +kernel)
theorem i_298 : Cond.instanceMethod yX6_init ∈ gT := gT_in 298 (by decide +kernel) (by decide +kernel)
theorem i_299 : Cond.code yX6_init prog_8_method_1_code 1 none ∈ gT := gT_in 299 (by decide +kernel) (by decide +kernel)
theorem i_300 : Cond.methodLink RX6 3 Lib.objectInit ∈ gT := gT_in 300 (by decide +kernel) (by decide +kernel)
theorem i_308 : Cond.classLink RX11 60 RX2 ∈ gT := gT_in 308 (by decide +kernel) (by decide +kernel)
theorem i_309 : Cond.instantiable RX2 5 ∈ gT := gT_in 309 (by decide +kernel) (by decide +kernel)
theorem i_311 : Cond.instanceMethod yX2_init ∈ gT := gT_in 311 (by decide +kernel) (by decide +kernel)
theorem i_312 : Cond.code yX2_init prog_4_method_1_code 1 none ∈ gT := gT_in 312 (by decide +kernel) (by decide +kernel)
theorem i_313 : Cond.methodLink RX2 3 Lib.objectInit ∈ gT := gT_in 313 (by decide +kernel) (by decide +kernel)
theorem i_331 : Cond.classLink RX11 67 RX8 ∈ gT := gT_in 331 (by decide +kernel) (by decide +kernel)
theorem i_333 : Cond.instantiable RX8 3 ∈ gT := gT_in 333 (by decide +kernel) (by decide +kernel)
theorem i_335 : Cond.instanceMethod yX8_init ∈ gT := gT_in 335 (by decide +kernel) (by decide +kernel)
theorem i_336 : Cond.code yX8_init prog_10_method_1_code 1 none ∈ gT := gT_in 336 (by decide +kernel) (by decide +kernel)
theorem i_337 : Cond.methodLink RX8 3 Lib.objectInit ∈ gT := gT_in 337 (by decide +kernel) (by decide +kernel)
theorem i_1108 : Cond.classLink RL 10 RX12 ∈ gT := gT_in 1108 (by decide +kernel) (by decide +kernel)
theorem i_1109 : Cond.instantiable RX12 38 ∈ gT := gT_in 1109 (by decide +kernel) (by decide +kernel)
theorem i_1110 : Cond.methodLink RL 12 yX12_init ∈ gT := gT_in 1110 (by decide +kernel) (by decide +kernel)
theorem i_1111 : Cond.instanceMethod yX12_init ∈ gT := gT_in 1111 (by decide +kernel) (by decide +kernel)
theorem i_1112 : Cond.code yX12_init prog_14_method_1_code 1 none ∈ gT := gT_in 1112 (by decide +kernel) (by decide +kernel)
theorem i_1113 : Cond.methodLink RX12 1 Lib.objectInit ∈ gT := gT_in 1113 (by decide +kernel) (by decide +kernel)
theorem i_1145 : Cond.fieldLink RX12 83 "FeltZitherModel" "row" "[I" ∈ gT := gT_in 1145 (by decide +kernel) (by decide +kernel)
theorem i_1229 : Cond.arrayClass .boolean ∈ gT := gT_in 1229 (by decide +kernel) (by decide +kernel)
theorem df_10 : ∀ j, j < 5 → defaultValue (tyX10 j) = vp_V [.null, .null, .null, .long 0, .int 0] j := by decide +kernel
theorem df_0 : ∀ j, j < 4 → defaultValue (tyX0 j) = vp_V [.int 0, .long 0, .long 0, .int 0] j := by decide +kernel
theorem df_7 : ∀ j, j < 2 → defaultValue (tyX7 j) = vp_V [.null, .int 0] j := by decide +kernel
theorem df_4 : ∀ j, j < 6 → defaultValue (tyX4 j) = vp_V [.null, .null, .null, .null, .null, .int 0] j := by decide +kernel
theorem df_9 : ∀ j, j < 4 → defaultValue (tyX9 j) = vp_V [.null, .null, .int 0, .int 0] j := by decide +kernel
theorem df_1 : ∀ j, j < 2 → defaultValue (tyX1 j) = vp_V [.null, .int 0] j := by decide +kernel
theorem df_5 : ∀ j, j < 7 → defaultValue (tyX5 j) = vp_V [.null, .null, .null, .null, .null, .int 0, .int 0] j := by decide +kernel
theorem df_3 : ∀ j, j < 2 → defaultValue (tyX3 j) = vp_V [.null, .null] j := by decide +kernel
theorem df_6 : ∀ j, j < 2 → defaultValue (tyX6 j) = vp_V [.null, .null] j := by decide +kernel
theorem df_2 : ∀ j, j < 5 → defaultValue (tyX2 j) = vp_V [.null, .null, .null, .null, .int 0] j := by decide +kernel
theorem df_8 : ∀ j, j < 3 → defaultValue (tyX8 j) = vp_V [.null, .int 0, .int 0] j := by decide +kernel
theorem df_11 : ∀ j, j < 11 → defaultValue (tyX11 j) = vp_V [.null, .null, .null, .null, .null, .null, .null, .null, .null, .int 0, .int 0] j := by decide +kernel
theorem df_12 : ∀ j, j < 38 → defaultValue (tyX12 j) = vp_V [.int 0, .int 0, .int 0, .null, .null, .int 0, .null, .null, .null, .null, .int 0, .null, .null, .null, .null, .int 0, .null, .null, .null, .null, .null, .null, .null, .int 0, .null, .null, .null, .null, .null, .null, .null, .null, .null, .int 0, .null, .null, .null, .null] j := by decide +kernel
theorem pk_X10_init : PkB yX10_init cX10_init 1 none 0 := ⟨⟨by decide +kernel, by decide +kernel, by decide +kernel⟩, i_96, k_66, by decide⟩
theorem pk_X0_init : PkB yX0_init cX0_init 1 none 0 := ⟨⟨by decide +kernel, by decide +kernel, by decide +kernel⟩, i_131, k_68, by decide⟩
theorem pk_X7_init : PkB yX7_init cX7_init 2 none 0 := ⟨⟨by decide +kernel, by decide +kernel, by decide +kernel⟩, i_124, k_67, by decide⟩
theorem pk_X4_init : PkB yX4_init cX4_init 1 none 0 := ⟨⟨by decide +kernel, by decide +kernel, by decide +kernel⟩, i_174, k_69, by decide⟩
theorem pk_X9_init : PkB yX9_init cX9_init 1 none 0 := ⟨⟨by decide +kernel, by decide +kernel, by decide +kernel⟩, i_211, k_71, by decide⟩
theorem pk_X1_init : PkB yX1_init cX1_init 2 none 0 := ⟨⟨by decide +kernel, by decide +kernel, by decide +kernel⟩, i_204, k_70, by decide⟩
theorem pk_X5_init : PkB yX5_init cX5_init 1 none 0 := ⟨⟨by decide +kernel, by decide +kernel, by decide +kernel⟩, i_256, k_72, by decide⟩
theorem pk_X3_init : PkB yX3_init cX3_init 1 none 0 := ⟨⟨by decide +kernel, by decide +kernel, by decide +kernel⟩, i_286, k_73, by decide⟩
theorem pk_X6_init : PkB yX6_init cX6_init 1 none 0 := ⟨⟨by decide +kernel, by decide +kernel, by decide +kernel⟩, i_299, k_74, by decide⟩
theorem pk_X2_init : PkB yX2_init cX2_init 1 none 0 := ⟨⟨by decide +kernel, by decide +kernel, by decide +kernel⟩, i_312, k_75, by decide⟩
theorem pk_X8_init : PkB yX8_init cX8_init 1 none 0 := ⟨⟨by decide +kernel, by decide +kernel, by decide +kernel⟩, i_336, k_76, by decide⟩
theorem pk_X11_init : PkB yX11_init cX11_init 2 none 0 := ⟨⟨by decide +kernel, by decide +kernel, by decide +kernel⟩, i_88, k_65, by decide⟩
theorem pk_X12_init : PkB yX12_init cX12_init 1 none 0 := ⟨⟨by decide +kernel, by decide +kernel, by decide +kernel⟩, i_1112, k_77, by decide⟩
def w_X10 (cy : Nat → ClassId) (q : Nat → Nat) (o : Nat) : va_W := ((q 2), .inl (cy 1, 61, .inr (.inl (fun _ => 0)))) :: (((q 1), .inl (cy 1, 12, .inr (.inl (fun _ => 0)))) :: (((q 0), .inl (cy 0, 36, .inl (fun _ => 0))) :: ((o, .inr (10, [.ref (q 0), .ref (q 1), .ref (q 2), .long 0, .int 0])) :: ([]))))
set_option maxRecDepth 100000 in
set_option maxHeartbeats 4000000 in
theorem c_X10_init {l : Launch} {D : va_G} {cy : Nat → ClassId} {A : Nat → Prop} {o : Nat} {W : va_W} : MetC l yX10_init cX10_init 1 1 3 109 D cy A o ((o, .inr (10, [.null, .null, .null, .long 0, .int 0])) :: W) (fun q : Nat → Nat => w_X10 cy q o ++ W) := by
  refine MetC.of RX10 (by decide +kernel) rfl (Nat.le_of_ble_eq_true rfl) rfl (fun X C r => ?_)
  refine u_aload_n (pc := 0) 0 C dX10_init_0 rfl rfl ?_
  refine u_obj (pc := 1) C i_97 i_90 i_91 (by decide) dX10_init_1 ?_
  refine u_aload_n (pc := 4) 0 C dX10_init_4 rfl rfl ?_
  refine u_bipush (pc := 5) (v := 36) C dX10_init_5 (by decide) ?_
  refine u_newi (pc := 7) (N := 36) C i_118 (by decide) (by decide) (Nat.le_of_ble_eq_true rfl) ⟨Nat.le_of_ble_eq_true rfl, Nat.le_of_ble_eq_true rfl⟩ dX10_init_7 (fun a1 => ?_)
  refine u_putF (pc := 9) (ci := 10) (N := 5) (v := .ref a1) (ty := .array .int) 1 0 ((a1, .inl (cy 0, 36, .inl (fun _ => 0))) :: ((o, .inr (10, [.ref a1, .null, .null, .long 0, .int 0])) :: (W))) tyX10 tyX10_ok nmX10 C hin_10 r.2.2 rfl rfl (by decide) k_98 rfl rfl (by decide +kernel) rfl rfl (Nat.le_of_ble_eq_true rfl) rfl dX10_init_9 ?_
  refine u_aload_n (pc := 12) 0 C dX10_init_12 rfl rfl ?_
  refine u_bipush (pc := 13) (v := 12) C dX10_init_13 (by decide) ?_
  refine u_newl (pc := 15) (N := 12) C i_119 (by decide) (by decide) (Nat.le_of_ble_eq_true rfl) ⟨Nat.le_of_ble_eq_true rfl, Nat.le_of_ble_eq_true rfl⟩ dX10_init_15 (fun a2 => ?_)
  refine u_putF (pc := 17) (ci := 10) (N := 5) (v := .ref a2) (ty := .array .long) 2 1 ((a2, .inl (cy 1, 12, .inr (.inl (fun _ => 0)))) :: ((a1, .inl (cy 0, 36, .inl (fun _ => 0))) :: ((o, .inr (10, [.ref a1, .ref a2, .null, .long 0, .int 0])) :: (W)))) tyX10 tyX10_ok nmX10 C hin_10 r.2.2 rfl rfl (by decide) k_100 rfl rfl (by decide +kernel) rfl rfl (Nat.le_of_ble_eq_true rfl) rfl dX10_init_17 ?_
  refine u_aload_n (pc := 20) 0 C dX10_init_20 rfl rfl ?_
  refine u_bipush (pc := 21) (v := 61) C dX10_init_21 (by decide) ?_
  refine u_newl (pc := 23) (N := 61) C i_119 (by decide) (by decide) (Nat.le_of_ble_eq_true rfl) ⟨Nat.le_of_ble_eq_true rfl, Nat.le_of_ble_eq_true rfl⟩ dX10_init_23 (fun a3 => ?_)
  refine u_putF (pc := 25) (ci := 10) (N := 5) (v := .ref a3) (ty := .array .long) 3 2 ((a3, .inl (cy 1, 61, .inr (.inl (fun _ => 0)))) :: ((a2, .inl (cy 1, 12, .inr (.inl (fun _ => 0)))) :: ((a1, .inl (cy 0, 36, .inl (fun _ => 0))) :: ((o, .inr (10, [.ref a1, .ref a2, .ref a3, .long 0, .int 0])) :: (W))))) tyX10 tyX10_ok nmX10 C hin_10 r.2.2 rfl rfl (by decide) k_101 rfl rfl (by decide +kernel) rfl rfl (Nat.le_of_ble_eq_true rfl) rfl dX10_init_25 ?_
  refine u_aload_n (pc := 28) 0 C dX10_init_28 rfl rfl ?_
  refine u_lconst (pc := 29) (v := 0) C dX10_init_29 (by decide) ?_
  refine u_put (pc := 30) (ci := 10) (N := 5) (v := .long 0) (ty := .long) 3 3 ((a3, .inl (cy 1, 61, .inr (.inl (fun _ => 0)))) :: ((a2, .inl (cy 1, 12, .inr (.inl (fun _ => 0)))) :: ((a1, .inl (cy 0, 36, .inl (fun _ => 0))) :: ((o, .inr (10, [.ref a1, .ref a2, .ref a3, .long 0, .int 0])) :: (W))))) tyX10 tyX10_ok nmX10 C hin_10 rfl rfl (by decide) k_103 rfl (by decide +kernel) rfl rfl (Nat.le_of_ble_eq_true rfl) rfl dX10_init_30 ?_
  refine u_aload_n (pc := 33) 0 C dX10_init_33 rfl rfl ?_
  refine u_iconst (pc := 34) (v := 0) C dX10_init_34 (by decide) ?_
  refine u_put (pc := 35) (ci := 10) (N := 5) (v := .int 0) (ty := .int) 3 4 ((a3, .inl (cy 1, 61, .inr (.inl (fun _ => 0)))) :: ((a2, .inl (cy 1, 12, .inr (.inl (fun _ => 0)))) :: ((a1, .inl (cy 0, 36, .inl (fun _ => 0))) :: ((o, .inr (10, [.ref a1, .ref a2, .ref a3, .long 0, .int 0])) :: (W))))) tyX10 tyX10_ok nmX10 C hin_10 rfl rfl (by decide) k_105 rfl (by decide +kernel) rfl rfl (Nat.le_of_ble_eq_true rfl) rfl dX10_init_35 ?_
  exact u_ret (pc := 38) (fun j => [a1, a2, a3].getD j 0) C r rfl dX10_init_38
def w_X0 (o : Nat) : va_W := (o, .inr (0, [.int (-9), .long 0, .long 0, .int 0])) :: ([])
set_option maxRecDepth 100000 in
set_option maxHeartbeats 4000000 in
theorem c_X0_init {l : Launch} {D : va_G} {cy : Nat → ClassId} {A : Nat → Prop} {o : Nat} {W : va_W} : MetC l yX0_init cX0_init 1 1 0 0 D cy A o ((o, .inr (0, [.int 0, .long 0, .long 0, .int 0])) :: W) (fun _ : Unit => w_X0 o ++ W) := by
  refine MetC.of RX0 (by decide +kernel) rfl (Nat.le_of_ble_eq_true rfl) rfl (fun X C r => ?_)
  refine u_aload_n (pc := 0) 0 C dX0_init_0 rfl rfl ?_
  refine u_obj (pc := 1) C i_132 i_90 i_91 (by decide) dX0_init_1 ?_
  refine u_aload_n (pc := 4) 0 C dX0_init_4 rfl rfl ?_
  refine u_bipush (pc := 5) (v := (-9)) C dX0_init_5 (by decide) ?_
  refine u_put (pc := 7) (ci := 0) (N := 4) (v := .int (-9)) (ty := .int) 0 0 ((o, .inr (0, [.int (-9), .long 0, .long 0, .int 0])) :: (W)) tyX0 tyX0_ok nmX0 C hin_0 rfl rfl (by decide) k_133 rfl (by decide +kernel) rfl rfl (Nat.le_of_ble_eq_true rfl) rfl dX0_init_7 ?_
  refine u_aload_n (pc := 10) 0 C dX0_init_10 rfl rfl ?_
  refine u_lconst (pc := 11) (v := 0) C dX0_init_11 (by decide) ?_
  refine u_put (pc := 12) (ci := 0) (N := 4) (v := .long 0) (ty := .long) 0 1 ((o, .inr (0, [.int (-9), .long 0, .long 0, .int 0])) :: (W)) tyX0 tyX0_ok nmX0 C hin_0 rfl rfl (by decide) k_136 rfl (by decide +kernel) rfl rfl (Nat.le_of_ble_eq_true rfl) rfl dX0_init_12 ?_
  refine u_aload_n (pc := 15) 0 C dX0_init_15 rfl rfl ?_
  refine u_lconst (pc := 16) (v := 0) C dX0_init_16 (by decide) ?_
  refine u_put (pc := 17) (ci := 0) (N := 4) (v := .long 0) (ty := .long) 0 2 ((o, .inr (0, [.int (-9), .long 0, .long 0, .int 0])) :: (W)) tyX0 tyX0_ok nmX0 C hin_0 rfl rfl (by decide) k_140 rfl (by decide +kernel) rfl rfl (Nat.le_of_ble_eq_true rfl) rfl dX0_init_17 ?_
  refine u_aload_n (pc := 20) 0 C dX0_init_20 rfl rfl ?_
  refine u_iconst (pc := 21) (v := 0) C dX0_init_21 (by decide) ?_
  refine u_put (pc := 22) (ci := 0) (N := 4) (v := .int 0) (ty := .int) 0 3 ((o, .inr (0, [.int (-9), .long 0, .long 0, .int 0])) :: (W)) tyX0 tyX0_ok nmX0 C hin_0 rfl rfl (by decide) i_143 rfl (by decide +kernel) rfl rfl (Nat.le_of_ble_eq_true rfl) rfl dX0_init_22 ?_
  exact u_ret (pc := 25) () C r rfl dX0_init_25
def w_X7 (cy : Nat → ClassId) (q : Nat → Nat) (o : Nat) : va_W := w_X0 (q 12) ++ (w_X0 (q 11) ++ (w_X0 (q 10) ++ (w_X0 (q 9) ++ (w_X0 (q 8) ++ (w_X0 (q 7) ++ (w_X0 (q 6) ++ (w_X0 (q 5) ++ (w_X0 (q 4) ++ (w_X0 (q 3) ++ (w_X0 (q 2) ++ (w_X0 (q 1) ++ (((q 0), .inl (cy 3, 12, .inr (.inr (.inr (.inr (va_up (va_up (va_up (va_up (va_up (va_up (va_up (va_up (va_up (va_up (va_up (va_up (fun _ => none) 0 (some (q 1))) 1 (some (q 2))) 2 (some (q 3))) 3 (some (q 4))) 4 (some (q 5))) 5 (some (q 6))) 6 (some (q 7))) 7 (some (q 8))) 8 (some (q 9))) 9 (some (q 10))) 10 (some (q 11))) 11 (some (q 12)))))))) :: ((o, .inr (7, [.ref (q 0), .int 0])) :: ([]))))))))))))))
set_option maxRecDepth 100000 in
set_option maxHeartbeats 4000000 in
theorem c_X7_init {l : Launch} {D : va_G} {cy : Nat → ClassId} {A : Nat → Prop} {o : Nat} {W : va_W} : MetC l yX7_init cX7_init 2 2 13 60 D cy A o ((o, .inr (7, [.null, .int 0])) :: W) (fun q : Nat → Nat => w_X7 cy q o ++ W) := by
  refine MetC.of RX7 (by decide +kernel) rfl (Nat.le_of_ble_eq_true rfl) rfl (fun X C r => ?_)
  refine u_aload_n (pc := 0) 0 C dX7_init_0 rfl rfl ?_
  refine u_obj (pc := 1) C i_125 i_90 i_91 (by decide) dX7_init_1 ?_
  refine u_aload_n (pc := 4) 0 C dX7_init_4 rfl rfl ?_
  refine u_bipush (pc := 5) (v := 12) C dX7_init_5 (by decide) ?_
  refine u_newq (pc := 7) (N := 12) 3 C rfl (fun h => h.2.2.1) i_126 (by decide) (by decide) (Nat.le_of_ble_eq_true rfl) ⟨Nat.le_of_ble_eq_true rfl, Nat.le_of_ble_eq_true rfl⟩ dX7_init_7 (fun a1 => ?_)
  refine u_putF (pc := 10) (ci := 7) (N := 2) (v := .ref a1) (ty := .array (.object "FeltZither$Bar")) 1 0 ((a1, .inl (cy 3, 12, .inr (.inr (.inr (.inr (fun _ => none)))))) :: ((o, .inr (7, [.ref a1, .int 0])) :: (W))) tyX7 tyX7_ok nmX7 C hin_7 r.2.2 rfl rfl (by decide) k_156 rfl rfl (by decide +kernel) rfl rfl (Nat.le_of_ble_eq_true rfl) rfl dX7_init_10 ?_
  refine u_aload_n (pc := 13) 0 C dX7_init_13 rfl rfl ?_
  refine u_iconst (pc := 14) (v := 0) C dX7_init_14 (by decide) ?_
  refine u_put (pc := 15) (ci := 7) (N := 2) (v := .int 0) (ty := .int) 1 1 ((a1, .inl (cy 3, 12, .inr (.inr (.inr (.inr (fun _ => none)))))) :: ((o, .inr (7, [.ref a1, .int 0])) :: (W))) tyX7 tyX7_ok nmX7 C hin_7 rfl rfl (by decide) k_161 rfl (by decide +kernel) rfl rfl (Nat.le_of_ble_eq_true rfl) rfl dX7_init_15 ?_
  refine u_iconst (pc := 18) (v := 0) C dX7_init_18 (by decide) ?_
  refine u_istore_n (pc := 19) (loc' := [(1, .int 0), (0, .ref o)]) C dX7_init_19 rfl (by decide) rfl ?_
  refine u_iload_n (pc := 20) 0 C dX7_init_20 rfl rfl ?_
  refine u_bipush (pc := 21) (v := 12) C dX7_init_21 (by decide) ?_
  refine u_geF (pc := 23) (tgt := 45) C dX7_init_23 (by decide) (by decide) ?_
  refine u_aload_n (pc := 26) 1 C dX7_init_26 rfl rfl ?_
  refine u_get (pc := 27) (ci := 7) (N := 2) (v := .ref a1) 1 0 C hin_7 rfl rfl (by decide) k_156 rfl dX7_init_27 ?_
  refine u_iload_n (pc := 30) 0 C dX7_init_30 rfl rfl ?_
  refine u_new (pc := 31) (ci := 0) (N := 4) tyX0 tyX0_ok C hin_0 i_126 i_128 k_68 rfl df_0 ⟨Nat.le_of_ble_eq_true rfl, Nat.le_of_ble_eq_true rfl⟩ dX7_init_31 (fun a2 => ?_)
  refine u_dup (pc := 34) C dX7_init_34 rfl ?_
  refine u_call (pc := 35) C (c_X0_init (W := (a1, .inl (cy 3, 12, .inr (.inr (.inr (.inr (fun _ => none)))))) :: ((o, .inr (7, [.ref a1, .int 0])) :: (W)))) pk_X0_init rfl i_130 (Or.inr (by decide +kernel)) (by decide) ⟨Nat.le_of_ble_eq_true rfl, Nat.le_of_ble_eq_true rfl⟩ (Nat.le_of_ble_eq_true rfl) dX7_init_35 (fun _ => ?_)
  refine u_aast (pc := 38) (N := 12) (j := 0) (ci := 0) 1 3 0 (w_X0 a2 ++ ((a1, .inl (cy 3, 12, .inr (.inr (.inr (.inr (va_up (fun _ => none) 0 (some a2))))))) :: ((o, .inr (7, [.ref a1, .int 0])) :: (W)))) C rfl rfl rfl rfl (vp_of (by decide)) (by decide) rfl dX7_init_38 ?_
  refine u_iinc (pc := 39) (v := 1) (loc' := [(1, .int 1), (0, .ref o)]) 0 C dX7_init_39 rfl (by decide) (by decide) rfl ?_
  refine u_goto (pc := 42) (tgt := 20) C dX7_init_42 (by decide) ?_
  refine u_iload_n (pc := 20) 0 C dX7_init_20 rfl rfl ?_
  refine u_bipush (pc := 21) (v := 12) C dX7_init_21 (by decide) ?_
  refine u_geF (pc := 23) (tgt := 45) C dX7_init_23 (by decide) (by decide) ?_
  refine u_aload_n (pc := 26) 1 C dX7_init_26 rfl rfl ?_
  refine u_get (pc := 27) (ci := 7) (N := 2) (v := .ref a1) 2 0 C hin_7 rfl rfl (by decide) k_156 rfl dX7_init_27 ?_
  refine u_iload_n (pc := 30) 0 C dX7_init_30 rfl rfl ?_
  refine u_new (pc := 31) (ci := 0) (N := 4) tyX0 tyX0_ok C hin_0 i_126 i_128 k_68 rfl df_0 ⟨Nat.le_of_ble_eq_true rfl, Nat.le_of_ble_eq_true rfl⟩ dX7_init_31 (fun a3 => ?_)
  refine u_dup (pc := 34) C dX7_init_34 rfl ?_
  refine u_call (pc := 35) C (c_X0_init (W := w_X0 a2 ++ ((a1, .inl (cy 3, 12, .inr (.inr (.inr (.inr (va_up (fun _ => none) 0 (some a2))))))) :: ((o, .inr (7, [.ref a1, .int 0])) :: (W))))) pk_X0_init rfl i_130 (Or.inr (by decide +kernel)) (by decide) ⟨Nat.le_of_ble_eq_true rfl, Nat.le_of_ble_eq_true rfl⟩ (Nat.le_of_ble_eq_true rfl) dX7_init_35 (fun _ => ?_)
  refine u_aast (pc := 38) (N := 12) (j := 1) (ci := 0) 2 3 0 (w_X0 a3 ++ (w_X0 a2 ++ ((a1, .inl (cy 3, 12, .inr (.inr (.inr (.inr (va_up (va_up (fun _ => none) 0 (some a2)) 1 (some a3))))))) :: ((o, .inr (7, [.ref a1, .int 0])) :: (W))))) C rfl rfl rfl rfl (vp_of (by decide)) (by decide) rfl dX7_init_38 ?_
  refine u_iinc (pc := 39) (v := 2) (loc' := [(1, .int 2), (0, .ref o)]) 0 C dX7_init_39 rfl (by decide) (by decide) rfl ?_
  refine u_goto (pc := 42) (tgt := 20) C dX7_init_42 (by decide) ?_
  refine u_iload_n (pc := 20) 0 C dX7_init_20 rfl rfl ?_
  refine u_bipush (pc := 21) (v := 12) C dX7_init_21 (by decide) ?_
  refine u_geF (pc := 23) (tgt := 45) C dX7_init_23 (by decide) (by decide) ?_
  refine u_aload_n (pc := 26) 1 C dX7_init_26 rfl rfl ?_
  refine u_get (pc := 27) (ci := 7) (N := 2) (v := .ref a1) 3 0 C hin_7 rfl rfl (by decide) k_156 rfl dX7_init_27 ?_
  refine u_iload_n (pc := 30) 0 C dX7_init_30 rfl rfl ?_
  refine u_new (pc := 31) (ci := 0) (N := 4) tyX0 tyX0_ok C hin_0 i_126 i_128 k_68 rfl df_0 ⟨Nat.le_of_ble_eq_true rfl, Nat.le_of_ble_eq_true rfl⟩ dX7_init_31 (fun a4 => ?_)
  refine u_dup (pc := 34) C dX7_init_34 rfl ?_
  refine u_call (pc := 35) C (c_X0_init (W := w_X0 a3 ++ (w_X0 a2 ++ ((a1, .inl (cy 3, 12, .inr (.inr (.inr (.inr (va_up (va_up (fun _ => none) 0 (some a2)) 1 (some a3))))))) :: ((o, .inr (7, [.ref a1, .int 0])) :: (W)))))) pk_X0_init rfl i_130 (Or.inr (by decide +kernel)) (by decide) ⟨Nat.le_of_ble_eq_true rfl, Nat.le_of_ble_eq_true rfl⟩ (Nat.le_of_ble_eq_true rfl) dX7_init_35 (fun _ => ?_)
  refine u_aast (pc := 38) (N := 12) (j := 2) (ci := 0) 3 3 0 (w_X0 a4 ++ (w_X0 a3 ++ (w_X0 a2 ++ ((a1, .inl (cy 3, 12, .inr (.inr (.inr (.inr (va_up (va_up (va_up (fun _ => none) 0 (some a2)) 1 (some a3)) 2 (some a4))))))) :: ((o, .inr (7, [.ref a1, .int 0])) :: (W)))))) C rfl rfl rfl rfl (vp_of (by decide)) (by decide) rfl dX7_init_38 ?_
  refine u_iinc (pc := 39) (v := 3) (loc' := [(1, .int 3), (0, .ref o)]) 0 C dX7_init_39 rfl (by decide) (by decide) rfl ?_
  refine u_goto (pc := 42) (tgt := 20) C dX7_init_42 (by decide) ?_
  refine u_iload_n (pc := 20) 0 C dX7_init_20 rfl rfl ?_
  refine u_bipush (pc := 21) (v := 12) C dX7_init_21 (by decide) ?_
  refine u_geF (pc := 23) (tgt := 45) C dX7_init_23 (by decide) (by decide) ?_
  refine u_aload_n (pc := 26) 1 C dX7_init_26 rfl rfl ?_
  refine u_get (pc := 27) (ci := 7) (N := 2) (v := .ref a1) 4 0 C hin_7 rfl rfl (by decide) k_156 rfl dX7_init_27 ?_
  refine u_iload_n (pc := 30) 0 C dX7_init_30 rfl rfl ?_
  refine u_new (pc := 31) (ci := 0) (N := 4) tyX0 tyX0_ok C hin_0 i_126 i_128 k_68 rfl df_0 ⟨Nat.le_of_ble_eq_true rfl, Nat.le_of_ble_eq_true rfl⟩ dX7_init_31 (fun a5 => ?_)
  refine u_dup (pc := 34) C dX7_init_34 rfl ?_
  refine u_call (pc := 35) C (c_X0_init (W := w_X0 a4 ++ (w_X0 a3 ++ (w_X0 a2 ++ ((a1, .inl (cy 3, 12, .inr (.inr (.inr (.inr (va_up (va_up (va_up (fun _ => none) 0 (some a2)) 1 (some a3)) 2 (some a4))))))) :: ((o, .inr (7, [.ref a1, .int 0])) :: (W))))))) pk_X0_init rfl i_130 (Or.inr (by decide +kernel)) (by decide) ⟨Nat.le_of_ble_eq_true rfl, Nat.le_of_ble_eq_true rfl⟩ (Nat.le_of_ble_eq_true rfl) dX7_init_35 (fun _ => ?_)
  refine u_aast (pc := 38) (N := 12) (j := 3) (ci := 0) 4 3 0 (w_X0 a5 ++ (w_X0 a4 ++ (w_X0 a3 ++ (w_X0 a2 ++ ((a1, .inl (cy 3, 12, .inr (.inr (.inr (.inr (va_up (va_up (va_up (va_up (fun _ => none) 0 (some a2)) 1 (some a3)) 2 (some a4)) 3 (some a5))))))) :: ((o, .inr (7, [.ref a1, .int 0])) :: (W))))))) C rfl rfl rfl rfl (vp_of (by decide)) (by decide) rfl dX7_init_38 ?_
  refine u_iinc (pc := 39) (v := 4) (loc' := [(1, .int 4), (0, .ref o)]) 0 C dX7_init_39 rfl (by decide) (by decide) rfl ?_
  refine u_goto (pc := 42) (tgt := 20) C dX7_init_42 (by decide) ?_
  refine u_iload_n (pc := 20) 0 C dX7_init_20 rfl rfl ?_
  refine u_bipush (pc := 21) (v := 12) C dX7_init_21 (by decide) ?_
  refine u_geF (pc := 23) (tgt := 45) C dX7_init_23 (by decide) (by decide) ?_
  refine u_aload_n (pc := 26) 1 C dX7_init_26 rfl rfl ?_
  refine u_get (pc := 27) (ci := 7) (N := 2) (v := .ref a1) 5 0 C hin_7 rfl rfl (by decide) k_156 rfl dX7_init_27 ?_
  refine u_iload_n (pc := 30) 0 C dX7_init_30 rfl rfl ?_
  refine u_new (pc := 31) (ci := 0) (N := 4) tyX0 tyX0_ok C hin_0 i_126 i_128 k_68 rfl df_0 ⟨Nat.le_of_ble_eq_true rfl, Nat.le_of_ble_eq_true rfl⟩ dX7_init_31 (fun a6 => ?_)
  refine u_dup (pc := 34) C dX7_init_34 rfl ?_
  refine u_call (pc := 35) C (c_X0_init (W := w_X0 a5 ++ (w_X0 a4 ++ (w_X0 a3 ++ (w_X0 a2 ++ ((a1, .inl (cy 3, 12, .inr (.inr (.inr (.inr (va_up (va_up (va_up (va_up (fun _ => none) 0 (some a2)) 1 (some a3)) 2 (some a4)) 3 (some a5))))))) :: ((o, .inr (7, [.ref a1, .int 0])) :: (W)))))))) pk_X0_init rfl i_130 (Or.inr (by decide +kernel)) (by decide) ⟨Nat.le_of_ble_eq_true rfl, Nat.le_of_ble_eq_true rfl⟩ (Nat.le_of_ble_eq_true rfl) dX7_init_35 (fun _ => ?_)
  refine u_aast (pc := 38) (N := 12) (j := 4) (ci := 0) 5 3 0 (w_X0 a6 ++ (w_X0 a5 ++ (w_X0 a4 ++ (w_X0 a3 ++ (w_X0 a2 ++ ((a1, .inl (cy 3, 12, .inr (.inr (.inr (.inr (va_up (va_up (va_up (va_up (va_up (fun _ => none) 0 (some a2)) 1 (some a3)) 2 (some a4)) 3 (some a5)) 4 (some a6))))))) :: ((o, .inr (7, [.ref a1, .int 0])) :: (W)))))))) C rfl rfl rfl rfl (vp_of (by decide)) (by decide) rfl dX7_init_38 ?_
  refine u_iinc (pc := 39) (v := 5) (loc' := [(1, .int 5), (0, .ref o)]) 0 C dX7_init_39 rfl (by decide) (by decide) rfl ?_
  refine u_goto (pc := 42) (tgt := 20) C dX7_init_42 (by decide) ?_
  refine u_iload_n (pc := 20) 0 C dX7_init_20 rfl rfl ?_
  refine u_bipush (pc := 21) (v := 12) C dX7_init_21 (by decide) ?_
  refine u_geF (pc := 23) (tgt := 45) C dX7_init_23 (by decide) (by decide) ?_
  refine u_aload_n (pc := 26) 1 C dX7_init_26 rfl rfl ?_
  refine u_get (pc := 27) (ci := 7) (N := 2) (v := .ref a1) 6 0 C hin_7 rfl rfl (by decide) k_156 rfl dX7_init_27 ?_
  refine u_iload_n (pc := 30) 0 C dX7_init_30 rfl rfl ?_
  refine u_new (pc := 31) (ci := 0) (N := 4) tyX0 tyX0_ok C hin_0 i_126 i_128 k_68 rfl df_0 ⟨Nat.le_of_ble_eq_true rfl, Nat.le_of_ble_eq_true rfl⟩ dX7_init_31 (fun a7 => ?_)
  refine u_dup (pc := 34) C dX7_init_34 rfl ?_
  refine u_call (pc := 35) C (c_X0_init (W := w_X0 a6 ++ (w_X0 a5 ++ (w_X0 a4 ++ (w_X0 a3 ++ (w_X0 a2 ++ ((a1, .inl (cy 3, 12, .inr (.inr (.inr (.inr (va_up (va_up (va_up (va_up (va_up (fun _ => none) 0 (some a2)) 1 (some a3)) 2 (some a4)) 3 (some a5)) 4 (some a6))))))) :: ((o, .inr (7, [.ref a1, .int 0])) :: (W))))))))) pk_X0_init rfl i_130 (Or.inr (by decide +kernel)) (by decide) ⟨Nat.le_of_ble_eq_true rfl, Nat.le_of_ble_eq_true rfl⟩ (Nat.le_of_ble_eq_true rfl) dX7_init_35 (fun _ => ?_)
  refine u_aast (pc := 38) (N := 12) (j := 5) (ci := 0) 6 3 0 (w_X0 a7 ++ (w_X0 a6 ++ (w_X0 a5 ++ (w_X0 a4 ++ (w_X0 a3 ++ (w_X0 a2 ++ ((a1, .inl (cy 3, 12, .inr (.inr (.inr (.inr (va_up (va_up (va_up (va_up (va_up (va_up (fun _ => none) 0 (some a2)) 1 (some a3)) 2 (some a4)) 3 (some a5)) 4 (some a6)) 5 (some a7))))))) :: ((o, .inr (7, [.ref a1, .int 0])) :: (W))))))))) C rfl rfl rfl rfl (vp_of (by decide)) (by decide) rfl dX7_init_38 ?_
  refine u_iinc (pc := 39) (v := 6) (loc' := [(1, .int 6), (0, .ref o)]) 0 C dX7_init_39 rfl (by decide) (by decide) rfl ?_
  refine u_goto (pc := 42) (tgt := 20) C dX7_init_42 (by decide) ?_
  refine u_iload_n (pc := 20) 0 C dX7_init_20 rfl rfl ?_
  refine u_bipush (pc := 21) (v := 12) C dX7_init_21 (by decide) ?_
  refine u_geF (pc := 23) (tgt := 45) C dX7_init_23 (by decide) (by decide) ?_
  refine u_aload_n (pc := 26) 1 C dX7_init_26 rfl rfl ?_
  refine u_get (pc := 27) (ci := 7) (N := 2) (v := .ref a1) 7 0 C hin_7 rfl rfl (by decide) k_156 rfl dX7_init_27 ?_
  refine u_iload_n (pc := 30) 0 C dX7_init_30 rfl rfl ?_
  refine u_new (pc := 31) (ci := 0) (N := 4) tyX0 tyX0_ok C hin_0 i_126 i_128 k_68 rfl df_0 ⟨Nat.le_of_ble_eq_true rfl, Nat.le_of_ble_eq_true rfl⟩ dX7_init_31 (fun a8 => ?_)
  refine u_dup (pc := 34) C dX7_init_34 rfl ?_
  refine u_call (pc := 35) C (c_X0_init (W := w_X0 a7 ++ (w_X0 a6 ++ (w_X0 a5 ++ (w_X0 a4 ++ (w_X0 a3 ++ (w_X0 a2 ++ ((a1, .inl (cy 3, 12, .inr (.inr (.inr (.inr (va_up (va_up (va_up (va_up (va_up (va_up (fun _ => none) 0 (some a2)) 1 (some a3)) 2 (some a4)) 3 (some a5)) 4 (some a6)) 5 (some a7))))))) :: ((o, .inr (7, [.ref a1, .int 0])) :: (W)))))))))) pk_X0_init rfl i_130 (Or.inr (by decide +kernel)) (by decide) ⟨Nat.le_of_ble_eq_true rfl, Nat.le_of_ble_eq_true rfl⟩ (Nat.le_of_ble_eq_true rfl) dX7_init_35 (fun _ => ?_)
  refine u_aast (pc := 38) (N := 12) (j := 6) (ci := 0) 7 3 0 (w_X0 a8 ++ (w_X0 a7 ++ (w_X0 a6 ++ (w_X0 a5 ++ (w_X0 a4 ++ (w_X0 a3 ++ (w_X0 a2 ++ ((a1, .inl (cy 3, 12, .inr (.inr (.inr (.inr (va_up (va_up (va_up (va_up (va_up (va_up (va_up (fun _ => none) 0 (some a2)) 1 (some a3)) 2 (some a4)) 3 (some a5)) 4 (some a6)) 5 (some a7)) 6 (some a8))))))) :: ((o, .inr (7, [.ref a1, .int 0])) :: (W)))))))))) C rfl rfl rfl rfl (vp_of (by decide)) (by decide) rfl dX7_init_38 ?_
  refine u_iinc (pc := 39) (v := 7) (loc' := [(1, .int 7), (0, .ref o)]) 0 C dX7_init_39 rfl (by decide) (by decide) rfl ?_
  refine u_goto (pc := 42) (tgt := 20) C dX7_init_42 (by decide) ?_
  refine u_iload_n (pc := 20) 0 C dX7_init_20 rfl rfl ?_
  refine u_bipush (pc := 21) (v := 12) C dX7_init_21 (by decide) ?_
  refine u_geF (pc := 23) (tgt := 45) C dX7_init_23 (by decide) (by decide) ?_
  refine u_aload_n (pc := 26) 1 C dX7_init_26 rfl rfl ?_
  refine u_get (pc := 27) (ci := 7) (N := 2) (v := .ref a1) 8 0 C hin_7 rfl rfl (by decide) k_156 rfl dX7_init_27 ?_
  refine u_iload_n (pc := 30) 0 C dX7_init_30 rfl rfl ?_
  refine u_new (pc := 31) (ci := 0) (N := 4) tyX0 tyX0_ok C hin_0 i_126 i_128 k_68 rfl df_0 ⟨Nat.le_of_ble_eq_true rfl, Nat.le_of_ble_eq_true rfl⟩ dX7_init_31 (fun a9 => ?_)
  refine u_dup (pc := 34) C dX7_init_34 rfl ?_
  refine u_call (pc := 35) C (c_X0_init (W := w_X0 a8 ++ (w_X0 a7 ++ (w_X0 a6 ++ (w_X0 a5 ++ (w_X0 a4 ++ (w_X0 a3 ++ (w_X0 a2 ++ ((a1, .inl (cy 3, 12, .inr (.inr (.inr (.inr (va_up (va_up (va_up (va_up (va_up (va_up (va_up (fun _ => none) 0 (some a2)) 1 (some a3)) 2 (some a4)) 3 (some a5)) 4 (some a6)) 5 (some a7)) 6 (some a8))))))) :: ((o, .inr (7, [.ref a1, .int 0])) :: (W))))))))))) pk_X0_init rfl i_130 (Or.inr (by decide +kernel)) (by decide) ⟨Nat.le_of_ble_eq_true rfl, Nat.le_of_ble_eq_true rfl⟩ (Nat.le_of_ble_eq_true rfl) dX7_init_35 (fun _ => ?_)
  refine u_aast (pc := 38) (N := 12) (j := 7) (ci := 0) 8 3 0 (w_X0 a9 ++ (w_X0 a8 ++ (w_X0 a7 ++ (w_X0 a6 ++ (w_X0 a5 ++ (w_X0 a4 ++ (w_X0 a3 ++ (w_X0 a2 ++ ((a1, .inl (cy 3, 12, .inr (.inr (.inr (.inr (va_up (va_up (va_up (va_up (va_up (va_up (va_up (va_up (fun _ => none) 0 (some a2)) 1 (some a3)) 2 (some a4)) 3 (some a5)) 4 (some a6)) 5 (some a7)) 6 (some a8)) 7 (some a9))))))) :: ((o, .inr (7, [.ref a1, .int 0])) :: (W))))))))))) C rfl rfl rfl rfl (vp_of (by decide)) (by decide) rfl dX7_init_38 ?_
  refine u_iinc (pc := 39) (v := 8) (loc' := [(1, .int 8), (0, .ref o)]) 0 C dX7_init_39 rfl (by decide) (by decide) rfl ?_
  refine u_goto (pc := 42) (tgt := 20) C dX7_init_42 (by decide) ?_
  refine u_iload_n (pc := 20) 0 C dX7_init_20 rfl rfl ?_
  refine u_bipush (pc := 21) (v := 12) C dX7_init_21 (by decide) ?_
  refine u_geF (pc := 23) (tgt := 45) C dX7_init_23 (by decide) (by decide) ?_
  refine u_aload_n (pc := 26) 1 C dX7_init_26 rfl rfl ?_
  refine u_get (pc := 27) (ci := 7) (N := 2) (v := .ref a1) 9 0 C hin_7 rfl rfl (by decide) k_156 rfl dX7_init_27 ?_
  refine u_iload_n (pc := 30) 0 C dX7_init_30 rfl rfl ?_
  refine u_new (pc := 31) (ci := 0) (N := 4) tyX0 tyX0_ok C hin_0 i_126 i_128 k_68 rfl df_0 ⟨Nat.le_of_ble_eq_true rfl, Nat.le_of_ble_eq_true rfl⟩ dX7_init_31 (fun a10 => ?_)
  refine u_dup (pc := 34) C dX7_init_34 rfl ?_
  refine u_call (pc := 35) C (c_X0_init (W := w_X0 a9 ++ (w_X0 a8 ++ (w_X0 a7 ++ (w_X0 a6 ++ (w_X0 a5 ++ (w_X0 a4 ++ (w_X0 a3 ++ (w_X0 a2 ++ ((a1, .inl (cy 3, 12, .inr (.inr (.inr (.inr (va_up (va_up (va_up (va_up (va_up (va_up (va_up (va_up (fun _ => none) 0 (some a2)) 1 (some a3)) 2 (some a4)) 3 (some a5)) 4 (some a6)) 5 (some a7)) 6 (some a8)) 7 (some a9))))))) :: ((o, .inr (7, [.ref a1, .int 0])) :: (W)))))))))))) pk_X0_init rfl i_130 (Or.inr (by decide +kernel)) (by decide) ⟨Nat.le_of_ble_eq_true rfl, Nat.le_of_ble_eq_true rfl⟩ (Nat.le_of_ble_eq_true rfl) dX7_init_35 (fun _ => ?_)
  refine u_aast (pc := 38) (N := 12) (j := 8) (ci := 0) 9 3 0 (w_X0 a10 ++ (w_X0 a9 ++ (w_X0 a8 ++ (w_X0 a7 ++ (w_X0 a6 ++ (w_X0 a5 ++ (w_X0 a4 ++ (w_X0 a3 ++ (w_X0 a2 ++ ((a1, .inl (cy 3, 12, .inr (.inr (.inr (.inr (va_up (va_up (va_up (va_up (va_up (va_up (va_up (va_up (va_up (fun _ => none) 0 (some a2)) 1 (some a3)) 2 (some a4)) 3 (some a5)) 4 (some a6)) 5 (some a7)) 6 (some a8)) 7 (some a9)) 8 (some a10))))))) :: ((o, .inr (7, [.ref a1, .int 0])) :: (W)))))))))))) C rfl rfl rfl rfl (vp_of (by decide)) (by decide) rfl dX7_init_38 ?_
  refine u_iinc (pc := 39) (v := 9) (loc' := [(1, .int 9), (0, .ref o)]) 0 C dX7_init_39 rfl (by decide) (by decide) rfl ?_
  refine u_goto (pc := 42) (tgt := 20) C dX7_init_42 (by decide) ?_
  refine u_iload_n (pc := 20) 0 C dX7_init_20 rfl rfl ?_
  refine u_bipush (pc := 21) (v := 12) C dX7_init_21 (by decide) ?_
  refine u_geF (pc := 23) (tgt := 45) C dX7_init_23 (by decide) (by decide) ?_
  refine u_aload_n (pc := 26) 1 C dX7_init_26 rfl rfl ?_
  refine u_get (pc := 27) (ci := 7) (N := 2) (v := .ref a1) 10 0 C hin_7 rfl rfl (by decide) k_156 rfl dX7_init_27 ?_
  refine u_iload_n (pc := 30) 0 C dX7_init_30 rfl rfl ?_
  refine u_new (pc := 31) (ci := 0) (N := 4) tyX0 tyX0_ok C hin_0 i_126 i_128 k_68 rfl df_0 ⟨Nat.le_of_ble_eq_true rfl, Nat.le_of_ble_eq_true rfl⟩ dX7_init_31 (fun a11 => ?_)
  refine u_dup (pc := 34) C dX7_init_34 rfl ?_
  refine u_call (pc := 35) C (c_X0_init (W := w_X0 a10 ++ (w_X0 a9 ++ (w_X0 a8 ++ (w_X0 a7 ++ (w_X0 a6 ++ (w_X0 a5 ++ (w_X0 a4 ++ (w_X0 a3 ++ (w_X0 a2 ++ ((a1, .inl (cy 3, 12, .inr (.inr (.inr (.inr (va_up (va_up (va_up (va_up (va_up (va_up (va_up (va_up (va_up (fun _ => none) 0 (some a2)) 1 (some a3)) 2 (some a4)) 3 (some a5)) 4 (some a6)) 5 (some a7)) 6 (some a8)) 7 (some a9)) 8 (some a10))))))) :: ((o, .inr (7, [.ref a1, .int 0])) :: (W))))))))))))) pk_X0_init rfl i_130 (Or.inr (by decide +kernel)) (by decide) ⟨Nat.le_of_ble_eq_true rfl, Nat.le_of_ble_eq_true rfl⟩ (Nat.le_of_ble_eq_true rfl) dX7_init_35 (fun _ => ?_)
  refine u_aast (pc := 38) (N := 12) (j := 9) (ci := 0) 10 3 0 (w_X0 a11 ++ (w_X0 a10 ++ (w_X0 a9 ++ (w_X0 a8 ++ (w_X0 a7 ++ (w_X0 a6 ++ (w_X0 a5 ++ (w_X0 a4 ++ (w_X0 a3 ++ (w_X0 a2 ++ ((a1, .inl (cy 3, 12, .inr (.inr (.inr (.inr (va_up (va_up (va_up (va_up (va_up (va_up (va_up (va_up (va_up (va_up (fun _ => none) 0 (some a2)) 1 (some a3)) 2 (some a4)) 3 (some a5)) 4 (some a6)) 5 (some a7)) 6 (some a8)) 7 (some a9)) 8 (some a10)) 9 (some a11))))))) :: ((o, .inr (7, [.ref a1, .int 0])) :: (W))))))))))))) C rfl rfl rfl rfl (vp_of (by decide)) (by decide) rfl dX7_init_38 ?_
  refine u_iinc (pc := 39) (v := 10) (loc' := [(1, .int 10), (0, .ref o)]) 0 C dX7_init_39 rfl (by decide) (by decide) rfl ?_
  refine u_goto (pc := 42) (tgt := 20) C dX7_init_42 (by decide) ?_
  refine u_iload_n (pc := 20) 0 C dX7_init_20 rfl rfl ?_
  refine u_bipush (pc := 21) (v := 12) C dX7_init_21 (by decide) ?_
  refine u_geF (pc := 23) (tgt := 45) C dX7_init_23 (by decide) (by decide) ?_
  refine u_aload_n (pc := 26) 1 C dX7_init_26 rfl rfl ?_
  refine u_get (pc := 27) (ci := 7) (N := 2) (v := .ref a1) 11 0 C hin_7 rfl rfl (by decide) k_156 rfl dX7_init_27 ?_
  refine u_iload_n (pc := 30) 0 C dX7_init_30 rfl rfl ?_
  refine u_new (pc := 31) (ci := 0) (N := 4) tyX0 tyX0_ok C hin_0 i_126 i_128 k_68 rfl df_0 ⟨Nat.le_of_ble_eq_true rfl, Nat.le_of_ble_eq_true rfl⟩ dX7_init_31 (fun a12 => ?_)
  refine u_dup (pc := 34) C dX7_init_34 rfl ?_
  refine u_call (pc := 35) C (c_X0_init (W := w_X0 a11 ++ (w_X0 a10 ++ (w_X0 a9 ++ (w_X0 a8 ++ (w_X0 a7 ++ (w_X0 a6 ++ (w_X0 a5 ++ (w_X0 a4 ++ (w_X0 a3 ++ (w_X0 a2 ++ ((a1, .inl (cy 3, 12, .inr (.inr (.inr (.inr (va_up (va_up (va_up (va_up (va_up (va_up (va_up (va_up (va_up (va_up (fun _ => none) 0 (some a2)) 1 (some a3)) 2 (some a4)) 3 (some a5)) 4 (some a6)) 5 (some a7)) 6 (some a8)) 7 (some a9)) 8 (some a10)) 9 (some a11))))))) :: ((o, .inr (7, [.ref a1, .int 0])) :: (W)))))))))))))) pk_X0_init rfl i_130 (Or.inr (by decide +kernel)) (by decide) ⟨Nat.le_of_ble_eq_true rfl, Nat.le_of_ble_eq_true rfl⟩ (Nat.le_of_ble_eq_true rfl) dX7_init_35 (fun _ => ?_)
  refine u_aast (pc := 38) (N := 12) (j := 10) (ci := 0) 11 3 0 (w_X0 a12 ++ (w_X0 a11 ++ (w_X0 a10 ++ (w_X0 a9 ++ (w_X0 a8 ++ (w_X0 a7 ++ (w_X0 a6 ++ (w_X0 a5 ++ (w_X0 a4 ++ (w_X0 a3 ++ (w_X0 a2 ++ ((a1, .inl (cy 3, 12, .inr (.inr (.inr (.inr (va_up (va_up (va_up (va_up (va_up (va_up (va_up (va_up (va_up (va_up (va_up (fun _ => none) 0 (some a2)) 1 (some a3)) 2 (some a4)) 3 (some a5)) 4 (some a6)) 5 (some a7)) 6 (some a8)) 7 (some a9)) 8 (some a10)) 9 (some a11)) 10 (some a12))))))) :: ((o, .inr (7, [.ref a1, .int 0])) :: (W)))))))))))))) C rfl rfl rfl rfl (vp_of (by decide)) (by decide) rfl dX7_init_38 ?_
  refine u_iinc (pc := 39) (v := 11) (loc' := [(1, .int 11), (0, .ref o)]) 0 C dX7_init_39 rfl (by decide) (by decide) rfl ?_
  refine u_goto (pc := 42) (tgt := 20) C dX7_init_42 (by decide) ?_
  refine u_iload_n (pc := 20) 0 C dX7_init_20 rfl rfl ?_
  refine u_bipush (pc := 21) (v := 12) C dX7_init_21 (by decide) ?_
  refine u_geF (pc := 23) (tgt := 45) C dX7_init_23 (by decide) (by decide) ?_
  refine u_aload_n (pc := 26) 1 C dX7_init_26 rfl rfl ?_
  refine u_get (pc := 27) (ci := 7) (N := 2) (v := .ref a1) 12 0 C hin_7 rfl rfl (by decide) k_156 rfl dX7_init_27 ?_
  refine u_iload_n (pc := 30) 0 C dX7_init_30 rfl rfl ?_
  refine u_new (pc := 31) (ci := 0) (N := 4) tyX0 tyX0_ok C hin_0 i_126 i_128 k_68 rfl df_0 ⟨Nat.le_of_ble_eq_true rfl, Nat.le_of_ble_eq_true rfl⟩ dX7_init_31 (fun a13 => ?_)
  refine u_dup (pc := 34) C dX7_init_34 rfl ?_
  refine u_call (pc := 35) C (c_X0_init (W := w_X0 a12 ++ (w_X0 a11 ++ (w_X0 a10 ++ (w_X0 a9 ++ (w_X0 a8 ++ (w_X0 a7 ++ (w_X0 a6 ++ (w_X0 a5 ++ (w_X0 a4 ++ (w_X0 a3 ++ (w_X0 a2 ++ ((a1, .inl (cy 3, 12, .inr (.inr (.inr (.inr (va_up (va_up (va_up (va_up (va_up (va_up (va_up (va_up (va_up (va_up (va_up (fun _ => none) 0 (some a2)) 1 (some a3)) 2 (some a4)) 3 (some a5)) 4 (some a6)) 5 (some a7)) 6 (some a8)) 7 (some a9)) 8 (some a10)) 9 (some a11)) 10 (some a12))))))) :: ((o, .inr (7, [.ref a1, .int 0])) :: (W))))))))))))))) pk_X0_init rfl i_130 (Or.inr (by decide +kernel)) (by decide) ⟨Nat.le_of_ble_eq_true rfl, Nat.le_of_ble_eq_true rfl⟩ (Nat.le_of_ble_eq_true rfl) dX7_init_35 (fun _ => ?_)
  refine u_aast (pc := 38) (N := 12) (j := 11) (ci := 0) 12 3 0 (w_X0 a13 ++ (w_X0 a12 ++ (w_X0 a11 ++ (w_X0 a10 ++ (w_X0 a9 ++ (w_X0 a8 ++ (w_X0 a7 ++ (w_X0 a6 ++ (w_X0 a5 ++ (w_X0 a4 ++ (w_X0 a3 ++ (w_X0 a2 ++ ((a1, .inl (cy 3, 12, .inr (.inr (.inr (.inr (va_up (va_up (va_up (va_up (va_up (va_up (va_up (va_up (va_up (va_up (va_up (va_up (fun _ => none) 0 (some a2)) 1 (some a3)) 2 (some a4)) 3 (some a5)) 4 (some a6)) 5 (some a7)) 6 (some a8)) 7 (some a9)) 8 (some a10)) 9 (some a11)) 10 (some a12)) 11 (some a13))))))) :: ((o, .inr (7, [.ref a1, .int 0])) :: (W))))))))))))))) C rfl rfl rfl rfl (vp_of (by decide)) (by decide) rfl dX7_init_38 ?_
  refine u_iinc (pc := 39) (v := 12) (loc' := [(1, .int 12), (0, .ref o)]) 0 C dX7_init_39 rfl (by decide) (by decide) rfl ?_
  refine u_goto (pc := 42) (tgt := 20) C dX7_init_42 (by decide) ?_
  refine u_iload_n (pc := 20) 0 C dX7_init_20 rfl rfl ?_
  refine u_bipush (pc := 21) (v := 12) C dX7_init_21 (by decide) ?_
  refine u_geT (pc := 23) (tgt := 45) C dX7_init_23 (by decide) (by decide) ?_
  exact u_ret (pc := 45) (fun j => [a1, a2, a3, a4, a5, a6, a7, a8, a9, a10, a11, a12, a13].getD j 0) C r rfl dX7_init_45
def w_X4 (cy : Nat → ClassId) (q : Nat → Nat) (o : Nat) : va_W := ((q 4), .inl (cy 1, 61, .inr (.inl (fun _ => 0)))) :: (((q 3), .inl (cy 0, 96, .inl (fun _ => 0))) :: (((q 2), .inl (cy 0, 79, .inl (fun _ => 0))) :: (((q 1), .inl (cy 1, 79, .inr (.inl (fun _ => 0)))) :: (((q 0), .inl (cy 0, 79, .inl (fun _ => 0))) :: ((o, .inr (4, [.ref (q 0), .ref (q 1), .ref (q 2), .ref (q 3), .ref (q 4), .int 0])) :: ([]))))))
set_option maxRecDepth 100000 in
set_option maxHeartbeats 4000000 in
theorem c_X4_init {l : Launch} {D : va_G} {cy : Nat → ClassId} {A : Nat → Prop} {o : Nat} {W : va_W} : MetC l yX4_init cX4_init 1 1 5 394 D cy A o ((o, .inr (4, [.null, .null, .null, .null, .null, .int 0])) :: W) (fun q : Nat → Nat => w_X4 cy q o ++ W) := by
  refine MetC.of RX4 (by decide +kernel) rfl (Nat.le_of_ble_eq_true rfl) rfl (fun X C r => ?_)
  refine u_aload_n (pc := 0) 0 C dX4_init_0 rfl rfl ?_
  refine u_obj (pc := 1) C i_175 i_90 i_91 (by decide) dX4_init_1 ?_
  refine u_aload_n (pc := 4) 0 C dX4_init_4 rfl rfl ?_
  refine u_bipush (pc := 5) (v := 79) C dX4_init_5 (by decide) ?_
  refine u_newi (pc := 7) (N := 79) C i_118 (by decide) (by decide) (Nat.le_of_ble_eq_true rfl) ⟨Nat.le_of_ble_eq_true rfl, Nat.le_of_ble_eq_true rfl⟩ dX4_init_7 (fun a1 => ?_)
  refine u_putF (pc := 9) (ci := 4) (N := 6) (v := .ref a1) (ty := .array .int) 1 0 ((a1, .inl (cy 0, 79, .inl (fun _ => 0))) :: ((o, .inr (4, [.ref a1, .null, .null, .null, .null, .int 0])) :: (W))) tyX4 tyX4_ok nmX4 C hin_4 r.2.2 rfl rfl (by decide) k_176 rfl rfl (by decide +kernel) rfl rfl (Nat.le_of_ble_eq_true rfl) rfl dX4_init_9 ?_
  refine u_aload_n (pc := 12) 0 C dX4_init_12 rfl rfl ?_
  refine u_bipush (pc := 13) (v := 79) C dX4_init_13 (by decide) ?_
  refine u_newl (pc := 15) (N := 79) C i_119 (by decide) (by decide) (Nat.le_of_ble_eq_true rfl) ⟨Nat.le_of_ble_eq_true rfl, Nat.le_of_ble_eq_true rfl⟩ dX4_init_15 (fun a2 => ?_)
  refine u_putF (pc := 17) (ci := 4) (N := 6) (v := .ref a2) (ty := .array .long) 2 1 ((a2, .inl (cy 1, 79, .inr (.inl (fun _ => 0)))) :: ((a1, .inl (cy 0, 79, .inl (fun _ => 0))) :: ((o, .inr (4, [.ref a1, .ref a2, .null, .null, .null, .int 0])) :: (W)))) tyX4 tyX4_ok nmX4 C hin_4 r.2.2 rfl rfl (by decide) k_180 rfl rfl (by decide +kernel) rfl rfl (Nat.le_of_ble_eq_true rfl) rfl dX4_init_17 ?_
  refine u_aload_n (pc := 20) 0 C dX4_init_20 rfl rfl ?_
  refine u_bipush (pc := 21) (v := 79) C dX4_init_21 (by decide) ?_
  refine u_newi (pc := 23) (N := 79) C i_118 (by decide) (by decide) (Nat.le_of_ble_eq_true rfl) ⟨Nat.le_of_ble_eq_true rfl, Nat.le_of_ble_eq_true rfl⟩ dX4_init_23 (fun a3 => ?_)
  refine u_putF (pc := 25) (ci := 4) (N := 6) (v := .ref a3) (ty := .array .int) 3 2 ((a3, .inl (cy 0, 79, .inl (fun _ => 0))) :: ((a2, .inl (cy 1, 79, .inr (.inl (fun _ => 0)))) :: ((a1, .inl (cy 0, 79, .inl (fun _ => 0))) :: ((o, .inr (4, [.ref a1, .ref a2, .ref a3, .null, .null, .int 0])) :: (W))))) tyX4 tyX4_ok nmX4 C hin_4 r.2.2 rfl rfl (by decide) k_181 rfl rfl (by decide +kernel) rfl rfl (Nat.le_of_ble_eq_true rfl) rfl dX4_init_25 ?_
  refine u_aload_n (pc := 28) 0 C dX4_init_28 rfl rfl ?_
  refine u_bipush (pc := 29) (v := 96) C dX4_init_29 (by decide) ?_
  refine u_newi (pc := 31) (N := 96) C i_118 (by decide) (by decide) (Nat.le_of_ble_eq_true rfl) ⟨Nat.le_of_ble_eq_true rfl, Nat.le_of_ble_eq_true rfl⟩ dX4_init_31 (fun a4 => ?_)
  refine u_putF (pc := 33) (ci := 4) (N := 6) (v := .ref a4) (ty := .array .int) 4 3 ((a4, .inl (cy 0, 96, .inl (fun _ => 0))) :: ((a3, .inl (cy 0, 79, .inl (fun _ => 0))) :: ((a2, .inl (cy 1, 79, .inr (.inl (fun _ => 0)))) :: ((a1, .inl (cy 0, 79, .inl (fun _ => 0))) :: ((o, .inr (4, [.ref a1, .ref a2, .ref a3, .ref a4, .null, .int 0])) :: (W)))))) tyX4 tyX4_ok nmX4 C hin_4 r.2.2 rfl rfl (by decide) k_183 rfl rfl (by decide +kernel) rfl rfl (Nat.le_of_ble_eq_true rfl) rfl dX4_init_33 ?_
  refine u_aload_n (pc := 36) 0 C dX4_init_36 rfl rfl ?_
  refine u_bipush (pc := 37) (v := 61) C dX4_init_37 (by decide) ?_
  refine u_newl (pc := 39) (N := 61) C i_119 (by decide) (by decide) (Nat.le_of_ble_eq_true rfl) ⟨Nat.le_of_ble_eq_true rfl, Nat.le_of_ble_eq_true rfl⟩ dX4_init_39 (fun a5 => ?_)
  refine u_putF (pc := 41) (ci := 4) (N := 6) (v := .ref a5) (ty := .array .long) 5 4 ((a5, .inl (cy 1, 61, .inr (.inl (fun _ => 0)))) :: ((a4, .inl (cy 0, 96, .inl (fun _ => 0))) :: ((a3, .inl (cy 0, 79, .inl (fun _ => 0))) :: ((a2, .inl (cy 1, 79, .inr (.inl (fun _ => 0)))) :: ((a1, .inl (cy 0, 79, .inl (fun _ => 0))) :: ((o, .inr (4, [.ref a1, .ref a2, .ref a3, .ref a4, .ref a5, .int 0])) :: (W))))))) tyX4 tyX4_ok nmX4 C hin_4 r.2.2 rfl rfl (by decide) k_184 rfl rfl (by decide +kernel) rfl rfl (Nat.le_of_ble_eq_true rfl) rfl dX4_init_41 ?_
  refine u_aload_n (pc := 44) 0 C dX4_init_44 rfl rfl ?_
  refine u_iconst (pc := 45) (v := 0) C dX4_init_45 (by decide) ?_
  refine u_put (pc := 46) (ci := 4) (N := 6) (v := .int 0) (ty := .int) 5 5 ((a5, .inl (cy 1, 61, .inr (.inl (fun _ => 0)))) :: ((a4, .inl (cy 0, 96, .inl (fun _ => 0))) :: ((a3, .inl (cy 0, 79, .inl (fun _ => 0))) :: ((a2, .inl (cy 1, 79, .inr (.inl (fun _ => 0)))) :: ((a1, .inl (cy 0, 79, .inl (fun _ => 0))) :: ((o, .inr (4, [.ref a1, .ref a2, .ref a3, .ref a4, .ref a5, .int 0])) :: (W))))))) tyX4 tyX4_ok nmX4 C hin_4 rfl rfl (by decide) k_185 rfl (by decide +kernel) rfl rfl (Nat.le_of_ble_eq_true rfl) rfl dX4_init_46 ?_
  exact u_ret (pc := 49) (fun j => [a1, a2, a3, a4, a5].getD j 0) C r rfl dX4_init_49
def w_X9 (cy : Nat → ClassId) (q : Nat → Nat) (o : Nat) : va_W := ((q 1), .inl (cy 0, 24, .inl (fun _ => 0))) :: (((q 0), .inl (cy 0, 24, .inl (fun _ => 0))) :: ((o, .inr (9, [.ref (q 0), .ref (q 1), .int 0, .int 0])) :: ([])))
set_option maxRecDepth 100000 in
set_option maxHeartbeats 4000000 in
theorem c_X9_init {l : Launch} {D : va_G} {cy : Nat → ClassId} {A : Nat → Prop} {o : Nat} {W : va_W} : MetC l yX9_init cX9_init 1 1 2 48 D cy A o ((o, .inr (9, [.null, .null, .int 0, .int 0])) :: W) (fun q : Nat → Nat => w_X9 cy q o ++ W) := by
  refine MetC.of RX9 (by decide +kernel) rfl (Nat.le_of_ble_eq_true rfl) rfl (fun X C r => ?_)
  refine u_aload_n (pc := 0) 0 C dX9_init_0 rfl rfl ?_
  refine u_obj (pc := 1) C i_212 i_90 i_91 (by decide) dX9_init_1 ?_
  refine u_aload_n (pc := 4) 0 C dX9_init_4 rfl rfl ?_
  refine u_bipush (pc := 5) (v := 24) C dX9_init_5 (by decide) ?_
  refine u_newi (pc := 7) (N := 24) C i_118 (by decide) (by decide) (Nat.le_of_ble_eq_true rfl) ⟨Nat.le_of_ble_eq_true rfl, Nat.le_of_ble_eq_true rfl⟩ dX9_init_7 (fun a1 => ?_)
  refine u_putF (pc := 9) (ci := 9) (N := 4) (v := .ref a1) (ty := .array .int) 1 0 ((a1, .inl (cy 0, 24, .inl (fun _ => 0))) :: ((o, .inr (9, [.ref a1, .null, .int 0, .int 0])) :: (W))) tyX9 tyX9_ok nmX9 C hin_9 r.2.2 rfl rfl (by decide) k_213 rfl rfl (by decide +kernel) rfl rfl (Nat.le_of_ble_eq_true rfl) rfl dX9_init_9 ?_
  refine u_aload_n (pc := 12) 0 C dX9_init_12 rfl rfl ?_
  refine u_bipush (pc := 13) (v := 24) C dX9_init_13 (by decide) ?_
  refine u_newi (pc := 15) (N := 24) C i_118 (by decide) (by decide) (Nat.le_of_ble_eq_true rfl) ⟨Nat.le_of_ble_eq_true rfl, Nat.le_of_ble_eq_true rfl⟩ dX9_init_15 (fun a2 => ?_)
  refine u_putF (pc := 17) (ci := 9) (N := 4) (v := .ref a2) (ty := .array .int) 2 1 ((a2, .inl (cy 0, 24, .inl (fun _ => 0))) :: ((a1, .inl (cy 0, 24, .inl (fun _ => 0))) :: ((o, .inr (9, [.ref a1, .ref a2, .int 0, .int 0])) :: (W)))) tyX9 tyX9_ok nmX9 C hin_9 r.2.2 rfl rfl (by decide) k_215 rfl rfl (by decide +kernel) rfl rfl (Nat.le_of_ble_eq_true rfl) rfl dX9_init_17 ?_
  refine u_aload_n (pc := 20) 0 C dX9_init_20 rfl rfl ?_
  refine u_iconst (pc := 21) (v := 0) C dX9_init_21 (by decide) ?_
  refine u_put (pc := 22) (ci := 9) (N := 4) (v := .int 0) (ty := .int) 2 2 ((a2, .inl (cy 0, 24, .inl (fun _ => 0))) :: ((a1, .inl (cy 0, 24, .inl (fun _ => 0))) :: ((o, .inr (9, [.ref a1, .ref a2, .int 0, .int 0])) :: (W)))) tyX9 tyX9_ok nmX9 C hin_9 rfl rfl (by decide) i_217 rfl (by decide +kernel) rfl rfl (Nat.le_of_ble_eq_true rfl) rfl dX9_init_22 ?_
  refine u_aload_n (pc := 25) 0 C dX9_init_25 rfl rfl ?_
  refine u_iconst (pc := 26) (v := 0) C dX9_init_26 (by decide) ?_
  refine u_put (pc := 27) (ci := 9) (N := 4) (v := .int 0) (ty := .int) 2 3 ((a2, .inl (cy 0, 24, .inl (fun _ => 0))) :: ((a1, .inl (cy 0, 24, .inl (fun _ => 0))) :: ((o, .inr (9, [.ref a1, .ref a2, .int 0, .int 0])) :: (W)))) tyX9 tyX9_ok nmX9 C hin_9 rfl rfl (by decide) i_224 rfl (by decide +kernel) rfl rfl (Nat.le_of_ble_eq_true rfl) rfl dX9_init_27 ?_
  exact u_ret (pc := 30) (fun j => [a1, a2].getD j 0) C r rfl dX9_init_30
def w_X1 (cy : Nat → ClassId) (q : Nat → Nat → Nat) (o : Nat) : va_W := w_X9 cy (q 8) (q 0 8) ++ (w_X9 cy (q 7) (q 0 7) ++ (w_X9 cy (q 6) (q 0 6) ++ (w_X9 cy (q 5) (q 0 5) ++ (w_X9 cy (q 4) (q 0 4) ++ (w_X9 cy (q 3) (q 0 3) ++ (w_X9 cy (q 2) (q 0 2) ++ (w_X9 cy (q 1) (q 0 1) ++ (((q 0 0), .inl (cy 4, 8, .inr (.inr (.inr (.inr (va_up (va_up (va_up (va_up (va_up (va_up (va_up (va_up (fun _ => none) 0 (some (q 0 1))) 1 (some (q 0 2))) 2 (some (q 0 3))) 3 (some (q 0 4))) 4 (some (q 0 5))) 5 (some (q 0 6))) 6 (some (q 0 7))) 7 (some (q 0 8)))))))) :: ((o, .inr (1, [.ref (q 0 0), .int 0])) :: ([]))))))))))
set_option maxRecDepth 100000 in
set_option maxHeartbeats 4000000 in
theorem c_X1_init {l : Launch} {D : va_G} {cy : Nat → ClassId} {A : Nat → Prop} {o : Nat} {W : va_W} : MetC l yX1_init cX1_init 2 2 25 424 D cy A o ((o, .inr (1, [.null, .int 0])) :: W) (fun q : Nat → Nat → Nat => w_X1 cy q o ++ W) := by
  refine MetC.of RX1 (by decide +kernel) rfl (Nat.le_of_ble_eq_true rfl) rfl (fun X C r => ?_)
  refine u_aload_n (pc := 0) 0 C dX1_init_0 rfl rfl ?_
  refine u_obj (pc := 1) C i_205 i_90 i_91 (by decide) dX1_init_1 ?_
  refine u_aload_n (pc := 4) 0 C dX1_init_4 rfl rfl ?_
  refine u_bipush (pc := 5) (v := 8) C dX1_init_5 (by decide) ?_
  refine u_newq (pc := 7) (N := 8) 4 C rfl (fun h => h.2.2.2.1) i_206 (by decide) (by decide) (Nat.le_of_ble_eq_true rfl) ⟨Nat.le_of_ble_eq_true rfl, Nat.le_of_ble_eq_true rfl⟩ dX1_init_7 (fun a1 => ?_)
  refine u_putF (pc := 10) (ci := 1) (N := 2) (v := .ref a1) (ty := .array (.object "FeltZither$Song")) 1 0 ((a1, .inl (cy 4, 8, .inr (.inr (.inr (.inr (fun _ => none)))))) :: ((o, .inr (1, [.ref a1, .int 0])) :: (W))) tyX1 tyX1_ok nmX1 C hin_1 r.2.2 rfl rfl (by decide) k_239 rfl rfl (by decide +kernel) rfl rfl (Nat.le_of_ble_eq_true rfl) rfl dX1_init_10 ?_
  refine u_aload_n (pc := 13) 0 C dX1_init_13 rfl rfl ?_
  refine u_iconst (pc := 14) (v := 0) C dX1_init_14 (by decide) ?_
  refine u_put (pc := 15) (ci := 1) (N := 2) (v := .int 0) (ty := .int) 1 1 ((a1, .inl (cy 4, 8, .inr (.inr (.inr (.inr (fun _ => none)))))) :: ((o, .inr (1, [.ref a1, .int 0])) :: (W))) tyX1 tyX1_ok nmX1 C hin_1 rfl rfl (by decide) k_243 rfl (by decide +kernel) rfl rfl (Nat.le_of_ble_eq_true rfl) rfl dX1_init_15 ?_
  refine u_iconst (pc := 18) (v := 0) C dX1_init_18 (by decide) ?_
  refine u_istore_n (pc := 19) (loc' := [(1, .int 0), (0, .ref o)]) C dX1_init_19 rfl (by decide) rfl ?_
  refine u_iload_n (pc := 20) 0 C dX1_init_20 rfl rfl ?_
  refine u_bipush (pc := 21) (v := 8) C dX1_init_21 (by decide) ?_
  refine u_geF (pc := 23) (tgt := 45) C dX1_init_23 (by decide) (by decide) ?_
  refine u_aload_n (pc := 26) 1 C dX1_init_26 rfl rfl ?_
  refine u_get (pc := 27) (ci := 1) (N := 2) (v := .ref a1) 1 0 C hin_1 rfl rfl (by decide) k_239 rfl dX1_init_27 ?_
  refine u_iload_n (pc := 30) 0 C dX1_init_30 rfl rfl ?_
  refine u_new (pc := 31) (ci := 9) (N := 4) tyX9 tyX9_ok C hin_9 i_206 i_208 k_71 rfl df_9 ⟨Nat.le_of_ble_eq_true rfl, Nat.le_of_ble_eq_true rfl⟩ dX1_init_31 (fun a2 => ?_)
  refine u_dup (pc := 34) C dX1_init_34 rfl ?_
  refine u_call (pc := 35) C (c_X9_init (W := (a1, .inl (cy 4, 8, .inr (.inr (.inr (.inr (fun _ => none)))))) :: ((o, .inr (1, [.ref a1, .int 0])) :: (W)))) pk_X9_init rfl i_210 (Or.inr (by decide +kernel)) (by decide) ⟨Nat.le_of_ble_eq_true rfl, Nat.le_of_ble_eq_true rfl⟩ (Nat.le_of_ble_eq_true rfl) dX1_init_35 (fun q3 => ?_)
  refine u_aast (pc := 38) (N := 8) (j := 0) (ci := 9) 3 4 2 (w_X9 cy q3 a2 ++ ((a1, .inl (cy 4, 8, .inr (.inr (.inr (.inr (va_up (fun _ => none) 0 (some a2))))))) :: ((o, .inr (1, [.ref a1, .int 0])) :: (W)))) C rfl rfl rfl rfl (vp_of (by decide)) (by decide) rfl dX1_init_38 ?_
  refine u_iinc (pc := 39) (v := 1) (loc' := [(1, .int 1), (0, .ref o)]) 0 C dX1_init_39 rfl (by decide) (by decide) rfl ?_
  refine u_goto (pc := 42) (tgt := 20) C dX1_init_42 (by decide) ?_
  refine u_iload_n (pc := 20) 0 C dX1_init_20 rfl rfl ?_
  refine u_bipush (pc := 21) (v := 8) C dX1_init_21 (by decide) ?_
  refine u_geF (pc := 23) (tgt := 45) C dX1_init_23 (by decide) (by decide) ?_
  refine u_aload_n (pc := 26) 1 C dX1_init_26 rfl rfl ?_
  refine u_get (pc := 27) (ci := 1) (N := 2) (v := .ref a1) 4 0 C hin_1 rfl rfl (by decide) k_239 rfl dX1_init_27 ?_
  refine u_iload_n (pc := 30) 0 C dX1_init_30 rfl rfl ?_
  refine u_new (pc := 31) (ci := 9) (N := 4) tyX9 tyX9_ok C hin_9 i_206 i_208 k_71 rfl df_9 ⟨Nat.le_of_ble_eq_true rfl, Nat.le_of_ble_eq_true rfl⟩ dX1_init_31 (fun a4 => ?_)
  refine u_dup (pc := 34) C dX1_init_34 rfl ?_
  refine u_call (pc := 35) C (c_X9_init (W := w_X9 cy q3 a2 ++ ((a1, .inl (cy 4, 8, .inr (.inr (.inr (.inr (va_up (fun _ => none) 0 (some a2))))))) :: ((o, .inr (1, [.ref a1, .int 0])) :: (W))))) pk_X9_init rfl i_210 (Or.inr (by decide +kernel)) (by decide) ⟨Nat.le_of_ble_eq_true rfl, Nat.le_of_ble_eq_true rfl⟩ (Nat.le_of_ble_eq_true rfl) dX1_init_35 (fun q5 => ?_)
  refine u_aast (pc := 38) (N := 8) (j := 1) (ci := 9) 6 4 2 (w_X9 cy q5 a4 ++ (w_X9 cy q3 a2 ++ ((a1, .inl (cy 4, 8, .inr (.inr (.inr (.inr (va_up (va_up (fun _ => none) 0 (some a2)) 1 (some a4))))))) :: ((o, .inr (1, [.ref a1, .int 0])) :: (W))))) C rfl rfl rfl rfl (vp_of (by decide)) (by decide) rfl dX1_init_38 ?_
  refine u_iinc (pc := 39) (v := 2) (loc' := [(1, .int 2), (0, .ref o)]) 0 C dX1_init_39 rfl (by decide) (by decide) rfl ?_
  refine u_goto (pc := 42) (tgt := 20) C dX1_init_42 (by decide) ?_
  refine u_iload_n (pc := 20) 0 C dX1_init_20 rfl rfl ?_
  refine u_bipush (pc := 21) (v := 8) C dX1_init_21 (by decide) ?_
  refine u_geF (pc := 23) (tgt := 45) C dX1_init_23 (by decide) (by decide) ?_
  refine u_aload_n (pc := 26) 1 C dX1_init_26 rfl rfl ?_
  refine u_get (pc := 27) (ci := 1) (N := 2) (v := .ref a1) 7 0 C hin_1 rfl rfl (by decide) k_239 rfl dX1_init_27 ?_
  refine u_iload_n (pc := 30) 0 C dX1_init_30 rfl rfl ?_
  refine u_new (pc := 31) (ci := 9) (N := 4) tyX9 tyX9_ok C hin_9 i_206 i_208 k_71 rfl df_9 ⟨Nat.le_of_ble_eq_true rfl, Nat.le_of_ble_eq_true rfl⟩ dX1_init_31 (fun a6 => ?_)
  refine u_dup (pc := 34) C dX1_init_34 rfl ?_
  refine u_call (pc := 35) C (c_X9_init (W := w_X9 cy q5 a4 ++ (w_X9 cy q3 a2 ++ ((a1, .inl (cy 4, 8, .inr (.inr (.inr (.inr (va_up (va_up (fun _ => none) 0 (some a2)) 1 (some a4))))))) :: ((o, .inr (1, [.ref a1, .int 0])) :: (W)))))) pk_X9_init rfl i_210 (Or.inr (by decide +kernel)) (by decide) ⟨Nat.le_of_ble_eq_true rfl, Nat.le_of_ble_eq_true rfl⟩ (Nat.le_of_ble_eq_true rfl) dX1_init_35 (fun q7 => ?_)
  refine u_aast (pc := 38) (N := 8) (j := 2) (ci := 9) 9 4 2 (w_X9 cy q7 a6 ++ (w_X9 cy q5 a4 ++ (w_X9 cy q3 a2 ++ ((a1, .inl (cy 4, 8, .inr (.inr (.inr (.inr (va_up (va_up (va_up (fun _ => none) 0 (some a2)) 1 (some a4)) 2 (some a6))))))) :: ((o, .inr (1, [.ref a1, .int 0])) :: (W)))))) C rfl rfl rfl rfl (vp_of (by decide)) (by decide) rfl dX1_init_38 ?_
  refine u_iinc (pc := 39) (v := 3) (loc' := [(1, .int 3), (0, .ref o)]) 0 C dX1_init_39 rfl (by decide) (by decide) rfl ?_
  refine u_goto (pc := 42) (tgt := 20) C dX1_init_42 (by decide) ?_
  refine u_iload_n (pc := 20) 0 C dX1_init_20 rfl rfl ?_
  refine u_bipush (pc := 21) (v := 8) C dX1_init_21 (by decide) ?_
  refine u_geF (pc := 23) (tgt := 45) C dX1_init_23 (by decide) (by decide) ?_
  refine u_aload_n (pc := 26) 1 C dX1_init_26 rfl rfl ?_
  refine u_get (pc := 27) (ci := 1) (N := 2) (v := .ref a1) 10 0 C hin_1 rfl rfl (by decide) k_239 rfl dX1_init_27 ?_
  refine u_iload_n (pc := 30) 0 C dX1_init_30 rfl rfl ?_
  refine u_new (pc := 31) (ci := 9) (N := 4) tyX9 tyX9_ok C hin_9 i_206 i_208 k_71 rfl df_9 ⟨Nat.le_of_ble_eq_true rfl, Nat.le_of_ble_eq_true rfl⟩ dX1_init_31 (fun a8 => ?_)
  refine u_dup (pc := 34) C dX1_init_34 rfl ?_
  refine u_call (pc := 35) C (c_X9_init (W := w_X9 cy q7 a6 ++ (w_X9 cy q5 a4 ++ (w_X9 cy q3 a2 ++ ((a1, .inl (cy 4, 8, .inr (.inr (.inr (.inr (va_up (va_up (va_up (fun _ => none) 0 (some a2)) 1 (some a4)) 2 (some a6))))))) :: ((o, .inr (1, [.ref a1, .int 0])) :: (W))))))) pk_X9_init rfl i_210 (Or.inr (by decide +kernel)) (by decide) ⟨Nat.le_of_ble_eq_true rfl, Nat.le_of_ble_eq_true rfl⟩ (Nat.le_of_ble_eq_true rfl) dX1_init_35 (fun q9 => ?_)
  refine u_aast (pc := 38) (N := 8) (j := 3) (ci := 9) 12 4 2 (w_X9 cy q9 a8 ++ (w_X9 cy q7 a6 ++ (w_X9 cy q5 a4 ++ (w_X9 cy q3 a2 ++ ((a1, .inl (cy 4, 8, .inr (.inr (.inr (.inr (va_up (va_up (va_up (va_up (fun _ => none) 0 (some a2)) 1 (some a4)) 2 (some a6)) 3 (some a8))))))) :: ((o, .inr (1, [.ref a1, .int 0])) :: (W))))))) C rfl rfl rfl rfl (vp_of (by decide)) (by decide) rfl dX1_init_38 ?_
  refine u_iinc (pc := 39) (v := 4) (loc' := [(1, .int 4), (0, .ref o)]) 0 C dX1_init_39 rfl (by decide) (by decide) rfl ?_
  refine u_goto (pc := 42) (tgt := 20) C dX1_init_42 (by decide) ?_
  refine u_iload_n (pc := 20) 0 C dX1_init_20 rfl rfl ?_
  refine u_bipush (pc := 21) (v := 8) C dX1_init_21 (by decide) ?_
  refine u_geF (pc := 23) (tgt := 45) C dX1_init_23 (by decide) (by decide) ?_
  refine u_aload_n (pc := 26) 1 C dX1_init_26 rfl rfl ?_
  refine u_get (pc := 27) (ci := 1) (N := 2) (v := .ref a1) 13 0 C hin_1 rfl rfl (by decide) k_239 rfl dX1_init_27 ?_
  refine u_iload_n (pc := 30) 0 C dX1_init_30 rfl rfl ?_
  refine u_new (pc := 31) (ci := 9) (N := 4) tyX9 tyX9_ok C hin_9 i_206 i_208 k_71 rfl df_9 ⟨Nat.le_of_ble_eq_true rfl, Nat.le_of_ble_eq_true rfl⟩ dX1_init_31 (fun a10 => ?_)
  refine u_dup (pc := 34) C dX1_init_34 rfl ?_
  refine u_call (pc := 35) C (c_X9_init (W := w_X9 cy q9 a8 ++ (w_X9 cy q7 a6 ++ (w_X9 cy q5 a4 ++ (w_X9 cy q3 a2 ++ ((a1, .inl (cy 4, 8, .inr (.inr (.inr (.inr (va_up (va_up (va_up (va_up (fun _ => none) 0 (some a2)) 1 (some a4)) 2 (some a6)) 3 (some a8))))))) :: ((o, .inr (1, [.ref a1, .int 0])) :: (W)))))))) pk_X9_init rfl i_210 (Or.inr (by decide +kernel)) (by decide) ⟨Nat.le_of_ble_eq_true rfl, Nat.le_of_ble_eq_true rfl⟩ (Nat.le_of_ble_eq_true rfl) dX1_init_35 (fun q11 => ?_)
  refine u_aast (pc := 38) (N := 8) (j := 4) (ci := 9) 15 4 2 (w_X9 cy q11 a10 ++ (w_X9 cy q9 a8 ++ (w_X9 cy q7 a6 ++ (w_X9 cy q5 a4 ++ (w_X9 cy q3 a2 ++ ((a1, .inl (cy 4, 8, .inr (.inr (.inr (.inr (va_up (va_up (va_up (va_up (va_up (fun _ => none) 0 (some a2)) 1 (some a4)) 2 (some a6)) 3 (some a8)) 4 (some a10))))))) :: ((o, .inr (1, [.ref a1, .int 0])) :: (W)))))))) C rfl rfl rfl rfl (vp_of (by decide)) (by decide) rfl dX1_init_38 ?_
  refine u_iinc (pc := 39) (v := 5) (loc' := [(1, .int 5), (0, .ref o)]) 0 C dX1_init_39 rfl (by decide) (by decide) rfl ?_
  refine u_goto (pc := 42) (tgt := 20) C dX1_init_42 (by decide) ?_
  refine u_iload_n (pc := 20) 0 C dX1_init_20 rfl rfl ?_
  refine u_bipush (pc := 21) (v := 8) C dX1_init_21 (by decide) ?_
  refine u_geF (pc := 23) (tgt := 45) C dX1_init_23 (by decide) (by decide) ?_
  refine u_aload_n (pc := 26) 1 C dX1_init_26 rfl rfl ?_
  refine u_get (pc := 27) (ci := 1) (N := 2) (v := .ref a1) 16 0 C hin_1 rfl rfl (by decide) k_239 rfl dX1_init_27 ?_
  refine u_iload_n (pc := 30) 0 C dX1_init_30 rfl rfl ?_
  refine u_new (pc := 31) (ci := 9) (N := 4) tyX9 tyX9_ok C hin_9 i_206 i_208 k_71 rfl df_9 ⟨Nat.le_of_ble_eq_true rfl, Nat.le_of_ble_eq_true rfl⟩ dX1_init_31 (fun a12 => ?_)
  refine u_dup (pc := 34) C dX1_init_34 rfl ?_
  refine u_call (pc := 35) C (c_X9_init (W := w_X9 cy q11 a10 ++ (w_X9 cy q9 a8 ++ (w_X9 cy q7 a6 ++ (w_X9 cy q5 a4 ++ (w_X9 cy q3 a2 ++ ((a1, .inl (cy 4, 8, .inr (.inr (.inr (.inr (va_up (va_up (va_up (va_up (va_up (fun _ => none) 0 (some a2)) 1 (some a4)) 2 (some a6)) 3 (some a8)) 4 (some a10))))))) :: ((o, .inr (1, [.ref a1, .int 0])) :: (W))))))))) pk_X9_init rfl i_210 (Or.inr (by decide +kernel)) (by decide) ⟨Nat.le_of_ble_eq_true rfl, Nat.le_of_ble_eq_true rfl⟩ (Nat.le_of_ble_eq_true rfl) dX1_init_35 (fun q13 => ?_)
  refine u_aast (pc := 38) (N := 8) (j := 5) (ci := 9) 18 4 2 (w_X9 cy q13 a12 ++ (w_X9 cy q11 a10 ++ (w_X9 cy q9 a8 ++ (w_X9 cy q7 a6 ++ (w_X9 cy q5 a4 ++ (w_X9 cy q3 a2 ++ ((a1, .inl (cy 4, 8, .inr (.inr (.inr (.inr (va_up (va_up (va_up (va_up (va_up (va_up (fun _ => none) 0 (some a2)) 1 (some a4)) 2 (some a6)) 3 (some a8)) 4 (some a10)) 5 (some a12))))))) :: ((o, .inr (1, [.ref a1, .int 0])) :: (W))))))))) C rfl rfl rfl rfl (vp_of (by decide)) (by decide) rfl dX1_init_38 ?_
  refine u_iinc (pc := 39) (v := 6) (loc' := [(1, .int 6), (0, .ref o)]) 0 C dX1_init_39 rfl (by decide) (by decide) rfl ?_
  refine u_goto (pc := 42) (tgt := 20) C dX1_init_42 (by decide) ?_
  refine u_iload_n (pc := 20) 0 C dX1_init_20 rfl rfl ?_
  refine u_bipush (pc := 21) (v := 8) C dX1_init_21 (by decide) ?_
  refine u_geF (pc := 23) (tgt := 45) C dX1_init_23 (by decide) (by decide) ?_
  refine u_aload_n (pc := 26) 1 C dX1_init_26 rfl rfl ?_
  refine u_get (pc := 27) (ci := 1) (N := 2) (v := .ref a1) 19 0 C hin_1 rfl rfl (by decide) k_239 rfl dX1_init_27 ?_
  refine u_iload_n (pc := 30) 0 C dX1_init_30 rfl rfl ?_
  refine u_new (pc := 31) (ci := 9) (N := 4) tyX9 tyX9_ok C hin_9 i_206 i_208 k_71 rfl df_9 ⟨Nat.le_of_ble_eq_true rfl, Nat.le_of_ble_eq_true rfl⟩ dX1_init_31 (fun a14 => ?_)
  refine u_dup (pc := 34) C dX1_init_34 rfl ?_
  refine u_call (pc := 35) C (c_X9_init (W := w_X9 cy q13 a12 ++ (w_X9 cy q11 a10 ++ (w_X9 cy q9 a8 ++ (w_X9 cy q7 a6 ++ (w_X9 cy q5 a4 ++ (w_X9 cy q3 a2 ++ ((a1, .inl (cy 4, 8, .inr (.inr (.inr (.inr (va_up (va_up (va_up (va_up (va_up (va_up (fun _ => none) 0 (some a2)) 1 (some a4)) 2 (some a6)) 3 (some a8)) 4 (some a10)) 5 (some a12))))))) :: ((o, .inr (1, [.ref a1, .int 0])) :: (W)))))))))) pk_X9_init rfl i_210 (Or.inr (by decide +kernel)) (by decide) ⟨Nat.le_of_ble_eq_true rfl, Nat.le_of_ble_eq_true rfl⟩ (Nat.le_of_ble_eq_true rfl) dX1_init_35 (fun q15 => ?_)
  refine u_aast (pc := 38) (N := 8) (j := 6) (ci := 9) 21 4 2 (w_X9 cy q15 a14 ++ (w_X9 cy q13 a12 ++ (w_X9 cy q11 a10 ++ (w_X9 cy q9 a8 ++ (w_X9 cy q7 a6 ++ (w_X9 cy q5 a4 ++ (w_X9 cy q3 a2 ++ ((a1, .inl (cy 4, 8, .inr (.inr (.inr (.inr (va_up (va_up (va_up (va_up (va_up (va_up (va_up (fun _ => none) 0 (some a2)) 1 (some a4)) 2 (some a6)) 3 (some a8)) 4 (some a10)) 5 (some a12)) 6 (some a14))))))) :: ((o, .inr (1, [.ref a1, .int 0])) :: (W)))))))))) C rfl rfl rfl rfl (vp_of (by decide)) (by decide) rfl dX1_init_38 ?_
  refine u_iinc (pc := 39) (v := 7) (loc' := [(1, .int 7), (0, .ref o)]) 0 C dX1_init_39 rfl (by decide) (by decide) rfl ?_
  refine u_goto (pc := 42) (tgt := 20) C dX1_init_42 (by decide) ?_
  refine u_iload_n (pc := 20) 0 C dX1_init_20 rfl rfl ?_
  refine u_bipush (pc := 21) (v := 8) C dX1_init_21 (by decide) ?_
  refine u_geF (pc := 23) (tgt := 45) C dX1_init_23 (by decide) (by decide) ?_
  refine u_aload_n (pc := 26) 1 C dX1_init_26 rfl rfl ?_
  refine u_get (pc := 27) (ci := 1) (N := 2) (v := .ref a1) 22 0 C hin_1 rfl rfl (by decide) k_239 rfl dX1_init_27 ?_
  refine u_iload_n (pc := 30) 0 C dX1_init_30 rfl rfl ?_
  refine u_new (pc := 31) (ci := 9) (N := 4) tyX9 tyX9_ok C hin_9 i_206 i_208 k_71 rfl df_9 ⟨Nat.le_of_ble_eq_true rfl, Nat.le_of_ble_eq_true rfl⟩ dX1_init_31 (fun a16 => ?_)
  refine u_dup (pc := 34) C dX1_init_34 rfl ?_
  refine u_call (pc := 35) C (c_X9_init (W := w_X9 cy q15 a14 ++ (w_X9 cy q13 a12 ++ (w_X9 cy q11 a10 ++ (w_X9 cy q9 a8 ++ (w_X9 cy q7 a6 ++ (w_X9 cy q5 a4 ++ (w_X9 cy q3 a2 ++ ((a1, .inl (cy 4, 8, .inr (.inr (.inr (.inr (va_up (va_up (va_up (va_up (va_up (va_up (va_up (fun _ => none) 0 (some a2)) 1 (some a4)) 2 (some a6)) 3 (some a8)) 4 (some a10)) 5 (some a12)) 6 (some a14))))))) :: ((o, .inr (1, [.ref a1, .int 0])) :: (W))))))))))) pk_X9_init rfl i_210 (Or.inr (by decide +kernel)) (by decide) ⟨Nat.le_of_ble_eq_true rfl, Nat.le_of_ble_eq_true rfl⟩ (Nat.le_of_ble_eq_true rfl) dX1_init_35 (fun q17 => ?_)
  refine u_aast (pc := 38) (N := 8) (j := 7) (ci := 9) 24 4 2 (w_X9 cy q17 a16 ++ (w_X9 cy q15 a14 ++ (w_X9 cy q13 a12 ++ (w_X9 cy q11 a10 ++ (w_X9 cy q9 a8 ++ (w_X9 cy q7 a6 ++ (w_X9 cy q5 a4 ++ (w_X9 cy q3 a2 ++ ((a1, .inl (cy 4, 8, .inr (.inr (.inr (.inr (va_up (va_up (va_up (va_up (va_up (va_up (va_up (va_up (fun _ => none) 0 (some a2)) 1 (some a4)) 2 (some a6)) 3 (some a8)) 4 (some a10)) 5 (some a12)) 6 (some a14)) 7 (some a16))))))) :: ((o, .inr (1, [.ref a1, .int 0])) :: (W))))))))))) C rfl rfl rfl rfl (vp_of (by decide)) (by decide) rfl dX1_init_38 ?_
  refine u_iinc (pc := 39) (v := 8) (loc' := [(1, .int 8), (0, .ref o)]) 0 C dX1_init_39 rfl (by decide) (by decide) rfl ?_
  refine u_goto (pc := 42) (tgt := 20) C dX1_init_42 (by decide) ?_
  refine u_iload_n (pc := 20) 0 C dX1_init_20 rfl rfl ?_
  refine u_bipush (pc := 21) (v := 8) C dX1_init_21 (by decide) ?_
  refine u_geT (pc := 23) (tgt := 45) C dX1_init_23 (by decide) (by decide) ?_
  exact u_ret (pc := 45) (fun j => [fun i => [a1, a2, a4, a6, a8, a10, a12, a14, a16].getD i 0, q3, q5, q7, q9, q11, q13, q15, q17].getD j (fun _ => 0)) C r rfl dX1_init_45
def w_X5 (cy : Nat → ClassId) (q : Nat → Nat) (o : Nat) : va_W := ((q 4), .inl (cy 1, 8, .inr (.inl (fun _ => 0)))) :: (((q 3), .inl (cy 1, 8, .inr (.inl (fun _ => 0)))) :: (((q 2), .inl (cy 1, 144, .inr (.inl (fun _ => 0)))) :: (((q 1), .inl (cy 1, 144, .inr (.inl (fun _ => 0)))) :: (((q 0), .inl (cy 0, 12, .inl (fun _ => 0))) :: ((o, .inr (5, [.ref (q 0), .ref (q 1), .ref (q 2), .ref (q 3), .ref (q 4), .int 0, .int 0])) :: ([]))))))
set_option maxRecDepth 100000 in
set_option maxHeartbeats 4000000 in
theorem c_X5_init {l : Launch} {D : va_G} {cy : Nat → ClassId} {A : Nat → Prop} {o : Nat} {W : va_W} : MetC l yX5_init cX5_init 1 1 5 316 D cy A o ((o, .inr (5, [.null, .null, .null, .null, .null, .int 0, .int 0])) :: W) (fun q : Nat → Nat => w_X5 cy q o ++ W) := by
  refine MetC.of RX5 (by decide +kernel) rfl (Nat.le_of_ble_eq_true rfl) rfl (fun X C r => ?_)
  refine u_aload_n (pc := 0) 0 C dX5_init_0 rfl rfl ?_
  refine u_obj (pc := 1) C i_257 i_90 i_91 (by decide) dX5_init_1 ?_
  refine u_aload_n (pc := 4) 0 C dX5_init_4 rfl rfl ?_
  refine u_bipush (pc := 5) (v := 12) C dX5_init_5 (by decide) ?_
  refine u_newi (pc := 7) (N := 12) C i_118 (by decide) (by decide) (Nat.le_of_ble_eq_true rfl) ⟨Nat.le_of_ble_eq_true rfl, Nat.le_of_ble_eq_true rfl⟩ dX5_init_7 (fun a1 => ?_)
  refine u_putF (pc := 9) (ci := 5) (N := 7) (v := .ref a1) (ty := .array .int) 1 0 ((a1, .inl (cy 0, 12, .inl (fun _ => 0))) :: ((o, .inr (5, [.ref a1, .null, .null, .null, .null, .int 0, .int 0])) :: (W))) tyX5 tyX5_ok nmX5 C hin_5 r.2.2 rfl rfl (by decide) k_258 rfl rfl (by decide +kernel) rfl rfl (Nat.le_of_ble_eq_true rfl) rfl dX5_init_9 ?_
  refine u_aload_n (pc := 12) 0 C dX5_init_12 rfl rfl ?_
  refine u_sipush (pc := 13) (v := 144) C dX5_init_13 (by decide) ?_
  refine u_newl (pc := 16) (N := 144) C i_119 (by decide) (by decide) (Nat.le_of_ble_eq_true rfl) ⟨Nat.le_of_ble_eq_true rfl, Nat.le_of_ble_eq_true rfl⟩ dX5_init_16 (fun a2 => ?_)
  refine u_putF (pc := 18) (ci := 5) (N := 7) (v := .ref a2) (ty := .array .long) 2 1 ((a2, .inl (cy 1, 144, .inr (.inl (fun _ => 0)))) :: ((a1, .inl (cy 0, 12, .inl (fun _ => 0))) :: ((o, .inr (5, [.ref a1, .ref a2, .null, .null, .null, .int 0, .int 0])) :: (W)))) tyX5 tyX5_ok nmX5 C hin_5 r.2.2 rfl rfl (by decide) k_260 rfl rfl (by decide +kernel) rfl rfl (Nat.le_of_ble_eq_true rfl) rfl dX5_init_18 ?_
  refine u_aload_n (pc := 21) 0 C dX5_init_21 rfl rfl ?_
  refine u_sipush (pc := 22) (v := 144) C dX5_init_22 (by decide) ?_
  refine u_newl (pc := 25) (N := 144) C i_119 (by decide) (by decide) (Nat.le_of_ble_eq_true rfl) ⟨Nat.le_of_ble_eq_true rfl, Nat.le_of_ble_eq_true rfl⟩ dX5_init_25 (fun a3 => ?_)
  refine u_putF (pc := 27) (ci := 5) (N := 7) (v := .ref a3) (ty := .array .long) 3 2 ((a3, .inl (cy 1, 144, .inr (.inl (fun _ => 0)))) :: ((a2, .inl (cy 1, 144, .inr (.inl (fun _ => 0)))) :: ((a1, .inl (cy 0, 12, .inl (fun _ => 0))) :: ((o, .inr (5, [.ref a1, .ref a2, .ref a3, .null, .null, .int 0, .int 0])) :: (W))))) tyX5 tyX5_ok nmX5 C hin_5 r.2.2 rfl rfl (by decide) k_261 rfl rfl (by decide +kernel) rfl rfl (Nat.le_of_ble_eq_true rfl) rfl dX5_init_27 ?_
  refine u_aload_n (pc := 30) 0 C dX5_init_30 rfl rfl ?_
  refine u_bipush (pc := 31) (v := 8) C dX5_init_31 (by decide) ?_
  refine u_newl (pc := 33) (N := 8) C i_119 (by decide) (by decide) (Nat.le_of_ble_eq_true rfl) ⟨Nat.le_of_ble_eq_true rfl, Nat.le_of_ble_eq_true rfl⟩ dX5_init_33 (fun a4 => ?_)
  refine u_putF (pc := 35) (ci := 5) (N := 7) (v := .ref a4) (ty := .array .long) 4 3 ((a4, .inl (cy 1, 8, .inr (.inl (fun _ => 0)))) :: ((a3, .inl (cy 1, 144, .inr (.inl (fun _ => 0)))) :: ((a2, .inl (cy 1, 144, .inr (.inl (fun _ => 0)))) :: ((a1, .inl (cy 0, 12, .inl (fun _ => 0))) :: ((o, .inr (5, [.ref a1, .ref a2, .ref a3, .ref a4, .null, .int 0, .int 0])) :: (W)))))) tyX5 tyX5_ok nmX5 C hin_5 r.2.2 rfl rfl (by decide) k_262 rfl rfl (by decide +kernel) rfl rfl (Nat.le_of_ble_eq_true rfl) rfl dX5_init_35 ?_
  refine u_aload_n (pc := 38) 0 C dX5_init_38 rfl rfl ?_
  refine u_bipush (pc := 39) (v := 8) C dX5_init_39 (by decide) ?_
  refine u_newl (pc := 41) (N := 8) C i_119 (by decide) (by decide) (Nat.le_of_ble_eq_true rfl) ⟨Nat.le_of_ble_eq_true rfl, Nat.le_of_ble_eq_true rfl⟩ dX5_init_41 (fun a5 => ?_)
  refine u_putF (pc := 43) (ci := 5) (N := 7) (v := .ref a5) (ty := .array .long) 5 4 ((a5, .inl (cy 1, 8, .inr (.inl (fun _ => 0)))) :: ((a4, .inl (cy 1, 8, .inr (.inl (fun _ => 0)))) :: ((a3, .inl (cy 1, 144, .inr (.inl (fun _ => 0)))) :: ((a2, .inl (cy 1, 144, .inr (.inl (fun _ => 0)))) :: ((a1, .inl (cy 0, 12, .inl (fun _ => 0))) :: ((o, .inr (5, [.ref a1, .ref a2, .ref a3, .ref a4, .ref a5, .int 0, .int 0])) :: (W))))))) tyX5 tyX5_ok nmX5 C hin_5 r.2.2 rfl rfl (by decide) k_263 rfl rfl (by decide +kernel) rfl rfl (Nat.le_of_ble_eq_true rfl) rfl dX5_init_43 ?_
  refine u_aload_n (pc := 46) 0 C dX5_init_46 rfl rfl ?_
  refine u_iconst (pc := 47) (v := 0) C dX5_init_47 (by decide) ?_
  refine u_put (pc := 48) (ci := 5) (N := 7) (v := .int 0) (ty := .int) 5 5 ((a5, .inl (cy 1, 8, .inr (.inl (fun _ => 0)))) :: ((a4, .inl (cy 1, 8, .inr (.inl (fun _ => 0)))) :: ((a3, .inl (cy 1, 144, .inr (.inl (fun _ => 0)))) :: ((a2, .inl (cy 1, 144, .inr (.inl (fun _ => 0)))) :: ((a1, .inl (cy 0, 12, .inl (fun _ => 0))) :: ((o, .inr (5, [.ref a1, .ref a2, .ref a3, .ref a4, .ref a5, .int 0, .int 0])) :: (W))))))) tyX5 tyX5_ok nmX5 C hin_5 rfl rfl (by decide) k_264 rfl (by decide +kernel) rfl rfl (Nat.le_of_ble_eq_true rfl) rfl dX5_init_48 ?_
  refine u_aload_n (pc := 51) 0 C dX5_init_51 rfl rfl ?_
  refine u_iconst (pc := 52) (v := 0) C dX5_init_52 (by decide) ?_
  refine u_put (pc := 53) (ci := 5) (N := 7) (v := .int 0) (ty := .int) 5 6 ((a5, .inl (cy 1, 8, .inr (.inl (fun _ => 0)))) :: ((a4, .inl (cy 1, 8, .inr (.inl (fun _ => 0)))) :: ((a3, .inl (cy 1, 144, .inr (.inl (fun _ => 0)))) :: ((a2, .inl (cy 1, 144, .inr (.inl (fun _ => 0)))) :: ((a1, .inl (cy 0, 12, .inl (fun _ => 0))) :: ((o, .inr (5, [.ref a1, .ref a2, .ref a3, .ref a4, .ref a5, .int 0, .int 0])) :: (W))))))) tyX5 tyX5_ok nmX5 C hin_5 rfl rfl (by decide) k_265 rfl (by decide +kernel) rfl rfl (Nat.le_of_ble_eq_true rfl) rfl dX5_init_53 ?_
  exact u_ret (pc := 56) (fun j => [a1, a2, a3, a4, a5].getD j 0) C r rfl dX5_init_56
def w_X3 (cy : Nat → ClassId) (q : Nat → Nat) (o : Nat) : va_W := ((q 1), .inl (cy 0, 4096, .inl (fun _ => 0))) :: (((q 0), .inl (cy 0, 144, .inl (fun _ => 0))) :: ((o, .inr (3, [.ref (q 0), .ref (q 1)])) :: ([])))
set_option maxRecDepth 100000 in
set_option maxHeartbeats 4000000 in
theorem c_X3_init {l : Launch} {D : va_G} {cy : Nat → ClassId} {A : Nat → Prop} {o : Nat} {W : va_W} : MetC l yX3_init cX3_init 1 1 2 4240 D cy A o ((o, .inr (3, [.null, .null])) :: W) (fun q : Nat → Nat => w_X3 cy q o ++ W) := by
  refine MetC.of RX3 (by decide +kernel) rfl (Nat.le_of_ble_eq_true rfl) rfl (fun X C r => ?_)
  refine u_aload_n (pc := 0) 0 C dX3_init_0 rfl rfl ?_
  refine u_obj (pc := 1) C i_287 i_90 i_91 (by decide) dX3_init_1 ?_
  refine u_aload_n (pc := 4) 0 C dX3_init_4 rfl rfl ?_
  refine u_sipush (pc := 5) (v := 144) C dX3_init_5 (by decide) ?_
  refine u_newi (pc := 8) (N := 144) C i_118 (by decide) (by decide) (Nat.le_of_ble_eq_true rfl) ⟨Nat.le_of_ble_eq_true rfl, Nat.le_of_ble_eq_true rfl⟩ dX3_init_8 (fun a1 => ?_)
  refine u_putF (pc := 10) (ci := 3) (N := 2) (v := .ref a1) (ty := .array .int) 1 0 ((a1, .inl (cy 0, 144, .inl (fun _ => 0))) :: ((o, .inr (3, [.ref a1, .null])) :: (W))) tyX3 tyX3_ok nmX3 C hin_3 r.2.2 rfl rfl (by decide) k_288 rfl rfl (by decide +kernel) rfl rfl (Nat.le_of_ble_eq_true rfl) rfl dX3_init_10 ?_
  refine u_aload_n (pc := 13) 0 C dX3_init_13 rfl rfl ?_
  refine u_sipush (pc := 14) (v := 4096) C dX3_init_14 (by decide) ?_
  refine u_newi (pc := 17) (N := 4096) C i_118 (by decide) (by decide) (Nat.le_of_ble_eq_true rfl) ⟨Nat.le_of_ble_eq_true rfl, Nat.le_of_ble_eq_true rfl⟩ dX3_init_17 (fun a2 => ?_)
  refine u_putF (pc := 19) (ci := 3) (N := 2) (v := .ref a2) (ty := .array .int) 2 1 ((a2, .inl (cy 0, 4096, .inl (fun _ => 0))) :: ((a1, .inl (cy 0, 144, .inl (fun _ => 0))) :: ((o, .inr (3, [.ref a1, .ref a2])) :: (W)))) tyX3 tyX3_ok nmX3 C hin_3 r.2.2 rfl rfl (by decide) k_289 rfl rfl (by decide +kernel) rfl rfl (Nat.le_of_ble_eq_true rfl) rfl dX3_init_19 ?_
  exact u_ret (pc := 22) (fun j => [a1, a2].getD j 0) C r rfl dX3_init_22
def w_X6 (cy : Nat → ClassId) (q : Nat → Nat) (o : Nat) : va_W := ((q 1), .inl (cy 0, 79, .inl (fun _ => 0))) :: (((q 0), .inl (cy 0, 1896, .inl (fun _ => 0))) :: ((o, .inr (6, [.ref (q 0), .ref (q 1)])) :: ([])))
set_option maxRecDepth 100000 in
set_option maxHeartbeats 4000000 in
theorem c_X6_init {l : Launch} {D : va_G} {cy : Nat → ClassId} {A : Nat → Prop} {o : Nat} {W : va_W} : MetC l yX6_init cX6_init 1 1 2 1975 D cy A o ((o, .inr (6, [.null, .null])) :: W) (fun q : Nat → Nat => w_X6 cy q o ++ W) := by
  refine MetC.of RX6 (by decide +kernel) rfl (Nat.le_of_ble_eq_true rfl) rfl (fun X C r => ?_)
  refine u_aload_n (pc := 0) 0 C dX6_init_0 rfl rfl ?_
  refine u_obj (pc := 1) C i_300 i_90 i_91 (by decide) dX6_init_1 ?_
  refine u_aload_n (pc := 4) 0 C dX6_init_4 rfl rfl ?_
  refine u_sipush (pc := 5) (v := 1896) C dX6_init_5 (by decide) ?_
  refine u_newi (pc := 8) (N := 1896) C i_118 (by decide) (by decide) (Nat.le_of_ble_eq_true rfl) ⟨Nat.le_of_ble_eq_true rfl, Nat.le_of_ble_eq_true rfl⟩ dX6_init_8 (fun a1 => ?_)
  refine u_putF (pc := 10) (ci := 6) (N := 2) (v := .ref a1) (ty := .array .int) 1 0 ((a1, .inl (cy 0, 1896, .inl (fun _ => 0))) :: ((o, .inr (6, [.ref a1, .null])) :: (W))) tyX6 tyX6_ok nmX6 C hin_6 r.2.2 rfl rfl (by decide) k_301 rfl rfl (by decide +kernel) rfl rfl (Nat.le_of_ble_eq_true rfl) rfl dX6_init_10 ?_
  refine u_aload_n (pc := 13) 0 C dX6_init_13 rfl rfl ?_
  refine u_bipush (pc := 14) (v := 79) C dX6_init_14 (by decide) ?_
  refine u_newi (pc := 16) (N := 79) C i_118 (by decide) (by decide) (Nat.le_of_ble_eq_true rfl) ⟨Nat.le_of_ble_eq_true rfl, Nat.le_of_ble_eq_true rfl⟩ dX6_init_16 (fun a2 => ?_)
  refine u_putF (pc := 18) (ci := 6) (N := 2) (v := .ref a2) (ty := .array .int) 2 1 ((a2, .inl (cy 0, 79, .inl (fun _ => 0))) :: ((a1, .inl (cy 0, 1896, .inl (fun _ => 0))) :: ((o, .inr (6, [.ref a1, .ref a2])) :: (W)))) tyX6 tyX6_ok nmX6 C hin_6 r.2.2 rfl rfl (by decide) k_302 rfl rfl (by decide +kernel) rfl rfl (Nat.le_of_ble_eq_true rfl) rfl dX6_init_18 ?_
  exact u_ret (pc := 21) (fun j => [a1, a2].getD j 0) C r rfl dX6_init_21
def w_X2 (cy : Nat → ClassId) (q : Nat → Nat) (o : Nat) : va_W := ((q 3), .inl (cy 1, 12, .inr (.inl (fun _ => 0)))) :: (((q 2), .inl (cy 1, 20, .inr (.inl (fun _ => 0)))) :: (((q 1), .inl (cy 1, 20, .inr (.inl (fun _ => 0)))) :: (((q 0), .inl (cy 0, 20, .inl (fun _ => 0))) :: ((o, .inr (2, [.ref (q 0), .ref (q 1), .ref (q 2), .ref (q 3), .int 0])) :: ([])))))
set_option maxRecDepth 100000 in
set_option maxHeartbeats 4000000 in
theorem c_X2_init {l : Launch} {D : va_G} {cy : Nat → ClassId} {A : Nat → Prop} {o : Nat} {W : va_W} : MetC l yX2_init cX2_init 1 1 4 72 D cy A o ((o, .inr (2, [.null, .null, .null, .null, .int 0])) :: W) (fun q : Nat → Nat => w_X2 cy q o ++ W) := by
  refine MetC.of RX2 (by decide +kernel) rfl (Nat.le_of_ble_eq_true rfl) rfl (fun X C r => ?_)
  refine u_aload_n (pc := 0) 0 C dX2_init_0 rfl rfl ?_
  refine u_obj (pc := 1) C i_313 i_90 i_91 (by decide) dX2_init_1 ?_
  refine u_aload_n (pc := 4) 0 C dX2_init_4 rfl rfl ?_
  refine u_bipush (pc := 5) (v := 20) C dX2_init_5 (by decide) ?_
  refine u_newi (pc := 7) (N := 20) C i_118 (by decide) (by decide) (Nat.le_of_ble_eq_true rfl) ⟨Nat.le_of_ble_eq_true rfl, Nat.le_of_ble_eq_true rfl⟩ dX2_init_7 (fun a1 => ?_)
  refine u_putF (pc := 9) (ci := 2) (N := 5) (v := .ref a1) (ty := .array .int) 1 0 ((a1, .inl (cy 0, 20, .inl (fun _ => 0))) :: ((o, .inr (2, [.ref a1, .null, .null, .null, .int 0])) :: (W))) tyX2 tyX2_ok nmX2 C hin_2 r.2.2 rfl rfl (by decide) k_314 rfl rfl (by decide +kernel) rfl rfl (Nat.le_of_ble_eq_true rfl) rfl dX2_init_9 ?_
  refine u_aload_n (pc := 12) 0 C dX2_init_12 rfl rfl ?_
  refine u_bipush (pc := 13) (v := 20) C dX2_init_13 (by decide) ?_
  refine u_newl (pc := 15) (N := 20) C i_119 (by decide) (by decide) (Nat.le_of_ble_eq_true rfl) ⟨Nat.le_of_ble_eq_true rfl, Nat.le_of_ble_eq_true rfl⟩ dX2_init_15 (fun a2 => ?_)
  refine u_putF (pc := 17) (ci := 2) (N := 5) (v := .ref a2) (ty := .array .long) 2 1 ((a2, .inl (cy 1, 20, .inr (.inl (fun _ => 0)))) :: ((a1, .inl (cy 0, 20, .inl (fun _ => 0))) :: ((o, .inr (2, [.ref a1, .ref a2, .null, .null, .int 0])) :: (W)))) tyX2 tyX2_ok nmX2 C hin_2 r.2.2 rfl rfl (by decide) k_315 rfl rfl (by decide +kernel) rfl rfl (Nat.le_of_ble_eq_true rfl) rfl dX2_init_17 ?_
  refine u_aload_n (pc := 20) 0 C dX2_init_20 rfl rfl ?_
  refine u_bipush (pc := 21) (v := 20) C dX2_init_21 (by decide) ?_
  refine u_newl (pc := 23) (N := 20) C i_119 (by decide) (by decide) (Nat.le_of_ble_eq_true rfl) ⟨Nat.le_of_ble_eq_true rfl, Nat.le_of_ble_eq_true rfl⟩ dX2_init_23 (fun a3 => ?_)
  refine u_putF (pc := 25) (ci := 2) (N := 5) (v := .ref a3) (ty := .array .long) 3 2 ((a3, .inl (cy 1, 20, .inr (.inl (fun _ => 0)))) :: ((a2, .inl (cy 1, 20, .inr (.inl (fun _ => 0)))) :: ((a1, .inl (cy 0, 20, .inl (fun _ => 0))) :: ((o, .inr (2, [.ref a1, .ref a2, .ref a3, .null, .int 0])) :: (W))))) tyX2 tyX2_ok nmX2 C hin_2 r.2.2 rfl rfl (by decide) k_316 rfl rfl (by decide +kernel) rfl rfl (Nat.le_of_ble_eq_true rfl) rfl dX2_init_25 ?_
  refine u_aload_n (pc := 28) 0 C dX2_init_28 rfl rfl ?_
  refine u_bipush (pc := 29) (v := 12) C dX2_init_29 (by decide) ?_
  refine u_newl (pc := 31) (N := 12) C i_119 (by decide) (by decide) (Nat.le_of_ble_eq_true rfl) ⟨Nat.le_of_ble_eq_true rfl, Nat.le_of_ble_eq_true rfl⟩ dX2_init_31 (fun a4 => ?_)
  refine u_putF (pc := 33) (ci := 2) (N := 5) (v := .ref a4) (ty := .array .long) 4 3 ((a4, .inl (cy 1, 12, .inr (.inl (fun _ => 0)))) :: ((a3, .inl (cy 1, 20, .inr (.inl (fun _ => 0)))) :: ((a2, .inl (cy 1, 20, .inr (.inl (fun _ => 0)))) :: ((a1, .inl (cy 0, 20, .inl (fun _ => 0))) :: ((o, .inr (2, [.ref a1, .ref a2, .ref a3, .ref a4, .int 0])) :: (W)))))) tyX2 tyX2_ok nmX2 C hin_2 r.2.2 rfl rfl (by decide) k_317 rfl rfl (by decide +kernel) rfl rfl (Nat.le_of_ble_eq_true rfl) rfl dX2_init_33 ?_
  refine u_aload_n (pc := 36) 0 C dX2_init_36 rfl rfl ?_
  refine u_iconst (pc := 37) (v := 0) C dX2_init_37 (by decide) ?_
  refine u_put (pc := 38) (ci := 2) (N := 5) (v := .int 0) (ty := .int) 4 4 ((a4, .inl (cy 1, 12, .inr (.inl (fun _ => 0)))) :: ((a3, .inl (cy 1, 20, .inr (.inl (fun _ => 0)))) :: ((a2, .inl (cy 1, 20, .inr (.inl (fun _ => 0)))) :: ((a1, .inl (cy 0, 20, .inl (fun _ => 0))) :: ((o, .inr (2, [.ref a1, .ref a2, .ref a3, .ref a4, .int 0])) :: (W)))))) tyX2 tyX2_ok nmX2 C hin_2 rfl rfl (by decide) k_318 rfl (by decide +kernel) rfl rfl (Nat.le_of_ble_eq_true rfl) rfl dX2_init_38 ?_
  exact u_ret (pc := 41) (fun j => [a1, a2, a3, a4].getD j 0) C r rfl dX2_init_41
def w_X8 (cy : Nat → ClassId) (q : Nat → Nat) (o : Nat) : va_W := ((q 0), .inl (cy 0, 64, .inl (fun _ => 0))) :: ((o, .inr (8, [.ref (q 0), .int (-1), .int 0])) :: ([]))
set_option maxRecDepth 100000 in
set_option maxHeartbeats 4000000 in
theorem c_X8_init {l : Launch} {D : va_G} {cy : Nat → ClassId} {A : Nat → Prop} {o : Nat} {W : va_W} : MetC l yX8_init cX8_init 1 1 1 64 D cy A o ((o, .inr (8, [.null, .int 0, .int 0])) :: W) (fun q : Nat → Nat => w_X8 cy q o ++ W) := by
  refine MetC.of RX8 (by decide +kernel) rfl (Nat.le_of_ble_eq_true rfl) rfl (fun X C r => ?_)
  refine u_aload_n (pc := 0) 0 C dX8_init_0 rfl rfl ?_
  refine u_obj (pc := 1) C i_337 i_90 i_91 (by decide) dX8_init_1 ?_
  refine u_aload_n (pc := 4) 0 C dX8_init_4 rfl rfl ?_
  refine u_bipush (pc := 5) (v := 64) C dX8_init_5 (by decide) ?_
  refine u_newi (pc := 7) (N := 64) C i_118 (by decide) (by decide) (Nat.le_of_ble_eq_true rfl) ⟨Nat.le_of_ble_eq_true rfl, Nat.le_of_ble_eq_true rfl⟩ dX8_init_7 (fun a1 => ?_)
  refine u_putF (pc := 9) (ci := 8) (N := 3) (v := .ref a1) (ty := .array .int) 1 0 ((a1, .inl (cy 0, 64, .inl (fun _ => 0))) :: ((o, .inr (8, [.ref a1, .int 0, .int 0])) :: (W))) tyX8 tyX8_ok nmX8 C hin_8 r.2.2 rfl rfl (by decide) k_338 rfl rfl (by decide +kernel) rfl rfl (Nat.le_of_ble_eq_true rfl) rfl dX8_init_9 ?_
  refine u_aload_n (pc := 12) 0 C dX8_init_12 rfl rfl ?_
  refine u_iconst (pc := 13) (v := (-1)) C dX8_init_13 (by decide) ?_
  refine u_put (pc := 14) (ci := 8) (N := 3) (v := .int (-1)) (ty := .int) 1 1 ((a1, .inl (cy 0, 64, .inl (fun _ => 0))) :: ((o, .inr (8, [.ref a1, .int (-1), .int 0])) :: (W))) tyX8 tyX8_ok nmX8 C hin_8 rfl rfl (by decide) k_341 rfl (by decide +kernel) rfl rfl (Nat.le_of_ble_eq_true rfl) rfl dX8_init_14 ?_
  refine u_aload_n (pc := 17) 0 C dX8_init_17 rfl rfl ?_
  refine u_iconst (pc := 18) (v := 0) C dX8_init_18 (by decide) ?_
  refine u_put (pc := 19) (ci := 8) (N := 3) (v := .int 0) (ty := .int) 1 2 ((a1, .inl (cy 0, 64, .inl (fun _ => 0))) :: ((o, .inr (8, [.ref a1, .int (-1), .int 0])) :: (W))) tyX8 tyX8_ok nmX8 C hin_8 rfl rfl (by decide) k_342 rfl (by decide +kernel) rfl rfl (Nat.le_of_ble_eq_true rfl) rfl dX8_init_19 ?_
  exact u_ret (pc := 22) (fun j => [a1].getD j 0) C r rfl dX8_init_22
def w_X11 (cy : Nat → ClassId) (q : (Nat → Nat) × (Nat → Nat → Nat) × (Nat → Nat → Nat)) (o : Nat) : va_W := w_X8 cy (q.2.1 10) (q.1 12) ++ (w_X8 cy (q.2.1 9) (q.1 11) ++ (w_X8 cy (q.2.1 8) (q.1 10) ++ (w_X8 cy (q.2.1 7) (q.1 9) ++ (((q.1 8), .inl (cy 5, 4, .inr (.inr (.inr (.inr (va_up (va_up (va_up (va_up (fun _ => none) 0 (some (q.1 9))) 1 (some (q.1 10))) 2 (some (q.1 11))) 3 (some (q.1 12)))))))) :: (w_X2 cy (q.2.1 6) (q.1 7) ++ (w_X6 cy (q.2.1 5) (q.1 6) ++ (w_X3 cy (q.2.1 4) (q.1 5) ++ (w_X5 cy (q.2.1 3) (q.1 4) ++ (w_X1 cy q.2.2 (q.1 3) ++ (w_X4 cy (q.2.1 2) (q.1 2) ++ (w_X7 cy (q.2.1 1) (q.1 1) ++ (w_X10 cy (q.2.1 0) (q.1 0) ++ ((o, .inr (11, [.ref (q.1 0), .ref (q.1 1), .ref (q.1 2), .ref (q.1 3), .ref (q.1 4), .ref (q.1 5), .ref (q.1 6), .ref (q.1 7), .ref (q.1 8), .int 0, .int 0])) :: ([]))))))))))))))
set_option maxRecDepth 100000 in
set_option maxHeartbeats 4000000 in
theorem c_X11_init {l : Launch} {D : va_G} {cy : Nat → ClassId} {A : Nat → Prop} {o : Nat} {W : va_W} : MetC l yX11_init cX11_init 2 3 76 7893 D cy A o ((o, .inr (11, [.null, .null, .null, .null, .null, .null, .null, .null, .null, .int 0, .int 0])) :: W) (fun q : (Nat → Nat) × (Nat → Nat → Nat) × (Nat → Nat → Nat) => w_X11 cy q o ++ W) := by
  refine MetC.of RX11 (by decide +kernel) rfl (Nat.le_of_ble_eq_true rfl) rfl (fun X C r => ?_)
  refine u_aload_n (pc := 0) 0 C dX11_init_0 rfl rfl ?_
  refine u_obj (pc := 1) C i_89 i_90 i_91 (by decide) dX11_init_1 ?_
  refine u_aload_n (pc := 4) 0 C dX11_init_4 rfl rfl ?_
  refine u_new (pc := 5) (ci := 10) (N := 5) tyX10 tyX10_ok C hin_10 i_92 i_93 k_66 rfl df_10 ⟨Nat.le_of_ble_eq_true rfl, Nat.le_of_ble_eq_true rfl⟩ dX11_init_5 (fun a1 => ?_)
  refine u_dup (pc := 8) C dX11_init_8 rfl ?_
  refine u_call (pc := 9) C (c_X10_init (W := (o, .inr (11, [.null, .null, .null, .null, .null, .null, .null, .null, .null, .int 0, .int 0])) :: (W))) pk_X10_init rfl i_95 (Or.inr (by decide +kernel)) (by decide) ⟨Nat.le_of_ble_eq_true rfl, Nat.le_of_ble_eq_true rfl⟩ (Nat.le_of_ble_eq_true rfl) dX11_init_9 (fun q2 => ?_)
  refine u_putF (pc := 12) (ci := 11) (N := 11) (v := .ref a1) (ty := .object "FeltZither$Strings") 4 0 (w_X10 cy q2 a1 ++ ((o, .inr (11, [.ref a1, .null, .null, .null, .null, .null, .null, .null, .null, .int 0, .int 0])) :: (W))) tyX11 tyX11_ok nmX11 C hin_11 r.2.2 rfl rfl (by decide) k_350 rfl rfl (by decide +kernel) rfl rfl (Nat.le_of_ble_eq_true rfl) rfl dX11_init_12 ?_
  refine u_aload_n (pc := 15) 0 C dX11_init_15 rfl rfl ?_
  refine u_new (pc := 16) (ci := 7) (N := 2) tyX7 tyX7_ok C hin_7 i_120 i_121 k_67 rfl df_7 ⟨Nat.le_of_ble_eq_true rfl, Nat.le_of_ble_eq_true rfl⟩ dX11_init_16 (fun a3 => ?_)
  refine u_dup (pc := 19) C dX11_init_19 rfl ?_
  refine u_call (pc := 20) C (c_X7_init (W := w_X10 cy q2 a1 ++ ((o, .inr (11, [.ref a1, .null, .null, .null, .null, .null, .null, .null, .null, .int 0, .int 0])) :: (W)))) pk_X7_init rfl i_123 (Or.inl i_122) (by decide) ⟨Nat.le_of_ble_eq_true rfl, Nat.le_of_ble_eq_true rfl⟩ (Nat.le_of_ble_eq_true rfl) dX11_init_20 (fun q4 => ?_)
  refine u_putF (pc := 23) (ci := 11) (N := 11) (v := .ref a3) (ty := .object "FeltZither$Rack") 18 1 (w_X7 cy q4 a3 ++ (w_X10 cy q2 a1 ++ ((o, .inr (11, [.ref a1, .ref a3, .null, .null, .null, .null, .null, .null, .null, .int 0, .int 0])) :: (W)))) tyX11 tyX11_ok nmX11 C hin_11 r.2.2 rfl rfl (by decide) k_351 rfl rfl (by decide +kernel) rfl rfl (Nat.le_of_ble_eq_true rfl) rfl dX11_init_23 ?_
  refine u_aload_n (pc := 26) 0 C dX11_init_26 rfl rfl ?_
  refine u_new (pc := 27) (ci := 4) (N := 6) tyX4 tyX4_ok C hin_4 i_170 i_171 k_69 rfl df_4 ⟨Nat.le_of_ble_eq_true rfl, Nat.le_of_ble_eq_true rfl⟩ dX11_init_27 (fun a5 => ?_)
  refine u_dup (pc := 30) C dX11_init_30 rfl ?_
  refine u_call (pc := 31) C (c_X4_init (W := w_X7 cy q4 a3 ++ (w_X10 cy q2 a1 ++ ((o, .inr (11, [.ref a1, .ref a3, .null, .null, .null, .null, .null, .null, .null, .int 0, .int 0])) :: (W))))) pk_X4_init rfl i_173 (Or.inr (by decide +kernel)) (by decide) ⟨Nat.le_of_ble_eq_true rfl, Nat.le_of_ble_eq_true rfl⟩ (Nat.le_of_ble_eq_true rfl) dX11_init_31 (fun q6 => ?_)
  refine u_putF (pc := 34) (ci := 11) (N := 11) (v := .ref a5) (ty := .object "FeltZither$Grips") 24 2 (w_X4 cy q6 a5 ++ (w_X7 cy q4 a3 ++ (w_X10 cy q2 a1 ++ ((o, .inr (11, [.ref a1, .ref a3, .ref a5, .null, .null, .null, .null, .null, .null, .int 0, .int 0])) :: (W))))) tyX11 tyX11_ok nmX11 C hin_11 r.2.2 rfl rfl (by decide) k_352 rfl rfl (by decide +kernel) rfl rfl (Nat.le_of_ble_eq_true rfl) rfl dX11_init_34 ?_
  refine u_aload_n (pc := 37) 0 C dX11_init_37 rfl rfl ?_
  refine u_new (pc := 38) (ci := 1) (N := 2) tyX1 tyX1_ok C hin_1 i_200 i_201 k_70 rfl df_1 ⟨Nat.le_of_ble_eq_true rfl, Nat.le_of_ble_eq_true rfl⟩ dX11_init_38 (fun a7 => ?_)
  refine u_dup (pc := 41) C dX11_init_41 rfl ?_
  refine u_call (pc := 42) C (c_X1_init (W := w_X4 cy q6 a5 ++ (w_X7 cy q4 a3 ++ (w_X10 cy q2 a1 ++ ((o, .inr (11, [.ref a1, .ref a3, .ref a5, .null, .null, .null, .null, .null, .null, .int 0, .int 0])) :: (W)))))) pk_X1_init rfl i_203 (Or.inl i_202) (by decide) ⟨Nat.le_of_ble_eq_true rfl, Nat.le_of_ble_eq_true rfl⟩ (Nat.le_of_ble_eq_true rfl) dX11_init_42 (fun q8 => ?_)
  refine u_putF (pc := 45) (ci := 11) (N := 11) (v := .ref a7) (ty := .object "FeltZither$Book") 50 3 (w_X1 cy q8 a7 ++ (w_X4 cy q6 a5 ++ (w_X7 cy q4 a3 ++ (w_X10 cy q2 a1 ++ ((o, .inr (11, [.ref a1, .ref a3, .ref a5, .ref a7, .null, .null, .null, .null, .null, .int 0, .int 0])) :: (W)))))) tyX11 tyX11_ok nmX11 C hin_11 r.2.2 rfl rfl (by decide) k_353 rfl rfl (by decide +kernel) rfl rfl (Nat.le_of_ble_eq_true rfl) rfl dX11_init_45 ?_
  refine u_aload_n (pc := 48) 0 C dX11_init_48 rfl rfl ?_
  refine u_new (pc := 49) (ci := 5) (N := 7) tyX5 tyX5_ok C hin_5 i_252 i_253 k_72 rfl df_5 ⟨Nat.le_of_ble_eq_true rfl, Nat.le_of_ble_eq_true rfl⟩ dX11_init_49 (fun a9 => ?_)
  refine u_dup (pc := 52) C dX11_init_52 rfl ?_
  refine u_call (pc := 53) C (c_X5_init (W := w_X1 cy q8 a7 ++ (w_X4 cy q6 a5 ++ (w_X7 cy q4 a3 ++ (w_X10 cy q2 a1 ++ ((o, .inr (11, [.ref a1, .ref a3, .ref a5, .ref a7, .null, .null, .null, .null, .null, .int 0, .int 0])) :: (W))))))) pk_X5_init rfl i_255 (Or.inr (by decide +kernel)) (by decide) ⟨Nat.le_of_ble_eq_true rfl, Nat.le_of_ble_eq_true rfl⟩ (Nat.le_of_ble_eq_true rfl) dX11_init_53 (fun q10 => ?_)
  refine u_putF (pc := 56) (ci := 11) (N := 11) (v := .ref a9) (ty := .object "FeltZither$Offers") 56 4 (w_X5 cy q10 a9 ++ (w_X1 cy q8 a7 ++ (w_X4 cy q6 a5 ++ (w_X7 cy q4 a3 ++ (w_X10 cy q2 a1 ++ ((o, .inr (11, [.ref a1, .ref a3, .ref a5, .ref a7, .ref a9, .null, .null, .null, .null, .int 0, .int 0])) :: (W))))))) tyX11 tyX11_ok nmX11 C hin_11 r.2.2 rfl rfl (by decide) k_354 rfl rfl (by decide +kernel) rfl rfl (Nat.le_of_ble_eq_true rfl) rfl dX11_init_56 ?_
  refine u_aload_n (pc := 59) 0 C dX11_init_59 rfl rfl ?_
  refine u_new (pc := 60) (ci := 3) (N := 2) tyX3 tyX3_ok C hin_3 i_282 i_283 k_73 rfl df_3 ⟨Nat.le_of_ble_eq_true rfl, Nat.le_of_ble_eq_true rfl⟩ dX11_init_60 (fun a11 => ?_)
  refine u_dup (pc := 63) C dX11_init_63 rfl ?_
  refine u_call (pc := 64) C (c_X3_init (W := w_X5 cy q10 a9 ++ (w_X1 cy q8 a7 ++ (w_X4 cy q6 a5 ++ (w_X7 cy q4 a3 ++ (w_X10 cy q2 a1 ++ ((o, .inr (11, [.ref a1, .ref a3, .ref a5, .ref a7, .ref a9, .null, .null, .null, .null, .int 0, .int 0])) :: (W)))))))) pk_X3_init rfl i_285 (Or.inr (by decide +kernel)) (by decide) ⟨Nat.le_of_ble_eq_true rfl, Nat.le_of_ble_eq_true rfl⟩ (Nat.le_of_ble_eq_true rfl) dX11_init_64 (fun q12 => ?_)
  refine u_putF (pc := 67) (ci := 11) (N := 11) (v := .ref a11) (ty := .object "FeltZither$Frame") 59 5 (w_X3 cy q12 a11 ++ (w_X5 cy q10 a9 ++ (w_X1 cy q8 a7 ++ (w_X4 cy q6 a5 ++ (w_X7 cy q4 a3 ++ (w_X10 cy q2 a1 ++ ((o, .inr (11, [.ref a1, .ref a3, .ref a5, .ref a7, .ref a9, .ref a11, .null, .null, .null, .int 0, .int 0])) :: (W)))))))) tyX11 tyX11_ok nmX11 C hin_11 r.2.2 rfl rfl (by decide) k_355 rfl rfl (by decide +kernel) rfl rfl (Nat.le_of_ble_eq_true rfl) rfl dX11_init_67 ?_
  refine u_aload_n (pc := 70) 0 C dX11_init_70 rfl rfl ?_
  refine u_new (pc := 71) (ci := 6) (N := 2) tyX6 tyX6_ok C hin_6 i_295 i_296 k_74 rfl df_6 ⟨Nat.le_of_ble_eq_true rfl, Nat.le_of_ble_eq_true rfl⟩ dX11_init_71 (fun a13 => ?_)
  refine u_dup (pc := 74) C dX11_init_74 rfl ?_
  refine u_call (pc := 75) C (c_X6_init (W := w_X3 cy q12 a11 ++ (w_X5 cy q10 a9 ++ (w_X1 cy q8 a7 ++ (w_X4 cy q6 a5 ++ (w_X7 cy q4 a3 ++ (w_X10 cy q2 a1 ++ ((o, .inr (11, [.ref a1, .ref a3, .ref a5, .ref a7, .ref a9, .ref a11, .null, .null, .null, .int 0, .int 0])) :: (W))))))))) pk_X6_init rfl i_298 (Or.inr (by decide +kernel)) (by decide) ⟨Nat.le_of_ble_eq_true rfl, Nat.le_of_ble_eq_true rfl⟩ (Nat.le_of_ble_eq_true rfl) dX11_init_75 (fun q14 => ?_)
  refine u_putF (pc := 78) (ci := 11) (N := 11) (v := .ref a13) (ty := .object "FeltZither$Player") 62 6 (w_X6 cy q14 a13 ++ (w_X3 cy q12 a11 ++ (w_X5 cy q10 a9 ++ (w_X1 cy q8 a7 ++ (w_X4 cy q6 a5 ++ (w_X7 cy q4 a3 ++ (w_X10 cy q2 a1 ++ ((o, .inr (11, [.ref a1, .ref a3, .ref a5, .ref a7, .ref a9, .ref a11, .ref a13, .null, .null, .int 0, .int 0])) :: (W))))))))) tyX11 tyX11_ok nmX11 C hin_11 r.2.2 rfl rfl (by decide) k_356 rfl rfl (by decide +kernel) rfl rfl (Nat.le_of_ble_eq_true rfl) rfl dX11_init_78 ?_
  refine u_aload_n (pc := 81) 0 C dX11_init_81 rfl rfl ?_
  refine u_new (pc := 82) (ci := 2) (N := 5) tyX2 tyX2_ok C hin_2 i_308 i_309 k_75 rfl df_2 ⟨Nat.le_of_ble_eq_true rfl, Nat.le_of_ble_eq_true rfl⟩ dX11_init_82 (fun a15 => ?_)
  refine u_dup (pc := 85) C dX11_init_85 rfl ?_
  refine u_call (pc := 86) C (c_X2_init (W := w_X6 cy q14 a13 ++ (w_X3 cy q12 a11 ++ (w_X5 cy q10 a9 ++ (w_X1 cy q8 a7 ++ (w_X4 cy q6 a5 ++ (w_X7 cy q4 a3 ++ (w_X10 cy q2 a1 ++ ((o, .inr (11, [.ref a1, .ref a3, .ref a5, .ref a7, .ref a9, .ref a11, .ref a13, .null, .null, .int 0, .int 0])) :: (W)))))))))) pk_X2_init rfl i_311 (Or.inr (by decide +kernel)) (by decide) ⟨Nat.le_of_ble_eq_true rfl, Nat.le_of_ble_eq_true rfl⟩ (Nat.le_of_ble_eq_true rfl) dX11_init_86 (fun q16 => ?_)
  refine u_putF (pc := 89) (ci := 11) (N := 11) (v := .ref a15) (ty := .object "FeltZither$Ear") 67 7 (w_X2 cy q16 a15 ++ (w_X6 cy q14 a13 ++ (w_X3 cy q12 a11 ++ (w_X5 cy q10 a9 ++ (w_X1 cy q8 a7 ++ (w_X4 cy q6 a5 ++ (w_X7 cy q4 a3 ++ (w_X10 cy q2 a1 ++ ((o, .inr (11, [.ref a1, .ref a3, .ref a5, .ref a7, .ref a9, .ref a11, .ref a13, .ref a15, .null, .int 0, .int 0])) :: (W)))))))))) tyX11 tyX11_ok nmX11 C hin_11 r.2.2 rfl rfl (by decide) k_357 rfl rfl (by decide +kernel) rfl rfl (Nat.le_of_ble_eq_true rfl) rfl dX11_init_89 ?_
  refine u_aload_n (pc := 92) 0 C dX11_init_92 rfl rfl ?_
  refine u_iconst (pc := 93) (v := 4) C dX11_init_93 (by decide) ?_
  refine u_newq (pc := 94) (N := 4) 5 C rfl (fun h => h.2.2.2.2) i_331 (by decide) (by decide) (Nat.le_of_ble_eq_true rfl) ⟨Nat.le_of_ble_eq_true rfl, Nat.le_of_ble_eq_true rfl⟩ dX11_init_94 (fun a17 => ?_)
  refine u_putF (pc := 97) (ci := 11) (N := 11) (v := .ref a17) (ty := .array (.object "FeltZither$Sheet")) 68 8 ((a17, .inl (cy 5, 4, .inr (.inr (.inr (.inr (fun _ => none)))))) :: (w_X2 cy q16 a15 ++ (w_X6 cy q14 a13 ++ (w_X3 cy q12 a11 ++ (w_X5 cy q10 a9 ++ (w_X1 cy q8 a7 ++ (w_X4 cy q6 a5 ++ (w_X7 cy q4 a3 ++ (w_X10 cy q2 a1 ++ ((o, .inr (11, [.ref a1, .ref a3, .ref a5, .ref a7, .ref a9, .ref a11, .ref a13, .ref a15, .ref a17, .int 0, .int 0])) :: (W))))))))))) tyX11 tyX11_ok nmX11 C hin_11 r.2.2 rfl rfl (by decide) k_358 rfl rfl (by decide +kernel) rfl rfl (Nat.le_of_ble_eq_true rfl) rfl dX11_init_97 ?_
  refine u_iconst (pc := 100) (v := 0) C dX11_init_100 (by decide) ?_
  refine u_istore_n (pc := 101) (loc' := [(1, .int 0), (0, .ref o)]) C dX11_init_101 rfl (by decide) rfl ?_
  refine u_iload_n (pc := 102) 0 C dX11_init_102 rfl rfl ?_
  refine u_iconst (pc := 103) (v := 4) C dX11_init_103 (by decide) ?_
  refine u_geF (pc := 104) (tgt := 126) C dX11_init_104 (by decide) (by decide) ?_
  refine u_aload_n (pc := 107) 1 C dX11_init_107 rfl rfl ?_
  refine u_get (pc := 108) (ci := 11) (N := 11) (v := .ref a17) 68 8 C hin_11 rfl rfl (by decide) k_358 rfl dX11_init_108 ?_
  refine u_iload_n (pc := 111) 0 C dX11_init_111 rfl rfl ?_
  refine u_new (pc := 112) (ci := 8) (N := 3) tyX8 tyX8_ok C hin_8 i_331 i_333 k_76 rfl df_8 ⟨Nat.le_of_ble_eq_true rfl, Nat.le_of_ble_eq_true rfl⟩ dX11_init_112 (fun a18 => ?_)
  refine u_dup (pc := 115) C dX11_init_115 rfl ?_
  refine u_call (pc := 116) C (c_X8_init (W := (a17, .inl (cy 5, 4, .inr (.inr (.inr (.inr (fun _ => none)))))) :: (w_X2 cy q16 a15 ++ (w_X6 cy q14 a13 ++ (w_X3 cy q12 a11 ++ (w_X5 cy q10 a9 ++ (w_X1 cy q8 a7 ++ (w_X4 cy q6 a5 ++ (w_X7 cy q4 a3 ++ (w_X10 cy q2 a1 ++ ((o, .inr (11, [.ref a1, .ref a3, .ref a5, .ref a7, .ref a9, .ref a11, .ref a13, .ref a15, .ref a17, .int 0, .int 0])) :: (W)))))))))))) pk_X8_init rfl i_335 (Or.inr (by decide +kernel)) (by decide) ⟨Nat.le_of_ble_eq_true rfl, Nat.le_of_ble_eq_true rfl⟩ (Nat.le_of_ble_eq_true rfl) dX11_init_116 (fun q19 => ?_)
  refine u_aast (pc := 119) (N := 4) (j := 0) (ci := 8) 2 5 1 (w_X8 cy q19 a18 ++ ((a17, .inl (cy 5, 4, .inr (.inr (.inr (.inr (va_up (fun _ => none) 0 (some a18))))))) :: (w_X2 cy q16 a15 ++ (w_X6 cy q14 a13 ++ (w_X3 cy q12 a11 ++ (w_X5 cy q10 a9 ++ (w_X1 cy q8 a7 ++ (w_X4 cy q6 a5 ++ (w_X7 cy q4 a3 ++ (w_X10 cy q2 a1 ++ ((o, .inr (11, [.ref a1, .ref a3, .ref a5, .ref a7, .ref a9, .ref a11, .ref a13, .ref a15, .ref a17, .int 0, .int 0])) :: (W)))))))))))) C rfl rfl rfl rfl (vp_of (by decide)) (by decide) rfl dX11_init_119 ?_
  refine u_iinc (pc := 120) (v := 1) (loc' := [(1, .int 1), (0, .ref o)]) 0 C dX11_init_120 rfl (by decide) (by decide) rfl ?_
  refine u_goto (pc := 123) (tgt := 102) C dX11_init_123 (by decide) ?_
  refine u_iload_n (pc := 102) 0 C dX11_init_102 rfl rfl ?_
  refine u_iconst (pc := 103) (v := 4) C dX11_init_103 (by decide) ?_
  refine u_geF (pc := 104) (tgt := 126) C dX11_init_104 (by decide) (by decide) ?_
  refine u_aload_n (pc := 107) 1 C dX11_init_107 rfl rfl ?_
  refine u_get (pc := 108) (ci := 11) (N := 11) (v := .ref a17) 70 8 C hin_11 rfl rfl (by decide) k_358 rfl dX11_init_108 ?_
  refine u_iload_n (pc := 111) 0 C dX11_init_111 rfl rfl ?_
  refine u_new (pc := 112) (ci := 8) (N := 3) tyX8 tyX8_ok C hin_8 i_331 i_333 k_76 rfl df_8 ⟨Nat.le_of_ble_eq_true rfl, Nat.le_of_ble_eq_true rfl⟩ dX11_init_112 (fun a20 => ?_)
  refine u_dup (pc := 115) C dX11_init_115 rfl ?_
  refine u_call (pc := 116) C (c_X8_init (W := w_X8 cy q19 a18 ++ ((a17, .inl (cy 5, 4, .inr (.inr (.inr (.inr (va_up (fun _ => none) 0 (some a18))))))) :: (w_X2 cy q16 a15 ++ (w_X6 cy q14 a13 ++ (w_X3 cy q12 a11 ++ (w_X5 cy q10 a9 ++ (w_X1 cy q8 a7 ++ (w_X4 cy q6 a5 ++ (w_X7 cy q4 a3 ++ (w_X10 cy q2 a1 ++ ((o, .inr (11, [.ref a1, .ref a3, .ref a5, .ref a7, .ref a9, .ref a11, .ref a13, .ref a15, .ref a17, .int 0, .int 0])) :: (W))))))))))))) pk_X8_init rfl i_335 (Or.inr (by decide +kernel)) (by decide) ⟨Nat.le_of_ble_eq_true rfl, Nat.le_of_ble_eq_true rfl⟩ (Nat.le_of_ble_eq_true rfl) dX11_init_116 (fun q21 => ?_)
  refine u_aast (pc := 119) (N := 4) (j := 1) (ci := 8) 4 5 1 (w_X8 cy q21 a20 ++ (w_X8 cy q19 a18 ++ ((a17, .inl (cy 5, 4, .inr (.inr (.inr (.inr (va_up (va_up (fun _ => none) 0 (some a18)) 1 (some a20))))))) :: (w_X2 cy q16 a15 ++ (w_X6 cy q14 a13 ++ (w_X3 cy q12 a11 ++ (w_X5 cy q10 a9 ++ (w_X1 cy q8 a7 ++ (w_X4 cy q6 a5 ++ (w_X7 cy q4 a3 ++ (w_X10 cy q2 a1 ++ ((o, .inr (11, [.ref a1, .ref a3, .ref a5, .ref a7, .ref a9, .ref a11, .ref a13, .ref a15, .ref a17, .int 0, .int 0])) :: (W))))))))))))) C rfl rfl rfl rfl (vp_of (by decide)) (by decide) rfl dX11_init_119 ?_
  refine u_iinc (pc := 120) (v := 2) (loc' := [(1, .int 2), (0, .ref o)]) 0 C dX11_init_120 rfl (by decide) (by decide) rfl ?_
  refine u_goto (pc := 123) (tgt := 102) C dX11_init_123 (by decide) ?_
  refine u_iload_n (pc := 102) 0 C dX11_init_102 rfl rfl ?_
  refine u_iconst (pc := 103) (v := 4) C dX11_init_103 (by decide) ?_
  refine u_geF (pc := 104) (tgt := 126) C dX11_init_104 (by decide) (by decide) ?_
  refine u_aload_n (pc := 107) 1 C dX11_init_107 rfl rfl ?_
  refine u_get (pc := 108) (ci := 11) (N := 11) (v := .ref a17) 72 8 C hin_11 rfl rfl (by decide) k_358 rfl dX11_init_108 ?_
  refine u_iload_n (pc := 111) 0 C dX11_init_111 rfl rfl ?_
  refine u_new (pc := 112) (ci := 8) (N := 3) tyX8 tyX8_ok C hin_8 i_331 i_333 k_76 rfl df_8 ⟨Nat.le_of_ble_eq_true rfl, Nat.le_of_ble_eq_true rfl⟩ dX11_init_112 (fun a22 => ?_)
  refine u_dup (pc := 115) C dX11_init_115 rfl ?_
  refine u_call (pc := 116) C (c_X8_init (W := w_X8 cy q21 a20 ++ (w_X8 cy q19 a18 ++ ((a17, .inl (cy 5, 4, .inr (.inr (.inr (.inr (va_up (va_up (fun _ => none) 0 (some a18)) 1 (some a20))))))) :: (w_X2 cy q16 a15 ++ (w_X6 cy q14 a13 ++ (w_X3 cy q12 a11 ++ (w_X5 cy q10 a9 ++ (w_X1 cy q8 a7 ++ (w_X4 cy q6 a5 ++ (w_X7 cy q4 a3 ++ (w_X10 cy q2 a1 ++ ((o, .inr (11, [.ref a1, .ref a3, .ref a5, .ref a7, .ref a9, .ref a11, .ref a13, .ref a15, .ref a17, .int 0, .int 0])) :: (W)))))))))))))) pk_X8_init rfl i_335 (Or.inr (by decide +kernel)) (by decide) ⟨Nat.le_of_ble_eq_true rfl, Nat.le_of_ble_eq_true rfl⟩ (Nat.le_of_ble_eq_true rfl) dX11_init_116 (fun q23 => ?_)
  refine u_aast (pc := 119) (N := 4) (j := 2) (ci := 8) 6 5 1 (w_X8 cy q23 a22 ++ (w_X8 cy q21 a20 ++ (w_X8 cy q19 a18 ++ ((a17, .inl (cy 5, 4, .inr (.inr (.inr (.inr (va_up (va_up (va_up (fun _ => none) 0 (some a18)) 1 (some a20)) 2 (some a22))))))) :: (w_X2 cy q16 a15 ++ (w_X6 cy q14 a13 ++ (w_X3 cy q12 a11 ++ (w_X5 cy q10 a9 ++ (w_X1 cy q8 a7 ++ (w_X4 cy q6 a5 ++ (w_X7 cy q4 a3 ++ (w_X10 cy q2 a1 ++ ((o, .inr (11, [.ref a1, .ref a3, .ref a5, .ref a7, .ref a9, .ref a11, .ref a13, .ref a15, .ref a17, .int 0, .int 0])) :: (W)))))))))))))) C rfl rfl rfl rfl (vp_of (by decide)) (by decide) rfl dX11_init_119 ?_
  refine u_iinc (pc := 120) (v := 3) (loc' := [(1, .int 3), (0, .ref o)]) 0 C dX11_init_120 rfl (by decide) (by decide) rfl ?_
  refine u_goto (pc := 123) (tgt := 102) C dX11_init_123 (by decide) ?_
  refine u_iload_n (pc := 102) 0 C dX11_init_102 rfl rfl ?_
  refine u_iconst (pc := 103) (v := 4) C dX11_init_103 (by decide) ?_
  refine u_geF (pc := 104) (tgt := 126) C dX11_init_104 (by decide) (by decide) ?_
  refine u_aload_n (pc := 107) 1 C dX11_init_107 rfl rfl ?_
  refine u_get (pc := 108) (ci := 11) (N := 11) (v := .ref a17) 74 8 C hin_11 rfl rfl (by decide) k_358 rfl dX11_init_108 ?_
  refine u_iload_n (pc := 111) 0 C dX11_init_111 rfl rfl ?_
  refine u_new (pc := 112) (ci := 8) (N := 3) tyX8 tyX8_ok C hin_8 i_331 i_333 k_76 rfl df_8 ⟨Nat.le_of_ble_eq_true rfl, Nat.le_of_ble_eq_true rfl⟩ dX11_init_112 (fun a24 => ?_)
  refine u_dup (pc := 115) C dX11_init_115 rfl ?_
  refine u_call (pc := 116) C (c_X8_init (W := w_X8 cy q23 a22 ++ (w_X8 cy q21 a20 ++ (w_X8 cy q19 a18 ++ ((a17, .inl (cy 5, 4, .inr (.inr (.inr (.inr (va_up (va_up (va_up (fun _ => none) 0 (some a18)) 1 (some a20)) 2 (some a22))))))) :: (w_X2 cy q16 a15 ++ (w_X6 cy q14 a13 ++ (w_X3 cy q12 a11 ++ (w_X5 cy q10 a9 ++ (w_X1 cy q8 a7 ++ (w_X4 cy q6 a5 ++ (w_X7 cy q4 a3 ++ (w_X10 cy q2 a1 ++ ((o, .inr (11, [.ref a1, .ref a3, .ref a5, .ref a7, .ref a9, .ref a11, .ref a13, .ref a15, .ref a17, .int 0, .int 0])) :: (W))))))))))))))) pk_X8_init rfl i_335 (Or.inr (by decide +kernel)) (by decide) ⟨Nat.le_of_ble_eq_true rfl, Nat.le_of_ble_eq_true rfl⟩ (Nat.le_of_ble_eq_true rfl) dX11_init_116 (fun q25 => ?_)
  refine u_aast (pc := 119) (N := 4) (j := 3) (ci := 8) 8 5 1 (w_X8 cy q25 a24 ++ (w_X8 cy q23 a22 ++ (w_X8 cy q21 a20 ++ (w_X8 cy q19 a18 ++ ((a17, .inl (cy 5, 4, .inr (.inr (.inr (.inr (va_up (va_up (va_up (va_up (fun _ => none) 0 (some a18)) 1 (some a20)) 2 (some a22)) 3 (some a24))))))) :: (w_X2 cy q16 a15 ++ (w_X6 cy q14 a13 ++ (w_X3 cy q12 a11 ++ (w_X5 cy q10 a9 ++ (w_X1 cy q8 a7 ++ (w_X4 cy q6 a5 ++ (w_X7 cy q4 a3 ++ (w_X10 cy q2 a1 ++ ((o, .inr (11, [.ref a1, .ref a3, .ref a5, .ref a7, .ref a9, .ref a11, .ref a13, .ref a15, .ref a17, .int 0, .int 0])) :: (W))))))))))))))) C rfl rfl rfl rfl (vp_of (by decide)) (by decide) rfl dX11_init_119 ?_
  refine u_iinc (pc := 120) (v := 4) (loc' := [(1, .int 4), (0, .ref o)]) 0 C dX11_init_120 rfl (by decide) (by decide) rfl ?_
  refine u_goto (pc := 123) (tgt := 102) C dX11_init_123 (by decide) ?_
  refine u_iload_n (pc := 102) 0 C dX11_init_102 rfl rfl ?_
  refine u_iconst (pc := 103) (v := 4) C dX11_init_103 (by decide) ?_
  refine u_geT (pc := 104) (tgt := 126) C dX11_init_104 (by decide) (by decide) ?_
  refine u_aload_n (pc := 126) 1 C dX11_init_126 rfl rfl ?_
  refine u_iconst (pc := 127) (v := 0) C dX11_init_127 (by decide) ?_
  refine u_put (pc := 128) (ci := 11) (N := 11) (v := .int 0) (ty := .int) 76 9 (w_X8 cy q25 a24 ++ (w_X8 cy q23 a22 ++ (w_X8 cy q21 a20 ++ (w_X8 cy q19 a18 ++ ((a17, .inl (cy 5, 4, .inr (.inr (.inr (.inr (va_up (va_up (va_up (va_up (fun _ => none) 0 (some a18)) 1 (some a20)) 2 (some a22)) 3 (some a24))))))) :: (w_X2 cy q16 a15 ++ (w_X6 cy q14 a13 ++ (w_X3 cy q12 a11 ++ (w_X5 cy q10 a9 ++ (w_X1 cy q8 a7 ++ (w_X4 cy q6 a5 ++ (w_X7 cy q4 a3 ++ (w_X10 cy q2 a1 ++ ((o, .inr (11, [.ref a1, .ref a3, .ref a5, .ref a7, .ref a9, .ref a11, .ref a13, .ref a15, .ref a17, .int 0, .int 0])) :: (W))))))))))))))) tyX11 tyX11_ok nmX11 C hin_11 rfl rfl (by decide) k_359 rfl (by decide +kernel) rfl rfl (Nat.le_of_ble_eq_true rfl) rfl dX11_init_128 ?_
  refine u_aload_n (pc := 131) 1 C dX11_init_131 rfl rfl ?_
  refine u_iconst (pc := 132) (v := 0) C dX11_init_132 (by decide) ?_
  refine u_put (pc := 133) (ci := 11) (N := 11) (v := .int 0) (ty := .int) 76 10 (w_X8 cy q25 a24 ++ (w_X8 cy q23 a22 ++ (w_X8 cy q21 a20 ++ (w_X8 cy q19 a18 ++ ((a17, .inl (cy 5, 4, .inr (.inr (.inr (.inr (va_up (va_up (va_up (va_up (fun _ => none) 0 (some a18)) 1 (some a20)) 2 (some a22)) 3 (some a24))))))) :: (w_X2 cy q16 a15 ++ (w_X6 cy q14 a13 ++ (w_X3 cy q12 a11 ++ (w_X5 cy q10 a9 ++ (w_X1 cy q8 a7 ++ (w_X4 cy q6 a5 ++ (w_X7 cy q4 a3 ++ (w_X10 cy q2 a1 ++ ((o, .inr (11, [.ref a1, .ref a3, .ref a5, .ref a7, .ref a9, .ref a11, .ref a13, .ref a15, .ref a17, .int 0, .int 0])) :: (W))))))))))))))) tyX11 tyX11_ok nmX11 C hin_11 rfl rfl (by decide) k_360 rfl (by decide +kernel) rfl rfl (Nat.le_of_ble_eq_true rfl) rfl dX11_init_133 ?_
  exact u_ret (pc := 136) (fun j => [a1, a3, a5, a7, a9, a11, a13, a15, a17, a18, a20, a22, a24].getD j 0, fun j => [q2, q4, q6, q10, q12, q14, q16, q19, q21, q23, q25].getD j (fun _ => 0), q8) C r rfl dX11_init_136
def w_X12 (cy : Nat → ClassId) (q : Nat → Nat) (o : Nat) : va_W := ((q 29), .inl (cy 2, 432, .inl (fun _ => 0))) :: (((q 28), .inl (cy 0, 720, .inl (fun _ => 0))) :: (((q 27), .inl (cy 0, 20, .inl (fun _ => 0))) :: (((q 26), .inl (cy 0, 20, .inl (fun _ => 0))) :: (((q 25), .inl (cy 0, 1896, .inl (fun _ => 0))) :: (((q 24), .inl (cy 0, 12, .inl (fun _ => 0))) :: (((q 23), .inl (cy 0, 4096, .inl (fun _ => 0))) :: (((q 22), .inl (cy 0, 4096, .inl (fun _ => 0))) :: (((q 21), .inl (cy 0, 144, .inl (fun _ => 0))) :: (((q 20), .inl (cy 0, 4096, .inl (fun _ => 0))) :: (((q 19), .inl (cy 2, 4096, .inl (fun _ => 0))) :: (((q 18), .inl (cy 0, 144, .inl (fun _ => 0))) :: (((q 17), .inl (cy 0, 12, .inl (fun _ => 0))) :: (((q 16), .inl (cy 0, 256, .inl (fun _ => 0))) :: (((q 15), .inl (cy 0, 4, .inl (fun _ => 0))) :: (((q 14), .inl (cy 0, 4, .inl (upd (upd (upd (upd (fun _ => 0) 0 (-9)) 1 (-9)) 2 (-9)) 3 (-9)))) :: (((q 13), .inl (cy 0, 192, .inl (fun _ => 0))) :: (((q 12), .inl (cy 0, 192, .inl (fun _ => 0))) :: (((q 11), .inl (cy 0, 8, .inl (fun _ => 0))) :: (((q 10), .inl (cy 0, 8, .inl (fun _ => 0))) :: (((q 9), .inl (cy 0, 36, .inl (fun _ => 0))) :: (((q 8), .inl (cy 0, 96, .inl (fun _ => 0))) :: (((q 7), .inl (cy 0, 79, .inl (fun _ => 0))) :: (((q 6), .inl (cy 0, 79, .inl (fun _ => 0))) :: (((q 5), .inl (cy 0, 432, .inl (fun _ => 0))) :: (((q 4), .inl (cy 0, 12, .inl (fun _ => 0))) :: (((q 3), .inl (cy 0, 12, .inl (fun _ => 0))) :: (((q 2), .inl (cy 0, 12, .inl (fun _ => 0))) :: (((q 1), .inl (cy 2, 36, .inl (fun _ => 0))) :: (((q 0), .inl (cy 0, 36, .inl (fun _ => 0))) :: ((o, .inr (12, [.int 0, .int 0, .int 0, .ref (q 0), .ref (q 1), .int 0, .ref (q 2), .ref (q 3), .ref (q 4), .ref (q 5), .int 0, .ref (q 6), .ref (q 7), .ref (q 8), .ref (q 9), .int 0, .ref (q 10), .ref (q 11), .ref (q 12), .ref (q 13), .ref (q 14), .ref (q 15), .ref (q 16), .int 0, .ref (q 17), .ref (q 18), .ref (q 19), .ref (q 20), .ref (q 21), .ref (q 22), .ref (q 23), .ref (q 24), .ref (q 25), .int 0, .ref (q 26), .ref (q 27), .ref (q 28), .ref (q 29)])) :: ([])))))))))))))))))))))))))))))))
set_option maxRecDepth 100000 in
set_option maxHeartbeats 4000000 in
theorem c_X12_init {l : Launch} {D : va_G} {cy : Nat → ClassId} {A : Nat → Prop} {o : Nat} {W : va_W} : MetC l yX12_init cX12_init 1 1 30 21278 D cy A o ((o, .inr (12, [.int 0, .int 0, .int 0, .null, .null, .int 0, .null, .null, .null, .null, .int 0, .null, .null, .null, .null, .int 0, .null, .null, .null, .null, .null, .null, .null, .int 0, .null, .null, .null, .null, .null, .null, .null, .null, .null, .int 0, .null, .null, .null, .null])) :: W) (fun q : Nat → Nat => w_X12 cy q o ++ W) := by
  refine MetC.of RX12 (by decide +kernel) rfl (Nat.le_of_ble_eq_true rfl) rfl (fun X C r => ?_)
  refine u_aload_n (pc := 0) 0 C dX12_init_0 rfl rfl ?_
  refine u_obj (pc := 1) C i_1113 i_90 i_91 (by decide) dX12_init_1 ?_
  refine u_aload_n (pc := 4) 0 C dX12_init_4 rfl rfl ?_
  refine u_bipush (pc := 5) (v := 36) C dX12_init_5 (by decide) ?_
  refine u_newi (pc := 7) (N := 36) C i_118 (by decide) (by decide) (Nat.le_of_ble_eq_true rfl) ⟨Nat.le_of_ble_eq_true rfl, Nat.le_of_ble_eq_true rfl⟩ dX12_init_7 (fun a1 => ?_)
  refine u_putF (pc := 9) (ci := 12) (N := 38) (v := .ref a1) (ty := .array .int) 1 3 ((a1, .inl (cy 0, 36, .inl (fun _ => 0))) :: ((o, .inr (12, [.int 0, .int 0, .int 0, .ref a1, .null, .int 0, .null, .null, .null, .null, .int 0, .null, .null, .null, .null, .int 0, .null, .null, .null, .null, .null, .null, .null, .int 0, .null, .null, .null, .null, .null, .null, .null, .null, .null, .int 0, .null, .null, .null, .null])) :: (W))) tyX12 tyX12_ok nmX12 C hin_12 r.2.2 rfl rfl (by decide) k_1117 rfl rfl (by decide +kernel) rfl rfl (Nat.le_of_ble_eq_true rfl) rfl dX12_init_9 ?_
  refine u_aload_n (pc := 12) 0 C dX12_init_12 rfl rfl ?_
  refine u_bipush (pc := 13) (v := 36) C dX12_init_13 (by decide) ?_
  refine u_newz (pc := 15) (N := 36) C i_1229 (by decide) (by decide) (Nat.le_of_ble_eq_true rfl) ⟨Nat.le_of_ble_eq_true rfl, Nat.le_of_ble_eq_true rfl⟩ dX12_init_15 (fun a2 => ?_)
  refine u_putF (pc := 17) (ci := 12) (N := 38) (v := .ref a2) (ty := .array .boolean) 2 4 ((a2, .inl (cy 2, 36, .inl (fun _ => 0))) :: ((a1, .inl (cy 0, 36, .inl (fun _ => 0))) :: ((o, .inr (12, [.int 0, .int 0, .int 0, .ref a1, .ref a2, .int 0, .null, .null, .null, .null, .int 0, .null, .null, .null, .null, .int 0, .null, .null, .null, .null, .null, .null, .null, .int 0, .null, .null, .null, .null, .null, .null, .null, .null, .null, .int 0, .null, .null, .null, .null])) :: (W)))) tyX12 tyX12_ok nmX12 C hin_12 r.2.2 rfl rfl (by decide) k_1118 rfl rfl (by decide +kernel) rfl rfl (Nat.le_of_ble_eq_true rfl) rfl dX12_init_17 ?_
  refine u_aload_n (pc := 20) 0 C dX12_init_20 rfl rfl ?_
  refine u_bipush (pc := 21) (v := 12) C dX12_init_21 (by decide) ?_
  refine u_newi (pc := 23) (N := 12) C i_118 (by decide) (by decide) (Nat.le_of_ble_eq_true rfl) ⟨Nat.le_of_ble_eq_true rfl, Nat.le_of_ble_eq_true rfl⟩ dX12_init_23 (fun a3 => ?_)
  refine u_putF (pc := 25) (ci := 12) (N := 38) (v := .ref a3) (ty := .array .int) 3 6 ((a3, .inl (cy 0, 12, .inl (fun _ => 0))) :: ((a2, .inl (cy 2, 36, .inl (fun _ => 0))) :: ((a1, .inl (cy 0, 36, .inl (fun _ => 0))) :: ((o, .inr (12, [.int 0, .int 0, .int 0, .ref a1, .ref a2, .int 0, .ref a3, .null, .null, .null, .int 0, .null, .null, .null, .null, .int 0, .null, .null, .null, .null, .null, .null, .null, .int 0, .null, .null, .null, .null, .null, .null, .null, .null, .null, .int 0, .null, .null, .null, .null])) :: (W))))) tyX12 tyX12_ok nmX12 C hin_12 r.2.2 rfl rfl (by decide) k_1120 rfl rfl (by decide +kernel) rfl rfl (Nat.le_of_ble_eq_true rfl) rfl dX12_init_25 ?_
  refine u_aload_n (pc := 28) 0 C dX12_init_28 rfl rfl ?_
  refine u_bipush (pc := 29) (v := 12) C dX12_init_29 (by decide) ?_
  refine u_newi (pc := 31) (N := 12) C i_118 (by decide) (by decide) (Nat.le_of_ble_eq_true rfl) ⟨Nat.le_of_ble_eq_true rfl, Nat.le_of_ble_eq_true rfl⟩ dX12_init_31 (fun a4 => ?_)
  refine u_putF (pc := 33) (ci := 12) (N := 38) (v := .ref a4) (ty := .array .int) 4 7 ((a4, .inl (cy 0, 12, .inl (fun _ => 0))) :: ((a3, .inl (cy 0, 12, .inl (fun _ => 0))) :: ((a2, .inl (cy 2, 36, .inl (fun _ => 0))) :: ((a1, .inl (cy 0, 36, .inl (fun _ => 0))) :: ((o, .inr (12, [.int 0, .int 0, .int 0, .ref a1, .ref a2, .int 0, .ref a3, .ref a4, .null, .null, .int 0, .null, .null, .null, .null, .int 0, .null, .null, .null, .null, .null, .null, .null, .int 0, .null, .null, .null, .null, .null, .null, .null, .null, .null, .int 0, .null, .null, .null, .null])) :: (W)))))) tyX12 tyX12_ok nmX12 C hin_12 r.2.2 rfl rfl (by decide) k_1121 rfl rfl (by decide +kernel) rfl rfl (Nat.le_of_ble_eq_true rfl) rfl dX12_init_33 ?_
  refine u_aload_n (pc := 36) 0 C dX12_init_36 rfl rfl ?_
  refine u_bipush (pc := 37) (v := 12) C dX12_init_37 (by decide) ?_
  refine u_newi (pc := 39) (N := 12) C i_118 (by decide) (by decide) (Nat.le_of_ble_eq_true rfl) ⟨Nat.le_of_ble_eq_true rfl, Nat.le_of_ble_eq_true rfl⟩ dX12_init_39 (fun a5 => ?_)
  refine u_putF (pc := 41) (ci := 12) (N := 38) (v := .ref a5) (ty := .array .int) 5 8 ((a5, .inl (cy 0, 12, .inl (fun _ => 0))) :: ((a4, .inl (cy 0, 12, .inl (fun _ => 0))) :: ((a3, .inl (cy 0, 12, .inl (fun _ => 0))) :: ((a2, .inl (cy 2, 36, .inl (fun _ => 0))) :: ((a1, .inl (cy 0, 36, .inl (fun _ => 0))) :: ((o, .inr (12, [.int 0, .int 0, .int 0, .ref a1, .ref a2, .int 0, .ref a3, .ref a4, .ref a5, .null, .int 0, .null, .null, .null, .null, .int 0, .null, .null, .null, .null, .null, .null, .null, .int 0, .null, .null, .null, .null, .null, .null, .null, .null, .null, .int 0, .null, .null, .null, .null])) :: (W))))))) tyX12 tyX12_ok nmX12 C hin_12 r.2.2 rfl rfl (by decide) k_1122 rfl rfl (by decide +kernel) rfl rfl (Nat.le_of_ble_eq_true rfl) rfl dX12_init_41 ?_
  refine u_aload_n (pc := 44) 0 C dX12_init_44 rfl rfl ?_
  refine u_sipush (pc := 45) (v := 432) C dX12_init_45 (by decide) ?_
  refine u_newi (pc := 48) (N := 432) C i_118 (by decide) (by decide) (Nat.le_of_ble_eq_true rfl) ⟨Nat.le_of_ble_eq_true rfl, Nat.le_of_ble_eq_true rfl⟩ dX12_init_48 (fun a6 => ?_)
  refine u_putF (pc := 50) (ci := 12) (N := 38) (v := .ref a6) (ty := .array .int) 6 9 ((a6, .inl (cy 0, 432, .inl (fun _ => 0))) :: ((a5, .inl (cy 0, 12, .inl (fun _ => 0))) :: ((a4, .inl (cy 0, 12, .inl (fun _ => 0))) :: ((a3, .inl (cy 0, 12, .inl (fun _ => 0))) :: ((a2, .inl (cy 2, 36, .inl (fun _ => 0))) :: ((a1, .inl (cy 0, 36, .inl (fun _ => 0))) :: ((o, .inr (12, [.int 0, .int 0, .int 0, .ref a1, .ref a2, .int 0, .ref a3, .ref a4, .ref a5, .ref a6, .int 0, .null, .null, .null, .null, .int 0, .null, .null, .null, .null, .null, .null, .null, .int 0, .null, .null, .null, .null, .null, .null, .null, .null, .null, .int 0, .null, .null, .null, .null])) :: (W)))))))) tyX12 tyX12_ok nmX12 C hin_12 r.2.2 rfl rfl (by decide) k_1123 rfl rfl (by decide +kernel) rfl rfl (Nat.le_of_ble_eq_true rfl) rfl dX12_init_50 ?_
  refine u_aload_n (pc := 53) 0 C dX12_init_53 rfl rfl ?_
  refine u_bipush (pc := 54) (v := 79) C dX12_init_54 (by decide) ?_
  refine u_newi (pc := 56) (N := 79) C i_118 (by decide) (by decide) (Nat.le_of_ble_eq_true rfl) ⟨Nat.le_of_ble_eq_true rfl, Nat.le_of_ble_eq_true rfl⟩ dX12_init_56 (fun a7 => ?_)
  refine u_putF (pc := 58) (ci := 12) (N := 38) (v := .ref a7) (ty := .array .int) 7 11 ((a7, .inl (cy 0, 79, .inl (fun _ => 0))) :: ((a6, .inl (cy 0, 432, .inl (fun _ => 0))) :: ((a5, .inl (cy 0, 12, .inl (fun _ => 0))) :: ((a4, .inl (cy 0, 12, .inl (fun _ => 0))) :: ((a3, .inl (cy 0, 12, .inl (fun _ => 0))) :: ((a2, .inl (cy 2, 36, .inl (fun _ => 0))) :: ((a1, .inl (cy 0, 36, .inl (fun _ => 0))) :: ((o, .inr (12, [.int 0, .int 0, .int 0, .ref a1, .ref a2, .int 0, .ref a3, .ref a4, .ref a5, .ref a6, .int 0, .ref a7, .null, .null, .null, .int 0, .null, .null, .null, .null, .null, .null, .null, .int 0, .null, .null, .null, .null, .null, .null, .null, .null, .null, .int 0, .null, .null, .null, .null])) :: (W))))))))) tyX12 tyX12_ok nmX12 C hin_12 r.2.2 rfl rfl (by decide) k_1125 rfl rfl (by decide +kernel) rfl rfl (Nat.le_of_ble_eq_true rfl) rfl dX12_init_58 ?_
  refine u_aload_n (pc := 61) 0 C dX12_init_61 rfl rfl ?_
  refine u_bipush (pc := 62) (v := 79) C dX12_init_62 (by decide) ?_
  refine u_newi (pc := 64) (N := 79) C i_118 (by decide) (by decide) (Nat.le_of_ble_eq_true rfl) ⟨Nat.le_of_ble_eq_true rfl, Nat.le_of_ble_eq_true rfl⟩ dX12_init_64 (fun a8 => ?_)
  refine u_putF (pc := 66) (ci := 12) (N := 38) (v := .ref a8) (ty := .array .int) 8 12 ((a8, .inl (cy 0, 79, .inl (fun _ => 0))) :: ((a7, .inl (cy 0, 79, .inl (fun _ => 0))) :: ((a6, .inl (cy 0, 432, .inl (fun _ => 0))) :: ((a5, .inl (cy 0, 12, .inl (fun _ => 0))) :: ((a4, .inl (cy 0, 12, .inl (fun _ => 0))) :: ((a3, .inl (cy 0, 12, .inl (fun _ => 0))) :: ((a2, .inl (cy 2, 36, .inl (fun _ => 0))) :: ((a1, .inl (cy 0, 36, .inl (fun _ => 0))) :: ((o, .inr (12, [.int 0, .int 0, .int 0, .ref a1, .ref a2, .int 0, .ref a3, .ref a4, .ref a5, .ref a6, .int 0, .ref a7, .ref a8, .null, .null, .int 0, .null, .null, .null, .null, .null, .null, .null, .int 0, .null, .null, .null, .null, .null, .null, .null, .null, .null, .int 0, .null, .null, .null, .null])) :: (W)))))))))) tyX12 tyX12_ok nmX12 C hin_12 r.2.2 rfl rfl (by decide) k_1126 rfl rfl (by decide +kernel) rfl rfl (Nat.le_of_ble_eq_true rfl) rfl dX12_init_66 ?_
  refine u_aload_n (pc := 69) 0 C dX12_init_69 rfl rfl ?_
  refine u_bipush (pc := 70) (v := 96) C dX12_init_70 (by decide) ?_
  refine u_newi (pc := 72) (N := 96) C i_118 (by decide) (by decide) (Nat.le_of_ble_eq_true rfl) ⟨Nat.le_of_ble_eq_true rfl, Nat.le_of_ble_eq_true rfl⟩ dX12_init_72 (fun a9 => ?_)
  refine u_putF (pc := 74) (ci := 12) (N := 38) (v := .ref a9) (ty := .array .int) 9 13 ((a9, .inl (cy 0, 96, .inl (fun _ => 0))) :: ((a8, .inl (cy 0, 79, .inl (fun _ => 0))) :: ((a7, .inl (cy 0, 79, .inl (fun _ => 0))) :: ((a6, .inl (cy 0, 432, .inl (fun _ => 0))) :: ((a5, .inl (cy 0, 12, .inl (fun _ => 0))) :: ((a4, .inl (cy 0, 12, .inl (fun _ => 0))) :: ((a3, .inl (cy 0, 12, .inl (fun _ => 0))) :: ((a2, .inl (cy 2, 36, .inl (fun _ => 0))) :: ((a1, .inl (cy 0, 36, .inl (fun _ => 0))) :: ((o, .inr (12, [.int 0, .int 0, .int 0, .ref a1, .ref a2, .int 0, .ref a3, .ref a4, .ref a5, .ref a6, .int 0, .ref a7, .ref a8, .ref a9, .null, .int 0, .null, .null, .null, .null, .null, .null, .null, .int 0, .null, .null, .null, .null, .null, .null, .null, .null, .null, .int 0, .null, .null, .null, .null])) :: (W))))))))))) tyX12 tyX12_ok nmX12 C hin_12 r.2.2 rfl rfl (by decide) k_1127 rfl rfl (by decide +kernel) rfl rfl (Nat.le_of_ble_eq_true rfl) rfl dX12_init_74 ?_
  refine u_aload_n (pc := 77) 0 C dX12_init_77 rfl rfl ?_
  refine u_bipush (pc := 78) (v := 36) C dX12_init_78 (by decide) ?_
  refine u_newi (pc := 80) (N := 36) C i_118 (by decide) (by decide) (Nat.le_of_ble_eq_true rfl) ⟨Nat.le_of_ble_eq_true rfl, Nat.le_of_ble_eq_true rfl⟩ dX12_init_80 (fun a10 => ?_)
  refine u_putF (pc := 82) (ci := 12) (N := 38) (v := .ref a10) (ty := .array .int) 10 14 ((a10, .inl (cy 0, 36, .inl (fun _ => 0))) :: ((a9, .inl (cy 0, 96, .inl (fun _ => 0))) :: ((a8, .inl (cy 0, 79, .inl (fun _ => 0))) :: ((a7, .inl (cy 0, 79, .inl (fun _ => 0))) :: ((a6, .inl (cy 0, 432, .inl (fun _ => 0))) :: ((a5, .inl (cy 0, 12, .inl (fun _ => 0))) :: ((a4, .inl (cy 0, 12, .inl (fun _ => 0))) :: ((a3, .inl (cy 0, 12, .inl (fun _ => 0))) :: ((a2, .inl (cy 2, 36, .inl (fun _ => 0))) :: ((a1, .inl (cy 0, 36, .inl (fun _ => 0))) :: ((o, .inr (12, [.int 0, .int 0, .int 0, .ref a1, .ref a2, .int 0, .ref a3, .ref a4, .ref a5, .ref a6, .int 0, .ref a7, .ref a8, .ref a9, .ref a10, .int 0, .null, .null, .null, .null, .null, .null, .null, .int 0, .null, .null, .null, .null, .null, .null, .null, .null, .null, .int 0, .null, .null, .null, .null])) :: (W)))))))))))) tyX12 tyX12_ok nmX12 C hin_12 r.2.2 rfl rfl (by decide) k_1128 rfl rfl (by decide +kernel) rfl rfl (Nat.le_of_ble_eq_true rfl) rfl dX12_init_82 ?_
  refine u_aload_n (pc := 85) 0 C dX12_init_85 rfl rfl ?_
  refine u_bipush (pc := 86) (v := 8) C dX12_init_86 (by decide) ?_
  refine u_newi (pc := 88) (N := 8) C i_118 (by decide) (by decide) (Nat.le_of_ble_eq_true rfl) ⟨Nat.le_of_ble_eq_true rfl, Nat.le_of_ble_eq_true rfl⟩ dX12_init_88 (fun a11 => ?_)
  refine u_putF (pc := 90) (ci := 12) (N := 38) (v := .ref a11) (ty := .array .int) 11 16 ((a11, .inl (cy 0, 8, .inl (fun _ => 0))) :: ((a10, .inl (cy 0, 36, .inl (fun _ => 0))) :: ((a9, .inl (cy 0, 96, .inl (fun _ => 0))) :: ((a8, .inl (cy 0, 79, .inl (fun _ => 0))) :: ((a7, .inl (cy 0, 79, .inl (fun _ => 0))) :: ((a6, .inl (cy 0, 432, .inl (fun _ => 0))) :: ((a5, .inl (cy 0, 12, .inl (fun _ => 0))) :: ((a4, .inl (cy 0, 12, .inl (fun _ => 0))) :: ((a3, .inl (cy 0, 12, .inl (fun _ => 0))) :: ((a2, .inl (cy 2, 36, .inl (fun _ => 0))) :: ((a1, .inl (cy 0, 36, .inl (fun _ => 0))) :: ((o, .inr (12, [.int 0, .int 0, .int 0, .ref a1, .ref a2, .int 0, .ref a3, .ref a4, .ref a5, .ref a6, .int 0, .ref a7, .ref a8, .ref a9, .ref a10, .int 0, .ref a11, .null, .null, .null, .null, .null, .null, .int 0, .null, .null, .null, .null, .null, .null, .null, .null, .null, .int 0, .null, .null, .null, .null])) :: (W))))))))))))) tyX12 tyX12_ok nmX12 C hin_12 r.2.2 rfl rfl (by decide) k_1130 rfl rfl (by decide +kernel) rfl rfl (Nat.le_of_ble_eq_true rfl) rfl dX12_init_90 ?_
  refine u_aload_n (pc := 93) 0 C dX12_init_93 rfl rfl ?_
  refine u_bipush (pc := 94) (v := 8) C dX12_init_94 (by decide) ?_
  refine u_newi (pc := 96) (N := 8) C i_118 (by decide) (by decide) (Nat.le_of_ble_eq_true rfl) ⟨Nat.le_of_ble_eq_true rfl, Nat.le_of_ble_eq_true rfl⟩ dX12_init_96 (fun a12 => ?_)
  refine u_putF (pc := 98) (ci := 12) (N := 38) (v := .ref a12) (ty := .array .int) 12 17 ((a12, .inl (cy 0, 8, .inl (fun _ => 0))) :: ((a11, .inl (cy 0, 8, .inl (fun _ => 0))) :: ((a10, .inl (cy 0, 36, .inl (fun _ => 0))) :: ((a9, .inl (cy 0, 96, .inl (fun _ => 0))) :: ((a8, .inl (cy 0, 79, .inl (fun _ => 0))) :: ((a7, .inl (cy 0, 79, .inl (fun _ => 0))) :: ((a6, .inl (cy 0, 432, .inl (fun _ => 0))) :: ((a5, .inl (cy 0, 12, .inl (fun _ => 0))) :: ((a4, .inl (cy 0, 12, .inl (fun _ => 0))) :: ((a3, .inl (cy 0, 12, .inl (fun _ => 0))) :: ((a2, .inl (cy 2, 36, .inl (fun _ => 0))) :: ((a1, .inl (cy 0, 36, .inl (fun _ => 0))) :: ((o, .inr (12, [.int 0, .int 0, .int 0, .ref a1, .ref a2, .int 0, .ref a3, .ref a4, .ref a5, .ref a6, .int 0, .ref a7, .ref a8, .ref a9, .ref a10, .int 0, .ref a11, .ref a12, .null, .null, .null, .null, .null, .int 0, .null, .null, .null, .null, .null, .null, .null, .null, .null, .int 0, .null, .null, .null, .null])) :: (W)))))))))))))) tyX12 tyX12_ok nmX12 C hin_12 r.2.2 rfl rfl (by decide) k_1131 rfl rfl (by decide +kernel) rfl rfl (Nat.le_of_ble_eq_true rfl) rfl dX12_init_98 ?_
  refine u_aload_n (pc := 101) 0 C dX12_init_101 rfl rfl ?_
  refine u_sipush (pc := 102) (v := 192) C dX12_init_102 (by decide) ?_
  refine u_newi (pc := 105) (N := 192) C i_118 (by decide) (by decide) (Nat.le_of_ble_eq_true rfl) ⟨Nat.le_of_ble_eq_true rfl, Nat.le_of_ble_eq_true rfl⟩ dX12_init_105 (fun a13 => ?_)
  refine u_putF (pc := 107) (ci := 12) (N := 38) (v := .ref a13) (ty := .array .int) 13 18 ((a13, .inl (cy 0, 192, .inl (fun _ => 0))) :: ((a12, .inl (cy 0, 8, .inl (fun _ => 0))) :: ((a11, .inl (cy 0, 8, .inl (fun _ => 0))) :: ((a10, .inl (cy 0, 36, .inl (fun _ => 0))) :: ((a9, .inl (cy 0, 96, .inl (fun _ => 0))) :: ((a8, .inl (cy 0, 79, .inl (fun _ => 0))) :: ((a7, .inl (cy 0, 79, .inl (fun _ => 0))) :: ((a6, .inl (cy 0, 432, .inl (fun _ => 0))) :: ((a5, .inl (cy 0, 12, .inl (fun _ => 0))) :: ((a4, .inl (cy 0, 12, .inl (fun _ => 0))) :: ((a3, .inl (cy 0, 12, .inl (fun _ => 0))) :: ((a2, .inl (cy 2, 36, .inl (fun _ => 0))) :: ((a1, .inl (cy 0, 36, .inl (fun _ => 0))) :: ((o, .inr (12, [.int 0, .int 0, .int 0, .ref a1, .ref a2, .int 0, .ref a3, .ref a4, .ref a5, .ref a6, .int 0, .ref a7, .ref a8, .ref a9, .ref a10, .int 0, .ref a11, .ref a12, .ref a13, .null, .null, .null, .null, .int 0, .null, .null, .null, .null, .null, .null, .null, .null, .null, .int 0, .null, .null, .null, .null])) :: (W))))))))))))))) tyX12 tyX12_ok nmX12 C hin_12 r.2.2 rfl rfl (by decide) k_1132 rfl rfl (by decide +kernel) rfl rfl (Nat.le_of_ble_eq_true rfl) rfl dX12_init_107 ?_
  refine u_aload_n (pc := 110) 0 C dX12_init_110 rfl rfl ?_
  refine u_sipush (pc := 111) (v := 192) C dX12_init_111 (by decide) ?_
  refine u_newi (pc := 114) (N := 192) C i_118 (by decide) (by decide) (Nat.le_of_ble_eq_true rfl) ⟨Nat.le_of_ble_eq_true rfl, Nat.le_of_ble_eq_true rfl⟩ dX12_init_114 (fun a14 => ?_)
  refine u_putF (pc := 116) (ci := 12) (N := 38) (v := .ref a14) (ty := .array .int) 14 19 ((a14, .inl (cy 0, 192, .inl (fun _ => 0))) :: ((a13, .inl (cy 0, 192, .inl (fun _ => 0))) :: ((a12, .inl (cy 0, 8, .inl (fun _ => 0))) :: ((a11, .inl (cy 0, 8, .inl (fun _ => 0))) :: ((a10, .inl (cy 0, 36, .inl (fun _ => 0))) :: ((a9, .inl (cy 0, 96, .inl (fun _ => 0))) :: ((a8, .inl (cy 0, 79, .inl (fun _ => 0))) :: ((a7, .inl (cy 0, 79, .inl (fun _ => 0))) :: ((a6, .inl (cy 0, 432, .inl (fun _ => 0))) :: ((a5, .inl (cy 0, 12, .inl (fun _ => 0))) :: ((a4, .inl (cy 0, 12, .inl (fun _ => 0))) :: ((a3, .inl (cy 0, 12, .inl (fun _ => 0))) :: ((a2, .inl (cy 2, 36, .inl (fun _ => 0))) :: ((a1, .inl (cy 0, 36, .inl (fun _ => 0))) :: ((o, .inr (12, [.int 0, .int 0, .int 0, .ref a1, .ref a2, .int 0, .ref a3, .ref a4, .ref a5, .ref a6, .int 0, .ref a7, .ref a8, .ref a9, .ref a10, .int 0, .ref a11, .ref a12, .ref a13, .ref a14, .null, .null, .null, .int 0, .null, .null, .null, .null, .null, .null, .null, .null, .null, .int 0, .null, .null, .null, .null])) :: (W)))))))))))))))) tyX12 tyX12_ok nmX12 C hin_12 r.2.2 rfl rfl (by decide) k_1133 rfl rfl (by decide +kernel) rfl rfl (Nat.le_of_ble_eq_true rfl) rfl dX12_init_116 ?_
  refine u_aload_n (pc := 119) 0 C dX12_init_119 rfl rfl ?_
  refine u_iconst (pc := 120) (v := 4) C dX12_init_120 (by decide) ?_
  refine u_newi (pc := 121) (N := 4) C i_118 (by decide) (by decide) (Nat.le_of_ble_eq_true rfl) ⟨Nat.le_of_ble_eq_true rfl, Nat.le_of_ble_eq_true rfl⟩ dX12_init_121 (fun a15 => ?_)
  refine u_dup (pc := 123) C dX12_init_123 rfl ?_
  refine u_iconst (pc := 124) (v := 0) C dX12_init_124 (by decide) ?_
  refine u_bipush (pc := 125) (v := (-9)) C dX12_init_125 (by decide) ?_
  refine u_iast (pc := 127) (N := 4) (j := 0) 0 ((a15, .inl (cy 0, 4, .inl (upd (fun _ => 0) 0 (-9)))) :: ((a14, .inl (cy 0, 192, .inl (fun _ => 0))) :: ((a13, .inl (cy 0, 192, .inl (fun _ => 0))) :: ((a12, .inl (cy 0, 8, .inl (fun _ => 0))) :: ((a11, .inl (cy 0, 8, .inl (fun _ => 0))) :: ((a10, .inl (cy 0, 36, .inl (fun _ => 0))) :: ((a9, .inl (cy 0, 96, .inl (fun _ => 0))) :: ((a8, .inl (cy 0, 79, .inl (fun _ => 0))) :: ((a7, .inl (cy 0, 79, .inl (fun _ => 0))) :: ((a6, .inl (cy 0, 432, .inl (fun _ => 0))) :: ((a5, .inl (cy 0, 12, .inl (fun _ => 0))) :: ((a4, .inl (cy 0, 12, .inl (fun _ => 0))) :: ((a3, .inl (cy 0, 12, .inl (fun _ => 0))) :: ((a2, .inl (cy 2, 36, .inl (fun _ => 0))) :: ((a1, .inl (cy 0, 36, .inl (fun _ => 0))) :: ((o, .inr (12, [.int 0, .int 0, .int 0, .ref a1, .ref a2, .int 0, .ref a3, .ref a4, .ref a5, .ref a6, .int 0, .ref a7, .ref a8, .ref a9, .ref a10, .int 0, .ref a11, .ref a12, .ref a13, .ref a14, .null, .null, .null, .int 0, .null, .null, .null, .null, .null, .null, .null, .null, .null, .int 0, .null, .null, .null, .null])) :: (W))))))))))))))))) C rfl (vp_of (by decide)) (by decide) rfl dX12_init_127 ?_
  refine u_dup (pc := 128) C dX12_init_128 rfl ?_
  refine u_iconst (pc := 129) (v := 1) C dX12_init_129 (by decide) ?_
  refine u_bipush (pc := 130) (v := (-9)) C dX12_init_130 (by decide) ?_
  refine u_iast (pc := 132) (N := 4) (j := 1) 0 ((a15, .inl (cy 0, 4, .inl (upd (upd (fun _ => 0) 0 (-9)) 1 (-9)))) :: ((a14, .inl (cy 0, 192, .inl (fun _ => 0))) :: ((a13, .inl (cy 0, 192, .inl (fun _ => 0))) :: ((a12, .inl (cy 0, 8, .inl (fun _ => 0))) :: ((a11, .inl (cy 0, 8, .inl (fun _ => 0))) :: ((a10, .inl (cy 0, 36, .inl (fun _ => 0))) :: ((a9, .inl (cy 0, 96, .inl (fun _ => 0))) :: ((a8, .inl (cy 0, 79, .inl (fun _ => 0))) :: ((a7, .inl (cy 0, 79, .inl (fun _ => 0))) :: ((a6, .inl (cy 0, 432, .inl (fun _ => 0))) :: ((a5, .inl (cy 0, 12, .inl (fun _ => 0))) :: ((a4, .inl (cy 0, 12, .inl (fun _ => 0))) :: ((a3, .inl (cy 0, 12, .inl (fun _ => 0))) :: ((a2, .inl (cy 2, 36, .inl (fun _ => 0))) :: ((a1, .inl (cy 0, 36, .inl (fun _ => 0))) :: ((o, .inr (12, [.int 0, .int 0, .int 0, .ref a1, .ref a2, .int 0, .ref a3, .ref a4, .ref a5, .ref a6, .int 0, .ref a7, .ref a8, .ref a9, .ref a10, .int 0, .ref a11, .ref a12, .ref a13, .ref a14, .null, .null, .null, .int 0, .null, .null, .null, .null, .null, .null, .null, .null, .null, .int 0, .null, .null, .null, .null])) :: (W))))))))))))))))) C rfl (vp_of (by decide)) (by decide) rfl dX12_init_132 ?_
  refine u_dup (pc := 133) C dX12_init_133 rfl ?_
  refine u_iconst (pc := 134) (v := 2) C dX12_init_134 (by decide) ?_
  refine u_bipush (pc := 135) (v := (-9)) C dX12_init_135 (by decide) ?_
  refine u_iast (pc := 137) (N := 4) (j := 2) 0 ((a15, .inl (cy 0, 4, .inl (upd (upd (upd (fun _ => 0) 0 (-9)) 1 (-9)) 2 (-9)))) :: ((a14, .inl (cy 0, 192, .inl (fun _ => 0))) :: ((a13, .inl (cy 0, 192, .inl (fun _ => 0))) :: ((a12, .inl (cy 0, 8, .inl (fun _ => 0))) :: ((a11, .inl (cy 0, 8, .inl (fun _ => 0))) :: ((a10, .inl (cy 0, 36, .inl (fun _ => 0))) :: ((a9, .inl (cy 0, 96, .inl (fun _ => 0))) :: ((a8, .inl (cy 0, 79, .inl (fun _ => 0))) :: ((a7, .inl (cy 0, 79, .inl (fun _ => 0))) :: ((a6, .inl (cy 0, 432, .inl (fun _ => 0))) :: ((a5, .inl (cy 0, 12, .inl (fun _ => 0))) :: ((a4, .inl (cy 0, 12, .inl (fun _ => 0))) :: ((a3, .inl (cy 0, 12, .inl (fun _ => 0))) :: ((a2, .inl (cy 2, 36, .inl (fun _ => 0))) :: ((a1, .inl (cy 0, 36, .inl (fun _ => 0))) :: ((o, .inr (12, [.int 0, .int 0, .int 0, .ref a1, .ref a2, .int 0, .ref a3, .ref a4, .ref a5, .ref a6, .int 0, .ref a7, .ref a8, .ref a9, .ref a10, .int 0, .ref a11, .ref a12, .ref a13, .ref a14, .null, .null, .null, .int 0, .null, .null, .null, .null, .null, .null, .null, .null, .null, .int 0, .null, .null, .null, .null])) :: (W))))))))))))))))) C rfl (vp_of (by decide)) (by decide) rfl dX12_init_137 ?_
  refine u_dup (pc := 138) C dX12_init_138 rfl ?_
  refine u_iconst (pc := 139) (v := 3) C dX12_init_139 (by decide) ?_
  refine u_bipush (pc := 140) (v := (-9)) C dX12_init_140 (by decide) ?_
  refine u_iast (pc := 142) (N := 4) (j := 3) 0 ((a15, .inl (cy 0, 4, .inl (upd (upd (upd (upd (fun _ => 0) 0 (-9)) 1 (-9)) 2 (-9)) 3 (-9)))) :: ((a14, .inl (cy 0, 192, .inl (fun _ => 0))) :: ((a13, .inl (cy 0, 192, .inl (fun _ => 0))) :: ((a12, .inl (cy 0, 8, .inl (fun _ => 0))) :: ((a11, .inl (cy 0, 8, .inl (fun _ => 0))) :: ((a10, .inl (cy 0, 36, .inl (fun _ => 0))) :: ((a9, .inl (cy 0, 96, .inl (fun _ => 0))) :: ((a8, .inl (cy 0, 79, .inl (fun _ => 0))) :: ((a7, .inl (cy 0, 79, .inl (fun _ => 0))) :: ((a6, .inl (cy 0, 432, .inl (fun _ => 0))) :: ((a5, .inl (cy 0, 12, .inl (fun _ => 0))) :: ((a4, .inl (cy 0, 12, .inl (fun _ => 0))) :: ((a3, .inl (cy 0, 12, .inl (fun _ => 0))) :: ((a2, .inl (cy 2, 36, .inl (fun _ => 0))) :: ((a1, .inl (cy 0, 36, .inl (fun _ => 0))) :: ((o, .inr (12, [.int 0, .int 0, .int 0, .ref a1, .ref a2, .int 0, .ref a3, .ref a4, .ref a5, .ref a6, .int 0, .ref a7, .ref a8, .ref a9, .ref a10, .int 0, .ref a11, .ref a12, .ref a13, .ref a14, .null, .null, .null, .int 0, .null, .null, .null, .null, .null, .null, .null, .null, .null, .int 0, .null, .null, .null, .null])) :: (W))))))))))))))))) C rfl (vp_of (by decide)) (by decide) rfl dX12_init_142 ?_
  refine u_putF (pc := 143) (ci := 12) (N := 38) (v := .ref a15) (ty := .array .int) 15 20 ((a15, .inl (cy 0, 4, .inl (upd (upd (upd (upd (fun _ => 0) 0 (-9)) 1 (-9)) 2 (-9)) 3 (-9)))) :: ((a14, .inl (cy 0, 192, .inl (fun _ => 0))) :: ((a13, .inl (cy 0, 192, .inl (fun _ => 0))) :: ((a12, .inl (cy 0, 8, .inl (fun _ => 0))) :: ((a11, .inl (cy 0, 8, .inl (fun _ => 0))) :: ((a10, .inl (cy 0, 36, .inl (fun _ => 0))) :: ((a9, .inl (cy 0, 96, .inl (fun _ => 0))) :: ((a8, .inl (cy 0, 79, .inl (fun _ => 0))) :: ((a7, .inl (cy 0, 79, .inl (fun _ => 0))) :: ((a6, .inl (cy 0, 432, .inl (fun _ => 0))) :: ((a5, .inl (cy 0, 12, .inl (fun _ => 0))) :: ((a4, .inl (cy 0, 12, .inl (fun _ => 0))) :: ((a3, .inl (cy 0, 12, .inl (fun _ => 0))) :: ((a2, .inl (cy 2, 36, .inl (fun _ => 0))) :: ((a1, .inl (cy 0, 36, .inl (fun _ => 0))) :: ((o, .inr (12, [.int 0, .int 0, .int 0, .ref a1, .ref a2, .int 0, .ref a3, .ref a4, .ref a5, .ref a6, .int 0, .ref a7, .ref a8, .ref a9, .ref a10, .int 0, .ref a11, .ref a12, .ref a13, .ref a14, .ref a15, .null, .null, .int 0, .null, .null, .null, .null, .null, .null, .null, .null, .null, .int 0, .null, .null, .null, .null])) :: (W))))))))))))))))) tyX12 tyX12_ok nmX12 C hin_12 r.2.2 rfl rfl (by decide) k_1134 rfl rfl (by decide +kernel) rfl rfl (Nat.le_of_ble_eq_true rfl) rfl dX12_init_143 ?_
  refine u_aload_n (pc := 146) 0 C dX12_init_146 rfl rfl ?_
  refine u_iconst (pc := 147) (v := 4) C dX12_init_147 (by decide) ?_
  refine u_newi (pc := 148) (N := 4) C i_118 (by decide) (by decide) (Nat.le_of_ble_eq_true rfl) ⟨Nat.le_of_ble_eq_true rfl, Nat.le_of_ble_eq_true rfl⟩ dX12_init_148 (fun a16 => ?_)
  refine u_putF (pc := 150) (ci := 12) (N := 38) (v := .ref a16) (ty := .array .int) 16 21 ((a16, .inl (cy 0, 4, .inl (fun _ => 0))) :: ((a15, .inl (cy 0, 4, .inl (upd (upd (upd (upd (fun _ => 0) 0 (-9)) 1 (-9)) 2 (-9)) 3 (-9)))) :: ((a14, .inl (cy 0, 192, .inl (fun _ => 0))) :: ((a13, .inl (cy 0, 192, .inl (fun _ => 0))) :: ((a12, .inl (cy 0, 8, .inl (fun _ => 0))) :: ((a11, .inl (cy 0, 8, .inl (fun _ => 0))) :: ((a10, .inl (cy 0, 36, .inl (fun _ => 0))) :: ((a9, .inl (cy 0, 96, .inl (fun _ => 0))) :: ((a8, .inl (cy 0, 79, .inl (fun _ => 0))) :: ((a7, .inl (cy 0, 79, .inl (fun _ => 0))) :: ((a6, .inl (cy 0, 432, .inl (fun _ => 0))) :: ((a5, .inl (cy 0, 12, .inl (fun _ => 0))) :: ((a4, .inl (cy 0, 12, .inl (fun _ => 0))) :: ((a3, .inl (cy 0, 12, .inl (fun _ => 0))) :: ((a2, .inl (cy 2, 36, .inl (fun _ => 0))) :: ((a1, .inl (cy 0, 36, .inl (fun _ => 0))) :: ((o, .inr (12, [.int 0, .int 0, .int 0, .ref a1, .ref a2, .int 0, .ref a3, .ref a4, .ref a5, .ref a6, .int 0, .ref a7, .ref a8, .ref a9, .ref a10, .int 0, .ref a11, .ref a12, .ref a13, .ref a14, .ref a15, .ref a16, .null, .int 0, .null, .null, .null, .null, .null, .null, .null, .null, .null, .int 0, .null, .null, .null, .null])) :: (W)))))))))))))))))) tyX12 tyX12_ok nmX12 C hin_12 r.2.2 rfl rfl (by decide) k_1135 rfl rfl (by decide +kernel) rfl rfl (Nat.le_of_ble_eq_true rfl) rfl dX12_init_150 ?_
  refine u_aload_n (pc := 153) 0 C dX12_init_153 rfl rfl ?_
  refine u_sipush (pc := 154) (v := 256) C dX12_init_154 (by decide) ?_
  refine u_newi (pc := 157) (N := 256) C i_118 (by decide) (by decide) (Nat.le_of_ble_eq_true rfl) ⟨Nat.le_of_ble_eq_true rfl, Nat.le_of_ble_eq_true rfl⟩ dX12_init_157 (fun a17 => ?_)
  refine u_putF (pc := 159) (ci := 12) (N := 38) (v := .ref a17) (ty := .array .int) 17 22 ((a17, .inl (cy 0, 256, .inl (fun _ => 0))) :: ((a16, .inl (cy 0, 4, .inl (fun _ => 0))) :: ((a15, .inl (cy 0, 4, .inl (upd (upd (upd (upd (fun _ => 0) 0 (-9)) 1 (-9)) 2 (-9)) 3 (-9)))) :: ((a14, .inl (cy 0, 192, .inl (fun _ => 0))) :: ((a13, .inl (cy 0, 192, .inl (fun _ => 0))) :: ((a12, .inl (cy 0, 8, .inl (fun _ => 0))) :: ((a11, .inl (cy 0, 8, .inl (fun _ => 0))) :: ((a10, .inl (cy 0, 36, .inl (fun _ => 0))) :: ((a9, .inl (cy 0, 96, .inl (fun _ => 0))) :: ((a8, .inl (cy 0, 79, .inl (fun _ => 0))) :: ((a7, .inl (cy 0, 79, .inl (fun _ => 0))) :: ((a6, .inl (cy 0, 432, .inl (fun _ => 0))) :: ((a5, .inl (cy 0, 12, .inl (fun _ => 0))) :: ((a4, .inl (cy 0, 12, .inl (fun _ => 0))) :: ((a3, .inl (cy 0, 12, .inl (fun _ => 0))) :: ((a2, .inl (cy 2, 36, .inl (fun _ => 0))) :: ((a1, .inl (cy 0, 36, .inl (fun _ => 0))) :: ((o, .inr (12, [.int 0, .int 0, .int 0, .ref a1, .ref a2, .int 0, .ref a3, .ref a4, .ref a5, .ref a6, .int 0, .ref a7, .ref a8, .ref a9, .ref a10, .int 0, .ref a11, .ref a12, .ref a13, .ref a14, .ref a15, .ref a16, .ref a17, .int 0, .null, .null, .null, .null, .null, .null, .null, .null, .null, .int 0, .null, .null, .null, .null])) :: (W))))))))))))))))))) tyX12 tyX12_ok nmX12 C hin_12 r.2.2 rfl rfl (by decide) k_1136 rfl rfl (by decide +kernel) rfl rfl (Nat.le_of_ble_eq_true rfl) rfl dX12_init_159 ?_
  refine u_aload_n (pc := 162) 0 C dX12_init_162 rfl rfl ?_
  refine u_bipush (pc := 163) (v := 12) C dX12_init_163 (by decide) ?_
  refine u_newi (pc := 165) (N := 12) C i_118 (by decide) (by decide) (Nat.le_of_ble_eq_true rfl) ⟨Nat.le_of_ble_eq_true rfl, Nat.le_of_ble_eq_true rfl⟩ dX12_init_165 (fun a18 => ?_)
  refine u_putF (pc := 167) (ci := 12) (N := 38) (v := .ref a18) (ty := .array .int) 18 24 ((a18, .inl (cy 0, 12, .inl (fun _ => 0))) :: ((a17, .inl (cy 0, 256, .inl (fun _ => 0))) :: ((a16, .inl (cy 0, 4, .inl (fun _ => 0))) :: ((a15, .inl (cy 0, 4, .inl (upd (upd (upd (upd (fun _ => 0) 0 (-9)) 1 (-9)) 2 (-9)) 3 (-9)))) :: ((a14, .inl (cy 0, 192, .inl (fun _ => 0))) :: ((a13, .inl (cy 0, 192, .inl (fun _ => 0))) :: ((a12, .inl (cy 0, 8, .inl (fun _ => 0))) :: ((a11, .inl (cy 0, 8, .inl (fun _ => 0))) :: ((a10, .inl (cy 0, 36, .inl (fun _ => 0))) :: ((a9, .inl (cy 0, 96, .inl (fun _ => 0))) :: ((a8, .inl (cy 0, 79, .inl (fun _ => 0))) :: ((a7, .inl (cy 0, 79, .inl (fun _ => 0))) :: ((a6, .inl (cy 0, 432, .inl (fun _ => 0))) :: ((a5, .inl (cy 0, 12, .inl (fun _ => 0))) :: ((a4, .inl (cy 0, 12, .inl (fun _ => 0))) :: ((a3, .inl (cy 0, 12, .inl (fun _ => 0))) :: ((a2, .inl (cy 2, 36, .inl (fun _ => 0))) :: ((a1, .inl (cy 0, 36, .inl (fun _ => 0))) :: ((o, .inr (12, [.int 0, .int 0, .int 0, .ref a1, .ref a2, .int 0, .ref a3, .ref a4, .ref a5, .ref a6, .int 0, .ref a7, .ref a8, .ref a9, .ref a10, .int 0, .ref a11, .ref a12, .ref a13, .ref a14, .ref a15, .ref a16, .ref a17, .int 0, .ref a18, .null, .null, .null, .null, .null, .null, .null, .null, .int 0, .null, .null, .null, .null])) :: (W)))))))))))))))))))) tyX12 tyX12_ok nmX12 C hin_12 r.2.2 rfl rfl (by decide) k_1138 rfl rfl (by decide +kernel) rfl rfl (Nat.le_of_ble_eq_true rfl) rfl dX12_init_167 ?_
  refine u_aload_n (pc := 170) 0 C dX12_init_170 rfl rfl ?_
  refine u_sipush (pc := 171) (v := 144) C dX12_init_171 (by decide) ?_
  refine u_newi (pc := 174) (N := 144) C i_118 (by decide) (by decide) (Nat.le_of_ble_eq_true rfl) ⟨Nat.le_of_ble_eq_true rfl, Nat.le_of_ble_eq_true rfl⟩ dX12_init_174 (fun a19 => ?_)
  refine u_putF (pc := 176) (ci := 12) (N := 38) (v := .ref a19) (ty := .array .int) 19 25 ((a19, .inl (cy 0, 144, .inl (fun _ => 0))) :: ((a18, .inl (cy 0, 12, .inl (fun _ => 0))) :: ((a17, .inl (cy 0, 256, .inl (fun _ => 0))) :: ((a16, .inl (cy 0, 4, .inl (fun _ => 0))) :: ((a15, .inl (cy 0, 4, .inl (upd (upd (upd (upd (fun _ => 0) 0 (-9)) 1 (-9)) 2 (-9)) 3 (-9)))) :: ((a14, .inl (cy 0, 192, .inl (fun _ => 0))) :: ((a13, .inl (cy 0, 192, .inl (fun _ => 0))) :: ((a12, .inl (cy 0, 8, .inl (fun _ => 0))) :: ((a11, .inl (cy 0, 8, .inl (fun _ => 0))) :: ((a10, .inl (cy 0, 36, .inl (fun _ => 0))) :: ((a9, .inl (cy 0, 96, .inl (fun _ => 0))) :: ((a8, .inl (cy 0, 79, .inl (fun _ => 0))) :: ((a7, .inl (cy 0, 79, .inl (fun _ => 0))) :: ((a6, .inl (cy 0, 432, .inl (fun _ => 0))) :: ((a5, .inl (cy 0, 12, .inl (fun _ => 0))) :: ((a4, .inl (cy 0, 12, .inl (fun _ => 0))) :: ((a3, .inl (cy 0, 12, .inl (fun _ => 0))) :: ((a2, .inl (cy 2, 36, .inl (fun _ => 0))) :: ((a1, .inl (cy 0, 36, .inl (fun _ => 0))) :: ((o, .inr (12, [.int 0, .int 0, .int 0, .ref a1, .ref a2, .int 0, .ref a3, .ref a4, .ref a5, .ref a6, .int 0, .ref a7, .ref a8, .ref a9, .ref a10, .int 0, .ref a11, .ref a12, .ref a13, .ref a14, .ref a15, .ref a16, .ref a17, .int 0, .ref a18, .ref a19, .null, .null, .null, .null, .null, .null, .null, .int 0, .null, .null, .null, .null])) :: (W))))))))))))))))))))) tyX12 tyX12_ok nmX12 C hin_12 r.2.2 rfl rfl (by decide) k_1139 rfl rfl (by decide +kernel) rfl rfl (Nat.le_of_ble_eq_true rfl) rfl dX12_init_176 ?_
  refine u_aload_n (pc := 179) 0 C dX12_init_179 rfl rfl ?_
  refine u_sipush (pc := 180) (v := 4096) C dX12_init_180 (by decide) ?_
  refine u_newz (pc := 183) (N := 4096) C i_1229 (by decide) (by decide) (Nat.le_of_ble_eq_true rfl) ⟨Nat.le_of_ble_eq_true rfl, Nat.le_of_ble_eq_true rfl⟩ dX12_init_183 (fun a20 => ?_)
  refine u_putF (pc := 185) (ci := 12) (N := 38) (v := .ref a20) (ty := .array .boolean) 20 26 ((a20, .inl (cy 2, 4096, .inl (fun _ => 0))) :: ((a19, .inl (cy 0, 144, .inl (fun _ => 0))) :: ((a18, .inl (cy 0, 12, .inl (fun _ => 0))) :: ((a17, .inl (cy 0, 256, .inl (fun _ => 0))) :: ((a16, .inl (cy 0, 4, .inl (fun _ => 0))) :: ((a15, .inl (cy 0, 4, .inl (upd (upd (upd (upd (fun _ => 0) 0 (-9)) 1 (-9)) 2 (-9)) 3 (-9)))) :: ((a14, .inl (cy 0, 192, .inl (fun _ => 0))) :: ((a13, .inl (cy 0, 192, .inl (fun _ => 0))) :: ((a12, .inl (cy 0, 8, .inl (fun _ => 0))) :: ((a11, .inl (cy 0, 8, .inl (fun _ => 0))) :: ((a10, .inl (cy 0, 36, .inl (fun _ => 0))) :: ((a9, .inl (cy 0, 96, .inl (fun _ => 0))) :: ((a8, .inl (cy 0, 79, .inl (fun _ => 0))) :: ((a7, .inl (cy 0, 79, .inl (fun _ => 0))) :: ((a6, .inl (cy 0, 432, .inl (fun _ => 0))) :: ((a5, .inl (cy 0, 12, .inl (fun _ => 0))) :: ((a4, .inl (cy 0, 12, .inl (fun _ => 0))) :: ((a3, .inl (cy 0, 12, .inl (fun _ => 0))) :: ((a2, .inl (cy 2, 36, .inl (fun _ => 0))) :: ((a1, .inl (cy 0, 36, .inl (fun _ => 0))) :: ((o, .inr (12, [.int 0, .int 0, .int 0, .ref a1, .ref a2, .int 0, .ref a3, .ref a4, .ref a5, .ref a6, .int 0, .ref a7, .ref a8, .ref a9, .ref a10, .int 0, .ref a11, .ref a12, .ref a13, .ref a14, .ref a15, .ref a16, .ref a17, .int 0, .ref a18, .ref a19, .ref a20, .null, .null, .null, .null, .null, .null, .int 0, .null, .null, .null, .null])) :: (W)))))))))))))))))))))) tyX12 tyX12_ok nmX12 C hin_12 r.2.2 rfl rfl (by decide) k_1140 rfl rfl (by decide +kernel) rfl rfl (Nat.le_of_ble_eq_true rfl) rfl dX12_init_185 ?_
  refine u_aload_n (pc := 188) 0 C dX12_init_188 rfl rfl ?_
  refine u_sipush (pc := 189) (v := 4096) C dX12_init_189 (by decide) ?_
  refine u_newi (pc := 192) (N := 4096) C i_118 (by decide) (by decide) (Nat.le_of_ble_eq_true rfl) ⟨Nat.le_of_ble_eq_true rfl, Nat.le_of_ble_eq_true rfl⟩ dX12_init_192 (fun a21 => ?_)
  refine u_putF (pc := 194) (ci := 12) (N := 38) (v := .ref a21) (ty := .array .int) 21 27 ((a21, .inl (cy 0, 4096, .inl (fun _ => 0))) :: ((a20, .inl (cy 2, 4096, .inl (fun _ => 0))) :: ((a19, .inl (cy 0, 144, .inl (fun _ => 0))) :: ((a18, .inl (cy 0, 12, .inl (fun _ => 0))) :: ((a17, .inl (cy 0, 256, .inl (fun _ => 0))) :: ((a16, .inl (cy 0, 4, .inl (fun _ => 0))) :: ((a15, .inl (cy 0, 4, .inl (upd (upd (upd (upd (fun _ => 0) 0 (-9)) 1 (-9)) 2 (-9)) 3 (-9)))) :: ((a14, .inl (cy 0, 192, .inl (fun _ => 0))) :: ((a13, .inl (cy 0, 192, .inl (fun _ => 0))) :: ((a12, .inl (cy 0, 8, .inl (fun _ => 0))) :: ((a11, .inl (cy 0, 8, .inl (fun _ => 0))) :: ((a10, .inl (cy 0, 36, .inl (fun _ => 0))) :: ((a9, .inl (cy 0, 96, .inl (fun _ => 0))) :: ((a8, .inl (cy 0, 79, .inl (fun _ => 0))) :: ((a7, .inl (cy 0, 79, .inl (fun _ => 0))) :: ((a6, .inl (cy 0, 432, .inl (fun _ => 0))) :: ((a5, .inl (cy 0, 12, .inl (fun _ => 0))) :: ((a4, .inl (cy 0, 12, .inl (fun _ => 0))) :: ((a3, .inl (cy 0, 12, .inl (fun _ => 0))) :: ((a2, .inl (cy 2, 36, .inl (fun _ => 0))) :: ((a1, .inl (cy 0, 36, .inl (fun _ => 0))) :: ((o, .inr (12, [.int 0, .int 0, .int 0, .ref a1, .ref a2, .int 0, .ref a3, .ref a4, .ref a5, .ref a6, .int 0, .ref a7, .ref a8, .ref a9, .ref a10, .int 0, .ref a11, .ref a12, .ref a13, .ref a14, .ref a15, .ref a16, .ref a17, .int 0, .ref a18, .ref a19, .ref a20, .ref a21, .null, .null, .null, .null, .null, .int 0, .null, .null, .null, .null])) :: (W))))))))))))))))))))))) tyX12 tyX12_ok nmX12 C hin_12 r.2.2 rfl rfl (by decide) k_1141 rfl rfl (by decide +kernel) rfl rfl (Nat.le_of_ble_eq_true rfl) rfl dX12_init_194 ?_
  refine u_aload_n (pc := 197) 0 C dX12_init_197 rfl rfl ?_
  refine u_sipush (pc := 198) (v := 144) C dX12_init_198 (by decide) ?_
  refine u_newi (pc := 201) (N := 144) C i_118 (by decide) (by decide) (Nat.le_of_ble_eq_true rfl) ⟨Nat.le_of_ble_eq_true rfl, Nat.le_of_ble_eq_true rfl⟩ dX12_init_201 (fun a22 => ?_)
  refine u_putF (pc := 203) (ci := 12) (N := 38) (v := .ref a22) (ty := .array .int) 22 28 ((a22, .inl (cy 0, 144, .inl (fun _ => 0))) :: ((a21, .inl (cy 0, 4096, .inl (fun _ => 0))) :: ((a20, .inl (cy 2, 4096, .inl (fun _ => 0))) :: ((a19, .inl (cy 0, 144, .inl (fun _ => 0))) :: ((a18, .inl (cy 0, 12, .inl (fun _ => 0))) :: ((a17, .inl (cy 0, 256, .inl (fun _ => 0))) :: ((a16, .inl (cy 0, 4, .inl (fun _ => 0))) :: ((a15, .inl (cy 0, 4, .inl (upd (upd (upd (upd (fun _ => 0) 0 (-9)) 1 (-9)) 2 (-9)) 3 (-9)))) :: ((a14, .inl (cy 0, 192, .inl (fun _ => 0))) :: ((a13, .inl (cy 0, 192, .inl (fun _ => 0))) :: ((a12, .inl (cy 0, 8, .inl (fun _ => 0))) :: ((a11, .inl (cy 0, 8, .inl (fun _ => 0))) :: ((a10, .inl (cy 0, 36, .inl (fun _ => 0))) :: ((a9, .inl (cy 0, 96, .inl (fun _ => 0))) :: ((a8, .inl (cy 0, 79, .inl (fun _ => 0))) :: ((a7, .inl (cy 0, 79, .inl (fun _ => 0))) :: ((a6, .inl (cy 0, 432, .inl (fun _ => 0))) :: ((a5, .inl (cy 0, 12, .inl (fun _ => 0))) :: ((a4, .inl (cy 0, 12, .inl (fun _ => 0))) :: ((a3, .inl (cy 0, 12, .inl (fun _ => 0))) :: ((a2, .inl (cy 2, 36, .inl (fun _ => 0))) :: ((a1, .inl (cy 0, 36, .inl (fun _ => 0))) :: ((o, .inr (12, [.int 0, .int 0, .int 0, .ref a1, .ref a2, .int 0, .ref a3, .ref a4, .ref a5, .ref a6, .int 0, .ref a7, .ref a8, .ref a9, .ref a10, .int 0, .ref a11, .ref a12, .ref a13, .ref a14, .ref a15, .ref a16, .ref a17, .int 0, .ref a18, .ref a19, .ref a20, .ref a21, .ref a22, .null, .null, .null, .null, .int 0, .null, .null, .null, .null])) :: (W)))))))))))))))))))))))) tyX12 tyX12_ok nmX12 C hin_12 r.2.2 rfl rfl (by decide) k_1142 rfl rfl (by decide +kernel) rfl rfl (Nat.le_of_ble_eq_true rfl) rfl dX12_init_203 ?_
  refine u_aload_n (pc := 206) 0 C dX12_init_206 rfl rfl ?_
  refine u_sipush (pc := 207) (v := 4096) C dX12_init_207 (by decide) ?_
  refine u_newi (pc := 210) (N := 4096) C i_118 (by decide) (by decide) (Nat.le_of_ble_eq_true rfl) ⟨Nat.le_of_ble_eq_true rfl, Nat.le_of_ble_eq_true rfl⟩ dX12_init_210 (fun a23 => ?_)
  refine u_putF (pc := 212) (ci := 12) (N := 38) (v := .ref a23) (ty := .array .int) 23 29 ((a23, .inl (cy 0, 4096, .inl (fun _ => 0))) :: ((a22, .inl (cy 0, 144, .inl (fun _ => 0))) :: ((a21, .inl (cy 0, 4096, .inl (fun _ => 0))) :: ((a20, .inl (cy 2, 4096, .inl (fun _ => 0))) :: ((a19, .inl (cy 0, 144, .inl (fun _ => 0))) :: ((a18, .inl (cy 0, 12, .inl (fun _ => 0))) :: ((a17, .inl (cy 0, 256, .inl (fun _ => 0))) :: ((a16, .inl (cy 0, 4, .inl (fun _ => 0))) :: ((a15, .inl (cy 0, 4, .inl (upd (upd (upd (upd (fun _ => 0) 0 (-9)) 1 (-9)) 2 (-9)) 3 (-9)))) :: ((a14, .inl (cy 0, 192, .inl (fun _ => 0))) :: ((a13, .inl (cy 0, 192, .inl (fun _ => 0))) :: ((a12, .inl (cy 0, 8, .inl (fun _ => 0))) :: ((a11, .inl (cy 0, 8, .inl (fun _ => 0))) :: ((a10, .inl (cy 0, 36, .inl (fun _ => 0))) :: ((a9, .inl (cy 0, 96, .inl (fun _ => 0))) :: ((a8, .inl (cy 0, 79, .inl (fun _ => 0))) :: ((a7, .inl (cy 0, 79, .inl (fun _ => 0))) :: ((a6, .inl (cy 0, 432, .inl (fun _ => 0))) :: ((a5, .inl (cy 0, 12, .inl (fun _ => 0))) :: ((a4, .inl (cy 0, 12, .inl (fun _ => 0))) :: ((a3, .inl (cy 0, 12, .inl (fun _ => 0))) :: ((a2, .inl (cy 2, 36, .inl (fun _ => 0))) :: ((a1, .inl (cy 0, 36, .inl (fun _ => 0))) :: ((o, .inr (12, [.int 0, .int 0, .int 0, .ref a1, .ref a2, .int 0, .ref a3, .ref a4, .ref a5, .ref a6, .int 0, .ref a7, .ref a8, .ref a9, .ref a10, .int 0, .ref a11, .ref a12, .ref a13, .ref a14, .ref a15, .ref a16, .ref a17, .int 0, .ref a18, .ref a19, .ref a20, .ref a21, .ref a22, .ref a23, .null, .null, .null, .int 0, .null, .null, .null, .null])) :: (W))))))))))))))))))))))))) tyX12 tyX12_ok nmX12 C hin_12 r.2.2 rfl rfl (by decide) k_1143 rfl rfl (by decide +kernel) rfl rfl (Nat.le_of_ble_eq_true rfl) rfl dX12_init_212 ?_
  refine u_aload_n (pc := 215) 0 C dX12_init_215 rfl rfl ?_
  refine u_sipush (pc := 216) (v := 4096) C dX12_init_216 (by decide) ?_
  refine u_newi (pc := 219) (N := 4096) C i_118 (by decide) (by decide) (Nat.le_of_ble_eq_true rfl) ⟨Nat.le_of_ble_eq_true rfl, Nat.le_of_ble_eq_true rfl⟩ dX12_init_219 (fun a24 => ?_)
  refine u_putF (pc := 221) (ci := 12) (N := 38) (v := .ref a24) (ty := .array .int) 24 30 ((a24, .inl (cy 0, 4096, .inl (fun _ => 0))) :: ((a23, .inl (cy 0, 4096, .inl (fun _ => 0))) :: ((a22, .inl (cy 0, 144, .inl (fun _ => 0))) :: ((a21, .inl (cy 0, 4096, .inl (fun _ => 0))) :: ((a20, .inl (cy 2, 4096, .inl (fun _ => 0))) :: ((a19, .inl (cy 0, 144, .inl (fun _ => 0))) :: ((a18, .inl (cy 0, 12, .inl (fun _ => 0))) :: ((a17, .inl (cy 0, 256, .inl (fun _ => 0))) :: ((a16, .inl (cy 0, 4, .inl (fun _ => 0))) :: ((a15, .inl (cy 0, 4, .inl (upd (upd (upd (upd (fun _ => 0) 0 (-9)) 1 (-9)) 2 (-9)) 3 (-9)))) :: ((a14, .inl (cy 0, 192, .inl (fun _ => 0))) :: ((a13, .inl (cy 0, 192, .inl (fun _ => 0))) :: ((a12, .inl (cy 0, 8, .inl (fun _ => 0))) :: ((a11, .inl (cy 0, 8, .inl (fun _ => 0))) :: ((a10, .inl (cy 0, 36, .inl (fun _ => 0))) :: ((a9, .inl (cy 0, 96, .inl (fun _ => 0))) :: ((a8, .inl (cy 0, 79, .inl (fun _ => 0))) :: ((a7, .inl (cy 0, 79, .inl (fun _ => 0))) :: ((a6, .inl (cy 0, 432, .inl (fun _ => 0))) :: ((a5, .inl (cy 0, 12, .inl (fun _ => 0))) :: ((a4, .inl (cy 0, 12, .inl (fun _ => 0))) :: ((a3, .inl (cy 0, 12, .inl (fun _ => 0))) :: ((a2, .inl (cy 2, 36, .inl (fun _ => 0))) :: ((a1, .inl (cy 0, 36, .inl (fun _ => 0))) :: ((o, .inr (12, [.int 0, .int 0, .int 0, .ref a1, .ref a2, .int 0, .ref a3, .ref a4, .ref a5, .ref a6, .int 0, .ref a7, .ref a8, .ref a9, .ref a10, .int 0, .ref a11, .ref a12, .ref a13, .ref a14, .ref a15, .ref a16, .ref a17, .int 0, .ref a18, .ref a19, .ref a20, .ref a21, .ref a22, .ref a23, .ref a24, .null, .null, .int 0, .null, .null, .null, .null])) :: (W)))))))))))))))))))))))))) tyX12 tyX12_ok nmX12 C hin_12 r.2.2 rfl rfl (by decide) k_1144 rfl rfl (by decide +kernel) rfl rfl (Nat.le_of_ble_eq_true rfl) rfl dX12_init_221 ?_
  refine u_aload_n (pc := 224) 0 C dX12_init_224 rfl rfl ?_
  refine u_bipush (pc := 225) (v := 12) C dX12_init_225 (by decide) ?_
  refine u_newi (pc := 227) (N := 12) C i_118 (by decide) (by decide) (Nat.le_of_ble_eq_true rfl) ⟨Nat.le_of_ble_eq_true rfl, Nat.le_of_ble_eq_true rfl⟩ dX12_init_227 (fun a25 => ?_)
  refine u_putF (pc := 229) (ci := 12) (N := 38) (v := .ref a25) (ty := .array .int) 25 31 ((a25, .inl (cy 0, 12, .inl (fun _ => 0))) :: ((a24, .inl (cy 0, 4096, .inl (fun _ => 0))) :: ((a23, .inl (cy 0, 4096, .inl (fun _ => 0))) :: ((a22, .inl (cy 0, 144, .inl (fun _ => 0))) :: ((a21, .inl (cy 0, 4096, .inl (fun _ => 0))) :: ((a20, .inl (cy 2, 4096, .inl (fun _ => 0))) :: ((a19, .inl (cy 0, 144, .inl (fun _ => 0))) :: ((a18, .inl (cy 0, 12, .inl (fun _ => 0))) :: ((a17, .inl (cy 0, 256, .inl (fun _ => 0))) :: ((a16, .inl (cy 0, 4, .inl (fun _ => 0))) :: ((a15, .inl (cy 0, 4, .inl (upd (upd (upd (upd (fun _ => 0) 0 (-9)) 1 (-9)) 2 (-9)) 3 (-9)))) :: ((a14, .inl (cy 0, 192, .inl (fun _ => 0))) :: ((a13, .inl (cy 0, 192, .inl (fun _ => 0))) :: ((a12, .inl (cy 0, 8, .inl (fun _ => 0))) :: ((a11, .inl (cy 0, 8, .inl (fun _ => 0))) :: ((a10, .inl (cy 0, 36, .inl (fun _ => 0))) :: ((a9, .inl (cy 0, 96, .inl (fun _ => 0))) :: ((a8, .inl (cy 0, 79, .inl (fun _ => 0))) :: ((a7, .inl (cy 0, 79, .inl (fun _ => 0))) :: ((a6, .inl (cy 0, 432, .inl (fun _ => 0))) :: ((a5, .inl (cy 0, 12, .inl (fun _ => 0))) :: ((a4, .inl (cy 0, 12, .inl (fun _ => 0))) :: ((a3, .inl (cy 0, 12, .inl (fun _ => 0))) :: ((a2, .inl (cy 2, 36, .inl (fun _ => 0))) :: ((a1, .inl (cy 0, 36, .inl (fun _ => 0))) :: ((o, .inr (12, [.int 0, .int 0, .int 0, .ref a1, .ref a2, .int 0, .ref a3, .ref a4, .ref a5, .ref a6, .int 0, .ref a7, .ref a8, .ref a9, .ref a10, .int 0, .ref a11, .ref a12, .ref a13, .ref a14, .ref a15, .ref a16, .ref a17, .int 0, .ref a18, .ref a19, .ref a20, .ref a21, .ref a22, .ref a23, .ref a24, .ref a25, .null, .int 0, .null, .null, .null, .null])) :: (W))))))))))))))))))))))))))) tyX12 tyX12_ok nmX12 C hin_12 r.2.2 rfl rfl (by decide) i_1145 rfl rfl (by decide +kernel) rfl rfl (Nat.le_of_ble_eq_true rfl) rfl dX12_init_229 ?_
  refine u_aload_n (pc := 232) 0 C dX12_init_232 rfl rfl ?_
  refine u_sipush (pc := 233) (v := 1896) C dX12_init_233 (by decide) ?_
  refine u_newi (pc := 236) (N := 1896) C i_118 (by decide) (by decide) (Nat.le_of_ble_eq_true rfl) ⟨Nat.le_of_ble_eq_true rfl, Nat.le_of_ble_eq_true rfl⟩ dX12_init_236 (fun a26 => ?_)
  refine u_putF (pc := 238) (ci := 12) (N := 38) (v := .ref a26) (ty := .array .int) 26 32 ((a26, .inl (cy 0, 1896, .inl (fun _ => 0))) :: ((a25, .inl (cy 0, 12, .inl (fun _ => 0))) :: ((a24, .inl (cy 0, 4096, .inl (fun _ => 0))) :: ((a23, .inl (cy 0, 4096, .inl (fun _ => 0))) :: ((a22, .inl (cy 0, 144, .inl (fun _ => 0))) :: ((a21, .inl (cy 0, 4096, .inl (fun _ => 0))) :: ((a20, .inl (cy 2, 4096, .inl (fun _ => 0))) :: ((a19, .inl (cy 0, 144, .inl (fun _ => 0))) :: ((a18, .inl (cy 0, 12, .inl (fun _ => 0))) :: ((a17, .inl (cy 0, 256, .inl (fun _ => 0))) :: ((a16, .inl (cy 0, 4, .inl (fun _ => 0))) :: ((a15, .inl (cy 0, 4, .inl (upd (upd (upd (upd (fun _ => 0) 0 (-9)) 1 (-9)) 2 (-9)) 3 (-9)))) :: ((a14, .inl (cy 0, 192, .inl (fun _ => 0))) :: ((a13, .inl (cy 0, 192, .inl (fun _ => 0))) :: ((a12, .inl (cy 0, 8, .inl (fun _ => 0))) :: ((a11, .inl (cy 0, 8, .inl (fun _ => 0))) :: ((a10, .inl (cy 0, 36, .inl (fun _ => 0))) :: ((a9, .inl (cy 0, 96, .inl (fun _ => 0))) :: ((a8, .inl (cy 0, 79, .inl (fun _ => 0))) :: ((a7, .inl (cy 0, 79, .inl (fun _ => 0))) :: ((a6, .inl (cy 0, 432, .inl (fun _ => 0))) :: ((a5, .inl (cy 0, 12, .inl (fun _ => 0))) :: ((a4, .inl (cy 0, 12, .inl (fun _ => 0))) :: ((a3, .inl (cy 0, 12, .inl (fun _ => 0))) :: ((a2, .inl (cy 2, 36, .inl (fun _ => 0))) :: ((a1, .inl (cy 0, 36, .inl (fun _ => 0))) :: ((o, .inr (12, [.int 0, .int 0, .int 0, .ref a1, .ref a2, .int 0, .ref a3, .ref a4, .ref a5, .ref a6, .int 0, .ref a7, .ref a8, .ref a9, .ref a10, .int 0, .ref a11, .ref a12, .ref a13, .ref a14, .ref a15, .ref a16, .ref a17, .int 0, .ref a18, .ref a19, .ref a20, .ref a21, .ref a22, .ref a23, .ref a24, .ref a25, .ref a26, .int 0, .null, .null, .null, .null])) :: (W)))))))))))))))))))))))))))) tyX12 tyX12_ok nmX12 C hin_12 r.2.2 rfl rfl (by decide) k_1146 rfl rfl (by decide +kernel) rfl rfl (Nat.le_of_ble_eq_true rfl) rfl dX12_init_238 ?_
  refine u_aload_n (pc := 241) 0 C dX12_init_241 rfl rfl ?_
  refine u_bipush (pc := 242) (v := 20) C dX12_init_242 (by decide) ?_
  refine u_newi (pc := 244) (N := 20) C i_118 (by decide) (by decide) (Nat.le_of_ble_eq_true rfl) ⟨Nat.le_of_ble_eq_true rfl, Nat.le_of_ble_eq_true rfl⟩ dX12_init_244 (fun a27 => ?_)
  refine u_putF (pc := 246) (ci := 12) (N := 38) (v := .ref a27) (ty := .array .int) 27 34 ((a27, .inl (cy 0, 20, .inl (fun _ => 0))) :: ((a26, .inl (cy 0, 1896, .inl (fun _ => 0))) :: ((a25, .inl (cy 0, 12, .inl (fun _ => 0))) :: ((a24, .inl (cy 0, 4096, .inl (fun _ => 0))) :: ((a23, .inl (cy 0, 4096, .inl (fun _ => 0))) :: ((a22, .inl (cy 0, 144, .inl (fun _ => 0))) :: ((a21, .inl (cy 0, 4096, .inl (fun _ => 0))) :: ((a20, .inl (cy 2, 4096, .inl (fun _ => 0))) :: ((a19, .inl (cy 0, 144, .inl (fun _ => 0))) :: ((a18, .inl (cy 0, 12, .inl (fun _ => 0))) :: ((a17, .inl (cy 0, 256, .inl (fun _ => 0))) :: ((a16, .inl (cy 0, 4, .inl (fun _ => 0))) :: ((a15, .inl (cy 0, 4, .inl (upd (upd (upd (upd (fun _ => 0) 0 (-9)) 1 (-9)) 2 (-9)) 3 (-9)))) :: ((a14, .inl (cy 0, 192, .inl (fun _ => 0))) :: ((a13, .inl (cy 0, 192, .inl (fun _ => 0))) :: ((a12, .inl (cy 0, 8, .inl (fun _ => 0))) :: ((a11, .inl (cy 0, 8, .inl (fun _ => 0))) :: ((a10, .inl (cy 0, 36, .inl (fun _ => 0))) :: ((a9, .inl (cy 0, 96, .inl (fun _ => 0))) :: ((a8, .inl (cy 0, 79, .inl (fun _ => 0))) :: ((a7, .inl (cy 0, 79, .inl (fun _ => 0))) :: ((a6, .inl (cy 0, 432, .inl (fun _ => 0))) :: ((a5, .inl (cy 0, 12, .inl (fun _ => 0))) :: ((a4, .inl (cy 0, 12, .inl (fun _ => 0))) :: ((a3, .inl (cy 0, 12, .inl (fun _ => 0))) :: ((a2, .inl (cy 2, 36, .inl (fun _ => 0))) :: ((a1, .inl (cy 0, 36, .inl (fun _ => 0))) :: ((o, .inr (12, [.int 0, .int 0, .int 0, .ref a1, .ref a2, .int 0, .ref a3, .ref a4, .ref a5, .ref a6, .int 0, .ref a7, .ref a8, .ref a9, .ref a10, .int 0, .ref a11, .ref a12, .ref a13, .ref a14, .ref a15, .ref a16, .ref a17, .int 0, .ref a18, .ref a19, .ref a20, .ref a21, .ref a22, .ref a23, .ref a24, .ref a25, .ref a26, .int 0, .ref a27, .null, .null, .null])) :: (W))))))))))))))))))))))))))))) tyX12 tyX12_ok nmX12 C hin_12 r.2.2 rfl rfl (by decide) k_1148 rfl rfl (by decide +kernel) rfl rfl (Nat.le_of_ble_eq_true rfl) rfl dX12_init_246 ?_
  refine u_aload_n (pc := 249) 0 C dX12_init_249 rfl rfl ?_
  refine u_bipush (pc := 250) (v := 20) C dX12_init_250 (by decide) ?_
  refine u_newi (pc := 252) (N := 20) C i_118 (by decide) (by decide) (Nat.le_of_ble_eq_true rfl) ⟨Nat.le_of_ble_eq_true rfl, Nat.le_of_ble_eq_true rfl⟩ dX12_init_252 (fun a28 => ?_)
  refine u_putF (pc := 254) (ci := 12) (N := 38) (v := .ref a28) (ty := .array .int) 28 35 ((a28, .inl (cy 0, 20, .inl (fun _ => 0))) :: ((a27, .inl (cy 0, 20, .inl (fun _ => 0))) :: ((a26, .inl (cy 0, 1896, .inl (fun _ => 0))) :: ((a25, .inl (cy 0, 12, .inl (fun _ => 0))) :: ((a24, .inl (cy 0, 4096, .inl (fun _ => 0))) :: ((a23, .inl (cy 0, 4096, .inl (fun _ => 0))) :: ((a22, .inl (cy 0, 144, .inl (fun _ => 0))) :: ((a21, .inl (cy 0, 4096, .inl (fun _ => 0))) :: ((a20, .inl (cy 2, 4096, .inl (fun _ => 0))) :: ((a19, .inl (cy 0, 144, .inl (fun _ => 0))) :: ((a18, .inl (cy 0, 12, .inl (fun _ => 0))) :: ((a17, .inl (cy 0, 256, .inl (fun _ => 0))) :: ((a16, .inl (cy 0, 4, .inl (fun _ => 0))) :: ((a15, .inl (cy 0, 4, .inl (upd (upd (upd (upd (fun _ => 0) 0 (-9)) 1 (-9)) 2 (-9)) 3 (-9)))) :: ((a14, .inl (cy 0, 192, .inl (fun _ => 0))) :: ((a13, .inl (cy 0, 192, .inl (fun _ => 0))) :: ((a12, .inl (cy 0, 8, .inl (fun _ => 0))) :: ((a11, .inl (cy 0, 8, .inl (fun _ => 0))) :: ((a10, .inl (cy 0, 36, .inl (fun _ => 0))) :: ((a9, .inl (cy 0, 96, .inl (fun _ => 0))) :: ((a8, .inl (cy 0, 79, .inl (fun _ => 0))) :: ((a7, .inl (cy 0, 79, .inl (fun _ => 0))) :: ((a6, .inl (cy 0, 432, .inl (fun _ => 0))) :: ((a5, .inl (cy 0, 12, .inl (fun _ => 0))) :: ((a4, .inl (cy 0, 12, .inl (fun _ => 0))) :: ((a3, .inl (cy 0, 12, .inl (fun _ => 0))) :: ((a2, .inl (cy 2, 36, .inl (fun _ => 0))) :: ((a1, .inl (cy 0, 36, .inl (fun _ => 0))) :: ((o, .inr (12, [.int 0, .int 0, .int 0, .ref a1, .ref a2, .int 0, .ref a3, .ref a4, .ref a5, .ref a6, .int 0, .ref a7, .ref a8, .ref a9, .ref a10, .int 0, .ref a11, .ref a12, .ref a13, .ref a14, .ref a15, .ref a16, .ref a17, .int 0, .ref a18, .ref a19, .ref a20, .ref a21, .ref a22, .ref a23, .ref a24, .ref a25, .ref a26, .int 0, .ref a27, .ref a28, .null, .null])) :: (W)))))))))))))))))))))))))))))) tyX12 tyX12_ok nmX12 C hin_12 r.2.2 rfl rfl (by decide) k_1149 rfl rfl (by decide +kernel) rfl rfl (Nat.le_of_ble_eq_true rfl) rfl dX12_init_254 ?_
  refine u_aload_n (pc := 257) 0 C dX12_init_257 rfl rfl ?_
  refine u_sipush (pc := 258) (v := 720) C dX12_init_258 (by decide) ?_
  refine u_newi (pc := 261) (N := 720) C i_118 (by decide) (by decide) (Nat.le_of_ble_eq_true rfl) ⟨Nat.le_of_ble_eq_true rfl, Nat.le_of_ble_eq_true rfl⟩ dX12_init_261 (fun a29 => ?_)
  refine u_putF (pc := 263) (ci := 12) (N := 38) (v := .ref a29) (ty := .array .int) 29 36 ((a29, .inl (cy 0, 720, .inl (fun _ => 0))) :: ((a28, .inl (cy 0, 20, .inl (fun _ => 0))) :: ((a27, .inl (cy 0, 20, .inl (fun _ => 0))) :: ((a26, .inl (cy 0, 1896, .inl (fun _ => 0))) :: ((a25, .inl (cy 0, 12, .inl (fun _ => 0))) :: ((a24, .inl (cy 0, 4096, .inl (fun _ => 0))) :: ((a23, .inl (cy 0, 4096, .inl (fun _ => 0))) :: ((a22, .inl (cy 0, 144, .inl (fun _ => 0))) :: ((a21, .inl (cy 0, 4096, .inl (fun _ => 0))) :: ((a20, .inl (cy 2, 4096, .inl (fun _ => 0))) :: ((a19, .inl (cy 0, 144, .inl (fun _ => 0))) :: ((a18, .inl (cy 0, 12, .inl (fun _ => 0))) :: ((a17, .inl (cy 0, 256, .inl (fun _ => 0))) :: ((a16, .inl (cy 0, 4, .inl (fun _ => 0))) :: ((a15, .inl (cy 0, 4, .inl (upd (upd (upd (upd (fun _ => 0) 0 (-9)) 1 (-9)) 2 (-9)) 3 (-9)))) :: ((a14, .inl (cy 0, 192, .inl (fun _ => 0))) :: ((a13, .inl (cy 0, 192, .inl (fun _ => 0))) :: ((a12, .inl (cy 0, 8, .inl (fun _ => 0))) :: ((a11, .inl (cy 0, 8, .inl (fun _ => 0))) :: ((a10, .inl (cy 0, 36, .inl (fun _ => 0))) :: ((a9, .inl (cy 0, 96, .inl (fun _ => 0))) :: ((a8, .inl (cy 0, 79, .inl (fun _ => 0))) :: ((a7, .inl (cy 0, 79, .inl (fun _ => 0))) :: ((a6, .inl (cy 0, 432, .inl (fun _ => 0))) :: ((a5, .inl (cy 0, 12, .inl (fun _ => 0))) :: ((a4, .inl (cy 0, 12, .inl (fun _ => 0))) :: ((a3, .inl (cy 0, 12, .inl (fun _ => 0))) :: ((a2, .inl (cy 2, 36, .inl (fun _ => 0))) :: ((a1, .inl (cy 0, 36, .inl (fun _ => 0))) :: ((o, .inr (12, [.int 0, .int 0, .int 0, .ref a1, .ref a2, .int 0, .ref a3, .ref a4, .ref a5, .ref a6, .int 0, .ref a7, .ref a8, .ref a9, .ref a10, .int 0, .ref a11, .ref a12, .ref a13, .ref a14, .ref a15, .ref a16, .ref a17, .int 0, .ref a18, .ref a19, .ref a20, .ref a21, .ref a22, .ref a23, .ref a24, .ref a25, .ref a26, .int 0, .ref a27, .ref a28, .ref a29, .null])) :: (W))))))))))))))))))))))))))))))) tyX12 tyX12_ok nmX12 C hin_12 r.2.2 rfl rfl (by decide) k_1150 rfl rfl (by decide +kernel) rfl rfl (Nat.le_of_ble_eq_true rfl) rfl dX12_init_263 ?_
  refine u_aload_n (pc := 266) 0 C dX12_init_266 rfl rfl ?_
  refine u_sipush (pc := 267) (v := 432) C dX12_init_267 (by decide) ?_
  refine u_newz (pc := 270) (N := 432) C i_1229 (by decide) (by decide) (Nat.le_of_ble_eq_true rfl) ⟨Nat.le_of_ble_eq_true rfl, Nat.le_of_ble_eq_true rfl⟩ dX12_init_270 (fun a30 => ?_)
  refine u_putF (pc := 272) (ci := 12) (N := 38) (v := .ref a30) (ty := .array .boolean) 30 37 ((a30, .inl (cy 2, 432, .inl (fun _ => 0))) :: ((a29, .inl (cy 0, 720, .inl (fun _ => 0))) :: ((a28, .inl (cy 0, 20, .inl (fun _ => 0))) :: ((a27, .inl (cy 0, 20, .inl (fun _ => 0))) :: ((a26, .inl (cy 0, 1896, .inl (fun _ => 0))) :: ((a25, .inl (cy 0, 12, .inl (fun _ => 0))) :: ((a24, .inl (cy 0, 4096, .inl (fun _ => 0))) :: ((a23, .inl (cy 0, 4096, .inl (fun _ => 0))) :: ((a22, .inl (cy 0, 144, .inl (fun _ => 0))) :: ((a21, .inl (cy 0, 4096, .inl (fun _ => 0))) :: ((a20, .inl (cy 2, 4096, .inl (fun _ => 0))) :: ((a19, .inl (cy 0, 144, .inl (fun _ => 0))) :: ((a18, .inl (cy 0, 12, .inl (fun _ => 0))) :: ((a17, .inl (cy 0, 256, .inl (fun _ => 0))) :: ((a16, .inl (cy 0, 4, .inl (fun _ => 0))) :: ((a15, .inl (cy 0, 4, .inl (upd (upd (upd (upd (fun _ => 0) 0 (-9)) 1 (-9)) 2 (-9)) 3 (-9)))) :: ((a14, .inl (cy 0, 192, .inl (fun _ => 0))) :: ((a13, .inl (cy 0, 192, .inl (fun _ => 0))) :: ((a12, .inl (cy 0, 8, .inl (fun _ => 0))) :: ((a11, .inl (cy 0, 8, .inl (fun _ => 0))) :: ((a10, .inl (cy 0, 36, .inl (fun _ => 0))) :: ((a9, .inl (cy 0, 96, .inl (fun _ => 0))) :: ((a8, .inl (cy 0, 79, .inl (fun _ => 0))) :: ((a7, .inl (cy 0, 79, .inl (fun _ => 0))) :: ((a6, .inl (cy 0, 432, .inl (fun _ => 0))) :: ((a5, .inl (cy 0, 12, .inl (fun _ => 0))) :: ((a4, .inl (cy 0, 12, .inl (fun _ => 0))) :: ((a3, .inl (cy 0, 12, .inl (fun _ => 0))) :: ((a2, .inl (cy 2, 36, .inl (fun _ => 0))) :: ((a1, .inl (cy 0, 36, .inl (fun _ => 0))) :: ((o, .inr (12, [.int 0, .int 0, .int 0, .ref a1, .ref a2, .int 0, .ref a3, .ref a4, .ref a5, .ref a6, .int 0, .ref a7, .ref a8, .ref a9, .ref a10, .int 0, .ref a11, .ref a12, .ref a13, .ref a14, .ref a15, .ref a16, .ref a17, .int 0, .ref a18, .ref a19, .ref a20, .ref a21, .ref a22, .ref a23, .ref a24, .ref a25, .ref a26, .int 0, .ref a27, .ref a28, .ref a29, .ref a30])) :: (W)))))))))))))))))))))))))))))))) tyX12 tyX12_ok nmX12 C hin_12 r.2.2 rfl rfl (by decide) k_1151 rfl rfl (by decide +kernel) rfl rfl (Nat.le_of_ble_eq_true rfl) rfl dX12_init_272 ?_
  exact u_ret (pc := 275) (fun j => [a1, a2, a3, a4, a5, a6, a7, a8, a9, a10, a11, a12, a13, a14, a15, a16, a17, a18, a19, a20, a21, a22, a23, a24, a25, a26, a27, a28, a29, a30].getD j 0) C r rfl dX12_init_275
