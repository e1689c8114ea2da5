theorem c_X12_isSong {l : Launch} {G : Gl} {a1 : Int32} {σ : Mem} {P : Int32 → Mem → Prop} (hw : v_X12_isSong a1 σ P) : MetI l yX12_isSong cX12_isSong 2 .boolean 0 G [.ref (gA G 33), .int a1] σ P := by
  refine MetI.of RX12 (by decide +kernel) rfl (Nat.le_of_ble_eq_true rfl) (fun X C r => ?_)
  show V X G 2 0 [(0, .ref (gA G 33)), (1, .int a1)] [] σ
  unfold v_X12_isSong at hw
  refine v_iload_n (pc := 0) 1 C dX12_isSong_0 rfl rfl ?_
  refine v_if_lt (pc := 1) (tgt := 16) C dX12_isSong_1 (by decide) (fun c => ?_) (fun c => ?_)
  · replace hw := hw.1 c
    refine v_iconst (pc := 16) (v := 0) C dX12_isSong_16 (by decide) ?_
    exact v_zret (pc := 17) C r (Or.inl rfl) hw dX12_isSong_17
  · replace hw := hw.2 c
    refine v_iload_n (pc := 4) 1 C dX12_isSong_4 rfl rfl ?_
    refine v_aload_n (pc := 5) 0 C dX12_isSong_5 rfl rfl ?_
    refine g_12_15 (pc := 6) C k_1129 dX12_isSong_6 ?_
    refine v_icmp_ge (pc := 9) (tgt := 16) C dX12_isSong_9 (by decide) (fun c => ?_) (fun c => ?_)
    · replace hw := hw.1 c
      refine v_iconst (pc := 16) (v := 0) C dX12_isSong_16 (by decide) ?_
      exact v_zret (pc := 17) C r (Or.inl rfl) hw dX12_isSong_17
    · replace hw := hw.2 c
      refine v_iconst (pc := 12) (v := 1) C dX12_isSong_12 (by decide) ?_
      refine v_goto (pc := 13) (tgt := 17) C dX12_isSong_13 (by decide) ?_
      exact v_zret (pc := 17) C r (Or.inr rfl) hw dX12_isSong_17

theorem c_X12_isStep {l : Launch} {G : Gl} {a1 : Int32} {a2 : Int32} {σ : Mem} {P : Int32 → Mem → Prop} (hw : v_X12_isStep a1 a2 σ P) : MetI l yX12_isStep cX12_isStep 3 .boolean 1 G [.ref (gA G 33), .int a1, .int a2] σ P := by
  refine MetI.of RX12 (by decide +kernel) rfl (Nat.le_of_ble_eq_true rfl) (fun X C r => ?_)
  show V X G 3 0 [(0, .ref (gA G 33)), (1, .int a1), (2, .int a2)] [] σ
  unfold v_X12_isStep at hw
  refine v_aload_n (pc := 0) 0 C dX12_isStep_0 rfl rfl ?_
  refine v_iload_n (pc := 1) 1 C dX12_isStep_1 rfl rfl ?_
  refine v_cVi (pc := 2) (o := 33) (As := [.int a1]) (rest := []) (ci := 12) C (c_X12_isSong hw) pk_X12_isSong k_1386 rfl (by decide) rfl (by decide) rfl rfl (Nat.le_of_ble_eq_true rfl) dX12_isStep_2 (fun r_1 σ_2 hw => ?_)
  refine v_if_eq (pc := 5) (tgt := 26) C dX12_isStep_5 (by decide) (fun c => ?_) (fun c => ?_)
  · replace hw := hw.1 c
    refine v_iconst (pc := 26) (v := 0) C dX12_isStep_26 (by decide) ?_
    exact v_zret (pc := 27) C r (Or.inl rfl) hw dX12_isStep_27
  · replace hw := hw.2 c
    refine v_iload_n (pc := 8) 2 C dX12_isStep_8 rfl rfl ?_
    refine v_if_lt (pc := 9) (tgt := 26) C dX12_isStep_9 (by decide) (fun c => ?_) (fun c => ?_)
    · replace hw := hw.1 c
      refine v_iconst (pc := 26) (v := 0) C dX12_isStep_26 (by decide) ?_
      exact v_zret (pc := 27) C r (Or.inl rfl) hw dX12_isStep_27
    · replace hw := hw.2 c
      refine v_iload_n (pc := 12) 2 C dX12_isStep_12 rfl rfl ?_
      refine v_aload_n (pc := 13) 0 C dX12_isStep_13 rfl rfl ?_
      refine g_12_16 (pc := 14) C k_1130 dX12_isStep_14 ?_
      refine v_iload_n (pc := 17) 1 C dX12_isStep_17 rfl rfl ?_
      refine v_iald (pc := 18) C rfl hw.1 dX12_isStep_18 ?_
      replace hw := hw.2
      refine v_icmp_ge (pc := 19) (tgt := 26) C dX12_isStep_19 (by decide) (fun c => ?_) (fun c => ?_)
      · replace hw := hw.1 c
        refine v_iconst (pc := 26) (v := 0) C dX12_isStep_26 (by decide) ?_
        exact v_zret (pc := 27) C r (Or.inl rfl) hw dX12_isStep_27
      · replace hw := hw.2 c
        refine v_iconst (pc := 22) (v := 1) C dX12_isStep_22 (by decide) ?_
        refine v_goto (pc := 23) (tgt := 27) C dX12_isStep_23 (by decide) ?_
        exact v_zret (pc := 27) C r (Or.inr rfl) hw dX12_isStep_27

theorem w_X12_song_J117 {X : Cx} {G : Gl} {P : Int32 → Mem → Prop} (C : Ck X G RX12 cX12_song 7 2) (r : RetI X G .int P) (σ : Mem) (hw : v_X12_song_J117 P σ) : V X G 7 117 [(0, .ref (gA G 33))] [] σ := by
  unfold v_X12_song_J117 at hw
  refine v_aload_n (pc := 117) 0 C dX12_song_117 rfl rfl ?_
  refine v_iconst (pc := 118) (v := 3) C dX12_song_118 (by decide) ?_
  refine v_cVi (pc := 119) (o := 33) (As := [.int 3]) (rest := []) (ci := 12) C (c_X12_fails hw) pk_X12_fails k_1373 rfl (by decide) rfl (by decide) rfl rfl (Nat.le_of_ble_eq_true rfl) dX12_song_119 (fun r_7 σ_8 hw => ?_)
  exact v_iret (pc := 122) C r hw dX12_song_122

theorem w_X12_song_L140 {X : Cx} {G : Gl} {P : Int32 → Mem → Prop} {x1 : Int32} {x3 : Int32} {x4 : Int32} {K200 : Mem → Prop} (C : Ck X G RX12 cX12_song 7 2) (r : RetI X G .int P) (hK200 : ∀ (σ : Mem), K200 σ → V X G 7 200 [(0, .ref (gA G 33)), (1, .int x1), (3, .int x3), (4, .int x4)] [] σ) : ∀ (n : Nat) (x5 : Int32) (σ : Mem), v_X12_song_L140 x1 x3 x4 K200 P n x5 σ → V X G 7 140 [(0, .ref (gA G 33)), (1, .int x1), (3, .int x3), (4, .int x4), (5, .int x5)] [] σ := by
  intro n
  induction n with
  | zero => intro x5 σ hw; exact hw.elim
  | succ n ih =>
    intro x5 σ hw
    refine v_iload (pc := 140) 4 C dX12_song_140 rfl ?_
    refine v_iload (pc := 142) 3 C dX12_song_142 rfl ?_
    refine v_icmp_ge (pc := 144) (tgt := 200) C dX12_song_144 (by decide) (fun c => ?_) (fun c => ?_)
    · replace hw := hw.1 c
      refine v_sub [0, 1, 2, 3] rfl ?_
      exact hK200 _ hw
    · replace hw := hw.2 c
      refine v_bipush (pc := 147) (v := 64) C dX12_song_147 (by decide) ?_
      refine v_iload_n (pc := 149) 1 C dX12_song_149 rfl rfl ?_
      refine v_imul (pc := 150) C dX12_song_150 ?_
      refine v_iload_n (pc := 151) 2 C dX12_song_151 rfl rfl ?_
      refine v_iadd (pc := 152) C dX12_song_152 ?_
      refine v_iconst (pc := 153) (v := 2) C dX12_song_153 (by decide) ?_
      refine v_iload (pc := 154) 4 C dX12_song_154 rfl ?_
      refine v_imul (pc := 156) C dX12_song_156 ?_
      refine v_iadd (pc := 157) C dX12_song_157 ?_
      refine v_istore (pc := 158) C dX12_song_158 (by decide) rfl ?_
      refine v_aload_n (pc := 160) 1 C dX12_song_160 rfl rfl ?_
      refine g_12_22 (pc := 161) C k_1136 dX12_song_161 ?_
      refine v_iload (pc := 164) 0 C dX12_song_164 rfl ?_
      refine v_iald (pc := 166) C rfl hw.1 dX12_song_166 ?_
      replace hw := hw.2
      refine v_callSi (pc := 167) (As := [.int (σ.1 50 (Int32.toNatClampNeg (((64 * x1) + x3) + (2 * x5))))]) (rest := []) C (c_X12_isChord hw) pk_X12_isChord (Or.inl k_1249) (by decide) rfl rfl (Nat.le_of_ble_eq_true rfl) dX12_song_167 (fun r_11 σ_12 hw => ?_)
      refine v_if_eq (pc := 170) (tgt := 191) C dX12_song_170 (by decide) (fun c => ?_) (fun c => ?_)
      · replace hw := hw.1 c
        refine v_bipush (pc := 191) (v := (-2)) C dX12_song_191 (by decide) ?_
        exact v_iret (pc := 193) C r hw dX12_song_193
      · replace hw := hw.2 c
        refine v_aload_n (pc := 173) 1 C dX12_song_173 rfl rfl ?_
        refine g_12_22 (pc := 174) C k_1136 dX12_song_174 ?_
        refine v_iload (pc := 177) 0 C dX12_song_177 rfl ?_
        refine v_iconst (pc := 179) (v := 1) C dX12_song_179 (by decide) ?_
        refine v_iadd (pc := 180) C dX12_song_180 ?_
        refine v_iald (pc := 181) C rfl hw.1 dX12_song_181 ?_
        replace hw := hw.2
        refine v_iconst (pc := 182) (v := (-1)) C dX12_song_182 (by decide) ?_
        refine v_bipush (pc := 183) (v := 60) C dX12_song_183 (by decide) ?_
        refine v_callSi (pc := 185) (As := [.int (σ_12.1 50 (Int32.toNatClampNeg ((((64 * x1) + x3) + (2 * x5)) + 1))), .int (-1), .int 60]) (rest := []) C (c_X12_within hw) pk_X12_within (Or.inl k_1234) (by decide) rfl rfl (Nat.le_of_ble_eq_true rfl) dX12_song_185 (fun r_13 σ_14 hw => ?_)
        refine v_if_ne (pc := 188) (tgt := 194) C dX12_song_188 (by decide) (fun c => ?_) (fun c => ?_)
        · replace hw := hw.2 c
          refine v_iinc (pc := 194) (v := x5 + 1) 5 C dX12_song_194 rfl rfl (by decide) rfl ?_
          refine v_goto (pc := 197) (tgt := 140) C dX12_song_197 (by decide) ?_
          refine v_sub [2, 3, 4, 5, 0] rfl ?_
          exact ih _ _ hw
        · replace hw := hw.1 c
          refine v_bipush (pc := 191) (v := (-2)) C dX12_song_191 (by decide) ?_
          exact v_iret (pc := 193) C r hw dX12_song_193

theorem w_X12_song_L215 {X : Cx} {G : Gl} {P : Int32 → Mem → Prop} {x1 : Int32} {x3 : Int32} {x4 : Int32} {K287 : Mem → Prop} (C : Ck X G RX12 cX12_song 7 2) (r : RetI X G .int P) (hK287 : ∀ (σ : Mem), K287 σ → V X G 7 287 [(0, .ref (gA G 33)), (4, .int x4)] [] σ) : ∀ (n : Nat) (x5 : Int32) (σ : Mem), v_X12_song_L215 x1 x3 x4 K287 P n x5 σ → V X G 7 215 [(0, .ref (gA G 33)), (1, .int x1), (3, .int x3), (4, .int x4), (5, .int x5)] [] σ := by
  intro n
  induction n with
  | zero => intro x5 σ hw; exact hw.elim
  | succ n ih =>
    intro x5 σ hw
    refine v_iload (pc := 215) 4 C dX12_song_215 rfl ?_
    refine v_iload (pc := 217) 3 C dX12_song_217 rfl ?_
    refine v_icmp_ge (pc := 219) (tgt := 287) C dX12_song_219 (by decide) (fun c => ?_) (fun c => ?_)
    · replace hw := hw.1 c
      refine v_sub [0, 3] rfl ?_
      exact hK287 _ hw
    · replace hw := hw.2 c
      refine v_bipush (pc := 222) (v := 64) C dX12_song_222 (by decide) ?_
      refine v_iload_n (pc := 224) 1 C dX12_song_224 rfl rfl ?_
      refine v_imul (pc := 225) C dX12_song_225 ?_
      refine v_iload_n (pc := 226) 2 C dX12_song_226 rfl rfl ?_
      refine v_iadd (pc := 227) C dX12_song_227 ?_
      refine v_iconst (pc := 228) (v := 2) C dX12_song_228 (by decide) ?_
      refine v_iload (pc := 229) 4 C dX12_song_229 rfl ?_
      refine v_imul (pc := 231) C dX12_song_231 ?_
      refine v_iadd (pc := 232) C dX12_song_232 ?_
      refine v_istore (pc := 233) C dX12_song_233 (by decide) rfl ?_
      refine v_aload_n (pc := 235) 1 C dX12_song_235 rfl rfl ?_
      refine g_12_18 (pc := 236) C k_1132 dX12_song_236 ?_
      refine v_bipush (pc := 239) (v := 24) C dX12_song_239 (by decide) ?_
      refine v_aload_n (pc := 241) 1 C dX12_song_241 rfl rfl ?_
      refine g_12_15 (pc := 242) C k_1129 dX12_song_242 ?_
      refine v_imul (pc := 245) C dX12_song_245 ?_
      refine v_iload (pc := 246) 5 C dX12_song_246 rfl ?_
      refine v_iadd (pc := 248) C dX12_song_248 ?_
      refine v_aload_n (pc := 249) 1 C dX12_song_249 rfl rfl ?_
      refine g_12_22 (pc := 250) C k_1136 dX12_song_250 ?_
      refine v_iload (pc := 253) 0 C dX12_song_253 rfl ?_
      refine v_iald (pc := 255) C rfl hw.1 dX12_song_255 ?_
      replace hw := hw.2
      refine v_iast (pc := 256) C rfl hw.1 dX12_song_256 ?_
      replace hw := hw.2
      refine v_aload_n (pc := 257) 1 C dX12_song_257 rfl rfl ?_
      refine g_12_19 (pc := 258) C k_1133 dX12_song_258 ?_
      refine v_bipush (pc := 261) (v := 24) C dX12_song_261 (by decide) ?_
      refine v_aload_n (pc := 263) 1 C dX12_song_263 rfl rfl ?_
      refine g_12_15 (pc := 264) C k_1129 dX12_song_264 ?_
      refine v_imul (pc := 267) C dX12_song_267 ?_
      refine v_iload (pc := 268) 5 C dX12_song_268 rfl ?_
      refine v_iadd (pc := 270) C dX12_song_270 ?_
      refine v_aload_n (pc := 271) 1 C dX12_song_271 rfl rfl ?_
      refine g_12_22 (pc := 272) C k_1136 dX12_song_272 ?_
      refine v_iload (pc := 275) 0 C dX12_song_275 rfl ?_
      refine v_iconst (pc := 277) (v := 1) C dX12_song_277 (by decide) ?_
      refine v_iadd (pc := 278) C dX12_song_278 ?_
      refine v_iald (pc := 279) C rfl hw.1 dX12_song_279 ?_
      replace hw := hw.2
      refine v_iast (pc := 280) C rfl hw.1 dX12_song_280 ?_
      replace hw := hw.2
      refine v_iinc (pc := 281) (v := x5 + 1) 5 C dX12_song_281 rfl rfl (by decide) rfl ?_
      refine v_goto (pc := 284) (tgt := 215) C dX12_song_284 (by decide) ?_
      refine v_sub [2, 3, 4, 5, 0] rfl ?_
      exact ih _ _ hw

theorem w_X12_song_J55 {X : Cx} {G : Gl} {P : Int32 → Mem → Prop} (C : Ck X G RX12 cX12_song 7 2) (r : RetI X G .int P) (x1 : Int32) (x3 : Int32) (x4 : Int32) (σ : Mem) (hw : v_X12_song_J55 P x1 x3 x4 σ) : V X G 7 55 [(0, .ref (gA G 33)), (1, .int x1), (3, .int x3), (4, .int x4)] [] σ := by
  unfold v_X12_song_J55 at hw
  refine v_aload_n (pc := 55) 0 C dX12_song_55 rfl rfl ?_
  refine g_12_20 (pc := 56) C k_1134 dX12_song_56 ?_
  refine v_iload_n (pc := 59) 1 C dX12_song_59 rfl rfl ?_
  refine v_iald (pc := 60) C rfl hw.1 dX12_song_60 ?_
  replace hw := hw.2
  refine v_bipush (pc := 61) (v := (-9)) C dX12_song_61 (by decide) ?_
  refine v_icmp_ne (pc := 63) (tgt := 72) C dX12_song_63 (by decide) (fun c => ?_) (fun c => ?_)
  · replace hw := hw.2 c
    refine v_iload (pc := 72) 3 C dX12_song_72 rfl ?_
    refine v_if_ge (pc := 74) (tgt := 83) C dX12_song_74 (by decide) (fun c => ?_) (fun c => ?_)
    · replace hw := hw.1 c
      refine v_iload_n (pc := 83) 2 C dX12_song_83 rfl rfl ?_
      refine v_if_lt (pc := 84) (tgt := 117) C dX12_song_84 (by decide) (fun c => ?_) (fun c => ?_)
      · replace hw := hw.1 c
        refine v_sub [0] rfl ?_
        exact w_X12_song_J117 C r _ hw
      · replace hw := hw.2 c
        refine v_iload_n (pc := 87) 2 C dX12_song_87 rfl rfl ?_
        refine v_aload_n (pc := 88) 0 C dX12_song_88 rfl rfl ?_
        refine g_12_21 (pc := 89) C k_1135 dX12_song_89 ?_
        refine v_iload_n (pc := 92) 1 C dX12_song_92 rfl rfl ?_
        refine v_iald (pc := 93) C rfl hw.1 dX12_song_93 ?_
        replace hw := hw.2
        refine v_icmp_gt (pc := 94) (tgt := 117) C dX12_song_94 (by decide) (fun c => ?_) (fun c => ?_)
        · replace hw := hw.1 c
          refine v_sub [0] rfl ?_
          exact w_X12_song_J117 C r _ hw
        · replace hw := hw.2 c
          refine v_ldc2 (pc := 97) C k_1377 dX12_song_97 ?_
          refine v_iload (pc := 100) 3 C dX12_song_100 rfl ?_
          refine v_i2l (pc := 102) C dX12_song_102 ?_
          refine v_lmul (pc := 103) C dX12_song_103 ?_
          refine v_aload_n (pc := 104) 0 C dX12_song_104 rfl rfl ?_
          refine g_12_21 (pc := 105) C k_1135 dX12_song_105 ?_
          refine v_iload_n (pc := 108) 1 C dX12_song_108 rfl rfl ?_
          refine v_iald (pc := 109) C rfl hw.1 dX12_song_109 ?_
          replace hw := hw.2
          refine v_iload_n (pc := 110) 2 C dX12_song_110 rfl rfl ?_
          refine v_isub (pc := 111) C dX12_song_111 ?_
          refine v_i2l (pc := 112) C dX12_song_112 ?_
          refine v_lcmp_le (pc := 113) (tgt := 123) C dX12_song_113 dX12_song_114 (by decide) (fun c => ?_) (fun c => ?_)
          · replace hw := hw.1 c
            refine v_iload (pc := 123) 3 C dX12_song_123 rfl ?_
            refine v_iconst (pc := 125) (v := 1) C dX12_song_125 (by decide) ?_
            refine v_bipush (pc := 126) (v := 24) C dX12_song_126 (by decide) ?_
            refine v_callSi (pc := 128) (As := [.int x4, .int 1, .int 24]) (rest := []) C (c_X12_within hw) pk_X12_within (Or.inl k_1234) (by decide) rfl rfl (Nat.le_of_ble_eq_true rfl) dX12_song_128 (fun r_9 σ_10 hw => ?_)
            refine v_if_ne (pc := 131) (tgt := 137) C dX12_song_131 (by decide) (fun c => ?_) (fun c => ?_)
            · replace hw := hw.2 c
              refine v_iconst (pc := 137) (v := 0) C dX12_song_137 (by decide) ?_
              refine v_istore (pc := 138) C dX12_song_138 (by decide) rfl ?_
              refine v_sub [1, 2, 3, 4, 0] rfl ?_
              refine w_X12_song_L140 C r ?_ 5000 _ _ hw
              · intro σ_16 hw
                refine v_aload_n (pc := 200) 0 C dX12_song_200 rfl rfl ?_
                refine g_12_15 (pc := 201) C k_1129 dX12_song_201 ?_
                refine v_bipush (pc := 204) (v := 8) C dX12_song_204 (by decide) ?_
                refine v_icmp_ne (pc := 206) (tgt := 212) C dX12_song_206 (by decide) (fun c => ?_) (fun c => ?_)
                · replace hw := hw.2 c
                  refine v_iconst (pc := 212) (v := 0) C dX12_song_212 (by decide) ?_
                  refine v_istore (pc := 213) C dX12_song_213 (by decide) rfl ?_
                  refine v_sub [1, 2, 3, 4, 0] rfl ?_
                  refine w_X12_song_L215 C r ?_ 5000 _ _ hw
                  · intro σ_18 hw
                    refine v_aload_n (pc := 287) 0 C dX12_song_287 rfl rfl ?_
                    refine g_12_16 (pc := 288) C k_1130 dX12_song_288 ?_
                    refine v_aload_n (pc := 291) 0 C dX12_song_291 rfl rfl ?_
                    refine g_12_15 (pc := 292) C k_1129 dX12_song_292 ?_
                    refine v_iload (pc := 295) 1 C dX12_song_295 rfl ?_
                    refine v_iast (pc := 297) C rfl hw.1 dX12_song_297 ?_
                    replace hw := hw.2
                    refine v_aload_n (pc := 298) 0 C dX12_song_298 rfl rfl ?_
                    refine g_12_17 (pc := 299) C k_1131 dX12_song_299 ?_
                    refine v_aload_n (pc := 302) 0 C dX12_song_302 rfl rfl ?_
                    refine g_12_15 (pc := 303) C k_1129 dX12_song_303 ?_
                    refine v_iconst (pc := 306) (v := 0) C dX12_song_306 (by decide) ?_
                    refine v_iast (pc := 307) C rfl hw.1 dX12_song_307 ?_
                    replace hw := hw.2
                    refine v_aload_n (pc := 308) 0 C dX12_song_308 rfl rfl ?_
                    refine v_dup (pc := 309) C dX12_song_309 rfl ?_
                    refine g_12_15 (pc := 310) C k_1129 dX12_song_310 ?_
                    refine v_iconst (pc := 313) (v := 1) C dX12_song_313 (by decide) ?_
                    refine v_iadd (pc := 314) C dX12_song_314 ?_
                    refine p_12_15 (pc := 315) C k_1129 dX12_song_315 ?_
                    refine v_aload_n (pc := 318) 0 C dX12_song_318 rfl rfl ?_
                    refine g_12_15 (pc := 319) C k_1129 dX12_song_319 ?_
                    refine v_iconst (pc := 322) (v := 1) C dX12_song_322 (by decide) ?_
                    refine v_isub (pc := 323) C dX12_song_323 ?_
                    exact v_iret (pc := 324) C r hw dX12_song_324
                · replace hw := hw.1 c
                  refine v_bipush (pc := 209) (v := (-4)) C dX12_song_209 (by decide) ?_
                  exact v_iret (pc := 211) C r hw dX12_song_211
            · replace hw := hw.1 c
              refine v_bipush (pc := 134) (v := (-2)) C dX12_song_134 (by decide) ?_
              exact v_iret (pc := 136) C r hw dX12_song_136
          · replace hw := hw.2 c
            refine v_sub [0] rfl ?_
            exact w_X12_song_J117 C r _ hw
    · replace hw := hw.2 c
      refine v_aload_n (pc := 77) 0 C dX12_song_77 rfl rfl ?_
      refine v_iconst (pc := 78) (v := 4) C dX12_song_78 (by decide) ?_
      refine v_cVi (pc := 79) (o := 33) (As := [.int 4]) (rest := []) (ci := 12) C (c_X12_fails hw) pk_X12_fails k_1373 rfl (by decide) rfl (by decide) rfl rfl (Nat.le_of_ble_eq_true rfl) dX12_song_79 (fun r_19 σ_20 hw => ?_)
      exact v_iret (pc := 82) C r hw dX12_song_82
  · replace hw := hw.1 c
    refine v_aload_n (pc := 66) 0 C dX12_song_66 rfl rfl ?_
    refine v_iconst (pc := 67) (v := 1) C dX12_song_67 (by decide) ?_
    refine v_cVi (pc := 68) (o := 33) (As := [.int 1]) (rest := []) (ci := 12) C (c_X12_fails hw) pk_X12_fails k_1373 rfl (by decide) rfl (by decide) rfl rfl (Nat.le_of_ble_eq_true rfl) dX12_song_68 (fun r_5 σ_6 hw => ?_)
    exact v_iret (pc := 71) C r hw dX12_song_71

theorem c_X12_song {l : Launch} {G : Gl} {a1 : Int32} {a2 : Int32} {a3 : Int32} {a4 : Int32} {σ : Mem} {P : Int32 → Mem → Prop} (hw : v_X12_song a1 a2 a3 a4 σ P) : MetI l yX12_song cX12_song 7 .int 2 G [.ref (gA G 33), .int a1, .int a2, .int a3, .int a4] σ P := by
  refine MetI.of RX12 (by decide +kernel) rfl (Nat.le_of_ble_eq_true rfl) (fun X C r => ?_)
  show V X G 7 0 [(0, .ref (gA G 33)), (1, .int a1), (2, .int a2), (3, .int a3), (4, .int a4)] [] σ
  unfold v_X12_song at hw
  refine v_aload_n (pc := 0) 0 C dX12_song_0 rfl rfl ?_
  refine v_iconst (pc := 1) (v := 0) C dX12_song_1 (by decide) ?_
  refine p_12_0 (pc := 2) C k_1114 dX12_song_2 ?_
  refine v_iload_n (pc := 5) 1 C dX12_song_5 rfl rfl ?_
  refine v_iconst (pc := 6) (v := 0) C dX12_song_6 (by decide) ?_
  refine v_iconst (pc := 7) (v := 3) C dX12_song_7 (by decide) ?_
  refine v_callSi (pc := 8) (As := [.int a1, .int 0, .int 3]) (rest := []) C (c_X12_within hw) pk_X12_within (Or.inl k_1234) (by decide) rfl rfl (Nat.le_of_ble_eq_true rfl) dX12_song_8 (fun r_1 σ_2 hw => ?_)
  refine v_if_ne (pc := 11) (tgt := 16) C dX12_song_11 (by decide) (fun c => ?_) (fun c => ?_)
  · replace hw := hw.2 c
    refine v_iload_n (pc := 16) 2 C dX12_song_16 rfl rfl ?_
    refine v_iconst (pc := 17) (v := 0) C dX12_song_17 (by decide) ?_
    refine v_iconst (pc := 18) (v := 2) C dX12_song_18 (by decide) ?_
    refine v_callSi (pc := 19) (As := [.int a2, .int 0, .int 2]) (rest := []) C (c_X12_within hw) pk_X12_within (Or.inl k_1234) (by decide) rfl rfl (Nat.le_of_ble_eq_true rfl) dX12_song_19 (fun r_3 σ_4 hw => ?_)
    refine v_if_ne (pc := 22) (tgt := 28) C dX12_song_22 (by decide) (fun c => ?_) (fun c => ?_)
    · replace hw := hw.2 c
      refine v_aload_n (pc := 28) 0 C dX12_song_28 rfl rfl ?_
      refine g_12_20 (pc := 29) C k_1134 dX12_song_29 ?_
      refine v_iload_n (pc := 32) 1 C dX12_song_32 rfl rfl ?_
      refine v_iald (pc := 33) C rfl hw.1 dX12_song_33 ?_
      replace hw := hw.2
      refine v_bipush (pc := 34) (v := (-9)) C dX12_song_34 (by decide) ?_
      refine v_icmp_eq (pc := 36) (tgt := 55) C dX12_song_36 (by decide) (fun c => ?_) (fun c => ?_)
      · replace hw := hw.1 c
        refine v_sub [0, 1, 3, 4] rfl ?_
        exact w_X12_song_J55 C r _ _ _ _ hw
      · replace hw := hw.2 c
        refine v_aload_n (pc := 39) 0 C dX12_song_39 rfl rfl ?_
        refine g_12_20 (pc := 40) C k_1134 dX12_song_40 ?_
        refine v_iload_n (pc := 43) 1 C dX12_song_43 rfl rfl ?_
        refine v_iald (pc := 44) C rfl hw.1 dX12_song_44 ?_
        replace hw := hw.2
        refine v_iload_n (pc := 45) 2 C dX12_song_45 rfl rfl ?_
        refine v_icmp_eq (pc := 46) (tgt := 55) C dX12_song_46 (by decide) (fun c => ?_) (fun c => ?_)
        · replace hw := hw.1 c
          refine v_sub [0, 1, 3, 4] rfl ?_
          exact w_X12_song_J55 C r _ _ _ _ hw
        · replace hw := hw.2 c
          refine v_aload_n (pc := 49) 0 C dX12_song_49 rfl rfl ?_
          refine v_iconst (pc := 50) (v := 2) C dX12_song_50 (by decide) ?_
          refine v_cVi (pc := 51) (o := 33) (As := [.int 2]) (rest := []) (ci := 12) C (c_X12_fails hw) pk_X12_fails k_1373 rfl (by decide) rfl (by decide) rfl rfl (Nat.le_of_ble_eq_true rfl) dX12_song_51 (fun r_21 σ_22 hw => ?_)
          exact v_iret (pc := 54) C r hw dX12_song_54
    · replace hw := hw.1 c
      refine v_bipush (pc := 25) (v := (-2)) C dX12_song_25 (by decide) ?_
      exact v_iret (pc := 27) C r hw dX12_song_27
  · replace hw := hw.1 c
    refine v_iconst (pc := 14) (v := (-1)) C dX12_song_14 (by decide) ?_
    exact v_iret (pc := 15) C r hw dX12_song_15

theorem c_X12_chordAt {l : Launch} {G : Gl} {a1 : Int32} {a2 : Int32} {a3 : Int32} {σ : Mem} {P : Int32 → Mem → Prop} (hw : v_X12_chordAt a1 a2 a3 σ P) : MetI l yX12_chordAt cX12_chordAt 5 .int 0 G [.ref (gA G 33), .int a1, .int a2, .int a3] σ P := by
  refine MetI.of RX12 (by decide +kernel) rfl (Nat.le_of_ble_eq_true rfl) (fun X C r => ?_)
  show V X G 5 0 [(0, .ref (gA G 33)), (1, .int a1), (2, .int a2), (3, .int a3)] [] σ
  unfold v_X12_chordAt at hw
  refine v_aload_n (pc := 0) 0 C dX12_chordAt_0 rfl rfl ?_
  refine g_12_18 (pc := 1) C k_1132 dX12_chordAt_1 ?_
  refine v_bipush (pc := 4) (v := 24) C dX12_chordAt_4 (by decide) ?_
  refine v_iload_n (pc := 6) 1 C dX12_chordAt_6 rfl rfl ?_
  refine v_imul (pc := 7) C dX12_chordAt_7 ?_
  refine v_iload_n (pc := 8) 2 C dX12_chordAt_8 rfl rfl ?_
  refine v_iadd (pc := 9) C dX12_chordAt_9 ?_
  refine v_iald (pc := 10) C rfl hw.1 dX12_chordAt_10 ?_
  replace hw := hw.2
  refine v_istore (pc := 11) C dX12_chordAt_11 (by decide) rfl ?_
  refine v_iload (pc := 13) 0 C dX12_chordAt_13 rfl ?_
  refine v_bipush (pc := 15) (v := 12) C dX12_chordAt_15 (by decide) ?_
  refine v_idiv (pc := 17) C dX12_chordAt_17 (by decide) ?_
  refine v_bipush (pc := 18) (v := 12) C dX12_chordAt_18 (by decide) ?_
  refine v_imul (pc := 20) C dX12_chordAt_20 ?_
  refine v_iload (pc := 21) 0 C dX12_chordAt_21 rfl ?_
  refine v_bipush (pc := 23) (v := 12) C dX12_chordAt_23 (by decide) ?_
  refine v_irem (pc := 25) C dX12_chordAt_25 (by decide) ?_
  refine v_iload_n (pc := 26) 4 C dX12_chordAt_26 rfl rfl ?_
  refine v_iadd (pc := 27) C dX12_chordAt_27 ?_
  refine v_bipush (pc := 28) (v := 12) C dX12_chordAt_28 (by decide) ?_
  refine v_iadd (pc := 30) C dX12_chordAt_30 ?_
  refine v_bipush (pc := 31) (v := 12) C dX12_chordAt_31 (by decide) ?_
  refine v_irem (pc := 33) C dX12_chordAt_33 (by decide) ?_
  refine v_iadd (pc := 34) C dX12_chordAt_34 ?_
  exact v_iret (pc := 35) C r hw dX12_chordAt_35

theorem c_X12_hasNote {l : Launch} {G : Gl} {a1 : Int32} {a2 : Int32} {σ : Mem} {P : Int32 → Mem → Prop} (hw : v_X12_hasNote a1 a2 σ P) : MetI l yX12_hasNote cX12_hasNote 3 .boolean 0 G [.ref (gA G 33), .int a1, .int a2] σ P := by
  refine MetI.of RX12 (by decide +kernel) rfl (Nat.le_of_ble_eq_true rfl) (fun X C r => ?_)
  show V X G 3 0 [(0, .ref (gA G 33)), (1, .int a1), (2, .int a2)] [] σ
  unfold v_X12_hasNote at hw
  refine v_aload_n (pc := 0) 0 C dX12_hasNote_0 rfl rfl ?_
  refine g_12_19 (pc := 1) C k_1133 dX12_hasNote_1 ?_
  refine v_bipush (pc := 4) (v := 24) C dX12_hasNote_4 (by decide) ?_
  refine v_iload_n (pc := 6) 1 C dX12_hasNote_6 rfl rfl ?_
  refine v_imul (pc := 7) C dX12_hasNote_7 ?_
  refine v_iload_n (pc := 8) 2 C dX12_hasNote_8 rfl rfl ?_
  refine v_iadd (pc := 9) C dX12_hasNote_9 ?_
  refine v_iald (pc := 10) C rfl hw.1 dX12_hasNote_10 ?_
  replace hw := hw.2
  refine v_if_lt (pc := 11) (tgt := 18) C dX12_hasNote_11 (by decide) (fun c => ?_) (fun c => ?_)
  · replace hw := hw.1 c
    refine v_iconst (pc := 18) (v := 0) C dX12_hasNote_18 (by decide) ?_
    exact v_zret (pc := 19) C r (Or.inl rfl) hw dX12_hasNote_19
  · replace hw := hw.2 c
    refine v_iconst (pc := 14) (v := 1) C dX12_hasNote_14 (by decide) ?_
    refine v_goto (pc := 15) (tgt := 19) C dX12_hasNote_15 (by decide) ?_
    exact v_zret (pc := 19) C r (Or.inr rfl) hw dX12_hasNote_19

theorem c_X12_noteAt {l : Launch} {G : Gl} {a1 : Int32} {a2 : Int32} {a3 : Int32} {σ : Mem} {P : Int32 → Mem → Prop} (hw : v_X12_noteAt a1 a2 a3 σ P) : MetI l yX12_noteAt cX12_noteAt 4 .int 0 G [.ref (gA G 33), .int a1, .int a2, .int a3] σ P := by
  refine MetI.of RX12 (by decide +kernel) rfl (Nat.le_of_ble_eq_true rfl) (fun X C r => ?_)
  show V X G 4 0 [(0, .ref (gA G 33)), (1, .int a1), (2, .int a2), (3, .int a3)] [] σ
  unfold v_X12_noteAt at hw
  refine v_aload_n (pc := 0) 0 C dX12_noteAt_0 rfl rfl ?_
  refine g_12_19 (pc := 1) C k_1133 dX12_noteAt_1 ?_
  refine v_bipush (pc := 4) (v := 24) C dX12_noteAt_4 (by decide) ?_
  refine v_iload_n (pc := 6) 1 C dX12_noteAt_6 rfl rfl ?_
  refine v_imul (pc := 7) C dX12_noteAt_7 ?_
  refine v_iload_n (pc := 8) 2 C dX12_noteAt_8 rfl rfl ?_
  refine v_iadd (pc := 9) C dX12_noteAt_9 ?_
  refine v_iald (pc := 10) C rfl hw.1 dX12_noteAt_10 ?_
  replace hw := hw.2
  refine v_iload_n (pc := 11) 3 C dX12_noteAt_11 rfl rfl ?_
  refine v_iadd (pc := 12) C dX12_noteAt_12 ?_
  exact v_iret (pc := 13) C r hw dX12_noteAt_13

theorem w_X12_isHeard_L2 {X : Cx} {G : Gl} {P : Int32 → Mem → Prop} {x1 : Int32} {x2 : Int32} (C : Ck X G RX12 cX12_isHeard 4 1) (r : RetI X G .boolean P) : ∀ (n : Nat) (x3 : Int32) (σ : Mem), v_X12_isHeard_L2 x1 x2 P n x3 σ → V X G 4 2 [(0, .ref (gA G 33)), (1, .int x1), (2, .int x2), (3, .int x3)] [] σ := by
  intro n
  induction n with
  | zero => intro x3 σ hw; exact hw.elim
  | succ n ih =>
    intro x3 σ hw
    refine v_iload_n (pc := 2) 3 C dX12_isHeard_2 rfl rfl ?_
    refine v_aload_n (pc := 3) 0 C dX12_isHeard_3 rfl rfl ?_
    refine g_12_2 (pc := 4) C k_1116 dX12_isHeard_4 ?_
    refine v_icmp_ge (pc := 7) (tgt := 37) C dX12_isHeard_7 (by decide) (fun c => ?_) (fun c => ?_)
    · replace hw := hw.1 c
      refine v_iconst (pc := 37) (v := 0) C dX12_isHeard_37 (by decide) ?_
      exact v_zret (pc := 38) C r (Or.inl rfl) hw dX12_isHeard_38
    · replace hw := hw.2 c
      refine v_aload_n (pc := 10) 0 C dX12_isHeard_10 rfl rfl ?_
      refine g_12_3 (pc := 11) C k_1117 dX12_isHeard_11 ?_
      refine v_iload_n (pc := 14) 3 C dX12_isHeard_14 rfl rfl ?_
      refine v_iald (pc := 15) C rfl hw.1 dX12_isHeard_15 ?_
      replace hw := hw.2
      refine v_iload_n (pc := 16) 1 C dX12_isHeard_16 rfl rfl ?_
      refine v_icmp_ne (pc := 17) (tgt := 31) C dX12_isHeard_17 (by decide) (fun c => ?_) (fun c => ?_)
      · replace hw := hw.2 c
        refine v_iinc (pc := 31) (v := x3 + 1) 3 C dX12_isHeard_31 rfl rfl (by decide) rfl ?_
        refine v_goto (pc := 34) (tgt := 2) C dX12_isHeard_34 (by decide) ?_
        refine v_sub [1, 2, 3, 0] rfl ?_
        exact ih _ _ hw
      · replace hw := hw.1 c
        refine v_aload_n (pc := 20) 0 C dX12_isHeard_20 rfl rfl ?_
        refine v_iload_n (pc := 21) 2 C dX12_isHeard_21 rfl rfl ?_
        refine v_iload_n (pc := 22) 3 C dX12_isHeard_22 rfl rfl ?_
        refine v_cVi (pc := 23) (o := 33) (As := [.int x2, .int x3]) (rest := []) (ci := 12) C (c_X12_doesSound hw) pk_X12_doesSound k_1309 rfl (by decide) rfl (by decide) rfl rfl (Nat.le_of_ble_eq_true rfl) dX12_isHeard_23 (fun r_1 σ_2 hw => ?_)
        refine v_if_eq (pc := 26) (tgt := 31) C dX12_isHeard_26 (by decide) (fun c => ?_) (fun c => ?_)
        · replace hw := hw.1 c
          refine v_iinc (pc := 31) (v := x3 + 1) 3 C dX12_isHeard_31 rfl rfl (by decide) rfl ?_
          refine v_goto (pc := 34) (tgt := 2) C dX12_isHeard_34 (by decide) ?_
          refine v_sub [1, 2, 3, 0] rfl ?_
          exact ih _ _ hw
        · replace hw := hw.2 c
          refine v_iconst (pc := 29) (v := 1) C dX12_isHeard_29 (by decide) ?_
          exact v_zret (pc := 30) C r (Or.inr rfl) hw dX12_isHeard_30

theorem c_X12_isHeard {l : Launch} {G : Gl} {a1 : Int32} {a2 : Int32} {σ : Mem} {P : Int32 → Mem → Prop} (hw : v_X12_isHeard a1 a2 σ P) : MetI l yX12_isHeard cX12_isHeard 4 .boolean 1 G [.ref (gA G 33), .int a1, .int a2] σ P := by
  refine MetI.of RX12 (by decide +kernel) rfl (Nat.le_of_ble_eq_true rfl) (fun X C r => ?_)
  show V X G 4 0 [(0, .ref (gA G 33)), (1, .int a1), (2, .int a2)] [] σ
  unfold v_X12_isHeard at hw
  refine v_iconst (pc := 0) (v := 0) C dX12_isHeard_0 (by decide) ?_
  refine v_istore_n (pc := 1) C dX12_isHeard_1 rfl (by decide) rfl ?_
  refine v_sub [1, 2, 3, 0] rfl ?_
  refine w_X12_isHeard_L2 C r 5000 _ _ hw

theorem c_X12_missAt {l : Launch} {G : Gl} {a1 : Int32} {a2 : Int32} {a3 : Int32} {a4 : Int32} {σ : Mem} {P : Int32 → Mem → Prop} (hw : v_X12_missAt a1 a2 a3 a4 σ P) : MetI l yX12_missAt cX12_missAt 6 .int 2 G [.ref (gA G 33), .int a1, .int a2, .int a3, .int a4] σ P := by
  refine MetI.of RX12 (by decide +kernel) rfl (Nat.le_of_ble_eq_true rfl) (fun X C r => ?_)
  show V X G 6 0 [(0, .ref (gA G 33)), (1, .int a1), (2, .int a2), (3, .int a3), (4, .int a4)] [] σ
  unfold v_X12_missAt at hw
  refine v_aload_n (pc := 0) 0 C dX12_missAt_0 rfl rfl ?_
  refine g_12_13 (pc := 1) C k_1127 dX12_missAt_1 ?_
  refine v_aload_n (pc := 4) 0 C dX12_missAt_4 rfl rfl ?_
  refine v_iload_n (pc := 5) 1 C dX12_missAt_5 rfl rfl ?_
  refine v_iload_n (pc := 6) 2 C dX12_missAt_6 rfl rfl ?_
  refine v_iload_n (pc := 7) 3 C dX12_missAt_7 rfl rfl ?_
  refine v_cVi (pc := 8) (o := 33) (As := [.int a1, .int a2, .int a3]) (rest := [.ref (gA G 42)]) (ci := 12) C (c_X12_chordAt hw) pk_X12_chordAt k_1390 rfl (by decide) rfl (by decide) rfl rfl (Nat.le_of_ble_eq_true rfl) dX12_missAt_8 (fun r_1 σ_2 hw => ?_)
  refine v_iald (pc := 11) C rfl hw.1 dX12_missAt_11 ?_
  replace hw := hw.2
  refine v_istore (pc := 12) C dX12_missAt_12 (by decide) rfl ?_
  refine v_iload (pc := 14) 5 C dX12_missAt_14 rfl ?_
  refine v_if_ne (pc := 16) (tgt := 32) C dX12_missAt_16 (by decide) (fun c => ?_) (fun c => ?_)
  · replace hw := hw.2 c
    refine v_aload_n (pc := 32) 1 C dX12_missAt_32 rfl rfl ?_
    refine v_iload_n (pc := 33) 2 C dX12_missAt_33 rfl rfl ?_
    refine v_iload_n (pc := 34) 3 C dX12_missAt_34 rfl rfl ?_
    refine v_cVi (pc := 35) (o := 33) (As := [.int a1, .int a2]) (rest := []) (ci := 12) C (c_X12_hasNote hw) pk_X12_hasNote k_1394 rfl (by decide) rfl (by decide) rfl rfl (Nat.le_of_ble_eq_true rfl) dX12_missAt_35 (fun r_3 σ_4 hw => ?_)
    refine v_if_eq (pc := 38) (tgt := 65) C dX12_missAt_38 (by decide) (fun c => ?_) (fun c => ?_)
    · replace hw := hw.1 c
      refine v_iconst (pc := 65) (v := 0) C dX12_missAt_65 (by decide) ?_
      exact v_iret (pc := 66) C r hw dX12_missAt_66
    · replace hw := hw.2 c
      refine v_aload_n (pc := 41) 1 C dX12_missAt_41 rfl rfl ?_
      refine v_aload_n (pc := 42) 1 C dX12_missAt_42 rfl rfl ?_
      refine v_iload_n (pc := 43) 2 C dX12_missAt_43 rfl rfl ?_
      refine v_iload_n (pc := 44) 3 C dX12_missAt_44 rfl rfl ?_
      refine v_iload_n (pc := 45) 4 C dX12_missAt_45 rfl rfl ?_
      refine v_cVi (pc := 46) (o := 33) (As := [.int a1, .int a2, .int a3]) (rest := [.ref (gA G 33)]) (ci := 12) C (c_X12_noteAt hw) pk_X12_noteAt k_1398 rfl (by decide) rfl (by decide) rfl rfl (Nat.le_of_ble_eq_true rfl) dX12_missAt_46 (fun r_5 σ_6 hw => ?_)
      refine v_aload_n (pc := 49) 1 C dX12_missAt_49 rfl rfl ?_
      refine v_iload (pc := 50) 0 C dX12_missAt_50 rfl ?_
      refine v_cVi (pc := 52) (o := 33) (As := [.int (σ_2.1 42 (Int32.toNatClampNeg r_1))]) (rest := [.int r_5, .ref (gA G 33)]) (ci := 12) C (c_X12_setOf hw) pk_X12_setOf k_1406 rfl (by decide) rfl (by decide) rfl rfl (Nat.le_of_ble_eq_true rfl) dX12_missAt_52 (fun r_7 σ_8 hw => ?_)
      refine v_cVi (pc := 55) (o := 33) (As := [.int r_5, .int r_7]) (rest := []) (ci := 12) C (c_X12_isHeard hw) pk_X12_isHeard k_1410 rfl (by decide) rfl (by decide) rfl rfl (Nat.le_of_ble_eq_true rfl) dX12_missAt_55 (fun r_9 σ_10 hw => ?_)
      refine v_if_ne (pc := 58) (tgt := 65) C dX12_missAt_58 (by decide) (fun c => ?_) (fun c => ?_)
      · replace hw := hw.2 c
        refine v_iconst (pc := 65) (v := 0) C dX12_missAt_65 (by decide) ?_
        exact v_iret (pc := 66) C r hw dX12_missAt_66
      · replace hw := hw.1 c
        refine v_iconst (pc := 61) (v := 1) C dX12_missAt_61 (by decide) ?_
        refine v_goto (pc := 62) (tgt := 66) C dX12_missAt_62 (by decide) ?_
        exact v_iret (pc := 66) C r hw dX12_missAt_66
  · replace hw := hw.1 c
    refine v_iload (pc := 19) 0 C dX12_missAt_19 rfl ?_
    refine v_bipush (pc := 21) (v := (-9)) C dX12_missAt_21 (by decide) ?_
    refine v_icmp_ne (pc := 23) (tgt := 30) C dX12_missAt_23 (by decide) (fun c => ?_) (fun c => ?_)
    · replace hw := hw.2 c
      refine v_iconst (pc := 30) (v := 0) C dX12_missAt_30 (by decide) ?_
      exact v_iret (pc := 31) C r hw dX12_missAt_31
    · replace hw := hw.1 c
      refine v_iconst (pc := 26) (v := 1) C dX12_missAt_26 (by decide) ?_
      refine v_goto (pc := 27) (tgt := 31) C dX12_missAt_27 (by decide) ?_
      exact v_iret (pc := 31) C r hw dX12_missAt_31

theorem w_X12_missesOf_J37 {X : Cx} {G : Gl} {P : Int32 → Mem → Prop} {kb : Int32 → Int32 → Mem → Prop} (C : Ck X G RX12 cX12_missesOf 6 3) (r : RetI X G .int P) (x1 : Int32) (x2 : Int32) (x3 : Int32) (x5 : Int32) (xs0 : Int32) (xs1 : Int32) (hkb : ∀ (x4 : Int32) (x5 : Int32) (σ : Mem), kb x4 x5 σ → V X G 6 6 [(0, .ref (gA G 33)), (1, .int x1), (2, .int x2), (3, .int x3), (4, .int x4), (5, .int x5)] [] σ) (σ : Mem) (hw : v_X12_missesOf_J37 kb P x1 x2 x3 x5 xs0 xs1 σ) : V X G 6 37 [(0, .ref (gA G 33)), (1, .int x1), (2, .int x2), (3, .int x3), (5, .int x5)] [.int xs0, .int xs1] σ := by
  unfold v_X12_missesOf_J37 at hw
  refine v_iadd (pc := 37) C dX12_missesOf_37 ?_
  refine v_istore (pc := 38) C dX12_missesOf_38 (by decide) rfl ?_
  refine v_iload (pc := 40) 0 C dX12_missesOf_40 rfl ?_
  refine v_iload_n (pc := 42) 4 C dX12_missesOf_42 rfl rfl ?_
  refine v_if_eq (pc := 43) (tgt := 58) C dX12_missesOf_43 (by decide) (fun c => ?_) (fun c => ?_)
  · replace hw := hw.1 c
    refine v_iconst (pc := 58) (v := 0) C dX12_missesOf_58 (by decide) ?_
    refine v_iadd (pc := 59) C dX12_missesOf_59 ?_
    refine v_istore (pc := 60) C dX12_missesOf_60 (by decide) rfl ?_
    refine v_iinc (pc := 62) (v := x5 + 1) 5 C dX12_missesOf_62 rfl rfl (by decide) rfl ?_
    refine v_goto (pc := 65) (tgt := 6) C dX12_missesOf_65 (by decide) ?_
    refine v_sub [2, 3, 4, 5, 1, 0] rfl ?_
    exact hkb _ _ _ hw
  · replace hw := hw.2 c
    refine v_aload_n (pc := 46) 1 C dX12_missesOf_46 rfl rfl ?_
    refine v_iload_n (pc := 47) 2 C dX12_missesOf_47 rfl rfl ?_
    refine v_iload (pc := 48) 5 C dX12_missesOf_48 rfl ?_
    refine v_iload_n (pc := 50) 3 C dX12_missesOf_50 rfl rfl ?_
    refine v_iconst (pc := 51) (v := 1) C dX12_missesOf_51 (by decide) ?_
    refine v_cVi (pc := 52) (o := 33) (As := [.int x1, .int x5, .int x2, .int 1]) (rest := [.int (xs1 + xs0)]) (ci := 12) C (c_X12_missAt hw) pk_X12_missAt k_1402 rfl (by decide) rfl (by decide) rfl rfl (Nat.le_of_ble_eq_true rfl) dX12_missesOf_52 (fun r_1 σ_2 hw => ?_)
    refine v_goto (pc := 55) (tgt := 59) C dX12_missesOf_55 (by decide) ?_
    refine v_iadd (pc := 59) C dX12_missesOf_59 ?_
    refine v_istore (pc := 60) C dX12_missesOf_60 (by decide) rfl ?_
    refine v_iinc (pc := 62) (v := x5 + 1) 5 C dX12_missesOf_62 rfl rfl (by decide) rfl ?_
    refine v_goto (pc := 65) (tgt := 6) C dX12_missesOf_65 (by decide) ?_
    refine v_sub [2, 3, 4, 5, 1, 0] rfl ?_
    exact hkb _ _ _ hw

theorem w_X12_missesOf_L6 {X : Cx} {G : Gl} {P : Int32 → Mem → Prop} {x1 : Int32} {x2 : Int32} {x3 : Int32} (C : Ck X G RX12 cX12_missesOf 6 3) (r : RetI X G .int P) : ∀ (n : Nat) (x4 : Int32) (x5 : Int32) (σ : Mem), v_X12_missesOf_L6 x1 x2 x3 P n x4 x5 σ → V X G 6 6 [(0, .ref (gA G 33)), (1, .int x1), (2, .int x2), (3, .int x3), (4, .int x4), (5, .int x5)] [] σ := by
  intro n
  induction n with
  | zero => intro x4 x5 σ hw; exact hw.elim
  | succ n ih =>
    intro x4 x5 σ hw
    refine v_iload (pc := 6) 5 C dX12_missesOf_6 rfl ?_
    refine v_aload_n (pc := 8) 0 C dX12_missesOf_8 rfl rfl ?_
    refine g_12_16 (pc := 9) C k_1130 dX12_missesOf_9 ?_
    refine v_iload_n (pc := 12) 1 C dX12_missesOf_12 rfl rfl ?_
    refine v_iald (pc := 13) C rfl hw.1 dX12_missesOf_13 ?_
    replace hw := hw.2
    refine v_icmp_ge (pc := 14) (tgt := 68) C dX12_missesOf_14 (by decide) (fun c => ?_) (fun c => ?_)
    · replace hw := hw.1 c
      refine v_iload (pc := 68) 4 C dX12_missesOf_68 rfl ?_
      exact v_iret (pc := 70) C r hw dX12_missesOf_70
    · replace hw := hw.2 c
      refine v_iload (pc := 17) 4 C dX12_missesOf_17 rfl ?_
      refine v_iload_n (pc := 19) 3 C dX12_missesOf_19 rfl rfl ?_
      refine v_iconst (pc := 20) (v := 1) C dX12_missesOf_20 (by decide) ?_
      refine v_icmp_eq (pc := 21) (tgt := 36) C dX12_missesOf_21 (by decide) (fun c => ?_) (fun c => ?_)
      · replace hw := hw.1 c
        refine v_iconst (pc := 36) (v := 0) C dX12_missesOf_36 (by decide) ?_
        refine v_sub [0, 1, 2, 3, 5] rfl ?_
        exact w_X12_missesOf_J37 C r _ _ _ _ _ _ ih _ hw
      · replace hw := hw.2 c
        refine v_aload_n (pc := 24) 0 C dX12_missesOf_24 rfl rfl ?_
        refine v_iload_n (pc := 25) 1 C dX12_missesOf_25 rfl rfl ?_
        refine v_iload (pc := 26) 5 C dX12_missesOf_26 rfl ?_
        refine v_iload_n (pc := 28) 2 C dX12_missesOf_28 rfl rfl ?_
        refine v_iconst (pc := 29) (v := 0) C dX12_missesOf_29 (by decide) ?_
        refine v_cVi (pc := 30) (o := 33) (As := [.int x1, .int x5, .int x2, .int 0]) (rest := [.int x4]) (ci := 12) C (c_X12_missAt hw) pk_X12_missAt k_1402 rfl (by decide) rfl (by decide) rfl rfl (Nat.le_of_ble_eq_true rfl) dX12_missesOf_30 (fun r_3 σ_4 hw => ?_)
        refine v_goto (pc := 33) (tgt := 37) C dX12_missesOf_33 (by decide) ?_
        refine v_sub [0, 1, 2, 3, 5] rfl ?_
        exact w_X12_missesOf_J37 C r _ _ _ _ _ _ ih _ hw

theorem c_X12_missesOf {l : Launch} {G : Gl} {a1 : Int32} {a2 : Int32} {a3 : Int32} {σ : Mem} {P : Int32 → Mem → Prop} (hw : v_X12_missesOf a1 a2 a3 σ P) : MetI l yX12_missesOf cX12_missesOf 6 .int 3 G [.ref (gA G 33), .int a1, .int a2, .int a3] σ P := by
  refine MetI.of RX12 (by decide +kernel) rfl (Nat.le_of_ble_eq_true rfl) (fun X C r => ?_)
  show V X G 6 0 [(0, .ref (gA G 33)), (1, .int a1), (2, .int a2), (3, .int a3)] [] σ
  unfold v_X12_missesOf at hw
  refine v_iconst (pc := 0) (v := 0) C dX12_missesOf_0 (by decide) ?_
  refine v_istore (pc := 1) C dX12_missesOf_1 (by decide) rfl ?_
  refine v_iconst (pc := 3) (v := 0) C dX12_missesOf_3 (by decide) ?_
  refine v_istore (pc := 4) C dX12_missesOf_4 (by decide) rfl ?_
  refine v_sub [2, 3, 4, 5, 1, 0] rfl ?_
  refine w_X12_missesOf_L6 C r 5000 _ _ _ hw

theorem w_X12_step_J111 {X : Cx} {G : Gl} {P : Int32 → Mem → Prop} (C : Ck X G RX12 cX12_step 5 5) (r : RetI X G .int P) (xs0 : Int32) (xs1 : Int32) (xs2 : Int32) (xs3 : Int32) (σ : Mem) (hw : v_X12_step_J111 P xs0 xs1 xs2 xs3 σ) : V X G 5 111 [] [.int xs0, .int xs1, .int xs2, .int xs3, .ref (gA G 33)] σ := by
  unfold v_X12_step_J111 at hw
  refine v_cVi (pc := 111) (o := 33) (As := [.int xs3, .int xs2, .int xs1, .int xs0]) (rest := []) (ci := 12) C (c_X12_missAt hw) pk_X12_missAt k_1402 rfl (by decide) rfl (by decide) rfl rfl (Nat.le_of_ble_eq_true rfl) dX12_step_111 (fun r_12 σ_13 hw => ?_)
  exact v_iret (pc := 114) C r hw dX12_step_114

theorem c_X12_step {l : Launch} {G : Gl} {a1 : Int32} {a2 : Int32} {a3 : Int32} {σ : Mem} {P : Int32 → Mem → Prop} (hw : v_X12_step a1 a2 a3 σ P) : MetI l yX12_step cX12_step 5 .int 5 G [.ref (gA G 33), .int a1, .int a2, .int a3] σ P := by
  refine MetI.of RX12 (by decide +kernel) rfl (Nat.le_of_ble_eq_true rfl) (fun X C r => ?_)
  show V X G 5 0 [(0, .ref (gA G 33)), (1, .int a1), (2, .int a2), (3, .int a3)] [] σ
  unfold v_X12_step at hw
  refine v_aload_n (pc := 0) 0 C dX12_step_0 rfl rfl ?_
  refine v_iload_n (pc := 1) 1 C dX12_step_1 rfl rfl ?_
  refine v_iload_n (pc := 2) 2 C dX12_step_2 rfl rfl ?_
  refine v_cVi (pc := 3) (o := 33) (As := [.int a1, .int a2]) (rest := []) (ci := 12) C (c_X12_isStep hw) pk_X12_isStep k_1382 rfl (by decide) rfl (by decide) rfl rfl (Nat.le_of_ble_eq_true rfl) dX12_step_3 (fun r_1 σ_2 hw => ?_)
  refine v_if_ne (pc := 6) (tgt := 11) C dX12_step_6 (by decide) (fun c => ?_) (fun c => ?_)
  · replace hw := hw.2 c
    refine v_iload_n (pc := 11) 3 C dX12_step_11 rfl rfl ?_
    refine v_iconst (pc := 12) (v := 0) C dX12_step_12 (by decide) ?_
    refine v_iconst (pc := 13) (v := 3) C dX12_step_13 (by decide) ?_
    refine v_callSi (pc := 14) (As := [.int a3, .int 0, .int 3]) (rest := []) C (c_X12_within hw) pk_X12_within (Or.inl k_1234) (by decide) rfl rfl (Nat.le_of_ble_eq_true rfl) dX12_step_14 (fun r_3 σ_4 hw => ?_)
    refine v_if_ne (pc := 17) (tgt := 23) C dX12_step_17 (by decide) (fun c => ?_) (fun c => ?_)
    · replace hw := hw.2 c
      refine v_aload_n (pc := 23) 0 C dX12_step_23 rfl rfl ?_
      refine v_cVv (pc := 24) (o := 33) (As := []) (rest := []) (ci := 12) C (c_X12_findHolds hw) pk_X12_findHolds k_1349 rfl (by decide) rfl (by decide) rfl rfl (Nat.le_of_ble_eq_true rfl) dX12_step_24 (fun σ_5 hw => ?_)
      refine v_aload_n (pc := 27) 0 C dX12_step_27 rfl rfl ?_
      refine g_12_17 (pc := 28) C k_1131 dX12_step_28 ?_
      refine v_iload_n (pc := 31) 1 C dX12_step_31 rfl rfl ?_
      refine v_iald (pc := 32) C rfl hw.1 dX12_step_32 ?_
      replace hw := hw.2
      refine v_istore (pc := 33) C dX12_step_33 (by decide) rfl ?_
      refine v_iload_n (pc := 35) 4 C dX12_step_35 rfl rfl ?_
      by_cases c0 : a3 = 0
      · replace hw := hw.1 c0
        refine v_lookup (pc := 36) (tgt := 64) (off := 28) C dX12_step_36 (by decide) (by rw [c0]; rfl) (by decide) ?_
        refine v_aload_n (pc := 64) 1 C dX12_step_64 rfl rfl ?_
        refine v_iload_n (pc := 65) 2 C dX12_step_65 rfl rfl ?_
        refine v_iload_n (pc := 66) 3 C dX12_step_66 rfl rfl ?_
        refine v_iload (pc := 67) 0 C dX12_step_67 rfl ?_
        refine v_cVi (pc := 69) (o := 33) (As := [.int a1, .int a2, .int (σ_5.1 45 (Int32.toNatClampNeg a1))]) (rest := []) (ci := 12) C (c_X12_chordAt hw) pk_X12_chordAt k_1390 rfl (by decide) rfl (by decide) rfl rfl (Nat.le_of_ble_eq_true rfl) dX12_step_69 (fun r_6 σ_7 hw => ?_)
        exact v_iret (pc := 72) C r hw dX12_step_72
      · replace hw := hw.2 c0
        by_cases c1 : a3 = 1
        · replace hw := hw.1 c1
          refine v_lookup (pc := 36) (tgt := 73) (off := 37) C dX12_step_36 (by decide) (by rw [c1]; rfl) (by decide) ?_
          refine v_aload_n (pc := 73) 1 C dX12_step_73 rfl rfl ?_
          refine v_iload_n (pc := 74) 2 C dX12_step_74 rfl rfl ?_
          refine v_iload_n (pc := 75) 3 C dX12_step_75 rfl rfl ?_
          refine v_cVi (pc := 76) (o := 33) (As := [.int a1, .int a2]) (rest := []) (ci := 12) C (c_X12_hasNote hw) pk_X12_hasNote k_1394 rfl (by decide) rfl (by decide) rfl rfl (Nat.le_of_ble_eq_true rfl) dX12_step_76 (fun r_8 σ_9 hw => ?_)
          refine v_if_eq (pc := 79) (tgt := 93) C dX12_step_79 (by decide) (fun c => ?_) (fun c => ?_)
          · replace hw := hw.1 c
            refine v_bipush (pc := 93) (v := (-9)) C dX12_step_93 (by decide) ?_
            exact v_iret (pc := 95) C r hw dX12_step_95
          · replace hw := hw.2 c
            refine v_aload_n (pc := 82) 1 C dX12_step_82 rfl rfl ?_
            refine v_iload_n (pc := 83) 2 C dX12_step_83 rfl rfl ?_
            refine v_iload_n (pc := 84) 3 C dX12_step_84 rfl rfl ?_
            refine v_iload (pc := 85) 0 C dX12_step_85 rfl ?_
            refine v_cVi (pc := 87) (o := 33) (As := [.int a1, .int a2, .int (σ_5.1 45 (Int32.toNatClampNeg a1))]) (rest := []) (ci := 12) C (c_X12_noteAt hw) pk_X12_noteAt k_1398 rfl (by decide) rfl (by decide) rfl rfl (Nat.le_of_ble_eq_true rfl) dX12_step_87 (fun r_10 σ_11 hw => ?_)
            refine v_goto (pc := 90) (tgt := 95) C dX12_step_90 (by decide) ?_
            exact v_iret (pc := 95) C r hw dX12_step_95
        · replace hw := hw.2 c1
          refine v_lookup (pc := 36) (tgt := 96) (off := 60) C dX12_step_36 (by decide) (by have e0 := ne_toInt (k := 0) c0 (by decide); have e1 := ne_toInt (k := 1) c1 (by decide); simp [Op.lookupswitch.offset, e0, Ne.symm e0, e1, Ne.symm e1]) (by decide) ?_
          refine v_aload_n (pc := 96) 1 C dX12_step_96 rfl rfl ?_
          refine v_iload_n (pc := 97) 2 C dX12_step_97 rfl rfl ?_
          refine v_iload_n (pc := 98) 3 C dX12_step_98 rfl rfl ?_
          refine v_iload (pc := 99) 0 C dX12_step_99 rfl ?_
          refine v_iload_n (pc := 101) 4 C dX12_step_101 rfl rfl ?_
          refine v_iconst (pc := 102) (v := 3) C dX12_step_102 (by decide) ?_
          refine v_icmp_ne (pc := 103) (tgt := 110) C dX12_step_103 (by decide) (fun c => ?_) (fun c => ?_)
          · replace hw := hw.2 c
            refine v_iconst (pc := 110) (v := 0) C dX12_step_110 (by decide) ?_
            refine v_sub [] rfl ?_
            exact w_X12_step_J111 C r _ _ _ _ _ hw
          · replace hw := hw.1 c
            refine v_iconst (pc := 106) (v := 1) C dX12_step_106 (by decide) ?_
            refine v_goto (pc := 107) (tgt := 111) C dX12_step_107 (by decide) ?_
            refine v_sub [] rfl ?_
            exact w_X12_step_J111 C r _ _ _ _ _ hw
    · replace hw := hw.1 c
      refine v_bipush (pc := 20) (v := (-2)) C dX12_step_20 (by decide) ?_
      exact v_iret (pc := 22) C r hw dX12_step_22
  · replace hw := hw.1 c
    refine v_iconst (pc := 9) (v := (-1)) C dX12_step_9 (by decide) ?_
    exact v_iret (pc := 10) C r hw dX12_step_10

theorem c_X12_key {l : Launch} {G : Gl} {a1 : Int32} {a2 : Int32} {σ : Mem} {P : Int32 → Mem → Prop} (hw : v_X12_key a1 a2 σ P) : MetI l yX12_key cX12_key 4 .int 1 G [.ref (gA G 33), .int a1, .int a2] σ P := by
  refine MetI.of RX12 (by decide +kernel) rfl (Nat.le_of_ble_eq_true rfl) (fun X C r => ?_)
  show V X G 4 0 [(0, .ref (gA G 33)), (1, .int a1), (2, .int a2)] [] σ
  unfold v_X12_key at hw
  refine v_aload_n (pc := 0) 0 C dX12_key_0 rfl rfl ?_
  refine v_iload_n (pc := 1) 1 C dX12_key_1 rfl rfl ?_
  refine v_cVi (pc := 2) (o := 33) (As := [.int a1]) (rest := []) (ci := 12) C (c_X12_isSong hw) pk_X12_isSong k_1386 rfl (by decide) rfl (by decide) rfl rfl (Nat.le_of_ble_eq_true rfl) dX12_key_2 (fun r_1 σ_2 hw => ?_)
  refine v_if_ne (pc := 5) (tgt := 10) C dX12_key_5 (by decide) (fun c => ?_) (fun c => ?_)
  · replace hw := hw.2 c
    refine v_iload_n (pc := 10) 2 C dX12_key_10 rfl rfl ?_
    refine v_bipush (pc := 11) (v := (-6)) C dX12_key_11 (by decide) ?_
    refine v_iconst (pc := 13) (v := 5) C dX12_key_13 (by decide) ?_
    refine v_callSi (pc := 14) (As := [.int a2, .int (-6), .int 5]) (rest := []) C (c_X12_within hw) pk_X12_within (Or.inl k_1234) (by decide) rfl rfl (Nat.le_of_ble_eq_true rfl) dX12_key_14 (fun r_3 σ_4 hw => ?_)
    refine v_if_ne (pc := 17) (tgt := 23) C dX12_key_17 (by decide) (fun c => ?_) (fun c => ?_)
    · replace hw := hw.2 c
      refine v_aload_n (pc := 23) 0 C dX12_key_23 rfl rfl ?_
      refine g_12_17 (pc := 24) C k_1131 dX12_key_24 ?_
      refine v_iload_n (pc := 27) 1 C dX12_key_27 rfl rfl ?_
      refine v_iald (pc := 28) C rfl hw.1 dX12_key_28 ?_
      replace hw := hw.2
      refine v_istore_n (pc := 29) C dX12_key_29 rfl (by decide) rfl ?_
      refine v_aload_n (pc := 30) 1 C dX12_key_30 rfl rfl ?_
      refine g_12_17 (pc := 31) C k_1131 dX12_key_31 ?_
      refine v_iload_n (pc := 34) 2 C dX12_key_34 rfl rfl ?_
      refine v_iload_n (pc := 35) 3 C dX12_key_35 rfl rfl ?_
      refine v_iast (pc := 36) C rfl hw.1 dX12_key_36 ?_
      replace hw := hw.2
      refine v_iload_n (pc := 37) 0 C dX12_key_37 rfl rfl ?_
      exact v_iret (pc := 38) C r hw dX12_key_38
    · replace hw := hw.1 c
      refine v_bipush (pc := 20) (v := (-2)) C dX12_key_20 (by decide) ?_
      exact v_iret (pc := 22) C r hw dX12_key_22
  · replace hw := hw.1 c
    refine v_iconst (pc := 8) (v := (-1)) C dX12_key_8 (by decide) ?_
    exact v_iret (pc := 9) C r hw dX12_key_9

theorem c_X12_misses {l : Launch} {G : Gl} {a1 : Int32} {a2 : Int32} {σ : Mem} {P : Int32 → Mem → Prop} (hw : v_X12_misses a1 a2 σ P) : MetI l yX12_misses cX12_misses 3 .int 5 G [.ref (gA G 33), .int a1, .int a2] σ P := by
  refine MetI.of RX12 (by decide +kernel) rfl (Nat.le_of_ble_eq_true rfl) (fun X C r => ?_)
  show V X G 3 0 [(0, .ref (gA G 33)), (1, .int a1), (2, .int a2)] [] σ
  unfold v_X12_misses at hw
  refine v_aload_n (pc := 0) 0 C dX12_misses_0 rfl rfl ?_
  refine v_iload_n (pc := 1) 1 C dX12_misses_1 rfl rfl ?_
  refine v_cVi (pc := 2) (o := 33) (As := [.int a1]) (rest := []) (ci := 12) C (c_X12_isSong hw) pk_X12_isSong k_1386 rfl (by decide) rfl (by decide) rfl rfl (Nat.le_of_ble_eq_true rfl) dX12_misses_2 (fun r_1 σ_2 hw => ?_)
  refine v_if_ne (pc := 5) (tgt := 10) C dX12_misses_5 (by decide) (fun c => ?_) (fun c => ?_)
  · replace hw := hw.2 c
    refine v_iload_n (pc := 10) 2 C dX12_misses_10 rfl rfl ?_
    refine v_iconst (pc := 11) (v := 0) C dX12_misses_11 (by decide) ?_
    refine v_iconst (pc := 12) (v := 4) C dX12_misses_12 (by decide) ?_
    refine v_callSi (pc := 13) (As := [.int a2, .int 0, .int 4]) (rest := []) C (c_X12_within hw) pk_X12_within (Or.inl k_1234) (by decide) rfl rfl (Nat.le_of_ble_eq_true rfl) dX12_misses_13 (fun r_3 σ_4 hw => ?_)
    refine v_if_ne (pc := 16) (tgt := 22) C dX12_misses_16 (by decide) (fun c => ?_) (fun c => ?_)
    · replace hw := hw.2 c
      refine v_iload_n (pc := 22) 2 C dX12_misses_22 rfl rfl ?_
      refine v_iconst (pc := 23) (v := 2) C dX12_misses_23 (by decide) ?_
      refine v_icmp_le (pc := 24) (tgt := 48) C dX12_misses_24 (by decide) (fun c => ?_) (fun c => ?_)
      · replace hw := hw.1 c
        refine v_aload_n (pc := 48) 0 C dX12_misses_48 rfl rfl ?_
        refine v_cVv (pc := 49) (o := 33) (As := []) (rest := []) (ci := 12) C (c_X12_findHolds hw) pk_X12_findHolds k_1349 rfl (by decide) rfl (by decide) rfl rfl (Nat.le_of_ble_eq_true rfl) dX12_misses_49 (fun σ_5 hw => ?_)
        refine v_aload_n (pc := 52) 0 C dX12_misses_52 rfl rfl ?_
        refine v_iload_n (pc := 53) 1 C dX12_misses_53 rfl rfl ?_
        refine v_aload_n (pc := 54) 0 C dX12_misses_54 rfl rfl ?_
        refine g_12_17 (pc := 55) C k_1131 dX12_misses_55 ?_
        refine v_iload_n (pc := 58) 1 C dX12_misses_58 rfl rfl ?_
        refine v_iald (pc := 59) C rfl hw.1 dX12_misses_59 ?_
        replace hw := hw.2
        refine v_iload_n (pc := 60) 2 C dX12_misses_60 rfl rfl ?_
        refine v_cVi (pc := 61) (o := 33) (As := [.int a1, .int (σ_5.1 45 (Int32.toNatClampNeg a1)), .int a2]) (rest := []) (ci := 12) C (c_X12_missesOf hw) pk_X12_missesOf k_1422 rfl (by decide) rfl (by decide) rfl rfl (Nat.le_of_ble_eq_true rfl) dX12_misses_61 (fun r_6 σ_7 hw => ?_)
        exact v_iret (pc := 64) C r hw dX12_misses_64
      · replace hw := hw.2 c
        refine v_iload_n (pc := 27) 2 C dX12_misses_27 rfl rfl ?_
        refine v_iconst (pc := 28) (v := 3) C dX12_misses_28 (by decide) ?_
        refine v_icmp_ne (pc := 29) (tgt := 41) C dX12_misses_29 (by decide) (fun c => ?_) (fun c => ?_)
        · replace hw := hw.2 c
          refine v_aload_n (pc := 41) 0 C dX12_misses_41 rfl rfl ?_
          refine g_12_17 (pc := 42) C k_1131 dX12_misses_42 ?_
          refine v_iload_n (pc := 45) 1 C dX12_misses_45 rfl rfl ?_
          refine v_iald (pc := 46) C rfl hw.1 dX12_misses_46 ?_
          replace hw := hw.2
          exact v_iret (pc := 47) C r hw dX12_misses_47
        · replace hw := hw.1 c
          refine v_aload_n (pc := 32) 0 C dX12_misses_32 rfl rfl ?_
          refine g_12_16 (pc := 33) C k_1130 dX12_misses_33 ?_
          refine v_iload_n (pc := 36) 1 C dX12_misses_36 rfl rfl ?_
          refine v_iald (pc := 37) C rfl hw.1 dX12_misses_37 ?_
          replace hw := hw.2
          refine v_goto (pc := 38) (tgt := 47) C dX12_misses_38 (by decide) ?_
          exact v_iret (pc := 47) C r hw dX12_misses_47
    · replace hw := hw.1 c
      refine v_bipush (pc := 19) (v := (-2)) C dX12_misses_19 (by decide) ?_
      exact v_iret (pc := 21) C r hw dX12_misses_21
  · replace hw := hw.1 c
    refine v_iconst (pc := 8) (v := (-1)) C dX12_misses_8 (by decide) ?_
    exact v_iret (pc := 9) C r hw dX12_misses_9

theorem w_X12_bestKey_J57 {X : Cx} {G : Gl} {P : Int32 → Mem → Prop} {kb : Int32 → Int32 → Int32 → Mem → Prop} {K96 : Int32 → Int32 → Mem → Prop} (C : Ck X G RX12 cX12_bestKey 8 5) (r : RetI X G .int P) (x1 : Int32) (x2 : Int32) (x3 : Int32) (x4 : Int32) (x5 : Int32) (xs0 : Int32) (hkb : ∀ (x2 : Int32) (x3 : Int32) (x5 : Int32) (σ : Mem), kb x2 x3 x5 σ → V X G 8 38 [(0, .ref (gA G 33)), (1, .int x1), (2, .int x2), (3, .int x3), (4, .int x4), (5, .int x5)] [] σ) (hK96 : ∀ (x2 : Int32) (x3 : Int32) (σ : Mem), K96 x2 x3 σ → V X G 8 96 [(0, .ref (gA G 33)), (1, .int x1), (2, .int x2), (3, .int x3), (4, .int x4)] [] σ) (σ : Mem) (hw : v_X12_bestKey_J57 kb K96 P x1 x2 x3 x4 x5 xs0 σ) : V X G 8 57 [(0, .ref (gA G 33)), (1, .int x1), (2, .int x2), (3, .int x3), (4, .int x4), (5, .int x5)] [.int xs0] σ := by
  unfold v_X12_bestKey_J57 at hw
  refine v_istore (pc := 57) C dX12_bestKey_57 (by decide) rfl ?_
  refine v_iload (pc := 59) 0 C dX12_bestKey_59 rfl ?_
  refine v_iconst (pc := 61) (v := 5) C dX12_bestKey_61 (by decide) ?_
  refine v_icmp_le (pc := 62) (tgt := 68) C dX12_bestKey_62 (by decide) (fun c => ?_) (fun c => ?_)
  · replace hw := hw.1 c
    refine v_aload_n (pc := 68) 1 C dX12_bestKey_68 rfl rfl ?_
    refine v_iload_n (pc := 69) 2 C dX12_bestKey_69 rfl rfl ?_
    refine v_iload (pc := 70) 0 C dX12_bestKey_70 rfl ?_
    refine v_iconst (pc := 72) (v := 2) C dX12_bestKey_72 (by decide) ?_
    refine v_cVi (pc := 73) (o := 33) (As := [.int x1, .int xs0, .int 2]) (rest := []) (ci := 12) C (c_X12_missesOf hw) pk_X12_missesOf k_1422 rfl (by decide) rfl (by decide) rfl rfl (Nat.le_of_ble_eq_true rfl) dX12_bestKey_73 (fun r_6 σ_7 hw => ?_)
    refine v_istore (pc := 76) C dX12_bestKey_76 (by decide) rfl ?_
    refine v_iload (pc := 78) 0 C dX12_bestKey_78 rfl ?_
    refine v_iload_n (pc := 80) 5 C dX12_bestKey_80 rfl rfl ?_
    refine v_icmp_ge (pc := 81) (tgt := 90) C dX12_bestKey_81 (by decide) (fun c => ?_) (fun c => ?_)
    · replace hw := hw.1 c
      refine v_iinc (pc := 90) (v := x5 + 1) 7 C dX12_bestKey_90 rfl rfl (by decide) rfl ?_
      refine v_goto (pc := 93) (tgt := 38) C dX12_bestKey_93 (by decide) ?_
      refine v_sub [3, 4, 5, 6, 7, 0] rfl ?_
      exact hkb _ _ _ _ hw
    · replace hw := hw.2 c
      refine v_iload (pc := 84) 0 C dX12_bestKey_84 rfl ?_
      refine v_istore_n (pc := 86) C dX12_bestKey_86 rfl (by decide) rfl ?_
      refine v_iload (pc := 87) 2 C dX12_bestKey_87 rfl ?_
      refine v_istore_n (pc := 89) C dX12_bestKey_89 rfl (by decide) rfl ?_
      refine v_iinc (pc := 90) (v := x5 + 1) 7 C dX12_bestKey_90 rfl rfl (by decide) rfl ?_
      refine v_goto (pc := 93) (tgt := 38) C dX12_bestKey_93 (by decide) ?_
      refine v_sub [5, 6, 1, 2, 7, 0] rfl ?_
      exact hkb _ _ _ _ hw
  · replace hw := hw.2 c
    refine v_goto (pc := 65) (tgt := 90) C dX12_bestKey_65 (by decide) ?_
    refine v_iinc (pc := 90) (v := x5 + 1) 6 C dX12_bestKey_90 rfl rfl (by decide) rfl ?_
    refine v_goto (pc := 93) (tgt := 38) C dX12_bestKey_93 (by decide) ?_
    refine v_sub [2, 3, 4, 5, 6, 0] rfl ?_
    exact hkb _ _ _ _ hw

theorem w_X12_bestKey_L38 {X : Cx} {G : Gl} {P : Int32 → Mem → Prop} {x1 : Int32} {x4 : Int32} {K96 : Int32 → Int32 → Mem → Prop} (C : Ck X G RX12 cX12_bestKey 8 5) (r : RetI X G .int P) (hK96 : ∀ (x2 : Int32) (x3 : Int32) (σ : Mem), K96 x2 x3 σ → V X G 8 96 [(0, .ref (gA G 33)), (1, .int x1), (2, .int x2), (3, .int x3), (4, .int x4)] [] σ) : ∀ (n : Nat) (x2 : Int32) (x3 : Int32) (x5 : Int32) (σ : Mem), v_X12_bestKey_L38 x1 x4 K96 P n x2 x3 x5 σ → V X G 8 38 [(0, .ref (gA G 33)), (1, .int x1), (2, .int x2), (3, .int x3), (4, .int x4), (5, .int x5)] [] σ := by
  intro n
  induction n with
  | zero => intro x2 x3 x5 σ hw; exact hw.elim
  | succ n ih =>
    intro x2 x3 x5 σ hw
    refine v_iload (pc := 38) 5 C dX12_bestKey_38 rfl ?_
    refine v_iconst (pc := 40) (v := 2) C dX12_bestKey_40 (by decide) ?_
    refine v_icmp_ge (pc := 41) (tgt := 96) C dX12_bestKey_41 (by decide) (fun c => ?_) (fun c => ?_)
    · replace hw := hw.1 c
      refine v_sub [0, 1, 2, 3, 4] rfl ?_
      exact hK96 _ _ _ hw
    · replace hw := hw.2 c
      refine v_iload (pc := 44) 5 C dX12_bestKey_44 rfl ?_
      refine v_if_ne (pc := 46) (tgt := 54) C dX12_bestKey_46 (by decide) (fun c => ?_) (fun c => ?_)
      · replace hw := hw.2 c
        refine v_iload (pc := 54) 4 C dX12_bestKey_54 rfl ?_
        refine v_ineg (pc := 56) C dX12_bestKey_56 ?_
        refine v_sub [0, 1, 2, 3, 4, 5] rfl ?_
        exact w_X12_bestKey_J57 C r _ _ _ _ _ _ ih hK96 _ hw
      · replace hw := hw.1 c
        refine v_iload (pc := 49) 4 C dX12_bestKey_49 rfl ?_
        refine v_goto (pc := 51) (tgt := 57) C dX12_bestKey_51 (by decide) ?_
        refine v_sub [0, 1, 2, 3, 4, 5] rfl ?_
        exact w_X12_bestKey_J57 C r _ _ _ _ _ _ ih hK96 _ hw

theorem w_X12_bestKey_L28 {X : Cx} {G : Gl} {P : Int32 → Mem → Prop} {x1 : Int32} (C : Ck X G RX12 cX12_bestKey 8 5) (r : RetI X G .int P) : ∀ (n : Nat) (x2 : Int32) (x3 : Int32) (x4 : Int32) (σ : Mem), v_X12_bestKey_L28 x1 P n x2 x3 x4 σ → V X G 8 28 [(0, .ref (gA G 33)), (1, .int x1), (2, .int x2), (3, .int x3), (4, .int x4)] [] σ := by
  intro n
  induction n with
  | zero => intro x2 x3 x4 σ hw; exact hw.elim
  | succ n ih =>
    intro x2 x3 x4 σ hw
    refine v_iload (pc := 28) 4 C dX12_bestKey_28 rfl ?_
    refine v_bipush (pc := 30) (v := 6) C dX12_bestKey_30 (by decide) ?_
    refine v_icmp_gt (pc := 32) (tgt := 102) C dX12_bestKey_32 (by decide) (fun c => ?_) (fun c => ?_)
    · replace hw := hw.1 c
      refine v_iload_n (pc := 102) 2 C dX12_bestKey_102 rfl rfl ?_
      exact v_iret (pc := 103) C r hw dX12_bestKey_103
    · replace hw := hw.2 c
      refine v_iconst (pc := 35) (v := 0) C dX12_bestKey_35 (by decide) ?_
      refine v_istore (pc := 36) C dX12_bestKey_36 (by decide) rfl ?_
      refine v_sub [1, 2, 3, 4, 5, 0] rfl ?_
      refine w_X12_bestKey_L38 C r ?_ 5000 _ _ _ _ hw
      · intro x2_8 x3_8 σ_9 hw
        refine v_iinc (pc := 96) (v := x4 + 1) 4 C dX12_bestKey_96 rfl rfl (by decide) rfl ?_
        refine v_goto (pc := 99) (tgt := 28) C dX12_bestKey_99 (by decide) ?_
        refine v_sub [1, 2, 3, 4, 0] rfl ?_
        exact ih _ _ _ _ hw

theorem c_X12_bestKey {l : Launch} {G : Gl} {a1 : Int32} {σ : Mem} {P : Int32 → Mem → Prop} (hw : v_X12_bestKey a1 σ P) : MetI l yX12_bestKey cX12_bestKey 8 .int 5 G [.ref (gA G 33), .int a1] σ P := by
  refine MetI.of RX12 (by decide +kernel) rfl (Nat.le_of_ble_eq_true rfl) (fun X C r => ?_)
  show V X G 8 0 [(0, .ref (gA G 33)), (1, .int a1)] [] σ
  unfold v_X12_bestKey at hw
  refine v_aload_n (pc := 0) 0 C dX12_bestKey_0 rfl rfl ?_
  refine v_iload_n (pc := 1) 1 C dX12_bestKey_1 rfl rfl ?_
  refine v_cVi (pc := 2) (o := 33) (As := [.int a1]) (rest := []) (ci := 12) C (c_X12_isSong hw) pk_X12_isSong k_1386 rfl (by decide) rfl (by decide) rfl rfl (Nat.le_of_ble_eq_true rfl) dX12_bestKey_2 (fun r_1 σ_2 hw => ?_)
  refine v_if_ne (pc := 5) (tgt := 11) C dX12_bestKey_5 (by decide) (fun c => ?_) (fun c => ?_)
  · replace hw := hw.2 c
    refine v_aload_n (pc := 11) 0 C dX12_bestKey_11 rfl rfl ?_
    refine v_cVv (pc := 12) (o := 33) (As := []) (rest := []) (ci := 12) C (c_X12_findHolds hw) pk_X12_findHolds k_1349 rfl (by decide) rfl (by decide) rfl rfl (Nat.le_of_ble_eq_true rfl) dX12_bestKey_12 (fun σ_3 hw => ?_)
    refine v_iconst (pc := 15) (v := 0) C dX12_bestKey_15 (by decide) ?_
    refine v_istore_n (pc := 16) C dX12_bestKey_16 rfl (by decide) rfl ?_
    refine v_aload_n (pc := 17) 1 C dX12_bestKey_17 rfl rfl ?_
    refine v_iload_n (pc := 18) 2 C dX12_bestKey_18 rfl rfl ?_
    refine v_iconst (pc := 19) (v := 0) C dX12_bestKey_19 (by decide) ?_
    refine v_iconst (pc := 20) (v := 2) C dX12_bestKey_20 (by decide) ?_
    refine v_cVi (pc := 21) (o := 33) (As := [.int a1, .int 0, .int 2]) (rest := []) (ci := 12) C (c_X12_missesOf hw) pk_X12_missesOf k_1422 rfl (by decide) rfl (by decide) rfl rfl (Nat.le_of_ble_eq_true rfl) dX12_bestKey_21 (fun r_4 σ_5 hw => ?_)
    refine v_istore_n (pc := 24) C dX12_bestKey_24 rfl (by decide) rfl ?_
    refine v_iconst (pc := 25) (v := 1) C dX12_bestKey_25 (by decide) ?_
    refine v_istore (pc := 26) C dX12_bestKey_26 (by decide) rfl ?_
    refine v_sub [3, 4, 2, 1, 0] rfl ?_
    refine w_X12_bestKey_L28 C r 5000 _ _ _ _ hw
  · replace hw := hw.1 c
    refine v_bipush (pc := 8) (v := 99) C dX12_bestKey_8 (by decide) ?_
    exact v_iret (pc := 10) C r hw dX12_bestKey_10

theorem w_X12_played_L8 {X : Cx} {G : Gl} {P : Int32 → Mem → Prop} (C : Ck X G RX12 cX12_played 3 5) (r : RetI X G .int P) : ∀ (n : Nat) (x1 : Int32) (x2 : Int32) (σ : Mem), v_X12_played_L8 P n x1 x2 σ → V X G 3 8 [(0, .ref (gA G 33)), (1, .int x1), (2, .int x2)] [] σ := by
  intro n
  induction n with
  | zero => intro x1 x2 σ hw; exact hw.elim
  | succ n ih =>
    intro x1 x2 σ hw
    refine v_iload_n (pc := 8) 2 C dX12_played_8 rfl rfl ?_
    refine v_aload_n (pc := 9) 0 C dX12_played_9 rfl rfl ?_
    refine g_12_15 (pc := 10) C k_1129 dX12_played_10 ?_
    refine v_icmp_ge (pc := 13) (tgt := 47) C dX12_played_13 (by decide) (fun c => ?_) (fun c => ?_)
    · replace hw := hw.1 c
      refine v_iload_n (pc := 47) 1 C dX12_played_47 rfl rfl ?_
      exact v_iret (pc := 48) C r hw dX12_played_48
    · replace hw := hw.2 c
      refine v_iload_n (pc := 16) 1 C dX12_played_16 rfl rfl ?_
      refine v_aload_n (pc := 17) 0 C dX12_played_17 rfl rfl ?_
      refine v_iload_n (pc := 18) 2 C dX12_played_18 rfl rfl ?_
      refine v_aload_n (pc := 19) 0 C dX12_played_19 rfl rfl ?_
      refine g_12_17 (pc := 20) C k_1131 dX12_played_20 ?_
      refine v_iload_n (pc := 23) 2 C dX12_played_23 rfl rfl ?_
      refine v_iald (pc := 24) C rfl hw.1 dX12_played_24 ?_
      replace hw := hw.2
      refine v_iconst (pc := 25) (v := 2) C dX12_played_25 (by decide) ?_
      refine v_cVi (pc := 26) (o := 33) (As := [.int x2, .int (σ.1 45 (Int32.toNatClampNeg x2)), .int 2]) (rest := [.int x1]) (ci := 12) C (c_X12_missesOf hw) pk_X12_missesOf k_1422 rfl (by decide) rfl (by decide) rfl rfl (Nat.le_of_ble_eq_true rfl) dX12_played_26 (fun r_2 σ_3 hw => ?_)
      refine v_if_ne (pc := 29) (tgt := 38) C dX12_played_29 (by decide) (fun c => ?_) (fun c => ?_)
      · replace hw := hw.2 c
        refine v_iconst (pc := 38) (v := 0) C dX12_played_38 (by decide) ?_
        refine v_ior (pc := 39) C dX12_played_39 ?_
        refine v_istore_n (pc := 40) C dX12_played_40 rfl (by decide) rfl ?_
        refine v_iinc (pc := 41) (v := x2 + 1) 2 C dX12_played_41 rfl rfl (by decide) rfl ?_
        refine v_goto (pc := 44) (tgt := 8) C dX12_played_44 (by decide) ?_
        refine v_sub [2, 1, 0] rfl ?_
        exact ih _ _ _ hw
      · replace hw := hw.1 c
        refine v_iconst (pc := 32) (v := 1) C dX12_played_32 (by decide) ?_
        refine v_iload_n (pc := 33) 2 C dX12_played_33 rfl rfl ?_
        refine v_ishl (pc := 34) C dX12_played_34 ?_
        refine v_goto (pc := 35) (tgt := 39) C dX12_played_35 (by decide) ?_
        refine v_ior (pc := 39) C dX12_played_39 ?_
        refine v_istore_n (pc := 40) C dX12_played_40 rfl (by decide) rfl ?_
        refine v_iinc (pc := 41) (v := x2 + 1) 2 C dX12_played_41 rfl rfl (by decide) rfl ?_
        refine v_goto (pc := 44) (tgt := 8) C dX12_played_44 (by decide) ?_
        refine v_sub [2, 1, 0] rfl ?_
        exact ih _ _ _ hw

theorem c_X12_played {l : Launch} {G : Gl} {σ : Mem} {P : Int32 → Mem → Prop} (hw : v_X12_played σ P) : MetI l yX12_played cX12_played 3 .int 5 G [.ref (gA G 33)] σ P := by
  refine MetI.of RX12 (by decide +kernel) rfl (Nat.le_of_ble_eq_true rfl) (fun X C r => ?_)
  show V X G 3 0 [(0, .ref (gA G 33))] [] σ
  unfold v_X12_played at hw
  refine v_aload_n (pc := 0) 0 C dX12_played_0 rfl rfl ?_
  refine v_cVv (pc := 1) (o := 33) (As := []) (rest := []) (ci := 12) C (c_X12_findHolds hw) pk_X12_findHolds k_1349 rfl (by decide) rfl (by decide) rfl rfl (Nat.le_of_ble_eq_true rfl) dX12_played_1 (fun σ_1 hw => ?_)
  refine v_iconst (pc := 4) (v := 0) C dX12_played_4 (by decide) ?_
  refine v_istore_n (pc := 5) C dX12_played_5 rfl (by decide) rfl ?_
  refine v_iconst (pc := 6) (v := 0) C dX12_played_6 (by decide) ?_
  refine v_istore_n (pc := 7) C dX12_played_7 rfl (by decide) rfl ?_
  refine v_sub [2, 1, 0] rfl ?_
  refine w_X12_played_L8 C r 5000 _ _ _ hw

theorem c_X12_playable {l : Launch} {G : Gl} {σ : Mem} {P : Int32 → Mem → Prop} (hw : v_X12_playable σ P) : MetI l yX12_playable cX12_playable 1 .int 6 G [.ref (gA G 33)] σ P := by
  refine MetI.of RX12 (by decide +kernel) rfl (Nat.le_of_ble_eq_true rfl) (fun X C r => ?_)
  show V X G 1 0 [(0, .ref (gA G 33))] [] σ
  unfold v_X12_playable at hw
  refine v_aload_n (pc := 0) 0 C dX12_playable_0 rfl rfl ?_
  refine v_cVi (pc := 1) (o := 33) (As := []) (rest := []) (ci := 12) C (c_X12_played hw) pk_X12_played k_1434 rfl (by decide) rfl (by decide) rfl rfl (Nat.le_of_ble_eq_true rfl) dX12_playable_1 (fun r_1 σ_2 hw => ?_)
  exact v_iret (pc := 4) C r hw dX12_playable_4

theorem w_X12_offer_L12 {X : Cx} {G : Gl} {P : Int32 → Mem → Prop} {x1 : Int32} {K39 : Mem → Prop} (C : Ck X G RX12 cX12_offer 3 2) (r : RetI X G .int P) (hK39 : ∀ (σ : Mem), K39 σ → V X G 3 39 [(0, .ref (gA G 33)), (1, .int x1)] [] σ) : ∀ (n : Nat) (x2 : Int32) (σ : Mem), v_X12_offer_L12 x1 K39 P n x2 σ → V X G 3 12 [(0, .ref (gA G 33)), (1, .int x1), (2, .int x2)] [] σ := by
  intro n
  induction n with
  | zero => intro x2 σ hw; exact hw.elim
  | succ n ih =>
    intro x2 σ hw
    refine v_iload_n (pc := 12) 2 C dX12_offer_12 rfl rfl ?_
    refine v_aload_n (pc := 13) 0 C dX12_offer_13 rfl rfl ?_
    refine g_12_23 (pc := 14) C k_1137 dX12_offer_14 ?_
    refine v_icmp_ge (pc := 17) (tgt := 39) C dX12_offer_17 (by decide) (fun c => ?_) (fun c => ?_)
    · replace hw := hw.1 c
      refine v_sub [0, 1] rfl ?_
      exact hK39 _ hw
    · replace hw := hw.2 c
      refine v_aload_n (pc := 20) 0 C dX12_offer_20 rfl rfl ?_
      refine g_12_24 (pc := 21) C k_1138 dX12_offer_21 ?_
      refine v_iload_n (pc := 24) 2 C dX12_offer_24 rfl rfl ?_
      refine v_iald (pc := 25) C rfl hw.1 dX12_offer_25 ?_
      replace hw := hw.2
      refine v_iload_n (pc := 26) 1 C dX12_offer_26 rfl rfl ?_
      refine v_icmp_ne (pc := 27) (tgt := 33) C dX12_offer_27 (by decide) (fun c => ?_) (fun c => ?_)
      · replace hw := hw.2 c
        refine v_iinc (pc := 33) (v := x2 + 1) 2 C dX12_offer_33 rfl rfl (by decide) rfl ?_
        refine v_goto (pc := 36) (tgt := 12) C dX12_offer_36 (by decide) ?_
        refine v_sub [1, 2, 0] rfl ?_
        exact ih _ _ hw
      · replace hw := hw.1 c
        refine v_bipush (pc := 30) (v := (-3)) C dX12_offer_30 (by decide) ?_
        exact v_iret (pc := 32) C r hw dX12_offer_32

theorem c_X12_offer {l : Launch} {G : Gl} {a1 : Int32} {σ : Mem} {P : Int32 → Mem → Prop} (hw : v_X12_offer a1 σ P) : MetI l yX12_offer cX12_offer 3 .int 2 G [.ref (gA G 33), .int a1] σ P := by
  refine MetI.of RX12 (by decide +kernel) rfl (Nat.le_of_ble_eq_true rfl) (fun X C r => ?_)
  show V X G 3 0 [(0, .ref (gA G 33)), (1, .int a1)] [] σ
  unfold v_X12_offer at hw
  refine v_iload_n (pc := 0) 1 C dX12_offer_0 rfl rfl ?_
  refine v_callSi (pc := 1) (As := [.int a1]) (rest := []) C (c_X12_isChord hw) pk_X12_isChord (Or.inl k_1249) (by decide) rfl rfl (Nat.le_of_ble_eq_true rfl) dX12_offer_1 (fun r_1 σ_2 hw => ?_)
  refine v_if_ne (pc := 4) (tgt := 10) C dX12_offer_4 (by decide) (fun c => ?_) (fun c => ?_)
  · replace hw := hw.2 c
    refine v_iconst (pc := 10) (v := 0) C dX12_offer_10 (by decide) ?_
    refine v_istore_n (pc := 11) C dX12_offer_11 rfl (by decide) rfl ?_
    refine v_sub [1, 2, 0] rfl ?_
    refine w_X12_offer_L12 C r ?_ 5000 _ _ hw
    · intro σ_4 hw
      refine v_aload_n (pc := 39) 0 C dX12_offer_39 rfl rfl ?_
      refine g_12_23 (pc := 40) C k_1137 dX12_offer_40 ?_
      refine v_bipush (pc := 43) (v := 12) C dX12_offer_43 (by decide) ?_
      refine v_icmp_ne (pc := 45) (tgt := 51) C dX12_offer_45 (by decide) (fun c => ?_) (fun c => ?_)
      · replace hw := hw.2 c
        refine v_aload_n (pc := 51) 0 C dX12_offer_51 rfl rfl ?_
        refine g_12_24 (pc := 52) C k_1138 dX12_offer_52 ?_
        refine v_aload_n (pc := 55) 0 C dX12_offer_55 rfl rfl ?_
        refine g_12_23 (pc := 56) C k_1137 dX12_offer_56 ?_
        refine v_iload_n (pc := 59) 1 C dX12_offer_59 rfl rfl ?_
        refine v_iast (pc := 60) C rfl hw.1 dX12_offer_60 ?_
        replace hw := hw.2
        refine v_aload_n (pc := 61) 0 C dX12_offer_61 rfl rfl ?_
        refine v_dup (pc := 62) C dX12_offer_62 rfl ?_
        refine g_12_23 (pc := 63) C k_1137 dX12_offer_63 ?_
        refine v_iconst (pc := 66) (v := 1) C dX12_offer_66 (by decide) ?_
        refine v_iadd (pc := 67) C dX12_offer_67 ?_
        refine p_12_23 (pc := 68) C k_1137 dX12_offer_68 ?_
        refine v_aload_n (pc := 71) 0 C dX12_offer_71 rfl rfl ?_
        refine g_12_23 (pc := 72) C k_1137 dX12_offer_72 ?_
        refine v_iconst (pc := 75) (v := 1) C dX12_offer_75 (by decide) ?_
        refine v_isub (pc := 76) C dX12_offer_76 ?_
        exact v_iret (pc := 77) C r hw dX12_offer_77
      · replace hw := hw.1 c
        refine v_bipush (pc := 48) (v := (-4)) C dX12_offer_48 (by decide) ?_
        exact v_iret (pc := 50) C r hw dX12_offer_50
  · replace hw := hw.1 c
    refine v_bipush (pc := 7) (v := (-2)) C dX12_offer_7 (by decide) ?_
    exact v_iret (pc := 9) C r hw dX12_offer_9

theorem w_X12_findPairs_J69 {X : Cx} {G : Gl} {P : Mem → Prop} {kb : Int32 → Int32 → Mem → Prop} {K107 : Int32 → Mem → Prop} (C : Ck X G RX12 cX12_findPairs 6 3) (r : RetV X G P) (x1 : Int32) (x2 : Int32) (x3 : Int32) (x4 : Int32) (xs0 : Int32) (hkb : ∀ (x3 : Int32) (x4 : Int32) (σ : Mem), kb x3 x4 σ → V X G 6 25 [(0, .ref (gA G 33)), (1, .int x1), (2, .int x2), (3, .int x3), (4, .int x4)] [] σ) (hK107 : ∀ (x3 : Int32) (σ : Mem), K107 x3 σ → V X G 6 107 [(0, .ref (gA G 33)), (1, .int x1), (2, .int x2), (3, .int x3)] [] σ) (σ : Mem) (hw : v_X12_findPairs_J69 kb K107 P x1 x2 x3 x4 xs0 σ) : V X G 6 69 [(0, .ref (gA G 33)), (1, .int x1), (2, .int x2), (3, .int x3), (4, .int x4)] [.int xs0] σ := by
  unfold v_X12_findPairs_J69 at hw
  refine v_istore (pc := 69) C dX12_findPairs_69 (by decide) rfl ?_
  refine v_iload_n (pc := 71) 4 C dX12_findPairs_71 rfl rfl ?_
  refine v_aload_n (pc := 72) 1 C dX12_findPairs_72 rfl rfl ?_
  refine g_12_4 (pc := 73) C k_1118 dX12_findPairs_73 ?_
  refine v_iload (pc := 76) 5 C dX12_findPairs_76 rfl ?_
  refine v_zald (pc := 78) C rfl hw.1 dX12_findPairs_78 ?_
  replace hw := hw.2
  refine v_if_ne (pc := 79) (tgt := 98) C dX12_findPairs_79 (by decide) (fun c => ?_) (fun c => ?_)
  · replace hw := hw.2 c
    refine v_iconst (pc := 98) (v := 0) C dX12_findPairs_98 (by decide) ?_
    refine v_ior (pc := 99) C dX12_findPairs_99 ?_
    refine v_istore_n (pc := 100) C dX12_findPairs_100 rfl (by decide) rfl ?_
    refine v_iinc (pc := 101) (v := x4 + 1) 5 C dX12_findPairs_101 rfl rfl (by decide) rfl ?_
    refine v_goto (pc := 104) (tgt := 25) C dX12_findPairs_104 (by decide) ?_
    refine v_sub [3, 4, 5, 1, 0] rfl ?_
    exact hkb _ _ _ hw
  · replace hw := hw.1 c
    refine v_iload (pc := 82) 0 C dX12_findPairs_82 rfl ?_
    refine v_if_ne (pc := 84) (tgt := 98) C dX12_findPairs_84 (by decide) (fun c => ?_) (fun c => ?_)
    · replace hw := hw.2 c
      refine v_iconst (pc := 98) (v := 0) C dX12_findPairs_98 (by decide) ?_
      refine v_ior (pc := 99) C dX12_findPairs_99 ?_
      refine v_istore_n (pc := 100) C dX12_findPairs_100 rfl (by decide) rfl ?_
      refine v_iinc (pc := 101) (v := x4 + 1) 5 C dX12_findPairs_101 rfl rfl (by decide) rfl ?_
      refine v_goto (pc := 104) (tgt := 25) C dX12_findPairs_104 (by decide) ?_
      refine v_sub [3, 4, 5, 1, 0] rfl ?_
      exact hkb _ _ _ hw
    · replace hw := hw.1 c
      refine v_iconst (pc := 87) (v := 1) C dX12_findPairs_87 (by decide) ?_
      refine v_aload_n (pc := 88) 1 C dX12_findPairs_88 rfl rfl ?_
      refine v_iload (pc := 89) 5 C dX12_findPairs_89 rfl ?_
      refine v_cVi (pc := 91) (o := 33) (As := [.int x4]) (rest := [.int 1, .int x3]) (ci := 12) C (c_X12_classOf hw) pk_X12_classOf k_1273 rfl (by decide) rfl (by decide) rfl rfl (Nat.le_of_ble_eq_true rfl) dX12_findPairs_91 (fun r_5 σ_6 hw => ?_)
      refine v_ishl (pc := 94) C dX12_findPairs_94 ?_
      refine v_goto (pc := 95) (tgt := 99) C dX12_findPairs_95 (by decide) ?_
      refine v_ior (pc := 99) C dX12_findPairs_99 ?_
      refine v_istore_n (pc := 100) C dX12_findPairs_100 rfl (by decide) rfl ?_
      refine v_iinc (pc := 101) (v := x4 + 1) 5 C dX12_findPairs_101 rfl rfl (by decide) rfl ?_
      refine v_goto (pc := 104) (tgt := 25) C dX12_findPairs_104 (by decide) ?_
      refine v_sub [3, 4, 5, 1, 0] rfl ?_
      exact hkb _ _ _ hw

theorem w_X12_findPairs_J64 {X : Cx} {G : Gl} {P : Mem → Prop} {kb : Int32 → Int32 → Mem → Prop} {K107 : Int32 → Mem → Prop} (C : Ck X G RX12 cX12_findPairs 6 3) (r : RetV X G P) (x1 : Int32) (x2 : Int32) (x3 : Int32) (x4 : Int32) (hkb : ∀ (x3 : Int32) (x4 : Int32) (σ : Mem), kb x3 x4 σ → V X G 6 25 [(0, .ref (gA G 33)), (1, .int x1), (2, .int x2), (3, .int x3), (4, .int x4)] [] σ) (hK107 : ∀ (x3 : Int32) (σ : Mem), K107 x3 σ → V X G 6 107 [(0, .ref (gA G 33)), (1, .int x1), (2, .int x2), (3, .int x3)] [] σ) (σ : Mem) (hw : v_X12_findPairs_J64 kb K107 P x1 x2 x3 x4 σ) : V X G 6 64 [(0, .ref (gA G 33)), (1, .int x1), (2, .int x2), (3, .int x3), (4, .int x4)] [] σ := by
  unfold v_X12_findPairs_J64 at hw
  refine v_iconst (pc := 64) (v := 1) C dX12_findPairs_64 (by decide) ?_
  refine v_goto (pc := 65) (tgt := 69) C dX12_findPairs_65 (by decide) ?_
  refine v_sub [0, 1, 2, 3, 4] rfl ?_
  exact w_X12_findPairs_J69 C r _ _ _ _ _ hkb hK107 _ hw

theorem w_X12_findPairs_L25 {X : Cx} {G : Gl} {P : Mem → Prop} {x1 : Int32} {x2 : Int32} {K107 : Int32 → Mem → Prop} (C : Ck X G RX12 cX12_findPairs 6 3) (r : RetV X G P) (hK107 : ∀ (x3 : Int32) (σ : Mem), K107 x3 σ → V X G 6 107 [(0, .ref (gA G 33)), (1, .int x1), (2, .int x2), (3, .int x3)] [] σ) : ∀ (n : Nat) (x3 : Int32) (x4 : Int32) (σ : Mem), v_X12_findPairs_L25 x1 x2 K107 P n x3 x4 σ → V X G 6 25 [(0, .ref (gA G 33)), (1, .int x1), (2, .int x2), (3, .int x3), (4, .int x4)] [] σ := by
  intro n
  induction n with
  | zero => intro x3 x4 σ hw; exact hw.elim
  | succ n ih =>
    intro x3 x4 σ hw
    refine v_iload (pc := 25) 4 C dX12_findPairs_25 rfl ?_
    refine v_aload_n (pc := 27) 0 C dX12_findPairs_27 rfl rfl ?_
    refine g_12_2 (pc := 28) C k_1116 dX12_findPairs_28 ?_
    refine v_icmp_ge (pc := 31) (tgt := 107) C dX12_findPairs_31 (by decide) (fun c => ?_) (fun c => ?_)
    · replace hw := hw.1 c
      refine v_sub [0, 1, 2, 3] rfl ?_
      exact hK107 _ _ hw
    · replace hw := hw.2 c
      refine v_aload_n (pc := 34) 0 C dX12_findPairs_34 rfl rfl ?_
      refine v_aload_n (pc := 35) 0 C dX12_findPairs_35 rfl rfl ?_
      refine g_12_24 (pc := 36) C k_1138 dX12_findPairs_36 ?_
      refine v_iload_n (pc := 39) 1 C dX12_findPairs_39 rfl rfl ?_
      refine v_iald (pc := 40) C rfl hw.1 dX12_findPairs_40 ?_
      replace hw := hw.2
      refine v_iload (pc := 41) 4 C dX12_findPairs_41 rfl ?_
      refine v_cVi (pc := 43) (o := 33) (As := [.int (σ.1 51 (Int32.toNatClampNeg x1)), .int x4]) (rest := []) (ci := 12) C (c_X12_hushes hw) pk_X12_hushes k_1263 rfl (by decide) rfl (by decide) rfl rfl (Nat.le_of_ble_eq_true rfl) dX12_findPairs_43 (fun r_1 σ_2 hw => ?_)
      refine v_if_ne (pc := 46) (tgt := 64) C dX12_findPairs_46 (by decide) (fun c => ?_) (fun c => ?_)
      · replace hw := hw.2 c
        refine v_sub [0, 1, 2, 3, 4] rfl ?_
        exact w_X12_findPairs_J64 C r _ _ _ _ ih hK107 _ hw
      · replace hw := hw.1 c
        refine v_aload_n (pc := 49) 0 C dX12_findPairs_49 rfl rfl ?_
        refine v_aload_n (pc := 50) 0 C dX12_findPairs_50 rfl rfl ?_
        refine g_12_24 (pc := 51) C k_1138 dX12_findPairs_51 ?_
        refine v_iload_n (pc := 54) 2 C dX12_findPairs_54 rfl rfl ?_
        refine v_iald (pc := 55) C rfl hw.1 dX12_findPairs_55 ?_
        replace hw := hw.2
        refine v_iload (pc := 56) 4 C dX12_findPairs_56 rfl ?_
        refine v_cVi (pc := 58) (o := 33) (As := [.int (σ_2.1 51 (Int32.toNatClampNeg x2)), .int x4]) (rest := []) (ci := 12) C (c_X12_hushes hw) pk_X12_hushes k_1263 rfl (by decide) rfl (by decide) rfl rfl (Nat.le_of_ble_eq_true rfl) dX12_findPairs_58 (fun r_3 σ_4 hw => ?_)
        refine v_if_eq (pc := 61) (tgt := 68) C dX12_findPairs_61 (by decide) (fun c => ?_) (fun c => ?_)
        · replace hw := hw.1 c
          refine v_iconst (pc := 68) (v := 0) C dX12_findPairs_68 (by decide) ?_
          refine v_sub [0, 1, 2, 3, 4] rfl ?_
          exact w_X12_findPairs_J69 C r _ _ _ _ _ ih hK107 _ hw
        · replace hw := hw.2 c
          refine v_sub [0, 1, 2, 3, 4] rfl ?_
          exact w_X12_findPairs_J64 C r _ _ _ _ ih hK107 _ hw

theorem w_X12_findPairs_L12 {X : Cx} {G : Gl} {P : Mem → Prop} {x1 : Int32} {K125 : Mem → Prop} (C : Ck X G RX12 cX12_findPairs 6 3) (r : RetV X G P) (hK125 : ∀ (σ : Mem), K125 σ → V X G 6 125 [(0, .ref (gA G 33)), (1, .int x1)] [] σ) : ∀ (n : Nat) (x2 : Int32) (σ : Mem), v_X12_findPairs_L12 x1 K125 P n x2 σ → V X G 6 12 [(0, .ref (gA G 33)), (1, .int x1), (2, .int x2)] [] σ := by
  intro n
  induction n with
  | zero => intro x2 σ hw; exact hw.elim
  | succ n ih =>
    intro x2 σ hw
    refine v_iload_n (pc := 12) 2 C dX12_findPairs_12 rfl rfl ?_
    refine v_aload_n (pc := 13) 0 C dX12_findPairs_13 rfl rfl ?_
    refine g_12_23 (pc := 14) C k_1137 dX12_findPairs_14 ?_
    refine v_icmp_ge (pc := 17) (tgt := 125) C dX12_findPairs_17 (by decide) (fun c => ?_) (fun c => ?_)
    · replace hw := hw.1 c
      refine v_sub [0, 1] rfl ?_
      exact hK125 _ hw
    · replace hw := hw.2 c
      refine v_iconst (pc := 20) (v := 0) C dX12_findPairs_20 (by decide) ?_
      refine v_istore_n (pc := 21) C dX12_findPairs_21 rfl (by decide) rfl ?_
      refine v_iconst (pc := 22) (v := 0) C dX12_findPairs_22 (by decide) ?_
      refine v_istore (pc := 23) C dX12_findPairs_23 (by decide) rfl ?_
      refine v_sub [2, 3, 4, 1, 0] rfl ?_
      refine w_X12_findPairs_L25 C r ?_ 5000 _ _ _ hw
      · intro x3_7 σ_8 hw
        refine v_aload_n (pc := 107) 0 C dX12_findPairs_107 rfl rfl ?_
        refine g_12_25 (pc := 108) C k_1139 dX12_findPairs_108 ?_
        refine v_bipush (pc := 111) (v := 12) C dX12_findPairs_111 (by decide) ?_
        refine v_iload_n (pc := 113) 1 C dX12_findPairs_113 rfl rfl ?_
        refine v_imul (pc := 114) C dX12_findPairs_114 ?_
        refine v_iload_n (pc := 115) 2 C dX12_findPairs_115 rfl rfl ?_
        refine v_iadd (pc := 116) C dX12_findPairs_116 ?_
        refine v_iload_n (pc := 117) 3 C dX12_findPairs_117 rfl rfl ?_
        refine v_iast (pc := 118) C rfl hw.1 dX12_findPairs_118 ?_
        replace hw := hw.2
        refine v_iinc (pc := 119) (v := x2 + 1) 2 C dX12_findPairs_119 rfl rfl (by decide) rfl ?_
        refine v_goto (pc := 122) (tgt := 12) C dX12_findPairs_122 (by decide) ?_
        refine v_sub [1, 2, 0] rfl ?_
        exact ih _ _ hw

theorem w_X12_findPairs_L2 {X : Cx} {G : Gl} {P : Mem → Prop} (C : Ck X G RX12 cX12_findPairs 6 3) (r : RetV X G P) : ∀ (n : Nat) (x1 : Int32) (σ : Mem), v_X12_findPairs_L2 P n x1 σ → V X G 6 2 [(0, .ref (gA G 33)), (1, .int x1)] [] σ := by
  intro n
  induction n with
  | zero => intro x1 σ hw; exact hw.elim
  | succ n ih =>
    intro x1 σ hw
    refine v_iload_n (pc := 2) 1 C dX12_findPairs_2 rfl rfl ?_
    refine v_aload_n (pc := 3) 0 C dX12_findPairs_3 rfl rfl ?_
    refine g_12_23 (pc := 4) C k_1137 dX12_findPairs_4 ?_
    refine v_icmp_ge (pc := 7) (tgt := 131) C dX12_findPairs_7 (by decide) (fun c => ?_) (fun c => ?_)
    · replace hw := hw.1 c
      exact v_vret (pc := 131) C r hw dX12_findPairs_131
    · replace hw := hw.2 c
      refine v_iconst (pc := 10) (v := 0) C dX12_findPairs_10 (by decide) ?_
      refine v_istore_n (pc := 11) C dX12_findPairs_11 rfl (by decide) rfl ?_
      refine v_sub [1, 2, 0] rfl ?_
      refine w_X12_findPairs_L12 C r ?_ 5000 _ _ hw
      · intro σ_10 hw
        refine v_iinc (pc := 125) (v := x1 + 1) 1 C dX12_findPairs_125 rfl rfl (by decide) rfl ?_
        refine v_goto (pc := 128) (tgt := 2) C dX12_findPairs_128 (by decide) ?_
        refine v_sub [1, 0] rfl ?_
        exact ih _ _ hw

theorem c_X12_findPairs {l : Launch} {G : Gl} {σ : Mem} {P : Mem → Prop} (hw : v_X12_findPairs σ P) : MetV l yX12_findPairs cX12_findPairs 6 3 G [.ref (gA G 33)] σ P := by
  refine MetV.of RX12 (by decide +kernel) rfl (Nat.le_of_ble_eq_true rfl) (fun X C r => ?_)
  show V X G 6 0 [(0, .ref (gA G 33))] [] σ
  unfold v_X12_findPairs at hw
  refine v_iconst (pc := 0) (v := 0) C dX12_findPairs_0 (by decide) ?_
  refine v_istore_n (pc := 1) C dX12_findPairs_1 rfl (by decide) rfl ?_
  refine v_sub [1, 0] rfl ?_
  refine w_X12_findPairs_L2 C r 5000 _ _ hw

theorem w_X12_lowest_L2 {X : Cx} {G : Gl} {P : Int32 → Mem → Prop} {x0 : Int32} (C : Ck X G RX12 cX12_lowest 2 0) (r : RetI X G .int P) : ∀ (n : Nat) (x1 : Int32) (σ : Mem), v_X12_lowest_L2 x0 P n x1 σ → V X G 2 2 [(0, .int x0), (1, .int x1)] [] σ := by
  intro n
  induction n with
  | zero => intro x1 σ hw; exact hw.elim
  | succ n ih =>
    intro x1 σ hw
    refine v_iload_n (pc := 2) 0 C dX12_lowest_2 rfl rfl ?_
    refine v_iload_n (pc := 3) 1 C dX12_lowest_3 rfl rfl ?_
    refine v_ishr (pc := 4) C dX12_lowest_4 ?_
    refine v_iconst (pc := 5) (v := 1) C dX12_lowest_5 (by decide) ?_
    refine v_iand (pc := 6) C dX12_lowest_6 ?_
    refine v_if_ne (pc := 7) (tgt := 16) C dX12_lowest_7 (by decide) (fun c => ?_) (fun c => ?_)
    · replace hw := hw.2 c
      refine v_iload_n (pc := 16) 1 C dX12_lowest_16 rfl rfl ?_
      exact v_iret (pc := 17) C r hw dX12_lowest_17
    · replace hw := hw.1 c
      refine v_iinc (pc := 10) (v := x1 + 1) 1 C dX12_lowest_10 rfl rfl (by decide) rfl ?_
      refine v_goto (pc := 13) (tgt := 2) C dX12_lowest_13 (by decide) ?_
      refine v_sub [1, 0] rfl ?_
      exact ih _ _ hw

theorem c_X12_lowest {l : Launch} {G : Gl} {a0 : Int32} {σ : Mem} {P : Int32 → Mem → Prop} (hw : v_X12_lowest a0 σ P) : MetI l yX12_lowest cX12_lowest 2 .int 0 G [.int a0] σ P := by
  refine MetI.of RX12 (by decide +kernel) rfl (Nat.le_of_ble_eq_true rfl) (fun X C r => ?_)
  show V X G 2 0 [(0, .int a0)] [] σ
  unfold v_X12_lowest at hw
  refine v_iconst (pc := 0) (v := 0) C dX12_lowest_0 (by decide) ?_
  refine v_istore_n (pc := 1) C dX12_lowest_1 rfl (by decide) rfl ?_
  refine v_sub [1, 0] rfl ?_
  refine w_X12_lowest_L2 C r 5000 _ _ hw

theorem w_X12_findGiven_L46 {X : Cx} {G : Gl} {P : Mem → Prop} {x2 : Int32} {x3 : Int32} {x4 : Int32} {K100 : Int32 → Mem → Prop} (C : Ck X G RX12 cX12_findGiven 7 2) (r : RetV X G P) (hK100 : ∀ (x5 : Int32) (σ : Mem), K100 x5 σ → V X G 7 100 [(0, .ref (gA G 33)), (2, .int x2), (3, .int x3), (5, .int x5)] [] σ) : ∀ (n : Nat) (x5 : Int32) (x6 : Int32) (σ : Mem), v_X12_findGiven_L46 x2 x3 x4 K100 P n x5 x6 σ → V X G 7 46 [(0, .ref (gA G 33)), (2, .int x2), (3, .int x3), (4, .int x4), (5, .int x5), (6, .int x6)] [] σ := by
  intro n
  induction n with
  | zero => intro x5 x6 σ hw; exact hw.elim
  | succ n ih =>
    intro x5 x6 σ hw
    refine v_iload (pc := 46) 5 C dX12_findGiven_46 rfl ?_
    refine v_aload_n (pc := 48) 0 C dX12_findGiven_48 rfl rfl ?_
    refine g_12_23 (pc := 49) C k_1137 dX12_findGiven_49 ?_
    refine v_icmp_ge (pc := 52) (tgt := 100) C dX12_findGiven_52 (by decide) (fun c => ?_) (fun c => ?_)
    · replace hw := hw.1 c
      refine v_sub [0, 1, 2, 4] rfl ?_
      exact hK100 _ _ hw
    · replace hw := hw.2 c
      refine v_iload (pc := 55) 4 C dX12_findGiven_55 rfl ?_
      refine v_if_ne (pc := 57) (tgt := 100) C dX12_findGiven_57 (by decide) (fun c => ?_) (fun c => ?_)
      · replace hw := hw.2 c
        refine v_sub [0, 1, 2, 4] rfl ?_
        exact hK100 _ _ hw
      · replace hw := hw.1 c
        refine v_iload_n (pc := 60) 2 C dX12_findGiven_60 rfl rfl ?_
        refine v_iload (pc := 61) 5 C dX12_findGiven_61 rfl ?_
        refine v_ishr (pc := 63) C dX12_findGiven_63 ?_
        refine v_iconst (pc := 64) (v := 1) C dX12_findGiven_64 (by decide) ?_
        refine v_iand (pc := 65) C dX12_findGiven_65 ?_
        refine v_iconst (pc := 66) (v := 1) C dX12_findGiven_66 (by decide) ?_
        refine v_icmp_ne (pc := 67) (tgt := 91) C dX12_findGiven_67 (by decide) (fun c => ?_) (fun c => ?_)
        · replace hw := hw.2 c
          refine v_iconst (pc := 91) (v := 0) C dX12_findGiven_91 (by decide) ?_
          refine v_istore (pc := 92) C dX12_findGiven_92 (by decide) rfl ?_
          refine v_iinc (pc := 94) (v := x6 + 1) 5 C dX12_findGiven_94 rfl rfl (by decide) rfl ?_
          refine v_goto (pc := 97) (tgt := 46) C dX12_findGiven_97 (by decide) ?_
          refine v_sub [2, 3, 4, 5, 1, 0] rfl ?_
          exact ih _ _ _ hw
        · replace hw := hw.1 c
          refine v_aload_n (pc := 70) 0 C dX12_findGiven_70 rfl rfl ?_
          refine g_12_25 (pc := 71) C k_1139 dX12_findGiven_71 ?_
          refine v_bipush (pc := 74) (v := 12) C dX12_findGiven_74 (by decide) ?_
          refine v_iload (pc := 76) 3 C dX12_findGiven_76 rfl ?_
          refine v_imul (pc := 78) C dX12_findGiven_78 ?_
          refine v_iload (pc := 79) 5 C dX12_findGiven_79 rfl ?_
          refine v_iadd (pc := 81) C dX12_findGiven_81 ?_
          refine v_iald (pc := 82) C rfl hw.1 dX12_findGiven_82 ?_
          replace hw := hw.2
          refine v_iload_n (pc := 83) 1 C dX12_findGiven_83 rfl rfl ?_
          refine v_icmp_ne (pc := 84) (tgt := 91) C dX12_findGiven_84 (by decide) (fun c => ?_) (fun c => ?_)
          · replace hw := hw.2 c
            refine v_iconst (pc := 91) (v := 0) C dX12_findGiven_91 (by decide) ?_
            refine v_istore (pc := 92) C dX12_findGiven_92 (by decide) rfl ?_
            refine v_iinc (pc := 94) (v := x6 + 1) 5 C dX12_findGiven_94 rfl rfl (by decide) rfl ?_
            refine v_goto (pc := 97) (tgt := 46) C dX12_findGiven_97 (by decide) ?_
            refine v_sub [2, 3, 4, 5, 1, 0] rfl ?_
            exact ih _ _ _ hw
          · replace hw := hw.1 c
            refine v_iconst (pc := 87) (v := 1) C dX12_findGiven_87 (by decide) ?_
            refine v_goto (pc := 88) (tgt := 92) C dX12_findGiven_88 (by decide) ?_
            refine v_istore (pc := 92) C dX12_findGiven_92 (by decide) rfl ?_
            refine v_iinc (pc := 94) (v := x6 + 1) 5 C dX12_findGiven_94 rfl rfl (by decide) rfl ?_
            refine v_goto (pc := 97) (tgt := 46) C dX12_findGiven_97 (by decide) ?_
            refine v_sub [2, 3, 4, 5, 1, 0] rfl ?_
            exact ih _ _ _ hw

theorem w_X12_findGiven_L14 {X : Cx} {G : Gl} {P : Mem → Prop} {x2 : Int32} (C : Ck X G RX12 cX12_findGiven 7 2) (r : RetV X G P) : ∀ (n : Nat) (x3 : Int32) (σ : Mem), v_X12_findGiven_L14 x2 P n x3 σ → V X G 7 14 [(0, .ref (gA G 33)), (2, .int x2), (3, .int x3)] [] σ := by
  intro n
  induction n with
  | zero => intro x3 σ hw; exact hw.elim
  | succ n ih =>
    intro x3 σ hw
    refine v_iload_n (pc := 14) 2 C dX12_findGiven_14 rfl rfl ?_
    refine v_iconst (pc := 15) (v := 1) C dX12_findGiven_15 (by decide) ?_
    refine v_aload_n (pc := 16) 0 C dX12_findGiven_16 rfl rfl ?_
    refine g_12_23 (pc := 17) C k_1137 dX12_findGiven_17 ?_
    refine v_ishl (pc := 20) C dX12_findGiven_20 ?_
    refine v_icmp_ge (pc := 21) (tgt := 114) C dX12_findGiven_21 (by decide) (fun c => ?_) (fun c => ?_)
    · replace hw := hw.1 c
      exact v_vret (pc := 114) C r hw dX12_findGiven_114
    · replace hw := hw.2 c
      refine v_iload_n (pc := 24) 2 C dX12_findGiven_24 rfl rfl ?_
      refine v_callSi (pc := 25) (As := [.int x3]) (rest := []) C (c_X12_lowest hw) pk_X12_lowest (Or.inl k_1462) (by decide) rfl rfl (Nat.le_of_ble_eq_true rfl) dX12_findGiven_25 (fun r_3 σ_4 hw => ?_)
      refine v_istore (pc := 28) C dX12_findGiven_28 (by decide) rfl ?_
      refine v_aload_n (pc := 30) 1 C dX12_findGiven_30 rfl rfl ?_
      refine g_12_26 (pc := 31) C k_1140 dX12_findGiven_31 ?_
      refine v_iload_n (pc := 34) 3 C dX12_findGiven_34 rfl rfl ?_
      refine v_iload_n (pc := 35) 3 C dX12_findGiven_35 rfl rfl ?_
      refine v_iconst (pc := 36) (v := 1) C dX12_findGiven_36 (by decide) ?_
      refine v_isub (pc := 37) C dX12_findGiven_37 ?_
      refine v_iand (pc := 38) C dX12_findGiven_38 ?_
      refine v_zald (pc := 39) C rfl hw.1 dX12_findGiven_39 ?_
      replace hw := hw.2
      refine v_istore (pc := 40) C dX12_findGiven_40 (by decide) rfl ?_
      refine v_iload (pc := 42) 1 C dX12_findGiven_42 rfl ?_
      refine v_istore (pc := 44) C dX12_findGiven_44 (by decide) rfl ?_
      refine v_sub [3, 4, 5, 2, 1, 0] rfl ?_
      refine w_X12_findGiven_L46 C r ?_ 5000 _ _ _ hw
      · intro x5_5 σ_6 hw
        refine v_aload_n (pc := 100) 0 C dX12_findGiven_100 rfl rfl ?_
        refine g_12_26 (pc := 101) C k_1140 dX12_findGiven_101 ?_
        refine v_iload_n (pc := 104) 2 C dX12_findGiven_104 rfl rfl ?_
        refine v_iload (pc := 105) 3 C dX12_findGiven_105 rfl ?_
        refine v_zast (pc := 107) C rfl hw.1 dX12_findGiven_107 ?_
        replace hw := hw.2
        refine v_iinc (pc := 108) (v := x3 + 1) 2 C dX12_findGiven_108 rfl rfl (by decide) rfl ?_
        refine v_goto (pc := 111) (tgt := 14) C dX12_findGiven_111 (by decide) ?_
        refine v_sub [1, 2, 0] rfl ?_
        exact ih _ _ hw

theorem c_X12_findGiven {l : Launch} {G : Gl} {a1 : Int32} {σ : Mem} {P : Mem → Prop} (hw : v_X12_findGiven a1 σ P) : MetV l yX12_findGiven cX12_findGiven 7 2 G [.ref (gA G 33), .int a1] σ P := by
  refine MetV.of RX12 (by decide +kernel) rfl (Nat.le_of_ble_eq_true rfl) (fun X C r => ?_)
  show V X G 7 0 [(0, .ref (gA G 33)), (1, .int a1)] [] σ
  unfold v_X12_findGiven at hw
  refine v_iload_n (pc := 0) 1 C dX12_findGiven_0 rfl rfl ?_
  refine v_callSi (pc := 1) (As := [.int a1]) (rest := []) C (c_X12_classesOf hw) pk_X12_classesOf (Or.inl k_1267) (by decide) rfl rfl (Nat.le_of_ble_eq_true rfl) dX12_findGiven_1 (fun r_1 σ_2 hw => ?_)
  refine v_istore_n (pc := 4) C dX12_findGiven_4 rfl (by decide) rfl ?_
  refine v_aload_n (pc := 5) 1 C dX12_findGiven_5 rfl rfl ?_
  refine g_12_26 (pc := 6) C k_1140 dX12_findGiven_6 ?_
  refine v_iconst (pc := 9) (v := 0) C dX12_findGiven_9 (by decide) ?_
  refine v_iconst (pc := 10) (v := 0) C dX12_findGiven_10 (by decide) ?_
  refine v_zast (pc := 11) C rfl hw.1 dX12_findGiven_11 ?_
  replace hw := hw.2
  refine v_iconst (pc := 12) (v := 1) C dX12_findGiven_12 (by decide) ?_
  refine v_istore_n (pc := 13) C dX12_findGiven_13 rfl (by decide) rfl ?_
  refine v_sub [2, 1, 0] rfl ?_
  refine w_X12_findGiven_L14 C r 5000 _ _ hw

theorem w_X12_findServed_L6 {X : Cx} {G : Gl} {P : Mem → Prop} {K36 : Mem → Prop} (C : Ck X G RX12 cX12_findServed 5 4) (r : RetV X G P) (hK36 : ∀ (σ : Mem), K36 σ → V X G 5 36 [(0, .ref (gA G 33))] [] σ) : ∀ (n : Nat) (x1 : Int32) (σ : Mem), v_X12_findServed_L6 K36 P n x1 σ → V X G 5 6 [(0, .ref (gA G 33)), (1, .int x1)] [] σ := by
  intro n
  induction n with
  | zero => intro x1 σ hw; exact hw.elim
  | succ n ih =>
    intro x1 σ hw
    refine v_iload_n (pc := 6) 1 C dX12_findServed_6 rfl rfl ?_
    refine v_iconst (pc := 7) (v := 1) C dX12_findServed_7 (by decide) ?_
    refine v_aload_n (pc := 8) 0 C dX12_findServed_8 rfl rfl ?_
    refine g_12_23 (pc := 9) C k_1137 dX12_findServed_9 ?_
    refine v_ishl (pc := 12) C dX12_findServed_12 ?_
    refine v_icmp_ge (pc := 13) (tgt := 36) C dX12_findServed_13 (by decide) (fun c => ?_) (fun c => ?_)
    · replace hw := hw.1 c
      refine v_sub [0] rfl ?_
      exact hK36 _ hw
    · replace hw := hw.2 c
      refine v_aload_n (pc := 16) 0 C dX12_findServed_16 rfl rfl ?_
      refine g_12_27 (pc := 17) C k_1141 dX12_findServed_17 ?_
      refine v_iload_n (pc := 20) 1 C dX12_findServed_20 rfl rfl ?_
      refine v_iconst (pc := 21) (v := 1) C dX12_findServed_21 (by decide) ?_
      refine v_aload_n (pc := 22) 0 C dX12_findServed_22 rfl rfl ?_
      refine g_12_15 (pc := 23) C k_1129 dX12_findServed_23 ?_
      refine v_ishl (pc := 26) C dX12_findServed_26 ?_
      refine v_iconst (pc := 27) (v := 1) C dX12_findServed_27 (by decide) ?_
      refine v_isub (pc := 28) C dX12_findServed_28 ?_
      refine v_iast (pc := 29) C rfl hw.1 dX12_findServed_29 ?_
      replace hw := hw.2
      refine v_iinc (pc := 30) (v := x1 + 1) 1 C dX12_findServed_30 rfl rfl (by decide) rfl ?_
      refine v_goto (pc := 33) (tgt := 6) C dX12_findServed_33 (by decide) ?_
      refine v_sub [1, 0] rfl ?_
      exact ih _ _ hw

theorem w_X12_findServed_L59 {X : Cx} {G : Gl} {P : Mem → Prop} {x1 : Int32} {x3 : Int32} {K103 : Int32 → Mem → Prop} (C : Ck X G RX12 cX12_findServed 5 4) (r : RetV X G P) (hK103 : ∀ (x2 : Int32) (σ : Mem), K103 x2 σ → V X G 5 103 [(0, .ref (gA G 33)), (1, .int x1), (2, .int x2), (3, .int x3)] [] σ) : ∀ (n : Nat) (x2 : Int32) (x4 : Int32) (σ : Mem), v_X12_findServed_L59 x1 x3 K103 P n x2 x4 σ → V X G 5 59 [(0, .ref (gA G 33)), (1, .int x1), (2, .int x2), (3, .int x3), (4, .int x4)] [] σ := by
  intro n
  induction n with
  | zero => intro x2 x4 σ hw; exact hw.elim
  | succ n ih =>
    intro x2 x4 σ hw
    refine v_iload (pc := 59) 4 C dX12_findServed_59 rfl ?_
    refine v_aload_n (pc := 61) 0 C dX12_findServed_61 rfl rfl ?_
    refine g_12_16 (pc := 62) C k_1130 dX12_findServed_62 ?_
    refine v_iload_n (pc := 65) 3 C dX12_findServed_65 rfl rfl ?_
    refine v_iald (pc := 66) C rfl hw.1 dX12_findServed_66 ?_
    replace hw := hw.2
    refine v_icmp_ge (pc := 67) (tgt := 103) C dX12_findServed_67 (by decide) (fun c => ?_) (fun c => ?_)
    · replace hw := hw.1 c
      refine v_sub [0, 1, 2, 3] rfl ?_
      exact hK103 _ _ hw
    · replace hw := hw.2 c
      refine v_iload_n (pc := 70) 2 C dX12_findServed_70 rfl rfl ?_
      refine v_aload_n (pc := 71) 0 C dX12_findServed_71 rfl rfl ?_
      refine v_iload_n (pc := 72) 3 C dX12_findServed_72 rfl rfl ?_
      refine v_iload (pc := 73) 4 C dX12_findServed_73 rfl ?_
      refine v_aload_n (pc := 75) 0 C dX12_findServed_75 rfl rfl ?_
      refine g_12_17 (pc := 76) C k_1131 dX12_findServed_76 ?_
      refine v_iload_n (pc := 79) 3 C dX12_findServed_79 rfl rfl ?_
      refine v_iald (pc := 80) C rfl hw.1 dX12_findServed_80 ?_
      replace hw := hw.2
      refine v_cVi (pc := 81) (o := 33) (As := [.int x3, .int x4, .int (σ.1 45 (Int32.toNatClampNeg x3))]) (rest := [.int x2]) (ci := 12) C (c_X12_chordAt hw) pk_X12_chordAt k_1390 rfl (by decide) rfl (by decide) rfl rfl (Nat.le_of_ble_eq_true rfl) dX12_findServed_81 (fun r_4 σ_5 hw => ?_)
      refine v_iload_n (pc := 84) 1 C dX12_findServed_84 rfl rfl ?_
      refine v_icmp_ne (pc := 85) (tgt := 94) C dX12_findServed_85 (by decide) (fun c => ?_) (fun c => ?_)
      · replace hw := hw.2 c
        refine v_iconst (pc := 94) (v := 0) C dX12_findServed_94 (by decide) ?_
        refine v_ior (pc := 95) C dX12_findServed_95 ?_
        refine v_istore_n (pc := 96) C dX12_findServed_96 rfl (by decide) rfl ?_
        refine v_iinc (pc := 97) (v := x4 + 1) 4 C dX12_findServed_97 rfl rfl (by decide) rfl ?_
        refine v_goto (pc := 100) (tgt := 59) C dX12_findServed_100 (by decide) ?_
        refine v_sub [2, 3, 1, 4, 0] rfl ?_
        exact ih _ _ _ hw
      · replace hw := hw.1 c
        refine v_iconst (pc := 88) (v := 1) C dX12_findServed_88 (by decide) ?_
        refine v_iload_n (pc := 89) 3 C dX12_findServed_89 rfl rfl ?_
        refine v_ishl (pc := 90) C dX12_findServed_90 ?_
        refine v_goto (pc := 91) (tgt := 95) C dX12_findServed_91 (by decide) ?_
        refine v_ior (pc := 95) C dX12_findServed_95 ?_
        refine v_istore_n (pc := 96) C dX12_findServed_96 rfl (by decide) rfl ?_
        refine v_iinc (pc := 97) (v := x4 + 1) 4 C dX12_findServed_97 rfl rfl (by decide) rfl ?_
        refine v_goto (pc := 100) (tgt := 59) C dX12_findServed_100 (by decide) ?_
        refine v_sub [2, 3, 1, 4, 0] rfl ?_
        exact ih _ _ _ hw

theorem w_X12_findServed_L48 {X : Cx} {G : Gl} {P : Mem → Prop} {x1 : Int32} {K109 : Int32 → Mem → Prop} (C : Ck X G RX12 cX12_findServed 5 4) (r : RetV X G P) (hK109 : ∀ (x2 : Int32) (σ : Mem), K109 x2 σ → V X G 5 109 [(0, .ref (gA G 33)), (1, .int x1), (2, .int x2)] [] σ) : ∀ (n : Nat) (x2 : Int32) (x3 : Int32) (σ : Mem), v_X12_findServed_L48 x1 K109 P n x2 x3 σ → V X G 5 48 [(0, .ref (gA G 33)), (1, .int x1), (2, .int x2), (3, .int x3)] [] σ := by
  intro n
  induction n with
  | zero => intro x2 x3 σ hw; exact hw.elim
  | succ n ih =>
    intro x2 x3 σ hw
    refine v_iload_n (pc := 48) 3 C dX12_findServed_48 rfl rfl ?_
    refine v_aload_n (pc := 49) 0 C dX12_findServed_49 rfl rfl ?_
    refine g_12_15 (pc := 50) C k_1129 dX12_findServed_50 ?_
    refine v_icmp_ge (pc := 53) (tgt := 109) C dX12_findServed_53 (by decide) (fun c => ?_) (fun c => ?_)
    · replace hw := hw.1 c
      refine v_sub [0, 1, 2] rfl ?_
      exact hK109 _ _ hw
    · replace hw := hw.2 c
      refine v_iconst (pc := 56) (v := 0) C dX12_findServed_56 (by decide) ?_
      refine v_istore (pc := 57) C dX12_findServed_57 (by decide) rfl ?_
      refine v_sub [1, 2, 3, 4, 0] rfl ?_
      refine w_X12_findServed_L59 C r ?_ 5000 _ _ _ hw
      · intro x2_6 σ_7 hw
        refine v_iinc (pc := 103) (v := x3 + 1) 3 C dX12_findServed_103 rfl rfl (by decide) rfl ?_
        refine v_goto (pc := 106) (tgt := 48) C dX12_findServed_106 (by decide) ?_
        refine v_sub [1, 2, 3, 0] rfl ?_
        exact ih _ _ _ hw

theorem w_X12_findServed_L123 {X : Cx} {G : Gl} {P : Mem → Prop} {x1 : Int32} {x2 : Int32} {K164 : Mem → Prop} (C : Ck X G RX12 cX12_findServed 5 4) (r : RetV X G P) (hK164 : ∀ (σ : Mem), K164 σ → V X G 5 164 [(0, .ref (gA G 33)), (1, .int x1)] [] σ) : ∀ (n : Nat) (x3 : Int32) (σ : Mem), v_X12_findServed_L123 x1 x2 K164 P n x3 σ → V X G 5 123 [(0, .ref (gA G 33)), (1, .int x1), (2, .int x2), (3, .int x3)] [] σ := by
  intro n
  induction n with
  | zero => intro x3 σ hw; exact hw.elim
  | succ n ih =>
    intro x3 σ hw
    refine v_iload_n (pc := 123) 3 C dX12_findServed_123 rfl rfl ?_
    refine v_iconst (pc := 124) (v := 1) C dX12_findServed_124 (by decide) ?_
    refine v_aload_n (pc := 125) 0 C dX12_findServed_125 rfl rfl ?_
    refine g_12_23 (pc := 126) C k_1137 dX12_findServed_126 ?_
    refine v_ishl (pc := 129) C dX12_findServed_129 ?_
    refine v_icmp_ge (pc := 130) (tgt := 164) C dX12_findServed_130 (by decide) (fun c => ?_) (fun c => ?_)
    · replace hw := hw.1 c
      refine v_sub [0, 1] rfl ?_
      exact hK164 _ hw
    · replace hw := hw.2 c
      refine v_aload_n (pc := 133) 0 C dX12_findServed_133 rfl rfl ?_
      refine g_12_27 (pc := 134) C k_1141 dX12_findServed_134 ?_
      refine v_iload_n (pc := 137) 3 C dX12_findServed_137 rfl rfl ?_
      refine v_dup2 (pc := 138) C dX12_findServed_138 rfl rfl ?_
      refine v_iald (pc := 139) C rfl hw.1 dX12_findServed_139 ?_
      replace hw := hw.2
      refine v_aload_n (pc := 140) 0 C dX12_findServed_140 rfl rfl ?_
      refine g_12_26 (pc := 141) C k_1140 dX12_findServed_141 ?_
      refine v_iload_n (pc := 144) 3 C dX12_findServed_144 rfl rfl ?_
      refine v_zald (pc := 145) C rfl hw.1 dX12_findServed_145 ?_
      replace hw := hw.2
      refine v_if_eq (pc := 146) (tgt := 153) C dX12_findServed_146 (by decide) (fun c => ?_) (fun c => ?_)
      · replace hw := hw.1 c
        refine v_iload_n (pc := 153) 2 C dX12_findServed_153 rfl rfl ?_
        refine v_iconst (pc := 154) (v := (-1)) C dX12_findServed_154 (by decide) ?_
        refine v_ixor (pc := 155) C dX12_findServed_155 ?_
        refine v_iand (pc := 156) C dX12_findServed_156 ?_
        refine v_iast (pc := 157) C rfl hw.1 dX12_findServed_157 ?_
        replace hw := hw.2
        refine v_iinc (pc := 158) (v := x3 + 1) 3 C dX12_findServed_158 rfl rfl (by decide) rfl ?_
        refine v_goto (pc := 161) (tgt := 123) C dX12_findServed_161 (by decide) ?_
        refine v_sub [1, 2, 3, 0] rfl ?_
        exact ih _ _ hw
      · replace hw := hw.2 c
        refine v_iconst (pc := 149) (v := (-1)) C dX12_findServed_149 (by decide) ?_
        refine v_goto (pc := 150) (tgt := 156) C dX12_findServed_150 (by decide) ?_
        refine v_iand (pc := 156) C dX12_findServed_156 ?_
        refine v_iast (pc := 157) C rfl hw.1 dX12_findServed_157 ?_
        replace hw := hw.2
        refine v_iinc (pc := 158) (v := x3 + 1) 3 C dX12_findServed_158 rfl rfl (by decide) rfl ?_
        refine v_goto (pc := 161) (tgt := 123) C dX12_findServed_161 (by decide) ?_
        refine v_sub [1, 2, 3, 0] rfl ?_
        exact ih _ _ hw

theorem w_X12_findServed_L38 {X : Cx} {G : Gl} {P : Mem → Prop} (C : Ck X G RX12 cX12_findServed 5 4) (r : RetV X G P) : ∀ (n : Nat) (x1 : Int32) (σ : Mem), v_X12_findServed_L38 P n x1 σ → V X G 5 38 [(0, .ref (gA G 33)), (1, .int x1)] [] σ := by
  intro n
  induction n with
  | zero => intro x1 σ hw; exact hw.elim
  | succ n ih =>
    intro x1 σ hw
    refine v_iload_n (pc := 38) 1 C dX12_findServed_38 rfl rfl ?_
    refine v_bipush (pc := 39) (v := 96) C dX12_findServed_39 (by decide) ?_
    refine v_icmp_ge (pc := 41) (tgt := 170) C dX12_findServed_41 (by decide) (fun c => ?_) (fun c => ?_)
    · replace hw := hw.1 c
      exact v_vret (pc := 170) C r hw dX12_findServed_170
    · replace hw := hw.2 c
      refine v_iconst (pc := 44) (v := 0) C dX12_findServed_44 (by decide) ?_
      refine v_istore_n (pc := 45) C dX12_findServed_45 rfl (by decide) rfl ?_
      refine v_iconst (pc := 46) (v := 0) C dX12_findServed_46 (by decide) ?_
      refine v_istore_n (pc := 47) C dX12_findServed_47 rfl (by decide) rfl ?_
      refine v_sub [2, 3, 1, 0] rfl ?_
      refine w_X12_findServed_L48 C r ?_ 5000 _ _ _ hw
      · intro x2_8 σ_9 hw
        refine v_iload_n (pc := 109) 2 C dX12_findServed_109 rfl rfl ?_
        refine v_if_ne (pc := 110) (tgt := 116) C dX12_findServed_110 (by decide) (fun c => ?_) (fun c => ?_)
        · replace hw := hw.2 c
          refine v_aload_n (pc := 116) 0 C dX12_findServed_116 rfl rfl ?_
          refine v_iload_n (pc := 117) 1 C dX12_findServed_117 rfl rfl ?_
          refine v_cVv (pc := 118) (o := 33) (As := [.int x1]) (rest := []) (ci := 12) C (c_X12_findGiven hw) pk_X12_findGiven k_1458 rfl (by decide) rfl (by decide) rfl rfl (Nat.le_of_ble_eq_true rfl) dX12_findServed_118 (fun σ_10 hw => ?_)
          refine v_iconst (pc := 121) (v := 0) C dX12_findServed_121 (by decide) ?_
          refine v_istore_n (pc := 122) C dX12_findServed_122 rfl (by decide) rfl ?_
          refine v_sub [1, 2, 3, 0] rfl ?_
          refine w_X12_findServed_L123 C r ?_ 5000 _ _ hw
          · intro σ_12 hw
            refine v_iinc (pc := 164) (v := x1 + 1) 1 C dX12_findServed_164 rfl rfl (by decide) rfl ?_
            refine v_goto (pc := 167) (tgt := 38) C dX12_findServed_167 (by decide) ?_
            refine v_sub [1, 0] rfl ?_
            exact ih _ _ hw
        · replace hw := hw.1 c
          refine v_goto (pc := 113) (tgt := 164) C dX12_findServed_113 (by decide) ?_
          refine v_iinc (pc := 164) (v := x1 + 1) 1 C dX12_findServed_164 rfl rfl (by decide) rfl ?_
          refine v_goto (pc := 167) (tgt := 38) C dX12_findServed_167 (by decide) ?_
          refine v_sub [1, 0] rfl ?_
          exact ih _ _ hw

theorem c_X12_findServed {l : Launch} {G : Gl} {σ : Mem} {P : Mem → Prop} (hw : v_X12_findServed σ P) : MetV l yX12_findServed cX12_findServed 5 4 G [.ref (gA G 33)] σ P := by
  refine MetV.of RX12 (by decide +kernel) rfl (Nat.le_of_ble_eq_true rfl) (fun X C r => ?_)
  show V X G 5 0 [(0, .ref (gA G 33))] [] σ
  unfold v_X12_findServed at hw
  refine v_aload_n (pc := 0) 0 C dX12_findServed_0 rfl rfl ?_
  refine v_cVv (pc := 1) (o := 33) (As := []) (rest := []) (ci := 12) C (c_X12_findPairs hw) pk_X12_findPairs k_1454 rfl (by decide) rfl (by decide) rfl rfl (Nat.le_of_ble_eq_true rfl) dX12_findServed_1 (fun σ_1 hw => ?_)
  refine v_iconst (pc := 4) (v := 0) C dX12_findServed_4 (by decide) ?_
  refine v_istore_n (pc := 5) C dX12_findServed_5 rfl (by decide) rfl ?_
  refine v_sub [1, 0] rfl ?_
  refine w_X12_findServed_L6 C r ?_ 5000 _ _ hw
  · intro σ_3 hw
    refine v_iconst (pc := 36) (v := 0) C dX12_findServed_36 (by decide) ?_
    refine v_istore_n (pc := 37) C dX12_findServed_37 rfl (by decide) rfl ?_
    refine v_sub [1, 0] rfl ?_
    refine w_X12_findServed_L38 C r 5000 _ _ hw

theorem c_X12_areOffers {l : Launch} {G : Gl} {a1 : Int32} {σ : Mem} {P : Int32 → Mem → Prop} (hw : v_X12_areOffers a1 σ P) : MetI l yX12_areOffers cX12_areOffers 2 .boolean 1 G [.ref (gA G 33), .int a1] σ P := by
  refine MetI.of RX12 (by decide +kernel) rfl (Nat.le_of_ble_eq_true rfl) (fun X C r => ?_)
  show V X G 2 0 [(0, .ref (gA G 33)), (1, .int a1)] [] σ
  unfold v_X12_areOffers at hw
  refine v_iload_n (pc := 0) 1 C dX12_areOffers_0 rfl rfl ?_
  refine v_iconst (pc := 1) (v := 0) C dX12_areOffers_1 (by decide) ?_
  refine v_iconst (pc := 2) (v := 1) C dX12_areOffers_2 (by decide) ?_
  refine v_aload_n (pc := 3) 0 C dX12_areOffers_3 rfl rfl ?_
  refine g_12_23 (pc := 4) C k_1137 dX12_areOffers_4 ?_
  refine v_ishl (pc := 7) C dX12_areOffers_7 ?_
  refine v_iconst (pc := 8) (v := 1) C dX12_areOffers_8 (by decide) ?_
  refine v_isub (pc := 9) C dX12_areOffers_9 ?_
  refine v_callSi (pc := 10) (As := [.int a1, .int 0, .int (((1 : Int32) <<< ((σ.1 33 23) &&& 31)) - 1)]) (rest := []) C (c_X12_within hw) pk_X12_within (Or.inl k_1234) (by decide) rfl rfl (Nat.le_of_ble_eq_true rfl) dX12_areOffers_10 (fun r_1 σ_2 hw => ?_)
  exact v_zret (pc := 13) C r hw.1 hw.2 dX12_areOffers_13

theorem c_X12_serves {l : Launch} {G : Gl} {a1 : Int32} {σ : Mem} {P : Int32 → Mem → Prop} (hw : v_X12_serves a1 σ P) : MetI l yX12_serves cX12_serves 2 .int 5 G [.ref (gA G 33), .int a1] σ P := by
  refine MetI.of RX12 (by decide +kernel) rfl (Nat.le_of_ble_eq_true rfl) (fun X C r => ?_)
  show V X G 2 0 [(0, .ref (gA G 33)), (1, .int a1)] [] σ
  unfold v_X12_serves at hw
  refine v_aload_n (pc := 0) 0 C dX12_serves_0 rfl rfl ?_
  refine v_iload_n (pc := 1) 1 C dX12_serves_1 rfl rfl ?_
  refine v_cVi (pc := 2) (o := 33) (As := [.int a1]) (rest := []) (ci := 12) C (c_X12_areOffers hw) pk_X12_areOffers k_1446 rfl (by decide) rfl (by decide) rfl rfl (Nat.le_of_ble_eq_true rfl) dX12_serves_2 (fun r_1 σ_2 hw => ?_)
  refine v_if_ne (pc := 5) (tgt := 11) C dX12_serves_5 (by decide) (fun c => ?_) (fun c => ?_)
  · replace hw := hw.2 c
    refine v_aload_n (pc := 11) 0 C dX12_serves_11 rfl rfl ?_
    refine v_cVv (pc := 12) (o := 33) (As := []) (rest := []) (ci := 12) C (c_X12_findServed hw) pk_X12_findServed k_1450 rfl (by decide) rfl (by decide) rfl rfl (Nat.le_of_ble_eq_true rfl) dX12_serves_12 (fun σ_3 hw => ?_)
    refine v_aload_n (pc := 15) 0 C dX12_serves_15 rfl rfl ?_
    refine g_12_27 (pc := 16) C k_1141 dX12_serves_16 ?_
    refine v_iload_n (pc := 19) 1 C dX12_serves_19 rfl rfl ?_
    refine v_iald (pc := 20) C rfl hw.1 dX12_serves_20 ?_
    replace hw := hw.2
    exact v_iret (pc := 21) C r hw dX12_serves_21
  · replace hw := hw.1 c
    refine v_bipush (pc := 8) (v := (-2)) C dX12_serves_8 (by decide) ?_
    exact v_iret (pc := 10) C r hw dX12_serves_10

theorem w_X12_fewest_L9 {X : Cx} {G : Gl} {P : Int32 → Mem → Prop} (C : Ck X G RX12 cX12_fewest 3 5) (r : RetI X G .int P) : ∀ (n : Nat) (x1 : Int32) (x2 : Int32) (σ : Mem), v_X12_fewest_L9 P n x1 x2 σ → V X G 3 9 [(0, .ref (gA G 33)), (1, .int x1), (2, .int x2)] [] σ := by
  intro n
  induction n with
  | zero => intro x1 x2 σ hw; exact hw.elim
  | succ n ih =>
    intro x1 x2 σ hw
    refine v_iload_n (pc := 9) 2 C dX12_fewest_9 rfl rfl ?_
    refine v_iconst (pc := 10) (v := 1) C dX12_fewest_10 (by decide) ?_
    refine v_aload_n (pc := 11) 0 C dX12_fewest_11 rfl rfl ?_
    refine g_12_23 (pc := 12) C k_1137 dX12_fewest_12 ?_
    refine v_ishl (pc := 15) C dX12_fewest_15 ?_
    refine v_icmp_ge (pc := 16) (tgt := 61) C dX12_fewest_16 (by decide) (fun c => ?_) (fun c => ?_)
    · replace hw := hw.1 c
      refine v_iload_n (pc := 61) 1 C dX12_fewest_61 rfl rfl ?_
      exact v_iret (pc := 62) C r hw dX12_fewest_62
    · replace hw := hw.2 c
      refine v_aload_n (pc := 19) 0 C dX12_fewest_19 rfl rfl ?_
      refine g_12_27 (pc := 20) C k_1141 dX12_fewest_20 ?_
      refine v_iload_n (pc := 23) 2 C dX12_fewest_23 rfl rfl ?_
      refine v_iald (pc := 24) C rfl hw.1 dX12_fewest_24 ?_
      replace hw := hw.2
      refine v_iconst (pc := 25) (v := 1) C dX12_fewest_25 (by decide) ?_
      refine v_aload_n (pc := 26) 0 C dX12_fewest_26 rfl rfl ?_
      refine g_12_15 (pc := 27) C k_1129 dX12_fewest_27 ?_
      refine v_ishl (pc := 30) C dX12_fewest_30 ?_
      refine v_iconst (pc := 31) (v := 1) C dX12_fewest_31 (by decide) ?_
      refine v_isub (pc := 32) C dX12_fewest_32 ?_
      refine v_icmp_ne (pc := 33) (tgt := 55) C dX12_fewest_33 (by decide) (fun c => ?_) (fun c => ?_)
      · replace hw := hw.2 c
        refine v_iinc (pc := 55) (v := x2 + 1) 2 C dX12_fewest_55 rfl rfl (by decide) rfl ?_
        refine v_goto (pc := 58) (tgt := 9) C dX12_fewest_58 (by decide) ?_
        refine v_sub [1, 2, 0] rfl ?_
        exact ih _ _ _ hw
      · replace hw := hw.1 c
        refine v_iload_n (pc := 36) 1 C dX12_fewest_36 rfl rfl ?_
        refine v_bipush (pc := 37) (v := (-9)) C dX12_fewest_37 (by decide) ?_
        refine v_icmp_eq (pc := 39) (tgt := 53) C dX12_fewest_39 (by decide) (fun c => ?_) (fun c => ?_)
        · replace hw := hw.1 c
          refine v_iload_n (pc := 53) 2 C dX12_fewest_53 rfl rfl ?_
          refine v_istore_n (pc := 54) C dX12_fewest_54 rfl (by decide) rfl ?_
          refine v_iinc (pc := 55) (v := x2 + 1) 2 C dX12_fewest_55 rfl rfl (by decide) rfl ?_
          refine v_goto (pc := 58) (tgt := 9) C dX12_fewest_58 (by decide) ?_
          refine v_sub [2, 1, 0] rfl ?_
          exact ih _ _ _ hw
        · replace hw := hw.2 c
          refine v_iload_n (pc := 42) 2 C dX12_fewest_42 rfl rfl ?_
          refine v_callSi (pc := 43) (As := [.int x2]) (rest := []) C (c_X12_countOf hw) pk_X12_countOf (Or.inl k_1469) (by decide) rfl rfl (Nat.le_of_ble_eq_true rfl) dX12_fewest_43 (fun r_2 σ_3 hw => ?_)
          refine v_iload_n (pc := 46) 1 C dX12_fewest_46 rfl rfl ?_
          refine v_callSi (pc := 47) (As := [.int x1]) (rest := [.int r_2]) C (c_X12_countOf hw) pk_X12_countOf (Or.inl k_1469) (by decide) rfl rfl (Nat.le_of_ble_eq_true rfl) dX12_fewest_47 (fun r_4 σ_5 hw => ?_)
          refine v_icmp_ge (pc := 50) (tgt := 55) C dX12_fewest_50 (by decide) (fun c => ?_) (fun c => ?_)
          · replace hw := hw.1 c
            refine v_iinc (pc := 55) (v := x2 + 1) 2 C dX12_fewest_55 rfl rfl (by decide) rfl ?_
            refine v_goto (pc := 58) (tgt := 9) C dX12_fewest_58 (by decide) ?_
            refine v_sub [1, 2, 0] rfl ?_
            exact ih _ _ _ hw
          · replace hw := hw.2 c
            refine v_iload_n (pc := 53) 2 C dX12_fewest_53 rfl rfl ?_
            refine v_istore_n (pc := 54) C dX12_fewest_54 rfl (by decide) rfl ?_
            refine v_iinc (pc := 55) (v := x2 + 1) 2 C dX12_fewest_55 rfl rfl (by decide) rfl ?_
            refine v_goto (pc := 58) (tgt := 9) C dX12_fewest_58 (by decide) ?_
            refine v_sub [2, 1, 0] rfl ?_
            exact ih _ _ _ hw

theorem c_X12_fewest {l : Launch} {G : Gl} {σ : Mem} {P : Int32 → Mem → Prop} (hw : v_X12_fewest σ P) : MetI l yX12_fewest cX12_fewest 3 .int 5 G [.ref (gA G 33)] σ P := by
  refine MetI.of RX12 (by decide +kernel) rfl (Nat.le_of_ble_eq_true rfl) (fun X C r => ?_)
  show V X G 3 0 [(0, .ref (gA G 33))] [] σ
  unfold v_X12_fewest at hw
  refine v_aload_n (pc := 0) 0 C dX12_fewest_0 rfl rfl ?_
  refine v_cVv (pc := 1) (o := 33) (As := []) (rest := []) (ci := 12) C (c_X12_findServed hw) pk_X12_findServed k_1450 rfl (by decide) rfl (by decide) rfl rfl (Nat.le_of_ble_eq_true rfl) dX12_fewest_1 (fun σ_1 hw => ?_)
  refine v_bipush (pc := 4) (v := (-9)) C dX12_fewest_4 (by decide) ?_
  refine v_istore_n (pc := 6) C dX12_fewest_6 rfl (by decide) rfl ?_
  refine v_iconst (pc := 7) (v := 0) C dX12_fewest_7 (by decide) ?_
  refine v_istore_n (pc := 8) C dX12_fewest_8 rfl (by decide) rfl ?_
  refine v_sub [2, 1, 0] rfl ?_
  refine w_X12_fewest_L9 C r 5000 _ _ _ hw

theorem w_X12_most_L21 {X : Cx} {G : Gl} {P : Int32 → Mem → Prop} {x1 : Int32} (C : Ck X G RX12 cX12_most 5 5) (r : RetI X G .int P) : ∀ (n : Nat) (x2 : Int32) (x3 : Int32) (σ : Mem), v_X12_most_L21 x1 P n x2 x3 σ → V X G 5 21 [(0, .ref (gA G 33)), (1, .int x1), (2, .int x2), (3, .int x3)] [] σ := by
  intro n
  induction n with
  | zero => intro x2 x3 σ hw; exact hw.elim
  | succ n ih =>
    intro x2 x3 σ hw
    refine v_iload_n (pc := 21) 3 C dX12_most_21 rfl rfl ?_
    refine v_iconst (pc := 22) (v := 1) C dX12_most_22 (by decide) ?_
    refine v_aload_n (pc := 23) 0 C dX12_most_23 rfl rfl ?_
    refine g_12_23 (pc := 24) C k_1137 dX12_most_24 ?_
    refine v_ishl (pc := 27) C dX12_most_27 ?_
    refine v_icmp_ge (pc := 28) (tgt := 92) C dX12_most_28 (by decide) (fun c => ?_) (fun c => ?_)
    · replace hw := hw.1 c
      refine v_iload_n (pc := 92) 2 C dX12_most_92 rfl rfl ?_
      exact v_iret (pc := 93) C r hw dX12_most_93
    · replace hw := hw.2 c
      refine v_iload_n (pc := 31) 3 C dX12_most_31 rfl rfl ?_
      refine v_callSi (pc := 32) (As := [.int x3]) (rest := []) C (c_X12_countOf hw) pk_X12_countOf (Or.inl k_1469) (by decide) rfl rfl (Nat.le_of_ble_eq_true rfl) dX12_most_32 (fun r_4 σ_5 hw => ?_)
      refine v_iload_n (pc := 35) 1 C dX12_most_35 rfl rfl ?_
      refine v_icmp_le (pc := 36) (tgt := 42) C dX12_most_36 (by decide) (fun c => ?_) (fun c => ?_)
      · replace hw := hw.1 c
        refine v_aload_n (pc := 42) 0 C dX12_most_42 rfl rfl ?_
        refine g_12_27 (pc := 43) C k_1141 dX12_most_43 ?_
        refine v_iload_n (pc := 46) 3 C dX12_most_46 rfl rfl ?_
        refine v_iald (pc := 47) C rfl hw.1 dX12_most_47 ?_
        replace hw := hw.2
        refine v_callSi (pc := 48) (As := [.int (σ_5.1 54 (Int32.toNatClampNeg x3))]) (rest := []) C (c_X12_countOf hw) pk_X12_countOf (Or.inl k_1469) (by decide) rfl rfl (Nat.le_of_ble_eq_true rfl) dX12_most_48 (fun r_6 σ_7 hw => ?_)
        refine v_aload_n (pc := 51) 0 C dX12_most_51 rfl rfl ?_
        refine g_12_27 (pc := 52) C k_1141 dX12_most_52 ?_
        refine v_iload_n (pc := 55) 2 C dX12_most_55 rfl rfl ?_
        refine v_iald (pc := 56) C rfl hw.1 dX12_most_56 ?_
        replace hw := hw.2
        refine v_callSi (pc := 57) (As := [.int (σ_7.1 54 (Int32.toNatClampNeg x2))]) (rest := [.int r_6]) C (c_X12_countOf hw) pk_X12_countOf (Or.inl k_1469) (by decide) rfl rfl (Nat.le_of_ble_eq_true rfl) dX12_most_57 (fun r_8 σ_9 hw => ?_)
        refine v_isub (pc := 60) C dX12_most_60 ?_
        refine v_istore (pc := 61) C dX12_most_61 (by decide) rfl ?_
        refine v_iload (pc := 63) 0 C dX12_most_63 rfl ?_
        refine v_if_gt (pc := 65) (tgt := 84) C dX12_most_65 (by decide) (fun c => ?_) (fun c => ?_)
        · replace hw := hw.1 c
          refine v_iload_n (pc := 84) 4 C dX12_most_84 rfl rfl ?_
          refine v_istore_n (pc := 85) C dX12_most_85 rfl (by decide) rfl ?_
          refine v_iinc (pc := 86) (v := x3 + 1) 4 C dX12_most_86 rfl rfl (by decide) rfl ?_
          refine v_goto (pc := 89) (tgt := 21) C dX12_most_89 (by decide) ?_
          refine v_sub [3, 4, 1, 0] rfl ?_
          exact ih _ _ _ hw
        · replace hw := hw.2 c
          refine v_iload (pc := 68) 0 C dX12_most_68 rfl ?_
          refine v_if_ne (pc := 70) (tgt := 86) C dX12_most_70 (by decide) (fun c => ?_) (fun c => ?_)
          · replace hw := hw.2 c
            refine v_iinc (pc := 86) (v := x3 + 1) 4 C dX12_most_86 rfl rfl (by decide) rfl ?_
            refine v_goto (pc := 89) (tgt := 21) C dX12_most_89 (by decide) ?_
            refine v_sub [2, 3, 4, 0] rfl ?_
            exact ih _ _ _ hw
          · replace hw := hw.1 c
            refine v_iload_n (pc := 73) 4 C dX12_most_73 rfl rfl ?_
            refine v_callSi (pc := 74) (As := [.int x3]) (rest := []) C (c_X12_countOf hw) pk_X12_countOf (Or.inl k_1469) (by decide) rfl rfl (Nat.le_of_ble_eq_true rfl) dX12_most_74 (fun r_10 σ_11 hw => ?_)
            refine v_iload_n (pc := 77) 3 C dX12_most_77 rfl rfl ?_
            refine v_callSi (pc := 78) (As := [.int x2]) (rest := [.int r_10]) C (c_X12_countOf hw) pk_X12_countOf (Or.inl k_1469) (by decide) rfl rfl (Nat.le_of_ble_eq_true rfl) dX12_most_78 (fun r_12 σ_13 hw => ?_)
            refine v_icmp_ge (pc := 81) (tgt := 86) C dX12_most_81 (by decide) (fun c => ?_) (fun c => ?_)
            · replace hw := hw.1 c
              refine v_iinc (pc := 86) (v := x3 + 1) 4 C dX12_most_86 rfl rfl (by decide) rfl ?_
              refine v_goto (pc := 89) (tgt := 21) C dX12_most_89 (by decide) ?_
              refine v_sub [2, 3, 4, 0] rfl ?_
              exact ih _ _ _ hw
            · replace hw := hw.2 c
              refine v_iload_n (pc := 84) 4 C dX12_most_84 rfl rfl ?_
              refine v_istore_n (pc := 85) C dX12_most_85 rfl (by decide) rfl ?_
              refine v_iinc (pc := 86) (v := x3 + 1) 4 C dX12_most_86 rfl rfl (by decide) rfl ?_
              refine v_goto (pc := 89) (tgt := 21) C dX12_most_89 (by decide) ?_
              refine v_sub [3, 4, 1, 0] rfl ?_
              exact ih _ _ _ hw
      · replace hw := hw.2 c
        refine v_goto (pc := 39) (tgt := 86) C dX12_most_39 (by decide) ?_
        refine v_iinc (pc := 86) (v := x3 + 1) 3 C dX12_most_86 rfl rfl (by decide) rfl ?_
        refine v_goto (pc := 89) (tgt := 21) C dX12_most_89 (by decide) ?_
        refine v_sub [1, 2, 3, 0] rfl ?_
        exact ih _ _ _ hw

theorem c_X12_most {l : Launch} {G : Gl} {a1 : Int32} {σ : Mem} {P : Int32 → Mem → Prop} (hw : v_X12_most a1 σ P) : MetI l yX12_most cX12_most 5 .int 5 G [.ref (gA G 33), .int a1] σ P := by
  refine MetI.of RX12 (by decide +kernel) rfl (Nat.le_of_ble_eq_true rfl) (fun X C r => ?_)
  show V X G 5 0 [(0, .ref (gA G 33)), (1, .int a1)] [] σ
  unfold v_X12_most at hw
  refine v_iload_n (pc := 0) 1 C dX12_most_0 rfl rfl ?_
  refine v_iconst (pc := 1) (v := 0) C dX12_most_1 (by decide) ?_
  refine v_bipush (pc := 2) (v := 12) C dX12_most_2 (by decide) ?_
  refine v_callSi (pc := 4) (As := [.int a1, .int 0, .int 12]) (rest := []) C (c_X12_within hw) pk_X12_within (Or.inl k_1234) (by decide) rfl rfl (Nat.le_of_ble_eq_true rfl) dX12_most_4 (fun r_1 σ_2 hw => ?_)
  refine v_if_ne (pc := 7) (tgt := 13) C dX12_most_7 (by decide) (fun c => ?_) (fun c => ?_)
  · replace hw := hw.2 c
    refine v_aload_n (pc := 13) 0 C dX12_most_13 rfl rfl ?_
    refine v_cVv (pc := 14) (o := 33) (As := []) (rest := []) (ci := 12) C (c_X12_findServed hw) pk_X12_findServed k_1450 rfl (by decide) rfl (by decide) rfl rfl (Nat.le_of_ble_eq_true rfl) dX12_most_14 (fun σ_3 hw => ?_)
    refine v_iconst (pc := 17) (v := 0) C dX12_most_17 (by decide) ?_
    refine v_istore_n (pc := 18) C dX12_most_18 rfl (by decide) rfl ?_
    refine v_iconst (pc := 19) (v := 1) C dX12_most_19 (by decide) ?_
    refine v_istore_n (pc := 20) C dX12_most_20 rfl (by decide) rfl ?_
    refine v_sub [2, 3, 1, 0] rfl ?_
    refine w_X12_most_L21 C r 5000 _ _ _ hw
  · replace hw := hw.1 c
    refine v_bipush (pc := 10) (v := (-2)) C dX12_most_10 (by decide) ?_
    exact v_iret (pc := 12) C r hw dX12_most_12

theorem w_X12_build_L23 {X : Cx} {G : Gl} {P : Int32 → Mem → Prop} {x1 : Int32} (C : Ck X G RX12 cX12_build 4 4) (r : RetI X G .int P) : ∀ (n : Nat) (x2 : Int32) (σ : Mem), v_X12_build_L23 x1 P n x2 σ → V X G 4 23 [(0, .ref (gA G 33)), (1, .int x1), (2, .int x2)] [] σ := by
  intro n
  induction n with
  | zero => intro x2 σ hw; exact hw.elim
  | succ n ih =>
    intro x2 σ hw
    refine v_iload_n (pc := 23) 2 C dX12_build_23 rfl rfl ?_
    refine v_aload_n (pc := 24) 0 C dX12_build_24 rfl rfl ?_
    refine g_12_23 (pc := 25) C k_1137 dX12_build_25 ?_
    refine v_icmp_ge (pc := 28) (tgt := 57) C dX12_build_28 (by decide) (fun c => ?_) (fun c => ?_)
    · replace hw := hw.1 c
      refine v_aload_n (pc := 57) 0 C dX12_build_57 rfl rfl ?_
      refine g_12_5 (pc := 58) C k_1119 dX12_build_58 ?_
      exact v_iret (pc := 61) C r hw dX12_build_61
    · replace hw := hw.2 c
      refine v_iload_n (pc := 31) 1 C dX12_build_31 rfl rfl ?_
      refine v_iload_n (pc := 32) 2 C dX12_build_32 rfl rfl ?_
      refine v_ishr (pc := 33) C dX12_build_33 ?_
      refine v_iconst (pc := 34) (v := 1) C dX12_build_34 (by decide) ?_
      refine v_iand (pc := 35) C dX12_build_35 ?_
      refine v_iconst (pc := 36) (v := 1) C dX12_build_36 (by decide) ?_
      refine v_icmp_ne (pc := 37) (tgt := 51) C dX12_build_37 (by decide) (fun c => ?_) (fun c => ?_)
      · replace hw := hw.2 c
        refine v_iinc (pc := 51) (v := x2 + 1) 2 C dX12_build_51 rfl rfl (by decide) rfl ?_
        refine v_goto (pc := 54) (tgt := 23) C dX12_build_54 (by decide) ?_
        refine v_sub [1, 2, 0] rfl ?_
        exact ih _ _ hw
      · replace hw := hw.1 c
        refine v_aload_n (pc := 40) 0 C dX12_build_40 rfl rfl ?_
        refine v_aload_n (pc := 41) 0 C dX12_build_41 rfl rfl ?_
        refine g_12_24 (pc := 42) C k_1138 dX12_build_42 ?_
        refine v_iload_n (pc := 45) 2 C dX12_build_45 rfl rfl ?_
        refine v_iald (pc := 46) C rfl hw.1 dX12_build_46 ?_
        replace hw := hw.2
        refine v_cVi (pc := 47) (o := 33) (As := [.int (σ.1 51 (Int32.toNatClampNeg x2))]) (rest := []) (ci := 12) C (c_X12_cutFor hw) pk_X12_cutFor k_1252 rfl (by decide) rfl (by decide) rfl rfl (Nat.le_of_ble_eq_true rfl) dX12_build_47 (fun r_3 σ_4 hw => ?_)
        refine v_istore_n (pc := 50) C dX12_build_50 rfl (by decide) rfl ?_
        refine v_iinc (pc := 51) (v := x2 + 1) 3 C dX12_build_51 rfl rfl (by decide) rfl ?_
        refine v_goto (pc := 54) (tgt := 23) C dX12_build_54 (by decide) ?_
        refine v_sub [2, 3, 0] rfl ?_
        exact ih _ _ hw

theorem c_X12_build {l : Launch} {G : Gl} {a1 : Int32} {σ : Mem} {P : Int32 → Mem → Prop} (hw : v_X12_build a1 σ P) : MetI l yX12_build cX12_build 4 .int 4 G [.ref (gA G 33), .int a1] σ P := by
  refine MetI.of RX12 (by decide +kernel) rfl (Nat.le_of_ble_eq_true rfl) (fun X C r => ?_)
  show V X G 4 0 [(0, .ref (gA G 33)), (1, .int a1)] [] σ
  unfold v_X12_build at hw
  refine v_aload_n (pc := 0) 0 C dX12_build_0 rfl rfl ?_
  refine v_iload_n (pc := 1) 1 C dX12_build_1 rfl rfl ?_
  refine v_cVi (pc := 2) (o := 33) (As := [.int a1]) (rest := []) (ci := 12) C (c_X12_areOffers hw) pk_X12_areOffers k_1446 rfl (by decide) rfl (by decide) rfl rfl (Nat.le_of_ble_eq_true rfl) dX12_build_2 (fun r_1 σ_2 hw => ?_)
  refine v_if_ne (pc := 5) (tgt := 11) C dX12_build_5 (by decide) (fun c => ?_) (fun c => ?_)
  · replace hw := hw.2 c
    refine v_aload_n (pc := 11) 0 C dX12_build_11 rfl rfl ?_
    refine v_iconst (pc := 12) (v := 0) C dX12_build_12 (by decide) ?_
    refine p_12_5 (pc := 13) C k_1119 dX12_build_13 ?_
    refine v_aload_n (pc := 16) 0 C dX12_build_16 rfl rfl ?_
    refine v_iconst (pc := 17) (v := 0) C dX12_build_17 (by decide) ?_
    refine p_12_33 (pc := 18) C k_1147 dX12_build_18 ?_
    refine v_iconst (pc := 21) (v := 0) C dX12_build_21 (by decide) ?_
    refine v_istore_n (pc := 22) C dX12_build_22 rfl (by decide) rfl ?_
    refine v_sub [1, 2, 0] rfl ?_
    refine w_X12_build_L23 C r 5000 _ _ hw
  · replace hw := hw.1 c
    refine v_bipush (pc := 8) (v := (-2)) C dX12_build_8 (by decide) ?_
    exact v_iret (pc := 10) C r hw dX12_build_10

theorem c_X12_change {l : Launch} {G : Gl} {a1 : Int32} {a2 : Int32} {σ : Mem} {P : Int32 → Mem → Prop} (hw : v_X12_change a1 a2 σ P) : MetI l yX12_change cX12_change 4 .int 1 G [.ref (gA G 33), .int a1, .int a2] σ P := by
  refine MetI.of RX12 (by decide +kernel) rfl (Nat.le_of_ble_eq_true rfl) (fun X C r => ?_)
  show V X G 4 0 [(0, .ref (gA G 33)), (1, .int a1), (2, .int a2)] [] σ
  unfold v_X12_change at hw
  refine v_aload_n (pc := 0) 0 C dX12_change_0 rfl rfl ?_
  refine v_iload_n (pc := 1) 1 C dX12_change_1 rfl rfl ?_
  refine v_cVi (pc := 2) (o := 33) (As := [.int a1]) (rest := []) (ci := 12) C (c_X12_isBar hw) pk_X12_isBar k_1285 rfl (by decide) rfl (by decide) rfl rfl (Nat.le_of_ble_eq_true rfl) dX12_change_2 (fun r_1 σ_2 hw => ?_)
  refine v_if_eq (pc := 5) (tgt := 16) C dX12_change_5 (by decide) (fun c => ?_) (fun c => ?_)
  · replace hw := hw.1 c
    refine v_iconst (pc := 16) (v := (-1)) C dX12_change_16 (by decide) ?_
    exact v_iret (pc := 17) C r hw dX12_change_17
  · replace hw := hw.2 c
    refine v_aload_n (pc := 8) 0 C dX12_change_8 rfl rfl ?_
    refine v_iload_n (pc := 9) 2 C dX12_change_9 rfl rfl ?_
    refine v_cVi (pc := 10) (o := 33) (As := [.int a2]) (rest := []) (ci := 12) C (c_X12_isBar hw) pk_X12_isBar k_1285 rfl (by decide) rfl (by decide) rfl rfl (Nat.le_of_ble_eq_true rfl) dX12_change_10 (fun r_3 σ_4 hw => ?_)
    refine v_if_ne (pc := 13) (tgt := 18) C dX12_change_13 (by decide) (fun c => ?_) (fun c => ?_)
    · replace hw := hw.2 c
      refine v_aload_n (pc := 18) 0 C dX12_change_18 rfl rfl ?_
      refine g_12_8 (pc := 19) C k_1122 dX12_change_19 ?_
      refine v_iload_n (pc := 22) 1 C dX12_change_22 rfl rfl ?_
      refine v_iald (pc := 23) C rfl hw.1 dX12_change_23 ?_
      replace hw := hw.2
      refine v_istore_n (pc := 24) C dX12_change_24 rfl (by decide) rfl ?_
      refine v_aload_n (pc := 25) 1 C dX12_change_25 rfl rfl ?_
      refine g_12_8 (pc := 26) C k_1122 dX12_change_26 ?_
      refine v_iload_n (pc := 29) 2 C dX12_change_29 rfl rfl ?_
      refine v_aload_n (pc := 30) 1 C dX12_change_30 rfl rfl ?_
      refine g_12_8 (pc := 31) C k_1122 dX12_change_31 ?_
      refine v_iload_n (pc := 34) 3 C dX12_change_34 rfl rfl ?_
      refine v_iald (pc := 35) C rfl hw.1 dX12_change_35 ?_
      replace hw := hw.2
      refine v_iast (pc := 36) C rfl hw.1 dX12_change_36 ?_
      replace hw := hw.2
      refine v_aload_n (pc := 37) 1 C dX12_change_37 rfl rfl ?_
      refine g_12_8 (pc := 38) C k_1122 dX12_change_38 ?_
      refine v_iload_n (pc := 41) 3 C dX12_change_41 rfl rfl ?_
      refine v_iload_n (pc := 42) 0 C dX12_change_42 rfl rfl ?_
      refine v_iast (pc := 43) C rfl hw.1 dX12_change_43 ?_
      replace hw := hw.2
      refine v_iload_n (pc := 44) 2 C dX12_change_44 rfl rfl ?_
      refine v_iload_n (pc := 45) 3 C dX12_change_45 rfl rfl ?_
      refine v_icmp_ne (pc := 46) (tgt := 53) C dX12_change_46 (by decide) (fun c => ?_) (fun c => ?_)
      · replace hw := hw.2 c
        refine v_iconst (pc := 53) (v := 1) C dX12_change_53 (by decide) ?_
        exact v_iret (pc := 54) C r hw dX12_change_54
      · replace hw := hw.1 c
        refine v_iconst (pc := 49) (v := 0) C dX12_change_49 (by decide) ?_
        refine v_goto (pc := 50) (tgt := 54) C dX12_change_50 (by decide) ?_
        exact v_iret (pc := 54) C r hw dX12_change_54
    · replace hw := hw.1 c
      refine v_iconst (pc := 16) (v := (-1)) C dX12_change_16 (by decide) ?_
      exact v_iret (pc := 17) C r hw dX12_change_17

theorem w_X12_findOften_L6 {X : Cx} {G : Gl} {P : Mem → Prop} {K26 : Mem → Prop} (C : Ck X G RX12 cX12_findOften 5 5) (r : RetV X G P) (hK26 : ∀ (σ : Mem), K26 σ → V X G 5 26 [(0, .ref (gA G 33))] [] σ) : ∀ (n : Nat) (x1 : Int32) (σ : Mem), v_X12_findOften_L6 K26 P n x1 σ → V X G 5 6 [(0, .ref (gA G 33)), (1, .int x1)] [] σ := by
  intro n
  induction n with
  | zero => intro x1 σ hw; exact hw.elim
  | succ n ih =>
    intro x1 σ hw
    refine v_iload_n (pc := 6) 1 C dX12_findOften_6 rfl rfl ?_
    refine v_sipush (pc := 7) (v := 144) C dX12_findOften_7 (by decide) ?_
    refine v_icmp_ge (pc := 10) (tgt := 26) C dX12_findOften_10 (by decide) (fun c => ?_) (fun c => ?_)
    · replace hw := hw.1 c
      refine v_sub [0] rfl ?_
      exact hK26 _ hw
    · replace hw := hw.2 c
      refine v_aload_n (pc := 13) 0 C dX12_findOften_13 rfl rfl ?_
      refine g_12_28 (pc := 14) C k_1142 dX12_findOften_14 ?_
      refine v_iload_n (pc := 17) 1 C dX12_findOften_17 rfl rfl ?_
      refine v_iconst (pc := 18) (v := 0) C dX12_findOften_18 (by decide) ?_
      refine v_iast (pc := 19) C rfl hw.1 dX12_findOften_19 ?_
      replace hw := hw.2
      refine v_iinc (pc := 20) (v := x1 + 1) 1 C dX12_findOften_20 rfl rfl (by decide) rfl ?_
      refine v_goto (pc := 23) (tgt := 6) C dX12_findOften_23 (by decide) ?_
      refine v_sub [1, 0] rfl ?_
      exact ih _ _ hw

theorem w_X12_findOften_L38 {X : Cx} {G : Gl} {P : Mem → Prop} {x1 : Int32} {K138 : Mem → Prop} (C : Ck X G RX12 cX12_findOften 5 5) (r : RetV X G P) (hK138 : ∀ (σ : Mem), K138 σ → V X G 5 138 [(0, .ref (gA G 33)), (1, .int x1)] [] σ) : ∀ (n : Nat) (x2 : Int32) (σ : Mem), v_X12_findOften_L38 x1 K138 P n x2 σ → V X G 5 38 [(0, .ref (gA G 33)), (1, .int x1), (2, .int x2)] [] σ := by
  intro n
  induction n with
  | zero => intro x2 σ hw; exact hw.elim
  | succ n ih =>
    intro x2 σ hw
    refine v_iload_n (pc := 38) 2 C dX12_findOften_38 rfl rfl ?_
    refine v_aload_n (pc := 39) 0 C dX12_findOften_39 rfl rfl ?_
    refine g_12_16 (pc := 40) C k_1130 dX12_findOften_40 ?_
    refine v_iload_n (pc := 43) 1 C dX12_findOften_43 rfl rfl ?_
    refine v_iald (pc := 44) C rfl hw.1 dX12_findOften_44 ?_
    replace hw := hw.2
    refine v_icmp_ge (pc := 45) (tgt := 138) C dX12_findOften_45 (by decide) (fun c => ?_) (fun c => ?_)
    · replace hw := hw.1 c
      refine v_sub [0, 1] rfl ?_
      exact hK138 _ hw
    · replace hw := hw.2 c
      refine v_aload_n (pc := 48) 0 C dX12_findOften_48 rfl rfl ?_
      refine g_12_13 (pc := 49) C k_1127 dX12_findOften_49 ?_
      refine v_aload_n (pc := 52) 0 C dX12_findOften_52 rfl rfl ?_
      refine v_iload_n (pc := 53) 1 C dX12_findOften_53 rfl rfl ?_
      refine v_iload_n (pc := 54) 2 C dX12_findOften_54 rfl rfl ?_
      refine v_iconst (pc := 55) (v := 1) C dX12_findOften_55 (by decide) ?_
      refine v_isub (pc := 56) C dX12_findOften_56 ?_
      refine v_aload_n (pc := 57) 0 C dX12_findOften_57 rfl rfl ?_
      refine g_12_17 (pc := 58) C k_1131 dX12_findOften_58 ?_
      refine v_iload_n (pc := 61) 1 C dX12_findOften_61 rfl rfl ?_
      refine v_iald (pc := 62) C rfl hw.1 dX12_findOften_62 ?_
      replace hw := hw.2
      refine v_cVi (pc := 63) (o := 33) (As := [.int x1, .int (x2 - 1), .int (σ.1 45 (Int32.toNatClampNeg x1))]) (rest := [.ref (gA G 42)]) (ci := 12) C (c_X12_chordAt hw) pk_X12_chordAt k_1390 rfl (by decide) rfl (by decide) rfl rfl (Nat.le_of_ble_eq_true rfl) dX12_findOften_63 (fun r_4 σ_5 hw => ?_)
      refine v_iald (pc := 66) C rfl hw.1 dX12_findOften_66 ?_
      replace hw := hw.2
      refine v_istore_n (pc := 67) C dX12_findOften_67 rfl (by decide) rfl ?_
      refine v_aload_n (pc := 68) 1 C dX12_findOften_68 rfl rfl ?_
      refine g_12_13 (pc := 69) C k_1127 dX12_findOften_69 ?_
      refine v_aload_n (pc := 72) 1 C dX12_findOften_72 rfl rfl ?_
      refine v_iload_n (pc := 73) 2 C dX12_findOften_73 rfl rfl ?_
      refine v_iload_n (pc := 74) 3 C dX12_findOften_74 rfl rfl ?_
      refine v_aload_n (pc := 75) 1 C dX12_findOften_75 rfl rfl ?_
      refine g_12_17 (pc := 76) C k_1131 dX12_findOften_76 ?_
      refine v_iload_n (pc := 79) 2 C dX12_findOften_79 rfl rfl ?_
      refine v_iald (pc := 80) C rfl hw.1 dX12_findOften_80 ?_
      replace hw := hw.2
      refine v_cVi (pc := 81) (o := 33) (As := [.int x1, .int x2, .int (σ_5.1 45 (Int32.toNatClampNeg x1))]) (rest := [.ref (gA G 42)]) (ci := 12) C (c_X12_chordAt hw) pk_X12_chordAt k_1390 rfl (by decide) rfl (by decide) rfl rfl (Nat.le_of_ble_eq_true rfl) dX12_findOften_81 (fun r_6 σ_7 hw => ?_)
      refine v_iald (pc := 84) C rfl hw.1 dX12_findOften_84 ?_
      replace hw := hw.2
      refine v_istore (pc := 85) C dX12_findOften_85 (by decide) rfl ?_
      refine v_iload_n (pc := 87) 1 C dX12_findOften_87 rfl rfl ?_
      refine v_bipush (pc := 88) (v := (-9)) C dX12_findOften_88 (by decide) ?_
      refine v_icmp_eq (pc := 90) (tgt := 132) C dX12_findOften_90 (by decide) (fun c => ?_) (fun c => ?_)
      · replace hw := hw.1 c
        refine v_iinc (pc := 132) (v := x2 + 1) 4 C dX12_findOften_132 rfl rfl (by decide) rfl ?_
        refine v_goto (pc := 135) (tgt := 38) C dX12_findOften_135 (by decide) ?_
        refine v_sub [3, 4, 0] rfl ?_
        exact ih _ _ hw
      · replace hw := hw.2 c
        refine v_iload (pc := 93) 0 C dX12_findOften_93 rfl ?_
        refine v_bipush (pc := 95) (v := (-9)) C dX12_findOften_95 (by decide) ?_
        refine v_icmp_eq (pc := 97) (tgt := 132) C dX12_findOften_97 (by decide) (fun c => ?_) (fun c => ?_)
        · replace hw := hw.1 c
          refine v_iinc (pc := 132) (v := x2 + 1) 4 C dX12_findOften_132 rfl rfl (by decide) rfl ?_
          refine v_goto (pc := 135) (tgt := 38) C dX12_findOften_135 (by decide) ?_
          refine v_sub [3, 4, 0] rfl ?_
          exact ih _ _ hw
        · replace hw := hw.2 c
          refine v_aload_n (pc := 100) 2 C dX12_findOften_100 rfl rfl ?_
          refine g_12_28 (pc := 101) C k_1142 dX12_findOften_101 ?_
          refine v_bipush (pc := 104) (v := 12) C dX12_findOften_104 (by decide) ?_
          refine v_aload_n (pc := 106) 2 C dX12_findOften_106 rfl rfl ?_
          refine g_12_11 (pc := 107) C k_1125 dX12_findOften_107 ?_
          refine v_iload_n (pc := 110) 1 C dX12_findOften_110 rfl rfl ?_
          refine v_iald (pc := 111) C rfl hw.1 dX12_findOften_111 ?_
          replace hw := hw.2
          refine v_callSi (pc := 112) (As := [.int (σ_7.1 40 (Int32.toNatClampNeg (σ_5.1 42 (Int32.toNatClampNeg r_4))))]) (rest := [.int 12, .ref (gA G 55)]) C (c_X12_lowest hw) pk_X12_lowest (Or.inl k_1462) (by decide) rfl rfl (Nat.le_of_ble_eq_true rfl) dX12_findOften_112 (fun r_8 σ_9 hw => ?_)
          refine v_imul (pc := 115) C dX12_findOften_115 ?_
          refine v_aload_n (pc := 116) 2 C dX12_findOften_116 rfl rfl ?_
          refine g_12_11 (pc := 117) C k_1125 dX12_findOften_117 ?_
          refine v_iload (pc := 120) 0 C dX12_findOften_120 rfl ?_
          refine v_iald (pc := 122) C rfl hw.1 dX12_findOften_122 ?_
          replace hw := hw.2
          refine v_callSi (pc := 123) (As := [.int (σ_9.1 40 (Int32.toNatClampNeg (σ_7.1 42 (Int32.toNatClampNeg r_6))))]) (rest := [.int (12 * r_8), .ref (gA G 55)]) C (c_X12_lowest hw) pk_X12_lowest (Or.inl k_1462) (by decide) rfl rfl (Nat.le_of_ble_eq_true rfl) dX12_findOften_123 (fun r_10 σ_11 hw => ?_)
          refine v_iadd (pc := 126) C dX12_findOften_126 ?_
          refine v_dup2 (pc := 127) C dX12_findOften_127 rfl rfl ?_
          refine v_iald (pc := 128) C rfl hw.1 dX12_findOften_128 ?_
          replace hw := hw.2
          refine v_iconst (pc := 129) (v := 1) C dX12_findOften_129 (by decide) ?_
          refine v_iadd (pc := 130) C dX12_findOften_130 ?_
          refine v_iast (pc := 131) C rfl hw.1 dX12_findOften_131 ?_
          replace hw := hw.2
          refine v_iinc (pc := 132) (v := x2 + 1) 4 C dX12_findOften_132 rfl rfl (by decide) rfl ?_
          refine v_goto (pc := 135) (tgt := 38) C dX12_findOften_135 (by decide) ?_
          refine v_sub [3, 4, 0] rfl ?_
          exact ih _ _ hw

theorem w_X12_findOften_L28 {X : Cx} {G : Gl} {P : Mem → Prop} (C : Ck X G RX12 cX12_findOften 5 5) (r : RetV X G P) : ∀ (n : Nat) (x1 : Int32) (σ : Mem), v_X12_findOften_L28 P n x1 σ → V X G 5 28 [(0, .ref (gA G 33)), (1, .int x1)] [] σ := by
  intro n
  induction n with
  | zero => intro x1 σ hw; exact hw.elim
  | succ n ih =>
    intro x1 σ hw
    refine v_iload_n (pc := 28) 1 C dX12_findOften_28 rfl rfl ?_
    refine v_aload_n (pc := 29) 0 C dX12_findOften_29 rfl rfl ?_
    refine g_12_15 (pc := 30) C k_1129 dX12_findOften_30 ?_
    refine v_icmp_ge (pc := 33) (tgt := 144) C dX12_findOften_33 (by decide) (fun c => ?_) (fun c => ?_)
    · replace hw := hw.1 c
      exact v_vret (pc := 144) C r hw dX12_findOften_144
    · replace hw := hw.2 c
      refine v_iconst (pc := 36) (v := 1) C dX12_findOften_36 (by decide) ?_
      refine v_istore_n (pc := 37) C dX12_findOften_37 rfl (by decide) rfl ?_
      refine v_sub [1, 2, 0] rfl ?_
      refine w_X12_findOften_L38 C r ?_ 5000 _ _ hw
      · intro σ_13 hw
        refine v_iinc (pc := 138) (v := x1 + 1) 1 C dX12_findOften_138 rfl rfl (by decide) rfl ?_
        refine v_goto (pc := 141) (tgt := 28) C dX12_findOften_141 (by decide) ?_
        refine v_sub [1, 0] rfl ?_
        exact ih _ _ hw

theorem c_X12_findOften {l : Launch} {G : Gl} {σ : Mem} {P : Mem → Prop} (hw : v_X12_findOften σ P) : MetV l yX12_findOften cX12_findOften 5 5 G [.ref (gA G 33)] σ P := by
  refine MetV.of RX12 (by decide +kernel) rfl (Nat.le_of_ble_eq_true rfl) (fun X C r => ?_)
  show V X G 5 0 [(0, .ref (gA G 33))] [] σ
  unfold v_X12_findOften at hw
  refine v_aload_n (pc := 0) 0 C dX12_findOften_0 rfl rfl ?_
  refine v_cVv (pc := 1) (o := 33) (As := []) (rest := []) (ci := 12) C (c_X12_findHolds hw) pk_X12_findHolds k_1349 rfl (by decide) rfl (by decide) rfl rfl (Nat.le_of_ble_eq_true rfl) dX12_findOften_1 (fun σ_1 hw => ?_)
  refine v_iconst (pc := 4) (v := 0) C dX12_findOften_4 (by decide) ?_
  refine v_istore_n (pc := 5) C dX12_findOften_5 rfl (by decide) rfl ?_
  refine v_sub [1, 0] rfl ?_
  refine w_X12_findOften_L6 C r ?_ 5000 _ _ hw
  · intro σ_3 hw
    refine v_iconst (pc := 26) (v := 0) C dX12_findOften_26 (by decide) ?_
    refine v_istore_n (pc := 27) C dX12_findOften_27 rfl (by decide) rfl ?_
    refine v_sub [1, 0] rfl ?_
    refine w_X12_findOften_L28 C r 5000 _ _ hw

theorem w_X12_way_L18 {X : Cx} {G : Gl} {P : Int32 → Mem → Prop} {x2 : Int32} {K75 : Int32 → Mem → Prop} (C : Ck X G RX12 cX12_way 5 6) (r : RetI X G .int P) (hK75 : ∀ (x1 : Int32) (σ : Mem), K75 x1 σ → V X G 5 75 [(0, .ref (gA G 33)), (1, .int x1), (2, .int x2)] [] σ) : ∀ (n : Nat) (x1 : Int32) (x3 : Int32) (σ : Mem), v_X12_way_L18 x2 K75 P n x1 x3 σ → V X G 5 18 [(0, .ref (gA G 33)), (1, .int x1), (2, .int x2), (3, .int x3)] [] σ := by
  intro n
  induction n with
  | zero => intro x1 x3 σ hw; exact hw.elim
  | succ n ih =>
    intro x1 x3 σ hw
    refine v_iload_n (pc := 18) 3 C dX12_way_18 rfl rfl ?_
    refine v_aload_n (pc := 19) 0 C dX12_way_19 rfl rfl ?_
    refine g_12_5 (pc := 20) C k_1119 dX12_way_20 ?_
    refine v_icmp_ge (pc := 23) (tgt := 75) C dX12_way_23 (by decide) (fun c => ?_) (fun c => ?_)
    · replace hw := hw.1 c
      refine v_sub [0, 1, 2] rfl ?_
      exact hK75 _ _ hw
    · replace hw := hw.2 c
      refine v_aload_n (pc := 26) 0 C dX12_way_26 rfl rfl ?_
      refine g_12_8 (pc := 27) C k_1122 dX12_way_27 ?_
      refine v_iload_n (pc := 30) 2 C dX12_way_30 rfl rfl ?_
      refine v_iald (pc := 31) C rfl hw.1 dX12_way_31 ?_
      replace hw := hw.2
      refine v_aload_n (pc := 32) 0 C dX12_way_32 rfl rfl ?_
      refine g_12_8 (pc := 33) C k_1122 dX12_way_33 ?_
      refine v_iload_n (pc := 36) 3 C dX12_way_36 rfl rfl ?_
      refine v_iald (pc := 37) C rfl hw.1 dX12_way_37 ?_
      replace hw := hw.2
      refine v_isub (pc := 38) C dX12_way_38 ?_
      refine v_topi (fun y_2 ey_2 => ?_)
      replace hw := hw y_2 ey_2
      refine v_istore (pc := 39) C dX12_way_39 (by decide) rfl ?_
      refine v_iload_n (pc := 41) 2 C dX12_way_41 rfl rfl ?_
      refine v_aload_n (pc := 42) 1 C dX12_way_42 rfl rfl ?_
      refine g_12_28 (pc := 43) C k_1142 dX12_way_43 ?_
      refine v_bipush (pc := 46) (v := 12) C dX12_way_46 (by decide) ?_
      refine v_iload_n (pc := 48) 3 C dX12_way_48 rfl rfl ?_
      refine v_imul (pc := 49) C dX12_way_49 ?_
      refine v_iload_n (pc := 50) 4 C dX12_way_50 rfl rfl ?_
      refine v_iadd (pc := 51) C dX12_way_51 ?_
      refine v_iald (pc := 52) C rfl hw.1 dX12_way_52 ?_
      replace hw := hw.2
      refine v_iload (pc := 53) 0 C dX12_way_53 rfl ?_
      refine v_if_ge (pc := 55) (tgt := 64) C dX12_way_55 (by decide) (fun c => ?_) (fun c => ?_)
      · replace hw := hw.1 c
        refine v_iload (pc := 64) 0 C dX12_way_64 rfl ?_
        refine v_imul (pc := 66) C dX12_way_66 ?_
        refine v_iadd (pc := 67) C dX12_way_67 ?_
        refine v_istore_n (pc := 68) C dX12_way_68 rfl (by decide) rfl ?_
        refine v_iinc (pc := 69) (v := x3 + 1) 4 C dX12_way_69 rfl rfl (by decide) rfl ?_
        refine v_goto (pc := 72) (tgt := 18) C dX12_way_72 (by decide) ?_
        refine v_sub [3, 1, 4, 0] rfl ?_
        exact ih _ _ _ hw
      · replace hw := hw.2 c
        refine v_iload (pc := 58) 0 C dX12_way_58 rfl ?_
        refine v_ineg (pc := 60) C dX12_way_60 ?_
        refine v_goto (pc := 61) (tgt := 66) C dX12_way_61 (by decide) ?_
        refine v_imul (pc := 66) C dX12_way_66 ?_
        refine v_iadd (pc := 67) C dX12_way_67 ?_
        refine v_topi (fun y_3 ey_3 => ?_)
        replace hw := hw y_3 ey_3
        refine v_istore_n (pc := 68) C dX12_way_68 rfl (by decide) rfl ?_
        refine v_iinc (pc := 69) (v := x3 + 1) 4 C dX12_way_69 rfl rfl (by decide) rfl ?_
        refine v_goto (pc := 72) (tgt := 18) C dX12_way_72 (by decide) ?_
        refine v_sub [3, 1, 4, 0] rfl ?_
        exact ih _ _ _ hw

theorem w_X12_way_L8 {X : Cx} {G : Gl} {P : Int32 → Mem → Prop} (C : Ck X G RX12 cX12_way 5 6) (r : RetI X G .int P) : ∀ (n : Nat) (x1 : Int32) (x2 : Int32) (σ : Mem), v_X12_way_L8 P n x1 x2 σ → V X G 5 8 [(0, .ref (gA G 33)), (1, .int x1), (2, .int x2)] [] σ := by
  intro n
  induction n with
  | zero => intro x1 x2 σ hw; exact hw.elim
  | succ n ih =>
    intro x1 x2 σ hw
    refine v_iload_n (pc := 8) 2 C dX12_way_8 rfl rfl ?_
    refine v_aload_n (pc := 9) 0 C dX12_way_9 rfl rfl ?_
    refine g_12_5 (pc := 10) C k_1119 dX12_way_10 ?_
    refine v_icmp_ge (pc := 13) (tgt := 81) C dX12_way_13 (by decide) (fun c => ?_) (fun c => ?_)
    · replace hw := hw.1 c
      refine v_iload_n (pc := 81) 1 C dX12_way_81 rfl rfl ?_
      exact v_iret (pc := 82) C r hw dX12_way_82
    · replace hw := hw.2 c
      refine v_iconst (pc := 16) (v := 0) C dX12_way_16 (by decide) ?_
      refine v_istore_n (pc := 17) C dX12_way_17 rfl (by decide) rfl ?_
      refine v_sub [1, 2, 3, 0] rfl ?_
      refine w_X12_way_L18 C r ?_ 5000 _ _ _ hw
      · intro x1_4 σ_5 hw
        refine v_iinc (pc := 75) (v := x2 + 1) 2 C dX12_way_75 rfl rfl (by decide) rfl ?_
        refine v_goto (pc := 78) (tgt := 8) C dX12_way_78 (by decide) ?_
        refine v_sub [1, 2, 0] rfl ?_
        exact ih _ _ _ hw

theorem c_X12_way {l : Launch} {G : Gl} {σ : Mem} {P : Int32 → Mem → Prop} (hw : v_X12_way σ P) : MetI l yX12_way cX12_way 5 .int 6 G [.ref (gA G 33)] σ P := by
  refine MetI.of RX12 (by decide +kernel) rfl (Nat.le_of_ble_eq_true rfl) (fun X C r => ?_)
  show V X G 5 0 [(0, .ref (gA G 33))] [] σ
  unfold v_X12_way at hw
  refine v_aload_n (pc := 0) 0 C dX12_way_0 rfl rfl ?_
  refine v_cVv (pc := 1) (o := 33) (As := []) (rest := []) (ci := 12) C (c_X12_findOften hw) pk_X12_findOften k_1488 rfl (by decide) rfl (by decide) rfl rfl (Nat.le_of_ble_eq_true rfl) dX12_way_1 (fun σ_1 hw => ?_)
  refine v_iconst (pc := 4) (v := 0) C dX12_way_4 (by decide) ?_
  refine v_istore_n (pc := 5) C dX12_way_5 rfl (by decide) rfl ?_
  refine v_iconst (pc := 6) (v := 0) C dX12_way_6 (by decide) ?_
  refine v_istore_n (pc := 7) C dX12_way_7 rfl (by decide) rfl ?_
  refine v_sub [2, 1, 0] rfl ?_
  refine w_X12_way_L8 C r 5000 _ _ _ hw

theorem w_X12_findLeast_L40 {X : Cx} {G : Gl} {P : Mem → Prop} {x1 : Int32} {x2 : Int32} {x3 : Int32} {K94 : Mem → Prop} (C : Ck X G RX12 cX12_findLeast 6 6) (r : RetV X G P) (hK94 : ∀ (σ : Mem), K94 σ → V X G 6 94 [(0, .ref (gA G 33)), (1, .int x1), (2, .int x2), (3, .int x3)] [] σ) : ∀ (n : Nat) (x4 : Int32) (σ : Mem), v_X12_findLeast_L40 x1 x2 x3 K94 P n x4 σ → V X G 6 40 [(0, .ref (gA G 33)), (1, .int x1), (2, .int x2), (3, .int x3), (4, .int x4)] [] σ := by
  intro n
  induction n with
  | zero => intro x4 σ hw; exact hw.elim
  | succ n ih =>
    intro x4 σ hw
    refine v_iload (pc := 40) 4 C dX12_findLeast_40 rfl ?_
    refine v_aload_n (pc := 42) 0 C dX12_findLeast_42 rfl rfl ?_
    refine g_12_5 (pc := 43) C k_1119 dX12_findLeast_43 ?_
    refine v_icmp_ge (pc := 46) (tgt := 94) C dX12_findLeast_46 (by decide) (fun c => ?_) (fun c => ?_)
    · replace hw := hw.1 c
      refine v_sub [0, 1, 2, 3] rfl ?_
      exact hK94 _ hw
    · replace hw := hw.2 c
      refine v_aload_n (pc := 49) 0 C dX12_findLeast_49 rfl rfl ?_
      refine g_12_29 (pc := 50) C k_1143 dX12_findLeast_50 ?_
      refine v_iload_n (pc := 53) 2 C dX12_findLeast_53 rfl rfl ?_
      refine v_dup2 (pc := 54) C dX12_findLeast_54 rfl rfl ?_
      refine v_iald (pc := 55) C rfl hw.1 dX12_findLeast_55 ?_
      replace hw := hw.2
      refine v_iload_n (pc := 56) 2 C dX12_findLeast_56 rfl rfl ?_
      refine v_iload_n (pc := 57) 3 C dX12_findLeast_57 rfl rfl ?_
      refine v_ishr (pc := 58) C dX12_findLeast_58 ?_
      refine v_iconst (pc := 59) (v := 1) C dX12_findLeast_59 (by decide) ?_
      refine v_iand (pc := 60) C dX12_findLeast_60 ?_
      refine v_iload_n (pc := 61) 2 C dX12_findLeast_61 rfl rfl ?_
      refine v_iload (pc := 62) 4 C dX12_findLeast_62 rfl ?_
      refine v_ishr (pc := 64) C dX12_findLeast_64 ?_
      refine v_iconst (pc := 65) (v := 1) C dX12_findLeast_65 (by decide) ?_
      refine v_iand (pc := 66) C dX12_findLeast_66 ?_
      refine v_icmp_eq (pc := 67) (tgt := 85) C dX12_findLeast_67 (by decide) (fun c => ?_) (fun c => ?_)
      · replace hw := hw.1 c
        refine v_iconst (pc := 85) (v := 0) C dX12_findLeast_85 (by decide) ?_
        refine v_iadd (pc := 86) C dX12_findLeast_86 ?_
        refine v_iast (pc := 87) C rfl hw.1 dX12_findLeast_87 ?_
        replace hw := hw.2
        refine v_iinc (pc := 88) (v := x4 + 1) 4 C dX12_findLeast_88 rfl rfl (by decide) rfl ?_
        refine v_goto (pc := 91) (tgt := 40) C dX12_findLeast_91 (by decide) ?_
        refine v_sub [1, 2, 3, 4, 0] rfl ?_
        exact ih _ _ hw
      · replace hw := hw.2 c
        refine v_aload_n (pc := 70) 0 C dX12_findLeast_70 rfl rfl ?_
        refine g_12_28 (pc := 71) C k_1142 dX12_findLeast_71 ?_
        refine v_bipush (pc := 74) (v := 12) C dX12_findLeast_74 (by decide) ?_
        refine v_iload_n (pc := 76) 3 C dX12_findLeast_76 rfl rfl ?_
        refine v_imul (pc := 77) C dX12_findLeast_77 ?_
        refine v_iload (pc := 78) 4 C dX12_findLeast_78 rfl ?_
        refine v_iadd (pc := 80) C dX12_findLeast_80 ?_
        refine v_iald (pc := 81) C rfl hw.1 dX12_findLeast_81 ?_
        replace hw := hw.2
        refine v_goto (pc := 82) (tgt := 86) C dX12_findLeast_82 (by decide) ?_
        refine v_iadd (pc := 86) C dX12_findLeast_86 ?_
        refine v_iast (pc := 87) C rfl hw.1 dX12_findLeast_87 ?_
        replace hw := hw.2
        refine v_iinc (pc := 88) (v := x4 + 1) 4 C dX12_findLeast_88 rfl rfl (by decide) rfl ?_
        refine v_goto (pc := 91) (tgt := 40) C dX12_findLeast_91 (by decide) ?_
        refine v_sub [1, 2, 3, 4, 0] rfl ?_
        exact ih _ _ hw

theorem w_X12_findLeast_L29 {X : Cx} {G : Gl} {P : Mem → Prop} {x1 : Int32} {x2 : Int32} {K100 : Mem → Prop} (C : Ck X G RX12 cX12_findLeast 6 6) (r : RetV X G P) (hK100 : ∀ (σ : Mem), K100 σ → V X G 6 100 [(0, .ref (gA G 33)), (1, .int x1), (2, .int x2)] [] σ) : ∀ (n : Nat) (x3 : Int32) (σ : Mem), v_X12_findLeast_L29 x1 x2 K100 P n x3 σ → V X G 6 29 [(0, .ref (gA G 33)), (1, .int x1), (2, .int x2), (3, .int x3)] [] σ := by
  intro n
  induction n with
  | zero => intro x3 σ hw; exact hw.elim
  | succ n ih =>
    intro x3 σ hw
    refine v_iload_n (pc := 29) 3 C dX12_findLeast_29 rfl rfl ?_
    refine v_aload_n (pc := 30) 0 C dX12_findLeast_30 rfl rfl ?_
    refine g_12_5 (pc := 31) C k_1119 dX12_findLeast_31 ?_
    refine v_icmp_ge (pc := 34) (tgt := 100) C dX12_findLeast_34 (by decide) (fun c => ?_) (fun c => ?_)
    · replace hw := hw.1 c
      refine v_sub [0, 1, 2] rfl ?_
      exact hK100 _ hw
    · replace hw := hw.2 c
      refine v_iconst (pc := 37) (v := 0) C dX12_findLeast_37 (by decide) ?_
      refine v_istore (pc := 38) C dX12_findLeast_38 (by decide) rfl ?_
      refine v_sub [1, 2, 3, 4, 0] rfl ?_
      refine w_X12_findLeast_L40 C r ?_ 5000 _ _ hw
      · intro σ_3 hw
        refine v_iinc (pc := 94) (v := x3 + 1) 3 C dX12_findLeast_94 rfl rfl (by decide) rfl ?_
        refine v_goto (pc := 97) (tgt := 29) C dX12_findLeast_97 (by decide) ?_
        refine v_sub [1, 2, 3, 0] rfl ?_
        exact ih _ _ hw

theorem w_X12_findLeast_L15 {X : Cx} {G : Gl} {P : Mem → Prop} {x1 : Int32} {K106 : Mem → Prop} (C : Ck X G RX12 cX12_findLeast 6 6) (r : RetV X G P) (hK106 : ∀ (σ : Mem), K106 σ → V X G 6 106 [(0, .ref (gA G 33)), (1, .int x1)] [] σ) : ∀ (n : Nat) (x2 : Int32) (σ : Mem), v_X12_findLeast_L15 x1 K106 P n x2 σ → V X G 6 15 [(0, .ref (gA G 33)), (1, .int x1), (2, .int x2)] [] σ := by
  intro n
  induction n with
  | zero => intro x2 σ hw; exact hw.elim
  | succ n ih =>
    intro x2 σ hw
    refine v_iload_n (pc := 15) 2 C dX12_findLeast_15 rfl rfl ?_
    refine v_iload_n (pc := 16) 1 C dX12_findLeast_16 rfl rfl ?_
    refine v_icmp_gt (pc := 17) (tgt := 106) C dX12_findLeast_17 (by decide) (fun c => ?_) (fun c => ?_)
    · replace hw := hw.1 c
      refine v_sub [0, 1] rfl ?_
      exact hK106 _ hw
    · replace hw := hw.2 c
      refine v_aload_n (pc := 20) 0 C dX12_findLeast_20 rfl rfl ?_
      refine g_12_29 (pc := 21) C k_1143 dX12_findLeast_21 ?_
      refine v_iload_n (pc := 24) 2 C dX12_findLeast_24 rfl rfl ?_
      refine v_iconst (pc := 25) (v := 0) C dX12_findLeast_25 (by decide) ?_
      refine v_iast (pc := 26) C rfl hw.1 dX12_findLeast_26 ?_
      replace hw := hw.2
      refine v_iconst (pc := 27) (v := 0) C dX12_findLeast_27 (by decide) ?_
      refine v_istore_n (pc := 28) C dX12_findLeast_28 rfl (by decide) rfl ?_
      refine v_sub [1, 2, 3, 0] rfl ?_
      refine w_X12_findLeast_L29 C r ?_ 5000 _ _ hw
      · intro σ_5 hw
        refine v_iinc (pc := 100) (v := x2 + 1) 2 C dX12_findLeast_100 rfl rfl (by decide) rfl ?_
        refine v_goto (pc := 103) (tgt := 15) C dX12_findLeast_103 (by decide) ?_
        refine v_sub [1, 2, 0] rfl ?_
        exact ih _ _ hw

theorem w_X12_findLeast_L131 {X : Cx} {G : Gl} {P : Mem → Prop} {x2 : Int32} {K205 : Mem → Prop} (C : Ck X G RX12 cX12_findLeast 6 6) (r : RetV X G P) (hK205 : ∀ (σ : Mem), K205 σ → V X G 6 205 [(0, .ref (gA G 33)), (2, .int x2)] [] σ) : ∀ (n : Nat) (x3 : Int32) (σ : Mem), v_X12_findLeast_L131 x2 K205 P n x3 σ → V X G 6 131 [(0, .ref (gA G 33)), (2, .int x2), (3, .int x3)] [] σ := by
  intro n
  induction n with
  | zero => intro x3 σ hw; exact hw.elim
  | succ n ih =>
    intro x3 σ hw
    refine v_iload_n (pc := 131) 2 C dX12_findLeast_131 rfl rfl ?_
    refine v_aload_n (pc := 132) 0 C dX12_findLeast_132 rfl rfl ?_
    refine g_12_5 (pc := 133) C k_1119 dX12_findLeast_133 ?_
    refine v_icmp_ge (pc := 136) (tgt := 205) C dX12_findLeast_136 (by decide) (fun c => ?_) (fun c => ?_)
    · replace hw := hw.1 c
      refine v_sub [0, 1] rfl ?_
      exact hK205 _ hw
    · replace hw := hw.2 c
      refine v_iload_n (pc := 139) 1 C dX12_findLeast_139 rfl rfl ?_
      refine v_iload_n (pc := 140) 2 C dX12_findLeast_140 rfl rfl ?_
      refine v_ishr (pc := 141) C dX12_findLeast_141 ?_
      refine v_iconst (pc := 142) (v := 1) C dX12_findLeast_142 (by decide) ?_
      refine v_iand (pc := 143) C dX12_findLeast_143 ?_
      refine v_if_ne (pc := 144) (tgt := 199) C dX12_findLeast_144 (by decide) (fun c => ?_) (fun c => ?_)
      · replace hw := hw.2 c
        refine v_iinc (pc := 199) (v := x3 + 1) 2 C dX12_findLeast_199 rfl rfl (by decide) rfl ?_
        refine v_goto (pc := 202) (tgt := 131) C dX12_findLeast_202 (by decide) ?_
        refine v_sub [1, 2, 0] rfl ?_
        exact ih _ _ hw
      · replace hw := hw.1 c
        refine v_iload_n (pc := 147) 1 C dX12_findLeast_147 rfl rfl ?_
        refine v_iconst (pc := 148) (v := 1) C dX12_findLeast_148 (by decide) ?_
        refine v_iload_n (pc := 149) 2 C dX12_findLeast_149 rfl rfl ?_
        refine v_ishl (pc := 150) C dX12_findLeast_150 ?_
        refine v_ior (pc := 151) C dX12_findLeast_151 ?_
        refine v_istore (pc := 152) C dX12_findLeast_152 (by decide) rfl ?_
        refine v_aload_n (pc := 154) 1 C dX12_findLeast_154 rfl rfl ?_
        refine g_12_29 (pc := 155) C k_1143 dX12_findLeast_155 ?_
        refine v_iload (pc := 158) 0 C dX12_findLeast_158 rfl ?_
        refine v_iald (pc := 160) C rfl hw.1 dX12_findLeast_160 ?_
        replace hw := hw.2
        refine v_aload_n (pc := 161) 1 C dX12_findLeast_161 rfl rfl ?_
        refine g_12_30 (pc := 162) C k_1144 dX12_findLeast_162 ?_
        refine v_iload (pc := 165) 0 C dX12_findLeast_165 rfl ?_
        refine v_iald (pc := 167) C rfl hw.1 dX12_findLeast_167 ?_
        replace hw := hw.2
        refine v_iadd (pc := 168) C dX12_findLeast_168 ?_
        refine v_topi (fun y_8 ey_8 => ?_)
        replace hw := hw y_8 ey_8
        refine v_istore (pc := 169) C dX12_findLeast_169 (by decide) rfl ?_
        refine v_aload_n (pc := 171) 2 C dX12_findLeast_171 rfl rfl ?_
        refine g_12_30 (pc := 172) C k_1144 dX12_findLeast_172 ?_
        refine v_iload_n (pc := 175) 3 C dX12_findLeast_175 rfl rfl ?_
        refine v_iload (pc := 176) 0 C dX12_findLeast_176 rfl ?_
        refine v_aload_n (pc := 178) 2 C dX12_findLeast_178 rfl rfl ?_
        refine g_12_30 (pc := 179) C k_1144 dX12_findLeast_179 ?_
        refine v_iload_n (pc := 182) 3 C dX12_findLeast_182 rfl rfl ?_
        refine v_iald (pc := 183) C rfl hw.1 dX12_findLeast_183 ?_
        replace hw := hw.2
        refine v_icmp_ge (pc := 184) (tgt := 192) C dX12_findLeast_184 (by decide) (fun c => ?_) (fun c => ?_)
        · replace hw := hw.1 c
          refine v_aload_n (pc := 192) 2 C dX12_findLeast_192 rfl rfl ?_
          refine g_12_30 (pc := 193) C k_1144 dX12_findLeast_193 ?_
          refine v_iload_n (pc := 196) 3 C dX12_findLeast_196 rfl rfl ?_
          refine v_iald (pc := 197) C rfl hw.1 dX12_findLeast_197 ?_
          replace hw := hw.2
          refine v_iast (pc := 198) C rfl hw.1 dX12_findLeast_198 ?_
          replace hw := hw.2
          refine v_iinc (pc := 199) (v := x3 + 1) 4 C dX12_findLeast_199 rfl rfl (by decide) rfl ?_
          refine v_goto (pc := 202) (tgt := 131) C dX12_findLeast_202 (by decide) ?_
          refine v_sub [3, 4, 0] rfl ?_
          exact ih _ _ hw
        · replace hw := hw.2 c
          refine v_iload (pc := 187) 0 C dX12_findLeast_187 rfl ?_
          refine v_goto (pc := 189) (tgt := 198) C dX12_findLeast_189 (by decide) ?_
          refine v_iast (pc := 198) C rfl hw.1 dX12_findLeast_198 ?_
          replace hw := hw.2
          refine v_iinc (pc := 199) (v := x3 + 1) 4 C dX12_findLeast_199 rfl rfl (by decide) rfl ?_
          refine v_goto (pc := 202) (tgt := 131) C dX12_findLeast_202 (by decide) ?_
          refine v_sub [3, 4, 0] rfl ?_
          exact ih _ _ hw

theorem w_X12_findLeast_L117 {X : Cx} {G : Gl} {P : Mem → Prop} (C : Ck X G RX12 cX12_findLeast 6 6) (r : RetV X G P) : ∀ (n : Nat) (x2 : Int32) (σ : Mem), v_X12_findLeast_L117 P n x2 σ → V X G 6 117 [(0, .ref (gA G 33)), (2, .int x2)] [] σ := by
  intro n
  induction n with
  | zero => intro x2 σ hw; exact hw.elim
  | succ n ih =>
    intro x2 σ hw
    refine v_iload_n (pc := 117) 1 C dX12_findLeast_117 rfl rfl ?_
    refine v_if_lt (pc := 118) (tgt := 211) C dX12_findLeast_118 (by decide) (fun c => ?_) (fun c => ?_)
    · replace hw := hw.1 c
      exact v_vret (pc := 211) C r hw dX12_findLeast_211
    · replace hw := hw.2 c
      refine v_aload_n (pc := 121) 0 C dX12_findLeast_121 rfl rfl ?_
      refine g_12_30 (pc := 122) C k_1144 dX12_findLeast_122 ?_
      refine v_iload_n (pc := 125) 1 C dX12_findLeast_125 rfl rfl ?_
      refine v_ldc (pc := 126) C k_1500 dX12_findLeast_126 ?_
      refine v_iast (pc := 128) C rfl hw.1 dX12_findLeast_128 ?_
      replace hw := hw.2
      refine v_iconst (pc := 129) (v := 0) C dX12_findLeast_129 (by decide) ?_
      refine v_istore_n (pc := 130) C dX12_findLeast_130 rfl (by decide) rfl ?_
      refine v_sub [1, 2, 0] rfl ?_
      refine w_X12_findLeast_L131 C r ?_ 5000 _ _ hw
      · intro σ_10 hw
        refine v_iinc (pc := 205) (v := x2 + (-1)) 1 C dX12_findLeast_205 rfl rfl (by decide) rfl ?_
        refine v_goto (pc := 208) (tgt := 117) C dX12_findLeast_208 (by decide) ?_
        refine v_sub [1, 0] rfl ?_
        exact ih _ _ hw

theorem c_X12_findLeast {l : Launch} {G : Gl} {σ : Mem} {P : Mem → Prop} (hw : v_X12_findLeast σ P) : MetV l yX12_findLeast cX12_findLeast 6 6 G [.ref (gA G 33)] σ P := by
  refine MetV.of RX12 (by decide +kernel) rfl (Nat.le_of_ble_eq_true rfl) (fun X C r => ?_)
  show V X G 6 0 [(0, .ref (gA G 33))] [] σ
  unfold v_X12_findLeast at hw
  refine v_aload_n (pc := 0) 0 C dX12_findLeast_0 rfl rfl ?_
  refine v_cVv (pc := 1) (o := 33) (As := []) (rest := []) (ci := 12) C (c_X12_findOften hw) pk_X12_findOften k_1488 rfl (by decide) rfl (by decide) rfl rfl (Nat.le_of_ble_eq_true rfl) dX12_findLeast_1 (fun σ_1 hw => ?_)
  refine v_iconst (pc := 4) (v := 1) C dX12_findLeast_4 (by decide) ?_
  refine v_aload_n (pc := 5) 0 C dX12_findLeast_5 rfl rfl ?_
  refine g_12_5 (pc := 6) C k_1119 dX12_findLeast_6 ?_
  refine v_ishl (pc := 9) C dX12_findLeast_9 ?_
  refine v_iconst (pc := 10) (v := 1) C dX12_findLeast_10 (by decide) ?_
  refine v_isub (pc := 11) C dX12_findLeast_11 ?_
  refine v_istore_n (pc := 12) C dX12_findLeast_12 rfl (by decide) rfl ?_
  refine v_iconst (pc := 13) (v := 0) C dX12_findLeast_13 (by decide) ?_
  refine v_istore_n (pc := 14) C dX12_findLeast_14 rfl (by decide) rfl ?_
  refine v_sub [2, 1, 0] rfl ?_
  refine w_X12_findLeast_L15 C r ?_ 5000 _ _ hw
  · intro σ_7 hw
    refine v_aload_n (pc := 106) 0 C dX12_findLeast_106 rfl rfl ?_
    refine g_12_30 (pc := 107) C k_1144 dX12_findLeast_107 ?_
    refine v_iload_n (pc := 110) 1 C dX12_findLeast_110 rfl rfl ?_
    refine v_iconst (pc := 111) (v := 0) C dX12_findLeast_111 (by decide) ?_
    refine v_iast (pc := 112) C rfl hw.1 dX12_findLeast_112 ?_
    replace hw := hw.2
    refine v_iload_n (pc := 113) 1 C dX12_findLeast_113 rfl rfl ?_
    refine v_iconst (pc := 114) (v := 1) C dX12_findLeast_114 (by decide) ?_
    refine v_isub (pc := 115) C dX12_findLeast_115 ?_
    refine v_istore_n (pc := 116) C dX12_findLeast_116 rfl (by decide) rfl ?_
    refine v_sub [1, 0] rfl ?_
    refine w_X12_findLeast_L117 C r 5000 _ _ hw

