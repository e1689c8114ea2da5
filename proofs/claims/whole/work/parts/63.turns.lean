-- ===== the law's turns: one call of the class, one of the reference =====
def Lw (X : Cx) (G : Gl) (b L : Nat) (f : Nat → Int32) : Prop := va_X b L f (xs X) (xs X).heap ∧ b < (xs X).heap.size ∧ ¬ inA G b ∧ L ≤ 2560 ∧ ∀ loc σ, V X G 4 1684 loc [.int 1] σ
def bz (x : Int32) : Int32 := if x = 0 then 0 else 1
theorem bz_isB (x : Int32) : isB (bz x) := by
  unfold bz
  by_cases h : x = 0
  · rw [if_pos h]; exact Or.inl rfl
  · rw [if_neg h]; exact Or.inr rfl
theorem nI_spl (a k : Nat) : nI (a + k) = nI a + nI k := Int32.ofNat_add a k
theorem ix_0 {X : Cx} {G : Gl} {b L i : Nat} {f : Nat → Int32} (hi : i + 5 ≤ L) (S : Lw X G b L f) : vp_in (nI i) L := nI_in (by omega) (by have := S.2.2.2.1; omega)
theorem ix_1 {X : Cx} {G : Gl} {b L i : Nat} {f : Nat → Int32} (hi : i + 5 ≤ L) (S : Lw X G b L f) : vp_in (nI i + 1) L := by
  rw [show nI i + 1 = nI (i + 1) from by rw [nI_spl]; rfl]
  exact nI_in (by omega) (by have := S.2.2.2.1; omega)
theorem ix_2 {X : Cx} {G : Gl} {b L i : Nat} {f : Nat → Int32} (hi : i + 5 ≤ L) (S : Lw X G b L f) : vp_in (nI i + 2) L := by
  rw [show nI i + 2 = nI (i + 2) from by rw [nI_spl]; rfl]
  exact nI_in (by omega) (by have := S.2.2.2.1; omega)
theorem ix_3 {X : Cx} {G : Gl} {b L i : Nat} {f : Nat → Int32} (hi : i + 5 ≤ L) (S : Lw X G b L f) : vp_in (nI i + 3) L := by
  rw [show nI i + 3 = nI (i + 3) from by rw [nI_spl]; rfl]
  exact nI_in (by omega) (by have := S.2.2.2.1; omega)
theorem ix_4 {X : Cx} {G : Gl} {b L i : Nat} {f : Nat → Int32} (hi : i + 5 ≤ L) (S : Lw X G b L f) : vp_in (nI i + 4) L := by
  rw [show nI i + 4 = nI (i + 4) from by rw [nI_spl]; rfl]
  exact nI_in (by omega) (by have := S.2.2.2.1; omega)
section Turn
variable {X : Cx} {G : Gl} {own : String} {cc : ByteArray} {nL hh pc : Nat} {loc : List (Nat × Value)} {st : List Value} {σ : Mem} {b L : Nat} {f : Nat → Int32}
theorem v_scr {i : Int32} (C : Ck X G own cc nL hh) (S : Lw X G b L f) (hin : vp_in i L) (d : decode cc pc = .ok (.iaload, 1)) (k : V X G nL (pc + 1) loc (.int (f i.toNatClampNeg) :: st) σ) : V X G nL pc loc (.int i :: .ref b :: st) σ := fun H locs ls hP hS hl => va_sld C.x C.b S.1 S.2.1 S.2.2.1 hS hin d (k H locs ls hP hS hl)
theorem v_scl (C : Ck X G own cc nL hh) (S : Lw X G b L f) (d : decode cc pc = .ok (.arraylength, 1)) (k : V X G nL (pc + 1) loc (.int (nI L) :: st) σ) : V X G nL pc loc (.ref b :: st) σ := fun H locs ls hP hS hl => va_slen C.x C.b S.1 S.2.1 S.2.2.1 hS d (k H locs ls hP hS hl)
theorem v_bz {x : Int32} (C : Ck X G own cc nL hh) (d : decode cc pc = .ok (.ifCond .eq 7, 3)) (d2 : decode cc (pc + 3) = .ok (.iconst 1, 1)) (d3 : decode cc (pc + 4) = .ok (.goto 4, 3)) (d4 : decode cc (pc + 7) = .ok (.iconst 0, 1)) (k : V X G nL (pc + 8) loc (.int (bz x) :: st) σ) : V X G nL pc loc (.int x :: st) σ := by
  refine v_if_eq (tgt := pc + 7) C d (by omega) (fun c => ?_) (fun c => ?_)
  · rw [show bz x = 0 from if_pos c] at k
    exact v_iconst (v := 0) C d4 (by decide) k
  · rw [show bz x = 1 from if_neg c] at k
    exact v_iconst (v := 1) C d2 (by decide) (v_goto (tgt := pc + 8) C d3 (by omega) k)
end Turn
theorem e_384 : Cond.methodLink RL 13 yX11_string ∈ gT := gT_in 384 (by decide +kernel) (by decide +kernel)
theorem e_410 : Cond.methodLink RL 18 yX11_tune ∈ gT := gT_in 410 (by decide +kernel) (by decide +kernel)
theorem e_422 : Cond.methodLink RL 23 yX11_bar ∈ gT := gT_in 422 (by decide +kernel) (by decide +kernel)
theorem e_446 : Cond.methodLink RL 28 yX11_blank ∈ gT := gT_in 446 (by decide +kernel) (by decide +kernel)
theorem e_450 : Cond.methodLink RL 33 yX11_felt ∈ gT := gT_in 450 (by decide +kernel) (by decide +kernel)
theorem e_472 : Cond.methodLink RL 38 yX11_wear ∈ gT := gT_in 472 (by decide +kernel) (by decide +kernel)
theorem e_489 : Cond.methodLink RL 42 yX11_ofString ∈ gT := gT_in 489 (by decide +kernel) (by decide +kernel)
theorem e_502 : Cond.methodLink RL 46 yX11_ofBar ∈ gT := gT_in 502 (by decide +kernel) (by decide +kernel)
theorem e_523 : Cond.methodLink RL 50 yX11_has ∈ gT := gT_in 523 (by decide +kernel) (by decide +kernel)
theorem e_528 : Cond.methodLink RL 54 yX11_sounds ∈ gT := gT_in 528 (by decide +kernel) (by decide +kernel)
theorem e_541 : Cond.methodLink RL 58 yX11_classes ∈ gT := gT_in 541 (by decide +kernel) (by decide +kernel)
theorem e_545 : Cond.methodLink RL 62 yX11_chord ∈ gT := gT_in 545 (by decide +kernel) (by decide +kernel)
theorem e_549 : Cond.methodLink RL 66 yX11_gives ∈ gT := gT_in 549 (by decide +kernel) (by decide +kernel)
theorem e_553 : Cond.methodLink RL 70 yX11_lack ∈ gT := gT_in 553 (by decide +kernel) (by decide +kernel)
theorem e_561 : Cond.methodLink RL 74 yX11_hold ∈ gT := gT_in 561 (by decide +kernel) (by decide +kernel)
theorem e_595 : Cond.methodLink RL 78 yX11_holds ∈ gT := gT_in 595 (by decide +kernel) (by decide +kernel)
theorem e_605 : Cond.methodLink RL 82 yX11_strum ∈ gT := gT_in 605 (by decide +kernel) (by decide +kernel)
theorem e_632 : Cond.methodLink RL 86 yX11_song ∈ gT := gT_in 632 (by decide +kernel) (by decide +kernel)
theorem e_670 : Cond.methodLink RL 91 yX11_step ∈ gT := gT_in 670 (by decide +kernel) (by decide +kernel)
theorem e_714 : Cond.methodLink RL 96 yX11_key ∈ gT := gT_in 714 (by decide +kernel) (by decide +kernel)
theorem e_718 : Cond.methodLink RL 100 yX11_misses ∈ gT := gT_in 718 (by decide +kernel) (by decide +kernel)
theorem e_738 : Cond.methodLink RL 104 yX11_bestKey ∈ gT := gT_in 738 (by decide +kernel) (by decide +kernel)
theorem e_747 : Cond.methodLink RL 108 yX11_playable ∈ gT := gT_in 747 (by decide +kernel) (by decide +kernel)
theorem e_759 : Cond.methodLink RL 112 yX11_offer ∈ gT := gT_in 759 (by decide +kernel) (by decide +kernel)
theorem e_775 : Cond.methodLink RL 116 yX11_serves ∈ gT := gT_in 775 (by decide +kernel) (by decide +kernel)
theorem e_817 : Cond.methodLink RL 120 yX11_fewest ∈ gT := gT_in 817 (by decide +kernel) (by decide +kernel)
theorem e_832 : Cond.methodLink RL 124 yX11_most ∈ gT := gT_in 832 (by decide +kernel) (by decide +kernel)
theorem e_836 : Cond.methodLink RL 128 yX11_build ∈ gT := gT_in 836 (by decide +kernel) (by decide +kernel)
theorem e_849 : Cond.methodLink RL 132 yX11_change ∈ gT := gT_in 849 (by decide +kernel) (by decide +kernel)
theorem e_853 : Cond.methodLink RL 136 yX11_way ∈ gT := gT_in 853 (by decide +kernel) (by decide +kernel)
theorem e_880 : Cond.methodLink RL 140 yX11_least ∈ gT := gT_in 880 (by decide +kernel) (by decide +kernel)
theorem e_898 : Cond.methodLink RL 144 yX11_arrange ∈ gT := gT_in 898 (by decide +kernel) (by decide +kernel)
theorem e_906 : Cond.methodLink RL 148 yX11_trouble ∈ gT := gT_in 906 (by decide +kernel) (by decide +kernel)
theorem e_954 : Cond.methodLink RL 152 yX11_grip ∈ gT := gT_in 954 (by decide +kernel) (by decide +kernel)
theorem e_962 : Cond.methodLink RL 156 yX11_heard ∈ gT := gT_in 962 (by decide +kernel) (by decide +kernel)
theorem e_981 : Cond.methodLink RL 160 yX11_worn ∈ gT := gT_in 981 (by decide +kernel) (by decide +kernel)
theorem e_1000 : Cond.methodLink RL 164 yX11_sure ∈ gT := gT_in 1000 (by decide +kernel) (by decide +kernel)
theorem e_1012 : Cond.methodLink RL 168 yX11_unhear ∈ gT := gT_in 1012 (by decide +kernel) (by decide +kernel)
theorem e_1016 : Cond.methodLink RL 172 yX11_otherwise ∈ gT := gT_in 1016 (by decide +kernel) (by decide +kernel)
theorem e_1027 : Cond.methodLink RL 176 yX11_best ∈ gT := gT_in 1027 (by decide +kernel) (by decide +kernel)
theorem e_1033 : Cond.methodLink RL 180 yX11_sheet ∈ gT := gT_in 1033 (by decide +kernel) (by decide +kernel)
theorem e_1042 : Cond.methodLink RL 184 yX11_lose ∈ gT := gT_in 1042 (by decide +kernel) (by decide +kernel)
theorem e_1050 : Cond.methodLink RL 188 yX11_put ∈ gT := gT_in 1050 (by decide +kernel) (by decide +kernel)
theorem e_1063 : Cond.methodLink RL 192 yX11_at ∈ gT := gT_in 1063 (by decide +kernel) (by decide +kernel)
theorem e_1068 : Cond.methodLink RL 197 yX11_tell ∈ gT := gT_in 1068 (by decide +kernel) (by decide +kernel)
theorem e_1088 : Cond.methodLink RL 201 yX11_name ∈ gT := gT_in 1088 (by decide +kernel) (by decide +kernel)
theorem e_1092 : Cond.methodLink RL 205 yX11_as ∈ gT := gT_in 1092 (by decide +kernel) (by decide +kernel)
theorem e_1096 : Cond.methodLink RL 209 yX11_trace ∈ gT := gT_in 1096 (by decide +kernel) (by decide +kernel)
theorem e_1100 : Cond.methodLink RL 213 yX11_fault ∈ gT := gT_in 1100 (by decide +kernel) (by decide +kernel)
theorem e_1104 : Cond.methodLink RL 217 yX11_told ∈ gT := gT_in 1104 (by decide +kernel) (by decide +kernel)
theorem e_1230 : Cond.methodLink RL 17 yX12_string ∈ gT := gT_in 1230 (by decide +kernel) (by decide +kernel)
theorem e_1237 : Cond.methodLink RL 22 yX12_tune ∈ gT := gT_in 1237 (by decide +kernel) (by decide +kernel)
theorem e_1245 : Cond.methodLink RL 27 yX12_bar ∈ gT := gT_in 1245 (by decide +kernel) (by decide +kernel)
theorem e_1277 : Cond.methodLink RL 32 yX12_blank ∈ gT := gT_in 1277 (by decide +kernel) (by decide +kernel)
theorem e_1281 : Cond.methodLink RL 37 yX12_felt ∈ gT := gT_in 1281 (by decide +kernel) (by decide +kernel)
theorem e_1289 : Cond.methodLink RL 41 yX12_wear ∈ gT := gT_in 1289 (by decide +kernel) (by decide +kernel)
theorem e_1293 : Cond.methodLink RL 45 yX12_ofString ∈ gT := gT_in 1293 (by decide +kernel) (by decide +kernel)
theorem e_1297 : Cond.methodLink RL 49 yX12_ofBar ∈ gT := gT_in 1297 (by decide +kernel) (by decide +kernel)
theorem e_1313 : Cond.methodLink RL 53 yX12_has ∈ gT := gT_in 1313 (by decide +kernel) (by decide +kernel)
theorem e_1317 : Cond.methodLink RL 57 yX12_sounds ∈ gT := gT_in 1317 (by decide +kernel) (by decide +kernel)
theorem e_1325 : Cond.methodLink RL 61 yX12_classes ∈ gT := gT_in 1325 (by decide +kernel) (by decide +kernel)
theorem e_1329 : Cond.methodLink RL 65 yX12_chord ∈ gT := gT_in 1329 (by decide +kernel) (by decide +kernel)
theorem e_1333 : Cond.methodLink RL 69 yX12_gives ∈ gT := gT_in 1333 (by decide +kernel) (by decide +kernel)
theorem e_1337 : Cond.methodLink RL 73 yX12_lack ∈ gT := gT_in 1337 (by decide +kernel) (by decide +kernel)
theorem e_1345 : Cond.methodLink RL 77 yX12_hold ∈ gT := gT_in 1345 (by decide +kernel) (by decide +kernel)
theorem e_1361 : Cond.methodLink RL 81 yX12_holds ∈ gT := gT_in 1361 (by decide +kernel) (by decide +kernel)
theorem e_1365 : Cond.methodLink RL 85 yX12_strum ∈ gT := gT_in 1365 (by decide +kernel) (by decide +kernel)
theorem e_1369 : Cond.methodLink RL 90 yX12_song ∈ gT := gT_in 1369 (by decide +kernel) (by decide +kernel)
theorem e_1378 : Cond.methodLink RL 95 yX12_step ∈ gT := gT_in 1378 (by decide +kernel) (by decide +kernel)
theorem e_1414 : Cond.methodLink RL 99 yX12_key ∈ gT := gT_in 1414 (by decide +kernel) (by decide +kernel)
theorem e_1418 : Cond.methodLink RL 103 yX12_misses ∈ gT := gT_in 1418 (by decide +kernel) (by decide +kernel)
theorem e_1426 : Cond.methodLink RL 107 yX12_bestKey ∈ gT := gT_in 1426 (by decide +kernel) (by decide +kernel)
theorem e_1430 : Cond.methodLink RL 111 yX12_playable ∈ gT := gT_in 1430 (by decide +kernel) (by decide +kernel)
theorem e_1438 : Cond.methodLink RL 115 yX12_offer ∈ gT := gT_in 1438 (by decide +kernel) (by decide +kernel)
theorem e_1442 : Cond.methodLink RL 119 yX12_serves ∈ gT := gT_in 1442 (by decide +kernel) (by decide +kernel)
theorem e_1465 : Cond.methodLink RL 123 yX12_fewest ∈ gT := gT_in 1465 (by decide +kernel) (by decide +kernel)
theorem e_1472 : Cond.methodLink RL 127 yX12_most ∈ gT := gT_in 1472 (by decide +kernel) (by decide +kernel)
theorem e_1476 : Cond.methodLink RL 131 yX12_build ∈ gT := gT_in 1476 (by decide +kernel) (by decide +kernel)
theorem e_1480 : Cond.methodLink RL 135 yX12_change ∈ gT := gT_in 1480 (by decide +kernel) (by decide +kernel)
theorem e_1484 : Cond.methodLink RL 139 yX12_way ∈ gT := gT_in 1484 (by decide +kernel) (by decide +kernel)
theorem e_1492 : Cond.methodLink RL 143 yX12_least ∈ gT := gT_in 1492 (by decide +kernel) (by decide +kernel)
theorem e_1501 : Cond.methodLink RL 147 yX12_arrange ∈ gT := gT_in 1501 (by decide +kernel) (by decide +kernel)
theorem e_1505 : Cond.methodLink RL 151 yX12_trouble ∈ gT := gT_in 1505 (by decide +kernel) (by decide +kernel)
theorem e_1525 : Cond.methodLink RL 155 yX12_grip ∈ gT := gT_in 1525 (by decide +kernel) (by decide +kernel)
theorem e_1529 : Cond.methodLink RL 159 yX12_heard ∈ gT := gT_in 1529 (by decide +kernel) (by decide +kernel)
theorem e_1533 : Cond.methodLink RL 163 yX12_worn ∈ gT := gT_in 1533 (by decide +kernel) (by decide +kernel)
theorem e_1549 : Cond.methodLink RL 167 yX12_sure ∈ gT := gT_in 1549 (by decide +kernel) (by decide +kernel)
theorem e_1553 : Cond.methodLink RL 171 yX12_unhear ∈ gT := gT_in 1553 (by decide +kernel) (by decide +kernel)
theorem e_1557 : Cond.methodLink RL 175 yX12_otherwise ∈ gT := gT_in 1557 (by decide +kernel) (by decide +kernel)
theorem e_1568 : Cond.methodLink RL 179 yX12_best ∈ gT := gT_in 1568 (by decide +kernel) (by decide +kernel)
theorem e_1572 : Cond.methodLink RL 183 yX12_sheet ∈ gT := gT_in 1572 (by decide +kernel) (by decide +kernel)
theorem e_1576 : Cond.methodLink RL 187 yX12_lose ∈ gT := gT_in 1576 (by decide +kernel) (by decide +kernel)
theorem e_1580 : Cond.methodLink RL 191 yX12_put ∈ gT := gT_in 1580 (by decide +kernel) (by decide +kernel)
theorem e_1584 : Cond.methodLink RL 196 yX12_at ∈ gT := gT_in 1584 (by decide +kernel) (by decide +kernel)
theorem e_1593 : Cond.methodLink RL 200 yX12_tell ∈ gT := gT_in 1593 (by decide +kernel) (by decide +kernel)
theorem e_1601 : Cond.methodLink RL 204 yX12_name ∈ gT := gT_in 1601 (by decide +kernel) (by decide +kernel)
theorem e_1605 : Cond.methodLink RL 208 yX12_as ∈ gT := gT_in 1605 (by decide +kernel) (by decide +kernel)
theorem e_1609 : Cond.methodLink RL 212 yX12_trace ∈ gT := gT_in 1609 (by decide +kernel) (by decide +kernel)
theorem e_1613 : Cond.methodLink RL 216 yX12_fault ∈ gT := gT_in 1613 (by decide +kernel) (by decide +kernel)
theorem e_1617 : Cond.methodLink RL 220 yX12_told ∈ gT := gT_in 1617 (by decide +kernel) (by decide +kernel)
theorem l_0 {X : Cx} {G : Gl} {b L i : Nat} {f : Nat → Int32} {σ : Mem} (C : Ck X G RL cL_law 4 10) (S : Lw X G b L f) (hi : i + 5 ≤ L) (hN : ∀ σ, RR σ → V X G 4 1677 [(3, .int (nI i)), (2, .ref (gA G 33)), (1, .ref (gA G 0)), (0, .ref b)] [] σ) (h : RR σ) : V X G 4 248 [(3, .int (nI i)), (2, .ref (gA G 33)), (1, .ref (gA G 0)), (0, .ref b)] [] σ := by
  refine v_aload_n (pc := 248) 2 C dL_law_248 rfl rfl ?_
  refine v_aload_n (pc := 249) 3 C dL_law_249 rfl rfl ?_
  refine v_iload_n (pc := 250) 0 C dL_law_250 rfl rfl ?_
  refine v_iconst (pc := 251) (v := 1) C dL_law_251 (by decide) ?_
  refine v_iadd (pc := 252) C dL_law_252 ?_
  refine v_scr (pc := 253) C S (ix_1 hi S) dL_law_253 ?_
  refine v_aload_n (pc := 254) 3 C dL_law_254 rfl rfl ?_
  refine v_iload_n (pc := 255) 0 C dL_law_255 rfl rfl ?_
  refine v_iconst (pc := 256) (v := 2) C dL_law_256 (by decide) ?_
  refine v_iadd (pc := 257) C dL_law_257 ?_
  refine v_scr (pc := 258) C S (ix_2 hi S) dL_law_258 ?_
  refine v_bz (pc := 259) C dL_law_259 dL_law_262 dL_law_263 dL_law_266 ?_
  have hw := t_string h (f (nI i + 1).toNatClampNeg) (bz (f (nI i + 2).toNatClampNeg)) (bz_isB _)
  refine v_cVi (pc := 267) (o := 0) (As := [.int (f (nI i + 1).toNatClampNeg), .int (bz (f (nI i + 2).toNatClampNeg))]) (rest := []) (ci := 11) C (c_X11_string hw) pk_X11_string e_384 rfl (by decide) rfl (by decide) rfl rfl (Nat.le_of_ble_eq_true rfl) dL_law_267 (fun r σ1 hw => ?_)
  refine v_aload_n (pc := 270) 1 C dL_law_270 rfl rfl ?_
  refine v_aload_n (pc := 271) 3 C dL_law_271 rfl rfl ?_
  refine v_iload_n (pc := 272) 0 C dL_law_272 rfl rfl ?_
  refine v_iconst (pc := 273) (v := 1) C dL_law_273 (by decide) ?_
  refine v_iadd (pc := 274) C dL_law_274 ?_
  refine v_scr (pc := 275) C S (ix_1 hi S) dL_law_275 ?_
  refine v_aload_n (pc := 276) 3 C dL_law_276 rfl rfl ?_
  refine v_iload_n (pc := 277) 0 C dL_law_277 rfl rfl ?_
  refine v_iconst (pc := 278) (v := 2) C dL_law_278 (by decide) ?_
  refine v_iadd (pc := 279) C dL_law_279 ?_
  refine v_scr (pc := 280) C S (ix_2 hi S) dL_law_280 ?_
  refine v_bz (pc := 281) C dL_law_281 dL_law_284 dL_law_285 dL_law_288 ?_
  refine v_cVi (pc := 289) (o := 33) (As := [.int (f (nI i + 1).toNatClampNeg), .int (bz (f (nI i + 2).toNatClampNeg))]) (rest := [.int r]) (ci := 12) C (c_X12_string hw) pk_X12_string e_1230 rfl (by decide) rfl (by decide) rfl rfl (Nat.le_of_ble_eq_true rfl) dL_law_289 (fun r2 σ2 hw => ?_)
  exact v_icmp_eq (pc := 292) (tgt := 1677) C dL_law_292 (by decide) (fun _ => hN σ2 hw.2) (fun q => absurd hw.1 q)
theorem l_1 {X : Cx} {G : Gl} {b L i : Nat} {f : Nat → Int32} {σ : Mem} (C : Ck X G RL cL_law 4 10) (S : Lw X G b L f) (hi : i + 5 ≤ L) (hN : ∀ σ, RR σ → V X G 4 1677 [(3, .int (nI i)), (2, .ref (gA G 33)), (1, .ref (gA G 0)), (0, .ref b)] [] σ) (h : RR σ) : V X G 4 297 [(3, .int (nI i)), (2, .ref (gA G 33)), (1, .ref (gA G 0)), (0, .ref b)] [] σ := by
  refine v_aload_n (pc := 297) 2 C dL_law_297 rfl rfl ?_
  refine v_aload_n (pc := 298) 3 C dL_law_298 rfl rfl ?_
  refine v_iload_n (pc := 299) 0 C dL_law_299 rfl rfl ?_
  refine v_iconst (pc := 300) (v := 1) C dL_law_300 (by decide) ?_
  refine v_iadd (pc := 301) C dL_law_301 ?_
  refine v_scr (pc := 302) C S (ix_1 hi S) dL_law_302 ?_
  refine v_aload_n (pc := 303) 3 C dL_law_303 rfl rfl ?_
  refine v_iload_n (pc := 304) 0 C dL_law_304 rfl rfl ?_
  refine v_iconst (pc := 305) (v := 2) C dL_law_305 (by decide) ?_
  refine v_iadd (pc := 306) C dL_law_306 ?_
  refine v_scr (pc := 307) C S (ix_2 hi S) dL_law_307 ?_
  have hw := t_tune h (f (nI i + 1).toNatClampNeg) (f (nI i + 2).toNatClampNeg)
  refine v_cVi (pc := 308) (o := 0) (As := [.int (f (nI i + 1).toNatClampNeg), .int (f (nI i + 2).toNatClampNeg)]) (rest := []) (ci := 11) C (c_X11_tune hw) pk_X11_tune e_410 rfl (by decide) rfl (by decide) rfl rfl (Nat.le_of_ble_eq_true rfl) dL_law_308 (fun r σ1 hw => ?_)
  refine v_aload_n (pc := 311) 1 C dL_law_311 rfl rfl ?_
  refine v_aload_n (pc := 312) 3 C dL_law_312 rfl rfl ?_
  refine v_iload_n (pc := 313) 0 C dL_law_313 rfl rfl ?_
  refine v_iconst (pc := 314) (v := 1) C dL_law_314 (by decide) ?_
  refine v_iadd (pc := 315) C dL_law_315 ?_
  refine v_scr (pc := 316) C S (ix_1 hi S) dL_law_316 ?_
  refine v_aload_n (pc := 317) 3 C dL_law_317 rfl rfl ?_
  refine v_iload_n (pc := 318) 0 C dL_law_318 rfl rfl ?_
  refine v_iconst (pc := 319) (v := 2) C dL_law_319 (by decide) ?_
  refine v_iadd (pc := 320) C dL_law_320 ?_
  refine v_scr (pc := 321) C S (ix_2 hi S) dL_law_321 ?_
  refine v_cVi (pc := 322) (o := 33) (As := [.int (f (nI i + 1).toNatClampNeg), .int (f (nI i + 2).toNatClampNeg)]) (rest := [.int r]) (ci := 12) C (c_X12_tune hw) pk_X12_tune e_1237 rfl (by decide) rfl (by decide) rfl rfl (Nat.le_of_ble_eq_true rfl) dL_law_322 (fun r2 σ2 hw => ?_)
  exact v_icmp_eq (pc := 325) (tgt := 1677) C dL_law_325 (by decide) (fun _ => hN σ2 hw.2) (fun q => absurd hw.1 q)
theorem l_2 {X : Cx} {G : Gl} {b L i : Nat} {f : Nat → Int32} {σ : Mem} (C : Ck X G RL cL_law 4 10) (S : Lw X G b L f) (hi : i + 5 ≤ L) (hN : ∀ σ, RR σ → V X G 4 1677 [(3, .int (nI i)), (2, .ref (gA G 33)), (1, .ref (gA G 0)), (0, .ref b)] [] σ) (h : RR σ) : V X G 4 330 [(3, .int (nI i)), (2, .ref (gA G 33)), (1, .ref (gA G 0)), (0, .ref b)] [] σ := by
  refine v_aload_n (pc := 330) 2 C dL_law_330 rfl rfl ?_
  refine v_aload_n (pc := 331) 3 C dL_law_331 rfl rfl ?_
  refine v_iload_n (pc := 332) 0 C dL_law_332 rfl rfl ?_
  refine v_iconst (pc := 333) (v := 1) C dL_law_333 (by decide) ?_
  refine v_iadd (pc := 334) C dL_law_334 ?_
  refine v_scr (pc := 335) C S (ix_1 hi S) dL_law_335 ?_
  have hw := t_bar h (f (nI i + 1).toNatClampNeg)
  refine v_cVi (pc := 336) (o := 0) (As := [.int (f (nI i + 1).toNatClampNeg)]) (rest := []) (ci := 11) C (c_X11_bar hw) pk_X11_bar e_422 rfl (by decide) rfl (by decide) rfl rfl (Nat.le_of_ble_eq_true rfl) dL_law_336 (fun r σ1 hw => ?_)
  refine v_aload_n (pc := 339) 1 C dL_law_339 rfl rfl ?_
  refine v_aload_n (pc := 340) 3 C dL_law_340 rfl rfl ?_
  refine v_iload_n (pc := 341) 0 C dL_law_341 rfl rfl ?_
  refine v_iconst (pc := 342) (v := 1) C dL_law_342 (by decide) ?_
  refine v_iadd (pc := 343) C dL_law_343 ?_
  refine v_scr (pc := 344) C S (ix_1 hi S) dL_law_344 ?_
  refine v_cVi (pc := 345) (o := 33) (As := [.int (f (nI i + 1).toNatClampNeg)]) (rest := [.int r]) (ci := 12) C (c_X12_bar hw) pk_X12_bar e_1245 rfl (by decide) rfl (by decide) rfl rfl (Nat.le_of_ble_eq_true rfl) dL_law_345 (fun r2 σ2 hw => ?_)
  exact v_icmp_eq (pc := 348) (tgt := 1677) C dL_law_348 (by decide) (fun _ => hN σ2 hw.2) (fun q => absurd hw.1 q)
theorem l_3 {X : Cx} {G : Gl} {b L i : Nat} {f : Nat → Int32} {σ : Mem} (C : Ck X G RL cL_law 4 10) (S : Lw X G b L f) (hi : i + 5 ≤ L) (hN : ∀ σ, RR σ → V X G 4 1677 [(3, .int (nI i)), (2, .ref (gA G 33)), (1, .ref (gA G 0)), (0, .ref b)] [] σ) (h : RR σ) : V X G 4 353 [(3, .int (nI i)), (2, .ref (gA G 33)), (1, .ref (gA G 0)), (0, .ref b)] [] σ := by
  refine v_aload_n (pc := 353) 2 C dL_law_353 rfl rfl ?_
  have hw := t_blank h
  refine v_cVi (pc := 354) (o := 0) (As := []) (rest := []) (ci := 11) C (c_X11_blank hw) pk_X11_blank e_446 rfl (by decide) rfl (by decide) rfl rfl (Nat.le_of_ble_eq_true rfl) dL_law_354 (fun r σ1 hw => ?_)
  refine v_aload_n (pc := 357) 1 C dL_law_357 rfl rfl ?_
  refine v_cVi (pc := 358) (o := 33) (As := []) (rest := [.int r]) (ci := 12) C (c_X12_blank hw) pk_X12_blank e_1277 rfl (by decide) rfl (by decide) rfl rfl (Nat.le_of_ble_eq_true rfl) dL_law_358 (fun r2 σ2 hw => ?_)
  exact v_icmp_eq (pc := 361) (tgt := 1677) C dL_law_361 (by decide) (fun _ => hN σ2 hw.2) (fun q => absurd hw.1 q)
theorem l_4 {X : Cx} {G : Gl} {b L i : Nat} {f : Nat → Int32} {σ : Mem} (C : Ck X G RL cL_law 4 10) (S : Lw X G b L f) (hi : i + 5 ≤ L) (hN : ∀ σ, RR σ → V X G 4 1677 [(3, .int (nI i)), (2, .ref (gA G 33)), (1, .ref (gA G 0)), (0, .ref b)] [] σ) (h : RR σ) : V X G 4 366 [(3, .int (nI i)), (2, .ref (gA G 33)), (1, .ref (gA G 0)), (0, .ref b)] [] σ := by
  refine v_aload_n (pc := 366) 2 C dL_law_366 rfl rfl ?_
  refine v_aload_n (pc := 367) 3 C dL_law_367 rfl rfl ?_
  refine v_iload_n (pc := 368) 0 C dL_law_368 rfl rfl ?_
  refine v_iconst (pc := 369) (v := 1) C dL_law_369 (by decide) ?_
  refine v_iadd (pc := 370) C dL_law_370 ?_
  refine v_scr (pc := 371) C S (ix_1 hi S) dL_law_371 ?_
  refine v_aload_n (pc := 372) 3 C dL_law_372 rfl rfl ?_
  refine v_iload_n (pc := 373) 0 C dL_law_373 rfl rfl ?_
  refine v_iconst (pc := 374) (v := 2) C dL_law_374 (by decide) ?_
  refine v_iadd (pc := 375) C dL_law_375 ?_
  refine v_scr (pc := 376) C S (ix_2 hi S) dL_law_376 ?_
  refine v_aload_n (pc := 377) 3 C dL_law_377 rfl rfl ?_
  refine v_iload_n (pc := 378) 0 C dL_law_378 rfl rfl ?_
  refine v_iconst (pc := 379) (v := 3) C dL_law_379 (by decide) ?_
  refine v_iadd (pc := 380) C dL_law_380 ?_
  refine v_scr (pc := 381) C S (ix_3 hi S) dL_law_381 ?_
  refine v_bz (pc := 382) C dL_law_382 dL_law_385 dL_law_386 dL_law_389 ?_
  have hw := t_felt h (f (nI i + 1).toNatClampNeg) (f (nI i + 2).toNatClampNeg) (bz (f (nI i + 3).toNatClampNeg)) (bz_isB _)
  refine v_cVi (pc := 390) (o := 0) (As := [.int (f (nI i + 1).toNatClampNeg), .int (f (nI i + 2).toNatClampNeg), .int (bz (f (nI i + 3).toNatClampNeg))]) (rest := []) (ci := 11) C (c_X11_felt hw) pk_X11_felt e_450 rfl (by decide) rfl (by decide) rfl rfl (Nat.le_of_ble_eq_true rfl) dL_law_390 (fun r σ1 hw => ?_)
  refine v_aload_n (pc := 393) 1 C dL_law_393 rfl rfl ?_
  refine v_aload_n (pc := 394) 3 C dL_law_394 rfl rfl ?_
  refine v_iload_n (pc := 395) 0 C dL_law_395 rfl rfl ?_
  refine v_iconst (pc := 396) (v := 1) C dL_law_396 (by decide) ?_
  refine v_iadd (pc := 397) C dL_law_397 ?_
  refine v_scr (pc := 398) C S (ix_1 hi S) dL_law_398 ?_
  refine v_aload_n (pc := 399) 3 C dL_law_399 rfl rfl ?_
  refine v_iload_n (pc := 400) 0 C dL_law_400 rfl rfl ?_
  refine v_iconst (pc := 401) (v := 2) C dL_law_401 (by decide) ?_
  refine v_iadd (pc := 402) C dL_law_402 ?_
  refine v_scr (pc := 403) C S (ix_2 hi S) dL_law_403 ?_
  refine v_aload_n (pc := 404) 3 C dL_law_404 rfl rfl ?_
  refine v_iload_n (pc := 405) 0 C dL_law_405 rfl rfl ?_
  refine v_iconst (pc := 406) (v := 3) C dL_law_406 (by decide) ?_
  refine v_iadd (pc := 407) C dL_law_407 ?_
  refine v_scr (pc := 408) C S (ix_3 hi S) dL_law_408 ?_
  refine v_bz (pc := 409) C dL_law_409 dL_law_412 dL_law_413 dL_law_416 ?_
  refine v_cVi (pc := 417) (o := 33) (As := [.int (f (nI i + 1).toNatClampNeg), .int (f (nI i + 2).toNatClampNeg), .int (bz (f (nI i + 3).toNatClampNeg))]) (rest := [.int r]) (ci := 12) C (c_X12_felt hw) pk_X12_felt e_1281 rfl (by decide) rfl (by decide) rfl rfl (Nat.le_of_ble_eq_true rfl) dL_law_417 (fun r2 σ2 hw => ?_)
  exact v_icmp_eq (pc := 420) (tgt := 1677) C dL_law_420 (by decide) (fun _ => hN σ2 hw.2) (fun q => absurd hw.1 q)
theorem l_5 {X : Cx} {G : Gl} {b L i : Nat} {f : Nat → Int32} {σ : Mem} (C : Ck X G RL cL_law 4 10) (S : Lw X G b L f) (hi : i + 5 ≤ L) (hN : ∀ σ, RR σ → V X G 4 1677 [(3, .int (nI i)), (2, .ref (gA G 33)), (1, .ref (gA G 0)), (0, .ref b)] [] σ) (h : RR σ) : V X G 4 425 [(3, .int (nI i)), (2, .ref (gA G 33)), (1, .ref (gA G 0)), (0, .ref b)] [] σ := by
  refine v_aload_n (pc := 425) 2 C dL_law_425 rfl rfl ?_
  refine v_aload_n (pc := 426) 3 C dL_law_426 rfl rfl ?_
  refine v_iload_n (pc := 427) 0 C dL_law_427 rfl rfl ?_
  refine v_iconst (pc := 428) (v := 1) C dL_law_428 (by decide) ?_
  refine v_iadd (pc := 429) C dL_law_429 ?_
  refine v_scr (pc := 430) C S (ix_1 hi S) dL_law_430 ?_
  refine v_aload_n (pc := 431) 3 C dL_law_431 rfl rfl ?_
  refine v_iload_n (pc := 432) 0 C dL_law_432 rfl rfl ?_
  refine v_iconst (pc := 433) (v := 2) C dL_law_433 (by decide) ?_
  refine v_iadd (pc := 434) C dL_law_434 ?_
  refine v_scr (pc := 435) C S (ix_2 hi S) dL_law_435 ?_
  refine v_aload_n (pc := 436) 3 C dL_law_436 rfl rfl ?_
  refine v_iload_n (pc := 437) 0 C dL_law_437 rfl rfl ?_
  refine v_iconst (pc := 438) (v := 3) C dL_law_438 (by decide) ?_
  refine v_iadd (pc := 439) C dL_law_439 ?_
  refine v_scr (pc := 440) C S (ix_3 hi S) dL_law_440 ?_
  refine v_bz (pc := 441) C dL_law_441 dL_law_444 dL_law_445 dL_law_448 ?_
  have hw := t_wear h (f (nI i + 1).toNatClampNeg) (f (nI i + 2).toNatClampNeg) (bz (f (nI i + 3).toNatClampNeg)) (bz_isB _)
  refine v_cVi (pc := 449) (o := 0) (As := [.int (f (nI i + 1).toNatClampNeg), .int (f (nI i + 2).toNatClampNeg), .int (bz (f (nI i + 3).toNatClampNeg))]) (rest := []) (ci := 11) C (c_X11_wear hw) pk_X11_wear e_472 rfl (by decide) rfl (by decide) rfl rfl (Nat.le_of_ble_eq_true rfl) dL_law_449 (fun r σ1 hw => ?_)
  refine v_aload_n (pc := 452) 1 C dL_law_452 rfl rfl ?_
  refine v_aload_n (pc := 453) 3 C dL_law_453 rfl rfl ?_
  refine v_iload_n (pc := 454) 0 C dL_law_454 rfl rfl ?_
  refine v_iconst (pc := 455) (v := 1) C dL_law_455 (by decide) ?_
  refine v_iadd (pc := 456) C dL_law_456 ?_
  refine v_scr (pc := 457) C S (ix_1 hi S) dL_law_457 ?_
  refine v_aload_n (pc := 458) 3 C dL_law_458 rfl rfl ?_
  refine v_iload_n (pc := 459) 0 C dL_law_459 rfl rfl ?_
  refine v_iconst (pc := 460) (v := 2) C dL_law_460 (by decide) ?_
  refine v_iadd (pc := 461) C dL_law_461 ?_
  refine v_scr (pc := 462) C S (ix_2 hi S) dL_law_462 ?_
  refine v_aload_n (pc := 463) 3 C dL_law_463 rfl rfl ?_
  refine v_iload_n (pc := 464) 0 C dL_law_464 rfl rfl ?_
  refine v_iconst (pc := 465) (v := 3) C dL_law_465 (by decide) ?_
  refine v_iadd (pc := 466) C dL_law_466 ?_
  refine v_scr (pc := 467) C S (ix_3 hi S) dL_law_467 ?_
  refine v_bz (pc := 468) C dL_law_468 dL_law_471 dL_law_472 dL_law_475 ?_
  refine v_cVi (pc := 476) (o := 33) (As := [.int (f (nI i + 1).toNatClampNeg), .int (f (nI i + 2).toNatClampNeg), .int (bz (f (nI i + 3).toNatClampNeg))]) (rest := [.int r]) (ci := 12) C (c_X12_wear hw) pk_X12_wear e_1289 rfl (by decide) rfl (by decide) rfl rfl (Nat.le_of_ble_eq_true rfl) dL_law_476 (fun r2 σ2 hw => ?_)
  exact v_icmp_eq (pc := 479) (tgt := 1677) C dL_law_479 (by decide) (fun _ => hN σ2 hw.2) (fun q => absurd hw.1 q)
theorem l_6 {X : Cx} {G : Gl} {b L i : Nat} {f : Nat → Int32} {σ : Mem} (C : Ck X G RL cL_law 4 10) (S : Lw X G b L f) (hi : i + 5 ≤ L) (hN : ∀ σ, RR σ → V X G 4 1677 [(3, .int (nI i)), (2, .ref (gA G 33)), (1, .ref (gA G 0)), (0, .ref b)] [] σ) (h : RR σ) : V X G 4 484 [(3, .int (nI i)), (2, .ref (gA G 33)), (1, .ref (gA G 0)), (0, .ref b)] [] σ := by
  refine v_aload_n (pc := 484) 2 C dL_law_484 rfl rfl ?_
  refine v_aload_n (pc := 485) 3 C dL_law_485 rfl rfl ?_
  refine v_iload_n (pc := 486) 0 C dL_law_486 rfl rfl ?_
  refine v_iconst (pc := 487) (v := 1) C dL_law_487 (by decide) ?_
  refine v_iadd (pc := 488) C dL_law_488 ?_
  refine v_scr (pc := 489) C S (ix_1 hi S) dL_law_489 ?_
  refine v_aload_n (pc := 490) 3 C dL_law_490 rfl rfl ?_
  refine v_iload_n (pc := 491) 0 C dL_law_491 rfl rfl ?_
  refine v_iconst (pc := 492) (v := 2) C dL_law_492 (by decide) ?_
  refine v_iadd (pc := 493) C dL_law_493 ?_
  refine v_scr (pc := 494) C S (ix_2 hi S) dL_law_494 ?_
  have hw := t_ofString h (f (nI i + 1).toNatClampNeg) (f (nI i + 2).toNatClampNeg)
  refine v_cVi (pc := 495) (o := 0) (As := [.int (f (nI i + 1).toNatClampNeg), .int (f (nI i + 2).toNatClampNeg)]) (rest := []) (ci := 11) C (c_X11_ofString hw) pk_X11_ofString e_489 rfl (by decide) rfl (by decide) rfl rfl (Nat.le_of_ble_eq_true rfl) dL_law_495 (fun r σ1 hw => ?_)
  refine v_aload_n (pc := 498) 1 C dL_law_498 rfl rfl ?_
  refine v_aload_n (pc := 499) 3 C dL_law_499 rfl rfl ?_
  refine v_iload_n (pc := 500) 0 C dL_law_500 rfl rfl ?_
  refine v_iconst (pc := 501) (v := 1) C dL_law_501 (by decide) ?_
  refine v_iadd (pc := 502) C dL_law_502 ?_
  refine v_scr (pc := 503) C S (ix_1 hi S) dL_law_503 ?_
  refine v_aload_n (pc := 504) 3 C dL_law_504 rfl rfl ?_
  refine v_iload_n (pc := 505) 0 C dL_law_505 rfl rfl ?_
  refine v_iconst (pc := 506) (v := 2) C dL_law_506 (by decide) ?_
  refine v_iadd (pc := 507) C dL_law_507 ?_
  refine v_scr (pc := 508) C S (ix_2 hi S) dL_law_508 ?_
  refine v_cVi (pc := 509) (o := 33) (As := [.int (f (nI i + 1).toNatClampNeg), .int (f (nI i + 2).toNatClampNeg)]) (rest := [.int r]) (ci := 12) C (c_X12_ofString hw) pk_X12_ofString e_1293 rfl (by decide) rfl (by decide) rfl rfl (Nat.le_of_ble_eq_true rfl) dL_law_509 (fun r2 σ2 hw => ?_)
  exact v_icmp_eq (pc := 512) (tgt := 1677) C dL_law_512 (by decide) (fun _ => hN σ2 hw.2) (fun q => absurd hw.1 q)
theorem l_7 {X : Cx} {G : Gl} {b L i : Nat} {f : Nat → Int32} {σ : Mem} (C : Ck X G RL cL_law 4 10) (S : Lw X G b L f) (hi : i + 5 ≤ L) (hN : ∀ σ, RR σ → V X G 4 1677 [(3, .int (nI i)), (2, .ref (gA G 33)), (1, .ref (gA G 0)), (0, .ref b)] [] σ) (h : RR σ) : V X G 4 517 [(3, .int (nI i)), (2, .ref (gA G 33)), (1, .ref (gA G 0)), (0, .ref b)] [] σ := by
  refine v_aload_n (pc := 517) 2 C dL_law_517 rfl rfl ?_
  refine v_aload_n (pc := 518) 3 C dL_law_518 rfl rfl ?_
  refine v_iload_n (pc := 519) 0 C dL_law_519 rfl rfl ?_
  refine v_iconst (pc := 520) (v := 1) C dL_law_520 (by decide) ?_
  refine v_iadd (pc := 521) C dL_law_521 ?_
  refine v_scr (pc := 522) C S (ix_1 hi S) dL_law_522 ?_
  refine v_aload_n (pc := 523) 3 C dL_law_523 rfl rfl ?_
  refine v_iload_n (pc := 524) 0 C dL_law_524 rfl rfl ?_
  refine v_iconst (pc := 525) (v := 2) C dL_law_525 (by decide) ?_
  refine v_iadd (pc := 526) C dL_law_526 ?_
  refine v_scr (pc := 527) C S (ix_2 hi S) dL_law_527 ?_
  have hw := t_ofBar h (f (nI i + 1).toNatClampNeg) (f (nI i + 2).toNatClampNeg)
  refine v_cVi (pc := 528) (o := 0) (As := [.int (f (nI i + 1).toNatClampNeg), .int (f (nI i + 2).toNatClampNeg)]) (rest := []) (ci := 11) C (c_X11_ofBar hw) pk_X11_ofBar e_502 rfl (by decide) rfl (by decide) rfl rfl (Nat.le_of_ble_eq_true rfl) dL_law_528 (fun r σ1 hw => ?_)
  refine v_aload_n (pc := 531) 1 C dL_law_531 rfl rfl ?_
  refine v_aload_n (pc := 532) 3 C dL_law_532 rfl rfl ?_
  refine v_iload_n (pc := 533) 0 C dL_law_533 rfl rfl ?_
  refine v_iconst (pc := 534) (v := 1) C dL_law_534 (by decide) ?_
  refine v_iadd (pc := 535) C dL_law_535 ?_
  refine v_scr (pc := 536) C S (ix_1 hi S) dL_law_536 ?_
  refine v_aload_n (pc := 537) 3 C dL_law_537 rfl rfl ?_
  refine v_iload_n (pc := 538) 0 C dL_law_538 rfl rfl ?_
  refine v_iconst (pc := 539) (v := 2) C dL_law_539 (by decide) ?_
  refine v_iadd (pc := 540) C dL_law_540 ?_
  refine v_scr (pc := 541) C S (ix_2 hi S) dL_law_541 ?_
  refine v_cVi (pc := 542) (o := 33) (As := [.int (f (nI i + 1).toNatClampNeg), .int (f (nI i + 2).toNatClampNeg)]) (rest := [.int r]) (ci := 12) C (c_X12_ofBar hw) pk_X12_ofBar e_1297 rfl (by decide) rfl (by decide) rfl rfl (Nat.le_of_ble_eq_true rfl) dL_law_542 (fun r2 σ2 hw => ?_)
  exact v_icmp_eq (pc := 545) (tgt := 1677) C dL_law_545 (by decide) (fun _ => hN σ2 hw.2) (fun q => absurd hw.1 q)
theorem l_8 {X : Cx} {G : Gl} {b L i : Nat} {f : Nat → Int32} {σ : Mem} (C : Ck X G RL cL_law 4 10) (S : Lw X G b L f) (hi : i + 5 ≤ L) (hN : ∀ σ, RR σ → V X G 4 1677 [(3, .int (nI i)), (2, .ref (gA G 33)), (1, .ref (gA G 0)), (0, .ref b)] [] σ) (h : RR σ) : V X G 4 550 [(3, .int (nI i)), (2, .ref (gA G 33)), (1, .ref (gA G 0)), (0, .ref b)] [] σ := by
  refine v_aload_n (pc := 550) 2 C dL_law_550 rfl rfl ?_
  refine v_aload_n (pc := 551) 3 C dL_law_551 rfl rfl ?_
  refine v_iload_n (pc := 552) 0 C dL_law_552 rfl rfl ?_
  refine v_iconst (pc := 553) (v := 1) C dL_law_553 (by decide) ?_
  refine v_iadd (pc := 554) C dL_law_554 ?_
  refine v_scr (pc := 555) C S (ix_1 hi S) dL_law_555 ?_
  refine v_aload_n (pc := 556) 3 C dL_law_556 rfl rfl ?_
  refine v_iload_n (pc := 557) 0 C dL_law_557 rfl rfl ?_
  refine v_iconst (pc := 558) (v := 2) C dL_law_558 (by decide) ?_
  refine v_iadd (pc := 559) C dL_law_559 ?_
  refine v_scr (pc := 560) C S (ix_2 hi S) dL_law_560 ?_
  have hw := t_has h (f (nI i + 1).toNatClampNeg) (f (nI i + 2).toNatClampNeg)
  refine v_cVi (pc := 561) (o := 0) (As := [.int (f (nI i + 1).toNatClampNeg), .int (f (nI i + 2).toNatClampNeg)]) (rest := []) (ci := 11) C (c_X11_has hw) pk_X11_has e_523 rfl (by decide) rfl (by decide) rfl rfl (Nat.le_of_ble_eq_true rfl) dL_law_561 (fun r σ1 hw => ?_)
  refine v_aload_n (pc := 564) 1 C dL_law_564 rfl rfl ?_
  refine v_aload_n (pc := 565) 3 C dL_law_565 rfl rfl ?_
  refine v_iload_n (pc := 566) 0 C dL_law_566 rfl rfl ?_
  refine v_iconst (pc := 567) (v := 1) C dL_law_567 (by decide) ?_
  refine v_iadd (pc := 568) C dL_law_568 ?_
  refine v_scr (pc := 569) C S (ix_1 hi S) dL_law_569 ?_
  refine v_aload_n (pc := 570) 3 C dL_law_570 rfl rfl ?_
  refine v_iload_n (pc := 571) 0 C dL_law_571 rfl rfl ?_
  refine v_iconst (pc := 572) (v := 2) C dL_law_572 (by decide) ?_
  refine v_iadd (pc := 573) C dL_law_573 ?_
  refine v_scr (pc := 574) C S (ix_2 hi S) dL_law_574 ?_
  refine v_cVi (pc := 575) (o := 33) (As := [.int (f (nI i + 1).toNatClampNeg), .int (f (nI i + 2).toNatClampNeg)]) (rest := [.int r]) (ci := 12) C (c_X12_has hw) pk_X12_has e_1313 rfl (by decide) rfl (by decide) rfl rfl (Nat.le_of_ble_eq_true rfl) dL_law_575 (fun r2 σ2 hw => ?_)
  exact v_icmp_eq (pc := 578) (tgt := 1677) C dL_law_578 (by decide) (fun _ => hN σ2 hw.2) (fun q => absurd hw.1 q)
theorem l_9 {X : Cx} {G : Gl} {b L i : Nat} {f : Nat → Int32} {σ : Mem} (C : Ck X G RL cL_law 4 10) (S : Lw X G b L f) (hi : i + 5 ≤ L) (hN : ∀ σ, RR σ → V X G 4 1677 [(3, .int (nI i)), (2, .ref (gA G 33)), (1, .ref (gA G 0)), (0, .ref b)] [] σ) (h : RR σ) : V X G 4 583 [(3, .int (nI i)), (2, .ref (gA G 33)), (1, .ref (gA G 0)), (0, .ref b)] [] σ := by
  refine v_aload_n (pc := 583) 2 C dL_law_583 rfl rfl ?_
  refine v_aload_n (pc := 584) 3 C dL_law_584 rfl rfl ?_
  refine v_iload_n (pc := 585) 0 C dL_law_585 rfl rfl ?_
  refine v_iconst (pc := 586) (v := 1) C dL_law_586 (by decide) ?_
  refine v_iadd (pc := 587) C dL_law_587 ?_
  refine v_scr (pc := 588) C S (ix_1 hi S) dL_law_588 ?_
  refine v_aload_n (pc := 589) 3 C dL_law_589 rfl rfl ?_
  refine v_iload_n (pc := 590) 0 C dL_law_590 rfl rfl ?_
  refine v_iconst (pc := 591) (v := 2) C dL_law_591 (by decide) ?_
  refine v_iadd (pc := 592) C dL_law_592 ?_
  refine v_scr (pc := 593) C S (ix_2 hi S) dL_law_593 ?_
  have hw := t_sounds h (f (nI i + 1).toNatClampNeg) (f (nI i + 2).toNatClampNeg)
  refine v_cVi (pc := 594) (o := 0) (As := [.int (f (nI i + 1).toNatClampNeg), .int (f (nI i + 2).toNatClampNeg)]) (rest := []) (ci := 11) C (c_X11_sounds hw) pk_X11_sounds e_528 rfl (by decide) rfl (by decide) rfl rfl (Nat.le_of_ble_eq_true rfl) dL_law_594 (fun r σ1 hw => ?_)
  refine v_aload_n (pc := 597) 1 C dL_law_597 rfl rfl ?_
  refine v_aload_n (pc := 598) 3 C dL_law_598 rfl rfl ?_
  refine v_iload_n (pc := 599) 0 C dL_law_599 rfl rfl ?_
  refine v_iconst (pc := 600) (v := 1) C dL_law_600 (by decide) ?_
  refine v_iadd (pc := 601) C dL_law_601 ?_
  refine v_scr (pc := 602) C S (ix_1 hi S) dL_law_602 ?_
  refine v_aload_n (pc := 603) 3 C dL_law_603 rfl rfl ?_
  refine v_iload_n (pc := 604) 0 C dL_law_604 rfl rfl ?_
  refine v_iconst (pc := 605) (v := 2) C dL_law_605 (by decide) ?_
  refine v_iadd (pc := 606) C dL_law_606 ?_
  refine v_scr (pc := 607) C S (ix_2 hi S) dL_law_607 ?_
  refine v_cVi (pc := 608) (o := 33) (As := [.int (f (nI i + 1).toNatClampNeg), .int (f (nI i + 2).toNatClampNeg)]) (rest := [.int r]) (ci := 12) C (c_X12_sounds hw) pk_X12_sounds e_1317 rfl (by decide) rfl (by decide) rfl rfl (Nat.le_of_ble_eq_true rfl) dL_law_608 (fun r2 σ2 hw => ?_)
  exact v_icmp_eq (pc := 611) (tgt := 1677) C dL_law_611 (by decide) (fun _ => hN σ2 hw.2) (fun q => absurd hw.1 q)
theorem l_10 {X : Cx} {G : Gl} {b L i : Nat} {f : Nat → Int32} {σ : Mem} (C : Ck X G RL cL_law 4 10) (S : Lw X G b L f) (hi : i + 5 ≤ L) (hN : ∀ σ, RR σ → V X G 4 1677 [(3, .int (nI i)), (2, .ref (gA G 33)), (1, .ref (gA G 0)), (0, .ref b)] [] σ) (h : RR σ) : V X G 4 616 [(3, .int (nI i)), (2, .ref (gA G 33)), (1, .ref (gA G 0)), (0, .ref b)] [] σ := by
  refine v_aload_n (pc := 616) 2 C dL_law_616 rfl rfl ?_
  refine v_aload_n (pc := 617) 3 C dL_law_617 rfl rfl ?_
  refine v_iload_n (pc := 618) 0 C dL_law_618 rfl rfl ?_
  refine v_iconst (pc := 619) (v := 1) C dL_law_619 (by decide) ?_
  refine v_iadd (pc := 620) C dL_law_620 ?_
  refine v_scr (pc := 621) C S (ix_1 hi S) dL_law_621 ?_
  have hw := t_classes h (f (nI i + 1).toNatClampNeg)
  refine v_cVi (pc := 622) (o := 0) (As := [.int (f (nI i + 1).toNatClampNeg)]) (rest := []) (ci := 11) C (c_X11_classes hw) pk_X11_classes e_541 rfl (by decide) rfl (by decide) rfl rfl (Nat.le_of_ble_eq_true rfl) dL_law_622 (fun r σ1 hw => ?_)
  refine v_aload_n (pc := 625) 1 C dL_law_625 rfl rfl ?_
  refine v_aload_n (pc := 626) 3 C dL_law_626 rfl rfl ?_
  refine v_iload_n (pc := 627) 0 C dL_law_627 rfl rfl ?_
  refine v_iconst (pc := 628) (v := 1) C dL_law_628 (by decide) ?_
  refine v_iadd (pc := 629) C dL_law_629 ?_
  refine v_scr (pc := 630) C S (ix_1 hi S) dL_law_630 ?_
  refine v_cVi (pc := 631) (o := 33) (As := [.int (f (nI i + 1).toNatClampNeg)]) (rest := [.int r]) (ci := 12) C (c_X12_classes hw) pk_X12_classes e_1325 rfl (by decide) rfl (by decide) rfl rfl (Nat.le_of_ble_eq_true rfl) dL_law_631 (fun r2 σ2 hw => ?_)
  exact v_icmp_eq (pc := 634) (tgt := 1677) C dL_law_634 (by decide) (fun _ => hN σ2 hw.2) (fun q => absurd hw.1 q)
theorem l_11 {X : Cx} {G : Gl} {b L i : Nat} {f : Nat → Int32} {σ : Mem} (C : Ck X G RL cL_law 4 10) (S : Lw X G b L f) (hi : i + 5 ≤ L) (hN : ∀ σ, RR σ → V X G 4 1677 [(3, .int (nI i)), (2, .ref (gA G 33)), (1, .ref (gA G 0)), (0, .ref b)] [] σ) (h : RR σ) : V X G 4 639 [(3, .int (nI i)), (2, .ref (gA G 33)), (1, .ref (gA G 0)), (0, .ref b)] [] σ := by
  refine v_aload_n (pc := 639) 2 C dL_law_639 rfl rfl ?_
  refine v_aload_n (pc := 640) 3 C dL_law_640 rfl rfl ?_
  refine v_iload_n (pc := 641) 0 C dL_law_641 rfl rfl ?_
  refine v_iconst (pc := 642) (v := 1) C dL_law_642 (by decide) ?_
  refine v_iadd (pc := 643) C dL_law_643 ?_
  refine v_scr (pc := 644) C S (ix_1 hi S) dL_law_644 ?_
  have hw := t_chord h (f (nI i + 1).toNatClampNeg)
  refine v_cVi (pc := 645) (o := 0) (As := [.int (f (nI i + 1).toNatClampNeg)]) (rest := []) (ci := 11) C (c_X11_chord hw) pk_X11_chord e_545 rfl (by decide) rfl (by decide) rfl rfl (Nat.le_of_ble_eq_true rfl) dL_law_645 (fun r σ1 hw => ?_)
  refine v_aload_n (pc := 648) 1 C dL_law_648 rfl rfl ?_
  refine v_aload_n (pc := 649) 3 C dL_law_649 rfl rfl ?_
  refine v_iload_n (pc := 650) 0 C dL_law_650 rfl rfl ?_
  refine v_iconst (pc := 651) (v := 1) C dL_law_651 (by decide) ?_
  refine v_iadd (pc := 652) C dL_law_652 ?_
  refine v_scr (pc := 653) C S (ix_1 hi S) dL_law_653 ?_
  refine v_cVi (pc := 654) (o := 33) (As := [.int (f (nI i + 1).toNatClampNeg)]) (rest := [.int r]) (ci := 12) C (c_X12_chord hw) pk_X12_chord e_1329 rfl (by decide) rfl (by decide) rfl rfl (Nat.le_of_ble_eq_true rfl) dL_law_654 (fun r2 σ2 hw => ?_)
  exact v_icmp_eq (pc := 657) (tgt := 1677) C dL_law_657 (by decide) (fun _ => hN σ2 hw.2) (fun q => absurd hw.1 q)
theorem l_12 {X : Cx} {G : Gl} {b L i : Nat} {f : Nat → Int32} {σ : Mem} (C : Ck X G RL cL_law 4 10) (S : Lw X G b L f) (hi : i + 5 ≤ L) (hN : ∀ σ, RR σ → V X G 4 1677 [(3, .int (nI i)), (2, .ref (gA G 33)), (1, .ref (gA G 0)), (0, .ref b)] [] σ) (h : RR σ) : V X G 4 662 [(3, .int (nI i)), (2, .ref (gA G 33)), (1, .ref (gA G 0)), (0, .ref b)] [] σ := by
  refine v_aload_n (pc := 662) 2 C dL_law_662 rfl rfl ?_
  refine v_aload_n (pc := 663) 3 C dL_law_663 rfl rfl ?_
  refine v_iload_n (pc := 664) 0 C dL_law_664 rfl rfl ?_
  refine v_iconst (pc := 665) (v := 1) C dL_law_665 (by decide) ?_
  refine v_iadd (pc := 666) C dL_law_666 ?_
  refine v_scr (pc := 667) C S (ix_1 hi S) dL_law_667 ?_
  refine v_aload_n (pc := 668) 3 C dL_law_668 rfl rfl ?_
  refine v_iload_n (pc := 669) 0 C dL_law_669 rfl rfl ?_
  refine v_iconst (pc := 670) (v := 2) C dL_law_670 (by decide) ?_
  refine v_iadd (pc := 671) C dL_law_671 ?_
  refine v_scr (pc := 672) C S (ix_2 hi S) dL_law_672 ?_
  have hw := t_gives h (f (nI i + 1).toNatClampNeg) (f (nI i + 2).toNatClampNeg)
  refine v_cVi (pc := 673) (o := 0) (As := [.int (f (nI i + 1).toNatClampNeg), .int (f (nI i + 2).toNatClampNeg)]) (rest := []) (ci := 11) C (c_X11_gives hw) pk_X11_gives e_549 rfl (by decide) rfl (by decide) rfl rfl (Nat.le_of_ble_eq_true rfl) dL_law_673 (fun r σ1 hw => ?_)
  refine v_aload_n (pc := 676) 1 C dL_law_676 rfl rfl ?_
  refine v_aload_n (pc := 677) 3 C dL_law_677 rfl rfl ?_
  refine v_iload_n (pc := 678) 0 C dL_law_678 rfl rfl ?_
  refine v_iconst (pc := 679) (v := 1) C dL_law_679 (by decide) ?_
  refine v_iadd (pc := 680) C dL_law_680 ?_
  refine v_scr (pc := 681) C S (ix_1 hi S) dL_law_681 ?_
  refine v_aload_n (pc := 682) 3 C dL_law_682 rfl rfl ?_
  refine v_iload_n (pc := 683) 0 C dL_law_683 rfl rfl ?_
  refine v_iconst (pc := 684) (v := 2) C dL_law_684 (by decide) ?_
  refine v_iadd (pc := 685) C dL_law_685 ?_
  refine v_scr (pc := 686) C S (ix_2 hi S) dL_law_686 ?_
  refine v_cVi (pc := 687) (o := 33) (As := [.int (f (nI i + 1).toNatClampNeg), .int (f (nI i + 2).toNatClampNeg)]) (rest := [.int r]) (ci := 12) C (c_X12_gives hw) pk_X12_gives e_1333 rfl (by decide) rfl (by decide) rfl rfl (Nat.le_of_ble_eq_true rfl) dL_law_687 (fun r2 σ2 hw => ?_)
  exact v_icmp_eq (pc := 690) (tgt := 1677) C dL_law_690 (by decide) (fun _ => hN σ2 hw.2) (fun q => absurd hw.1 q)
theorem l_13 {X : Cx} {G : Gl} {b L i : Nat} {f : Nat → Int32} {σ : Mem} (C : Ck X G RL cL_law 4 10) (S : Lw X G b L f) (hi : i + 5 ≤ L) (hN : ∀ σ, RR σ → V X G 4 1677 [(3, .int (nI i)), (2, .ref (gA G 33)), (1, .ref (gA G 0)), (0, .ref b)] [] σ) (h : RR σ) : V X G 4 695 [(3, .int (nI i)), (2, .ref (gA G 33)), (1, .ref (gA G 0)), (0, .ref b)] [] σ := by
  refine v_aload_n (pc := 695) 2 C dL_law_695 rfl rfl ?_
  refine v_aload_n (pc := 696) 3 C dL_law_696 rfl rfl ?_
  refine v_iload_n (pc := 697) 0 C dL_law_697 rfl rfl ?_
  refine v_iconst (pc := 698) (v := 1) C dL_law_698 (by decide) ?_
  refine v_iadd (pc := 699) C dL_law_699 ?_
  refine v_scr (pc := 700) C S (ix_1 hi S) dL_law_700 ?_
  have hw := t_lack h (f (nI i + 1).toNatClampNeg)
  refine v_cVi (pc := 701) (o := 0) (As := [.int (f (nI i + 1).toNatClampNeg)]) (rest := []) (ci := 11) C (c_X11_lack hw) pk_X11_lack e_553 rfl (by decide) rfl (by decide) rfl rfl (Nat.le_of_ble_eq_true rfl) dL_law_701 (fun r σ1 hw => ?_)
  refine v_aload_n (pc := 704) 1 C dL_law_704 rfl rfl ?_
  refine v_aload_n (pc := 705) 3 C dL_law_705 rfl rfl ?_
  refine v_iload_n (pc := 706) 0 C dL_law_706 rfl rfl ?_
  refine v_iconst (pc := 707) (v := 1) C dL_law_707 (by decide) ?_
  refine v_iadd (pc := 708) C dL_law_708 ?_
  refine v_scr (pc := 709) C S (ix_1 hi S) dL_law_709 ?_
  refine v_cVi (pc := 710) (o := 33) (As := [.int (f (nI i + 1).toNatClampNeg)]) (rest := [.int r]) (ci := 12) C (c_X12_lack hw) pk_X12_lack e_1337 rfl (by decide) rfl (by decide) rfl rfl (Nat.le_of_ble_eq_true rfl) dL_law_710 (fun r2 σ2 hw => ?_)
  exact v_icmp_eq (pc := 713) (tgt := 1677) C dL_law_713 (by decide) (fun _ => hN σ2 hw.2) (fun q => absurd hw.1 q)
theorem l_14 {X : Cx} {G : Gl} {b L i : Nat} {f : Nat → Int32} {σ : Mem} (C : Ck X G RL cL_law 4 10) (S : Lw X G b L f) (hi : i + 5 ≤ L) (hN : ∀ σ, RR σ → V X G 4 1677 [(3, .int (nI i)), (2, .ref (gA G 33)), (1, .ref (gA G 0)), (0, .ref b)] [] σ) (h : RR σ) : V X G 4 718 [(3, .int (nI i)), (2, .ref (gA G 33)), (1, .ref (gA G 0)), (0, .ref b)] [] σ := by
  refine v_aload_n (pc := 718) 2 C dL_law_718 rfl rfl ?_
  refine v_aload_n (pc := 719) 3 C dL_law_719 rfl rfl ?_
  refine v_iload_n (pc := 720) 0 C dL_law_720 rfl rfl ?_
  refine v_iconst (pc := 721) (v := 1) C dL_law_721 (by decide) ?_
  refine v_iadd (pc := 722) C dL_law_722 ?_
  refine v_scr (pc := 723) C S (ix_1 hi S) dL_law_723 ?_
  have hw := t_hold h (f (nI i + 1).toNatClampNeg)
  refine v_cVi (pc := 724) (o := 0) (As := [.int (f (nI i + 1).toNatClampNeg)]) (rest := []) (ci := 11) C (c_X11_hold hw) pk_X11_hold e_561 rfl (by decide) rfl (by decide) rfl rfl (Nat.le_of_ble_eq_true rfl) dL_law_724 (fun r σ1 hw => ?_)
  refine v_aload_n (pc := 727) 1 C dL_law_727 rfl rfl ?_
  refine v_aload_n (pc := 728) 3 C dL_law_728 rfl rfl ?_
  refine v_iload_n (pc := 729) 0 C dL_law_729 rfl rfl ?_
  refine v_iconst (pc := 730) (v := 1) C dL_law_730 (by decide) ?_
  refine v_iadd (pc := 731) C dL_law_731 ?_
  refine v_scr (pc := 732) C S (ix_1 hi S) dL_law_732 ?_
  refine v_cVi (pc := 733) (o := 33) (As := [.int (f (nI i + 1).toNatClampNeg)]) (rest := [.int r]) (ci := 12) C (c_X12_hold hw) pk_X12_hold e_1345 rfl (by decide) rfl (by decide) rfl rfl (Nat.le_of_ble_eq_true rfl) dL_law_733 (fun r2 σ2 hw => ?_)
  exact v_icmp_eq (pc := 736) (tgt := 1677) C dL_law_736 (by decide) (fun _ => hN σ2 hw.2) (fun q => absurd hw.1 q)
theorem l_15 {X : Cx} {G : Gl} {b L i : Nat} {f : Nat → Int32} {σ : Mem} (C : Ck X G RL cL_law 4 10) (S : Lw X G b L f) (hi : i + 5 ≤ L) (hN : ∀ σ, RR σ → V X G 4 1677 [(3, .int (nI i)), (2, .ref (gA G 33)), (1, .ref (gA G 0)), (0, .ref b)] [] σ) (h : RR σ) : V X G 4 741 [(3, .int (nI i)), (2, .ref (gA G 33)), (1, .ref (gA G 0)), (0, .ref b)] [] σ := by
  refine v_aload_n (pc := 741) 2 C dL_law_741 rfl rfl ?_
  refine v_aload_n (pc := 742) 3 C dL_law_742 rfl rfl ?_
  refine v_iload_n (pc := 743) 0 C dL_law_743 rfl rfl ?_
  refine v_iconst (pc := 744) (v := 1) C dL_law_744 (by decide) ?_
  refine v_iadd (pc := 745) C dL_law_745 ?_
  refine v_scr (pc := 746) C S (ix_1 hi S) dL_law_746 ?_
  have hw := t_holds h (f (nI i + 1).toNatClampNeg)
  refine v_cVi (pc := 747) (o := 0) (As := [.int (f (nI i + 1).toNatClampNeg)]) (rest := []) (ci := 11) C (c_X11_holds hw) pk_X11_holds e_595 rfl (by decide) rfl (by decide) rfl rfl (Nat.le_of_ble_eq_true rfl) dL_law_747 (fun r σ1 hw => ?_)
  refine v_aload_n (pc := 750) 1 C dL_law_750 rfl rfl ?_
  refine v_aload_n (pc := 751) 3 C dL_law_751 rfl rfl ?_
  refine v_iload_n (pc := 752) 0 C dL_law_752 rfl rfl ?_
  refine v_iconst (pc := 753) (v := 1) C dL_law_753 (by decide) ?_
  refine v_iadd (pc := 754) C dL_law_754 ?_
  refine v_scr (pc := 755) C S (ix_1 hi S) dL_law_755 ?_
  refine v_cVi (pc := 756) (o := 33) (As := [.int (f (nI i + 1).toNatClampNeg)]) (rest := [.int r]) (ci := 12) C (c_X12_holds hw) pk_X12_holds e_1361 rfl (by decide) rfl (by decide) rfl rfl (Nat.le_of_ble_eq_true rfl) dL_law_756 (fun r2 σ2 hw => ?_)
  exact v_icmp_eq (pc := 759) (tgt := 1677) C dL_law_759 (by decide) (fun _ => hN σ2 hw.2) (fun q => absurd hw.1 q)
theorem l_16 {X : Cx} {G : Gl} {b L i : Nat} {f : Nat → Int32} {σ : Mem} (C : Ck X G RL cL_law 4 10) (S : Lw X G b L f) (hi : i + 5 ≤ L) (hN : ∀ σ, RR σ → V X G 4 1677 [(3, .int (nI i)), (2, .ref (gA G 33)), (1, .ref (gA G 0)), (0, .ref b)] [] σ) (h : RR σ) : V X G 4 764 [(3, .int (nI i)), (2, .ref (gA G 33)), (1, .ref (gA G 0)), (0, .ref b)] [] σ := by
  refine v_aload_n (pc := 764) 2 C dL_law_764 rfl rfl ?_
  refine v_aload_n (pc := 765) 3 C dL_law_765 rfl rfl ?_
  refine v_iload_n (pc := 766) 0 C dL_law_766 rfl rfl ?_
  refine v_iconst (pc := 767) (v := 1) C dL_law_767 (by decide) ?_
  refine v_iadd (pc := 768) C dL_law_768 ?_
  refine v_scr (pc := 769) C S (ix_1 hi S) dL_law_769 ?_
  refine v_aload_n (pc := 770) 3 C dL_law_770 rfl rfl ?_
  refine v_iload_n (pc := 771) 0 C dL_law_771 rfl rfl ?_
  refine v_iconst (pc := 772) (v := 2) C dL_law_772 (by decide) ?_
  refine v_iadd (pc := 773) C dL_law_773 ?_
  refine v_scr (pc := 774) C S (ix_2 hi S) dL_law_774 ?_
  have hw := t_strum h (f (nI i + 1).toNatClampNeg) (f (nI i + 2).toNatClampNeg)
  refine v_cVi (pc := 775) (o := 0) (As := [.int (f (nI i + 1).toNatClampNeg), .int (f (nI i + 2).toNatClampNeg)]) (rest := []) (ci := 11) C (c_X11_strum hw) pk_X11_strum e_605 rfl (by decide) rfl (by decide) rfl rfl (Nat.le_of_ble_eq_true rfl) dL_law_775 (fun r σ1 hw => ?_)
  refine v_aload_n (pc := 778) 1 C dL_law_778 rfl rfl ?_
  refine v_aload_n (pc := 779) 3 C dL_law_779 rfl rfl ?_
  refine v_iload_n (pc := 780) 0 C dL_law_780 rfl rfl ?_
  refine v_iconst (pc := 781) (v := 1) C dL_law_781 (by decide) ?_
  refine v_iadd (pc := 782) C dL_law_782 ?_
  refine v_scr (pc := 783) C S (ix_1 hi S) dL_law_783 ?_
  refine v_aload_n (pc := 784) 3 C dL_law_784 rfl rfl ?_
  refine v_iload_n (pc := 785) 0 C dL_law_785 rfl rfl ?_
  refine v_iconst (pc := 786) (v := 2) C dL_law_786 (by decide) ?_
  refine v_iadd (pc := 787) C dL_law_787 ?_
  refine v_scr (pc := 788) C S (ix_2 hi S) dL_law_788 ?_
  refine v_cVi (pc := 789) (o := 33) (As := [.int (f (nI i + 1).toNatClampNeg), .int (f (nI i + 2).toNatClampNeg)]) (rest := [.int r]) (ci := 12) C (c_X12_strum hw) pk_X12_strum e_1365 rfl (by decide) rfl (by decide) rfl rfl (Nat.le_of_ble_eq_true rfl) dL_law_789 (fun r2 σ2 hw => ?_)
  exact v_icmp_eq (pc := 792) (tgt := 1677) C dL_law_792 (by decide) (fun _ => hN σ2 hw.2) (fun q => absurd hw.1 q)
theorem l_17 {X : Cx} {G : Gl} {b L i : Nat} {f : Nat → Int32} {σ : Mem} (C : Ck X G RL cL_law 4 10) (S : Lw X G b L f) (hi : i + 5 ≤ L) (hN : ∀ σ, RR σ → V X G 4 1677 [(3, .int (nI i)), (2, .ref (gA G 33)), (1, .ref (gA G 0)), (0, .ref b)] [] σ) (h : RR σ) : V X G 4 797 [(3, .int (nI i)), (2, .ref (gA G 33)), (1, .ref (gA G 0)), (0, .ref b)] [] σ := by
  refine v_aload_n (pc := 797) 2 C dL_law_797 rfl rfl ?_
  refine v_aload_n (pc := 798) 3 C dL_law_798 rfl rfl ?_
  refine v_iload_n (pc := 799) 0 C dL_law_799 rfl rfl ?_
  refine v_iconst (pc := 800) (v := 1) C dL_law_800 (by decide) ?_
  refine v_iadd (pc := 801) C dL_law_801 ?_
  refine v_scr (pc := 802) C S (ix_1 hi S) dL_law_802 ?_
  refine v_aload_n (pc := 803) 3 C dL_law_803 rfl rfl ?_
  refine v_iload_n (pc := 804) 0 C dL_law_804 rfl rfl ?_
  refine v_iconst (pc := 805) (v := 2) C dL_law_805 (by decide) ?_
  refine v_iadd (pc := 806) C dL_law_806 ?_
  refine v_scr (pc := 807) C S (ix_2 hi S) dL_law_807 ?_
  refine v_aload_n (pc := 808) 3 C dL_law_808 rfl rfl ?_
  refine v_iload_n (pc := 809) 0 C dL_law_809 rfl rfl ?_
  refine v_iconst (pc := 810) (v := 3) C dL_law_810 (by decide) ?_
  refine v_iadd (pc := 811) C dL_law_811 ?_
  refine v_scr (pc := 812) C S (ix_3 hi S) dL_law_812 ?_
  refine v_aload_n (pc := 813) 3 C dL_law_813 rfl rfl ?_
  refine v_iload_n (pc := 814) 0 C dL_law_814 rfl rfl ?_
  refine v_iconst (pc := 815) (v := 4) C dL_law_815 (by decide) ?_
  refine v_iadd (pc := 816) C dL_law_816 ?_
  refine v_scr (pc := 817) C S (ix_4 hi S) dL_law_817 ?_
  have hw := t_song h (f (nI i + 1).toNatClampNeg) (f (nI i + 2).toNatClampNeg) (f (nI i + 3).toNatClampNeg) (f (nI i + 4).toNatClampNeg)
  refine v_cVi (pc := 818) (o := 0) (As := [.int (f (nI i + 1).toNatClampNeg), .int (f (nI i + 2).toNatClampNeg), .int (f (nI i + 3).toNatClampNeg), .int (f (nI i + 4).toNatClampNeg)]) (rest := []) (ci := 11) C (c_X11_song hw) pk_X11_song e_632 rfl (by decide) rfl (by decide) rfl rfl (Nat.le_of_ble_eq_true rfl) dL_law_818 (fun r σ1 hw => ?_)
  refine v_aload_n (pc := 821) 1 C dL_law_821 rfl rfl ?_
  refine v_aload_n (pc := 822) 3 C dL_law_822 rfl rfl ?_
  refine v_iload_n (pc := 823) 0 C dL_law_823 rfl rfl ?_
  refine v_iconst (pc := 824) (v := 1) C dL_law_824 (by decide) ?_
  refine v_iadd (pc := 825) C dL_law_825 ?_
  refine v_scr (pc := 826) C S (ix_1 hi S) dL_law_826 ?_
  refine v_aload_n (pc := 827) 3 C dL_law_827 rfl rfl ?_
  refine v_iload_n (pc := 828) 0 C dL_law_828 rfl rfl ?_
  refine v_iconst (pc := 829) (v := 2) C dL_law_829 (by decide) ?_
  refine v_iadd (pc := 830) C dL_law_830 ?_
  refine v_scr (pc := 831) C S (ix_2 hi S) dL_law_831 ?_
  refine v_aload_n (pc := 832) 3 C dL_law_832 rfl rfl ?_
  refine v_iload_n (pc := 833) 0 C dL_law_833 rfl rfl ?_
  refine v_iconst (pc := 834) (v := 3) C dL_law_834 (by decide) ?_
  refine v_iadd (pc := 835) C dL_law_835 ?_
  refine v_scr (pc := 836) C S (ix_3 hi S) dL_law_836 ?_
  refine v_aload_n (pc := 837) 3 C dL_law_837 rfl rfl ?_
  refine v_iload_n (pc := 838) 0 C dL_law_838 rfl rfl ?_
  refine v_iconst (pc := 839) (v := 4) C dL_law_839 (by decide) ?_
  refine v_iadd (pc := 840) C dL_law_840 ?_
  refine v_scr (pc := 841) C S (ix_4 hi S) dL_law_841 ?_
  refine v_cVi (pc := 842) (o := 33) (As := [.int (f (nI i + 1).toNatClampNeg), .int (f (nI i + 2).toNatClampNeg), .int (f (nI i + 3).toNatClampNeg), .int (f (nI i + 4).toNatClampNeg)]) (rest := [.int r]) (ci := 12) C (c_X12_song hw) pk_X12_song e_1369 rfl (by decide) rfl (by decide) rfl rfl (Nat.le_of_ble_eq_true rfl) dL_law_842 (fun r2 σ2 hw => ?_)
  exact v_icmp_eq (pc := 845) (tgt := 1677) C dL_law_845 (by decide) (fun _ => hN σ2 hw.2) (fun q => absurd hw.1 q)
theorem l_18 {X : Cx} {G : Gl} {b L i : Nat} {f : Nat → Int32} {σ : Mem} (C : Ck X G RL cL_law 4 10) (S : Lw X G b L f) (hi : i + 5 ≤ L) (hN : ∀ σ, RR σ → V X G 4 1677 [(3, .int (nI i)), (2, .ref (gA G 33)), (1, .ref (gA G 0)), (0, .ref b)] [] σ) (h : RR σ) : V X G 4 850 [(3, .int (nI i)), (2, .ref (gA G 33)), (1, .ref (gA G 0)), (0, .ref b)] [] σ := by
  refine v_aload_n (pc := 850) 2 C dL_law_850 rfl rfl ?_
  refine v_aload_n (pc := 851) 3 C dL_law_851 rfl rfl ?_
  refine v_iload_n (pc := 852) 0 C dL_law_852 rfl rfl ?_
  refine v_iconst (pc := 853) (v := 1) C dL_law_853 (by decide) ?_
  refine v_iadd (pc := 854) C dL_law_854 ?_
  refine v_scr (pc := 855) C S (ix_1 hi S) dL_law_855 ?_
  refine v_aload_n (pc := 856) 3 C dL_law_856 rfl rfl ?_
  refine v_iload_n (pc := 857) 0 C dL_law_857 rfl rfl ?_
  refine v_iconst (pc := 858) (v := 2) C dL_law_858 (by decide) ?_
  refine v_iadd (pc := 859) C dL_law_859 ?_
  refine v_scr (pc := 860) C S (ix_2 hi S) dL_law_860 ?_
  refine v_aload_n (pc := 861) 3 C dL_law_861 rfl rfl ?_
  refine v_iload_n (pc := 862) 0 C dL_law_862 rfl rfl ?_
  refine v_iconst (pc := 863) (v := 3) C dL_law_863 (by decide) ?_
  refine v_iadd (pc := 864) C dL_law_864 ?_
  refine v_scr (pc := 865) C S (ix_3 hi S) dL_law_865 ?_
  have hw := t_step h (f (nI i + 1).toNatClampNeg) (f (nI i + 2).toNatClampNeg) (f (nI i + 3).toNatClampNeg)
  refine v_cVi (pc := 866) (o := 0) (As := [.int (f (nI i + 1).toNatClampNeg), .int (f (nI i + 2).toNatClampNeg), .int (f (nI i + 3).toNatClampNeg)]) (rest := []) (ci := 11) C (c_X11_step hw) pk_X11_step e_670 rfl (by decide) rfl (by decide) rfl rfl (Nat.le_of_ble_eq_true rfl) dL_law_866 (fun r σ1 hw => ?_)
  refine v_aload_n (pc := 869) 1 C dL_law_869 rfl rfl ?_
  refine v_aload_n (pc := 870) 3 C dL_law_870 rfl rfl ?_
  refine v_iload_n (pc := 871) 0 C dL_law_871 rfl rfl ?_
  refine v_iconst (pc := 872) (v := 1) C dL_law_872 (by decide) ?_
  refine v_iadd (pc := 873) C dL_law_873 ?_
  refine v_scr (pc := 874) C S (ix_1 hi S) dL_law_874 ?_
  refine v_aload_n (pc := 875) 3 C dL_law_875 rfl rfl ?_
  refine v_iload_n (pc := 876) 0 C dL_law_876 rfl rfl ?_
  refine v_iconst (pc := 877) (v := 2) C dL_law_877 (by decide) ?_
  refine v_iadd (pc := 878) C dL_law_878 ?_
  refine v_scr (pc := 879) C S (ix_2 hi S) dL_law_879 ?_
  refine v_aload_n (pc := 880) 3 C dL_law_880 rfl rfl ?_
  refine v_iload_n (pc := 881) 0 C dL_law_881 rfl rfl ?_
  refine v_iconst (pc := 882) (v := 3) C dL_law_882 (by decide) ?_
  refine v_iadd (pc := 883) C dL_law_883 ?_
  refine v_scr (pc := 884) C S (ix_3 hi S) dL_law_884 ?_
  refine v_cVi (pc := 885) (o := 33) (As := [.int (f (nI i + 1).toNatClampNeg), .int (f (nI i + 2).toNatClampNeg), .int (f (nI i + 3).toNatClampNeg)]) (rest := [.int r]) (ci := 12) C (c_X12_step hw) pk_X12_step e_1378 rfl (by decide) rfl (by decide) rfl rfl (Nat.le_of_ble_eq_true rfl) dL_law_885 (fun r2 σ2 hw => ?_)
  exact v_icmp_eq (pc := 888) (tgt := 1677) C dL_law_888 (by decide) (fun _ => hN σ2 hw.2) (fun q => absurd hw.1 q)
theorem l_19 {X : Cx} {G : Gl} {b L i : Nat} {f : Nat → Int32} {σ : Mem} (C : Ck X G RL cL_law 4 10) (S : Lw X G b L f) (hi : i + 5 ≤ L) (hN : ∀ σ, RR σ → V X G 4 1677 [(3, .int (nI i)), (2, .ref (gA G 33)), (1, .ref (gA G 0)), (0, .ref b)] [] σ) (h : RR σ) : V X G 4 893 [(3, .int (nI i)), (2, .ref (gA G 33)), (1, .ref (gA G 0)), (0, .ref b)] [] σ := by
  refine v_aload_n (pc := 893) 2 C dL_law_893 rfl rfl ?_
  refine v_aload_n (pc := 894) 3 C dL_law_894 rfl rfl ?_
  refine v_iload_n (pc := 895) 0 C dL_law_895 rfl rfl ?_
  refine v_iconst (pc := 896) (v := 1) C dL_law_896 (by decide) ?_
  refine v_iadd (pc := 897) C dL_law_897 ?_
  refine v_scr (pc := 898) C S (ix_1 hi S) dL_law_898 ?_
  refine v_aload_n (pc := 899) 3 C dL_law_899 rfl rfl ?_
  refine v_iload_n (pc := 900) 0 C dL_law_900 rfl rfl ?_
  refine v_iconst (pc := 901) (v := 2) C dL_law_901 (by decide) ?_
  refine v_iadd (pc := 902) C dL_law_902 ?_
  refine v_scr (pc := 903) C S (ix_2 hi S) dL_law_903 ?_
  have hw := t_key h (f (nI i + 1).toNatClampNeg) (f (nI i + 2).toNatClampNeg)
  refine v_cVi (pc := 904) (o := 0) (As := [.int (f (nI i + 1).toNatClampNeg), .int (f (nI i + 2).toNatClampNeg)]) (rest := []) (ci := 11) C (c_X11_key hw) pk_X11_key e_714 rfl (by decide) rfl (by decide) rfl rfl (Nat.le_of_ble_eq_true rfl) dL_law_904 (fun r σ1 hw => ?_)
  refine v_aload_n (pc := 907) 1 C dL_law_907 rfl rfl ?_
  refine v_aload_n (pc := 908) 3 C dL_law_908 rfl rfl ?_
  refine v_iload_n (pc := 909) 0 C dL_law_909 rfl rfl ?_
  refine v_iconst (pc := 910) (v := 1) C dL_law_910 (by decide) ?_
  refine v_iadd (pc := 911) C dL_law_911 ?_
  refine v_scr (pc := 912) C S (ix_1 hi S) dL_law_912 ?_
  refine v_aload_n (pc := 913) 3 C dL_law_913 rfl rfl ?_
  refine v_iload_n (pc := 914) 0 C dL_law_914 rfl rfl ?_
  refine v_iconst (pc := 915) (v := 2) C dL_law_915 (by decide) ?_
  refine v_iadd (pc := 916) C dL_law_916 ?_
  refine v_scr (pc := 917) C S (ix_2 hi S) dL_law_917 ?_
  refine v_cVi (pc := 918) (o := 33) (As := [.int (f (nI i + 1).toNatClampNeg), .int (f (nI i + 2).toNatClampNeg)]) (rest := [.int r]) (ci := 12) C (c_X12_key hw) pk_X12_key e_1414 rfl (by decide) rfl (by decide) rfl rfl (Nat.le_of_ble_eq_true rfl) dL_law_918 (fun r2 σ2 hw => ?_)
  exact v_icmp_eq (pc := 921) (tgt := 1677) C dL_law_921 (by decide) (fun _ => hN σ2 hw.2) (fun q => absurd hw.1 q)
theorem l_20 {X : Cx} {G : Gl} {b L i : Nat} {f : Nat → Int32} {σ : Mem} (C : Ck X G RL cL_law 4 10) (S : Lw X G b L f) (hi : i + 5 ≤ L) (hN : ∀ σ, RR σ → V X G 4 1677 [(3, .int (nI i)), (2, .ref (gA G 33)), (1, .ref (gA G 0)), (0, .ref b)] [] σ) (h : RR σ) : V X G 4 926 [(3, .int (nI i)), (2, .ref (gA G 33)), (1, .ref (gA G 0)), (0, .ref b)] [] σ := by
  refine v_aload_n (pc := 926) 2 C dL_law_926 rfl rfl ?_
  refine v_aload_n (pc := 927) 3 C dL_law_927 rfl rfl ?_
  refine v_iload_n (pc := 928) 0 C dL_law_928 rfl rfl ?_
  refine v_iconst (pc := 929) (v := 1) C dL_law_929 (by decide) ?_
  refine v_iadd (pc := 930) C dL_law_930 ?_
  refine v_scr (pc := 931) C S (ix_1 hi S) dL_law_931 ?_
  refine v_aload_n (pc := 932) 3 C dL_law_932 rfl rfl ?_
  refine v_iload_n (pc := 933) 0 C dL_law_933 rfl rfl ?_
  refine v_iconst (pc := 934) (v := 2) C dL_law_934 (by decide) ?_
  refine v_iadd (pc := 935) C dL_law_935 ?_
  refine v_scr (pc := 936) C S (ix_2 hi S) dL_law_936 ?_
  have hw := t_misses h (f (nI i + 1).toNatClampNeg) (f (nI i + 2).toNatClampNeg)
  refine v_cVi (pc := 937) (o := 0) (As := [.int (f (nI i + 1).toNatClampNeg), .int (f (nI i + 2).toNatClampNeg)]) (rest := []) (ci := 11) C (c_X11_misses hw) pk_X11_misses e_718 rfl (by decide) rfl (by decide) rfl rfl (Nat.le_of_ble_eq_true rfl) dL_law_937 (fun r σ1 hw => ?_)
  refine v_aload_n (pc := 940) 1 C dL_law_940 rfl rfl ?_
  refine v_aload_n (pc := 941) 3 C dL_law_941 rfl rfl ?_
  refine v_iload_n (pc := 942) 0 C dL_law_942 rfl rfl ?_
  refine v_iconst (pc := 943) (v := 1) C dL_law_943 (by decide) ?_
  refine v_iadd (pc := 944) C dL_law_944 ?_
  refine v_scr (pc := 945) C S (ix_1 hi S) dL_law_945 ?_
  refine v_aload_n (pc := 946) 3 C dL_law_946 rfl rfl ?_
  refine v_iload_n (pc := 947) 0 C dL_law_947 rfl rfl ?_
  refine v_iconst (pc := 948) (v := 2) C dL_law_948 (by decide) ?_
  refine v_iadd (pc := 949) C dL_law_949 ?_
  refine v_scr (pc := 950) C S (ix_2 hi S) dL_law_950 ?_
  refine v_cVi (pc := 951) (o := 33) (As := [.int (f (nI i + 1).toNatClampNeg), .int (f (nI i + 2).toNatClampNeg)]) (rest := [.int r]) (ci := 12) C (c_X12_misses hw) pk_X12_misses e_1418 rfl (by decide) rfl (by decide) rfl rfl (Nat.le_of_ble_eq_true rfl) dL_law_951 (fun r2 σ2 hw => ?_)
  exact v_icmp_eq (pc := 954) (tgt := 1677) C dL_law_954 (by decide) (fun _ => hN σ2 hw.2) (fun q => absurd hw.1 q)
theorem l_21 {X : Cx} {G : Gl} {b L i : Nat} {f : Nat → Int32} {σ : Mem} (C : Ck X G RL cL_law 4 10) (S : Lw X G b L f) (hi : i + 5 ≤ L) (hN : ∀ σ, RR σ → V X G 4 1677 [(3, .int (nI i)), (2, .ref (gA G 33)), (1, .ref (gA G 0)), (0, .ref b)] [] σ) (h : RR σ) : V X G 4 959 [(3, .int (nI i)), (2, .ref (gA G 33)), (1, .ref (gA G 0)), (0, .ref b)] [] σ := by
  refine v_aload_n (pc := 959) 2 C dL_law_959 rfl rfl ?_
  refine v_aload_n (pc := 960) 3 C dL_law_960 rfl rfl ?_
  refine v_iload_n (pc := 961) 0 C dL_law_961 rfl rfl ?_
  refine v_iconst (pc := 962) (v := 1) C dL_law_962 (by decide) ?_
  refine v_iadd (pc := 963) C dL_law_963 ?_
  refine v_scr (pc := 964) C S (ix_1 hi S) dL_law_964 ?_
  have hw := t_bestKey h (f (nI i + 1).toNatClampNeg)
  refine v_cVi (pc := 965) (o := 0) (As := [.int (f (nI i + 1).toNatClampNeg)]) (rest := []) (ci := 11) C (c_X11_bestKey hw) pk_X11_bestKey e_738 rfl (by decide) rfl (by decide) rfl rfl (Nat.le_of_ble_eq_true rfl) dL_law_965 (fun r σ1 hw => ?_)
  refine v_aload_n (pc := 968) 1 C dL_law_968 rfl rfl ?_
  refine v_aload_n (pc := 969) 3 C dL_law_969 rfl rfl ?_
  refine v_iload_n (pc := 970) 0 C dL_law_970 rfl rfl ?_
  refine v_iconst (pc := 971) (v := 1) C dL_law_971 (by decide) ?_
  refine v_iadd (pc := 972) C dL_law_972 ?_
  refine v_scr (pc := 973) C S (ix_1 hi S) dL_law_973 ?_
  refine v_cVi (pc := 974) (o := 33) (As := [.int (f (nI i + 1).toNatClampNeg)]) (rest := [.int r]) (ci := 12) C (c_X12_bestKey hw) pk_X12_bestKey e_1426 rfl (by decide) rfl (by decide) rfl rfl (Nat.le_of_ble_eq_true rfl) dL_law_974 (fun r2 σ2 hw => ?_)
  exact v_icmp_eq (pc := 977) (tgt := 1677) C dL_law_977 (by decide) (fun _ => hN σ2 hw.2) (fun q => absurd hw.1 q)
theorem l_22 {X : Cx} {G : Gl} {b L i : Nat} {f : Nat → Int32} {σ : Mem} (C : Ck X G RL cL_law 4 10) (S : Lw X G b L f) (hi : i + 5 ≤ L) (hN : ∀ σ, RR σ → V X G 4 1677 [(3, .int (nI i)), (2, .ref (gA G 33)), (1, .ref (gA G 0)), (0, .ref b)] [] σ) (h : RR σ) : V X G 4 982 [(3, .int (nI i)), (2, .ref (gA G 33)), (1, .ref (gA G 0)), (0, .ref b)] [] σ := by
  refine v_aload_n (pc := 982) 2 C dL_law_982 rfl rfl ?_
  have hw := t_playable h
  refine v_cVi (pc := 983) (o := 0) (As := []) (rest := []) (ci := 11) C (c_X11_playable hw) pk_X11_playable e_747 rfl (by decide) rfl (by decide) rfl rfl (Nat.le_of_ble_eq_true rfl) dL_law_983 (fun r σ1 hw => ?_)
  refine v_aload_n (pc := 986) 1 C dL_law_986 rfl rfl ?_
  refine v_cVi (pc := 987) (o := 33) (As := []) (rest := [.int r]) (ci := 12) C (c_X12_playable hw) pk_X12_playable e_1430 rfl (by decide) rfl (by decide) rfl rfl (Nat.le_of_ble_eq_true rfl) dL_law_987 (fun r2 σ2 hw => ?_)
  exact v_icmp_eq (pc := 990) (tgt := 1677) C dL_law_990 (by decide) (fun _ => hN σ2 hw.2) (fun q => absurd hw.1 q)
theorem l_23 {X : Cx} {G : Gl} {b L i : Nat} {f : Nat → Int32} {σ : Mem} (C : Ck X G RL cL_law 4 10) (S : Lw X G b L f) (hi : i + 5 ≤ L) (hN : ∀ σ, RR σ → V X G 4 1677 [(3, .int (nI i)), (2, .ref (gA G 33)), (1, .ref (gA G 0)), (0, .ref b)] [] σ) (h : RR σ) : V X G 4 995 [(3, .int (nI i)), (2, .ref (gA G 33)), (1, .ref (gA G 0)), (0, .ref b)] [] σ := by
  refine v_aload_n (pc := 995) 2 C dL_law_995 rfl rfl ?_
  refine v_aload_n (pc := 996) 3 C dL_law_996 rfl rfl ?_
  refine v_iload_n (pc := 997) 0 C dL_law_997 rfl rfl ?_
  refine v_iconst (pc := 998) (v := 1) C dL_law_998 (by decide) ?_
  refine v_iadd (pc := 999) C dL_law_999 ?_
  refine v_scr (pc := 1000) C S (ix_1 hi S) dL_law_1000 ?_
  have hw := t_offer h (f (nI i + 1).toNatClampNeg)
  refine v_cVi (pc := 1001) (o := 0) (As := [.int (f (nI i + 1).toNatClampNeg)]) (rest := []) (ci := 11) C (c_X11_offer hw) pk_X11_offer e_759 rfl (by decide) rfl (by decide) rfl rfl (Nat.le_of_ble_eq_true rfl) dL_law_1001 (fun r σ1 hw => ?_)
  refine v_aload_n (pc := 1004) 1 C dL_law_1004 rfl rfl ?_
  refine v_aload_n (pc := 1005) 3 C dL_law_1005 rfl rfl ?_
  refine v_iload_n (pc := 1006) 0 C dL_law_1006 rfl rfl ?_
  refine v_iconst (pc := 1007) (v := 1) C dL_law_1007 (by decide) ?_
  refine v_iadd (pc := 1008) C dL_law_1008 ?_
  refine v_scr (pc := 1009) C S (ix_1 hi S) dL_law_1009 ?_
  refine v_cVi (pc := 1010) (o := 33) (As := [.int (f (nI i + 1).toNatClampNeg)]) (rest := [.int r]) (ci := 12) C (c_X12_offer hw) pk_X12_offer e_1438 rfl (by decide) rfl (by decide) rfl rfl (Nat.le_of_ble_eq_true rfl) dL_law_1010 (fun r2 σ2 hw => ?_)
  exact v_icmp_eq (pc := 1013) (tgt := 1677) C dL_law_1013 (by decide) (fun _ => hN σ2 hw.2) (fun q => absurd hw.1 q)
theorem l_24 {X : Cx} {G : Gl} {b L i : Nat} {f : Nat → Int32} {σ : Mem} (C : Ck X G RL cL_law 4 10) (S : Lw X G b L f) (hi : i + 5 ≤ L) (hN : ∀ σ, RR σ → V X G 4 1677 [(3, .int (nI i)), (2, .ref (gA G 33)), (1, .ref (gA G 0)), (0, .ref b)] [] σ) (h : RR σ) : V X G 4 1018 [(3, .int (nI i)), (2, .ref (gA G 33)), (1, .ref (gA G 0)), (0, .ref b)] [] σ := by
  refine v_aload_n (pc := 1018) 2 C dL_law_1018 rfl rfl ?_
  refine v_aload_n (pc := 1019) 3 C dL_law_1019 rfl rfl ?_
  refine v_iload_n (pc := 1020) 0 C dL_law_1020 rfl rfl ?_
  refine v_iconst (pc := 1021) (v := 1) C dL_law_1021 (by decide) ?_
  refine v_iadd (pc := 1022) C dL_law_1022 ?_
  refine v_scr (pc := 1023) C S (ix_1 hi S) dL_law_1023 ?_
  have hw := t_serves h (f (nI i + 1).toNatClampNeg)
  refine v_cVi (pc := 1024) (o := 0) (As := [.int (f (nI i + 1).toNatClampNeg)]) (rest := []) (ci := 11) C (c_X11_serves hw) pk_X11_serves e_775 rfl (by decide) rfl (by decide) rfl rfl (Nat.le_of_ble_eq_true rfl) dL_law_1024 (fun r σ1 hw => ?_)
  refine v_aload_n (pc := 1027) 1 C dL_law_1027 rfl rfl ?_
  refine v_aload_n (pc := 1028) 3 C dL_law_1028 rfl rfl ?_
  refine v_iload_n (pc := 1029) 0 C dL_law_1029 rfl rfl ?_
  refine v_iconst (pc := 1030) (v := 1) C dL_law_1030 (by decide) ?_
  refine v_iadd (pc := 1031) C dL_law_1031 ?_
  refine v_scr (pc := 1032) C S (ix_1 hi S) dL_law_1032 ?_
  refine v_cVi (pc := 1033) (o := 33) (As := [.int (f (nI i + 1).toNatClampNeg)]) (rest := [.int r]) (ci := 12) C (c_X12_serves hw) pk_X12_serves e_1442 rfl (by decide) rfl (by decide) rfl rfl (Nat.le_of_ble_eq_true rfl) dL_law_1033 (fun r2 σ2 hw => ?_)
  exact v_icmp_eq (pc := 1036) (tgt := 1677) C dL_law_1036 (by decide) (fun _ => hN σ2 hw.2) (fun q => absurd hw.1 q)
theorem l_25 {X : Cx} {G : Gl} {b L i : Nat} {f : Nat → Int32} {σ : Mem} (C : Ck X G RL cL_law 4 10) (S : Lw X G b L f) (hi : i + 5 ≤ L) (hN : ∀ σ, RR σ → V X G 4 1677 [(3, .int (nI i)), (2, .ref (gA G 33)), (1, .ref (gA G 0)), (0, .ref b)] [] σ) (h : RR σ) : V X G 4 1041 [(3, .int (nI i)), (2, .ref (gA G 33)), (1, .ref (gA G 0)), (0, .ref b)] [] σ := by
  refine v_aload_n (pc := 1041) 2 C dL_law_1041 rfl rfl ?_
  have hw := t_fewest h
  refine v_cVi (pc := 1042) (o := 0) (As := []) (rest := []) (ci := 11) C (c_X11_fewest hw) pk_X11_fewest e_817 rfl (by decide) rfl (by decide) rfl rfl (Nat.le_of_ble_eq_true rfl) dL_law_1042 (fun r σ1 hw => ?_)
  refine v_aload_n (pc := 1045) 1 C dL_law_1045 rfl rfl ?_
  refine v_cVi (pc := 1046) (o := 33) (As := []) (rest := [.int r]) (ci := 12) C (c_X12_fewest hw) pk_X12_fewest e_1465 rfl (by decide) rfl (by decide) rfl rfl (Nat.le_of_ble_eq_true rfl) dL_law_1046 (fun r2 σ2 hw => ?_)
  exact v_icmp_eq (pc := 1049) (tgt := 1677) C dL_law_1049 (by decide) (fun _ => hN σ2 hw.2) (fun q => absurd hw.1 q)
theorem l_26 {X : Cx} {G : Gl} {b L i : Nat} {f : Nat → Int32} {σ : Mem} (C : Ck X G RL cL_law 4 10) (S : Lw X G b L f) (hi : i + 5 ≤ L) (hN : ∀ σ, RR σ → V X G 4 1677 [(3, .int (nI i)), (2, .ref (gA G 33)), (1, .ref (gA G 0)), (0, .ref b)] [] σ) (h : RR σ) : V X G 4 1054 [(3, .int (nI i)), (2, .ref (gA G 33)), (1, .ref (gA G 0)), (0, .ref b)] [] σ := by
  refine v_aload_n (pc := 1054) 2 C dL_law_1054 rfl rfl ?_
  refine v_aload_n (pc := 1055) 3 C dL_law_1055 rfl rfl ?_
  refine v_iload_n (pc := 1056) 0 C dL_law_1056 rfl rfl ?_
  refine v_iconst (pc := 1057) (v := 1) C dL_law_1057 (by decide) ?_
  refine v_iadd (pc := 1058) C dL_law_1058 ?_
  refine v_scr (pc := 1059) C S (ix_1 hi S) dL_law_1059 ?_
  have hw := t_most h (f (nI i + 1).toNatClampNeg)
  refine v_cVi (pc := 1060) (o := 0) (As := [.int (f (nI i + 1).toNatClampNeg)]) (rest := []) (ci := 11) C (c_X11_most hw) pk_X11_most e_832 rfl (by decide) rfl (by decide) rfl rfl (Nat.le_of_ble_eq_true rfl) dL_law_1060 (fun r σ1 hw => ?_)
  refine v_aload_n (pc := 1063) 1 C dL_law_1063 rfl rfl ?_
  refine v_aload_n (pc := 1064) 3 C dL_law_1064 rfl rfl ?_
  refine v_iload_n (pc := 1065) 0 C dL_law_1065 rfl rfl ?_
  refine v_iconst (pc := 1066) (v := 1) C dL_law_1066 (by decide) ?_
  refine v_iadd (pc := 1067) C dL_law_1067 ?_
  refine v_scr (pc := 1068) C S (ix_1 hi S) dL_law_1068 ?_
  refine v_cVi (pc := 1069) (o := 33) (As := [.int (f (nI i + 1).toNatClampNeg)]) (rest := [.int r]) (ci := 12) C (c_X12_most hw) pk_X12_most e_1472 rfl (by decide) rfl (by decide) rfl rfl (Nat.le_of_ble_eq_true rfl) dL_law_1069 (fun r2 σ2 hw => ?_)
  exact v_icmp_eq (pc := 1072) (tgt := 1677) C dL_law_1072 (by decide) (fun _ => hN σ2 hw.2) (fun q => absurd hw.1 q)
theorem l_27 {X : Cx} {G : Gl} {b L i : Nat} {f : Nat → Int32} {σ : Mem} (C : Ck X G RL cL_law 4 10) (S : Lw X G b L f) (hi : i + 5 ≤ L) (hN : ∀ σ, RR σ → V X G 4 1677 [(3, .int (nI i)), (2, .ref (gA G 33)), (1, .ref (gA G 0)), (0, .ref b)] [] σ) (h : RR σ) : V X G 4 1077 [(3, .int (nI i)), (2, .ref (gA G 33)), (1, .ref (gA G 0)), (0, .ref b)] [] σ := by
  refine v_aload_n (pc := 1077) 2 C dL_law_1077 rfl rfl ?_
  refine v_aload_n (pc := 1078) 3 C dL_law_1078 rfl rfl ?_
  refine v_iload_n (pc := 1079) 0 C dL_law_1079 rfl rfl ?_
  refine v_iconst (pc := 1080) (v := 1) C dL_law_1080 (by decide) ?_
  refine v_iadd (pc := 1081) C dL_law_1081 ?_
  refine v_scr (pc := 1082) C S (ix_1 hi S) dL_law_1082 ?_
  have hw := t_build h (f (nI i + 1).toNatClampNeg)
  refine v_cVi (pc := 1083) (o := 0) (As := [.int (f (nI i + 1).toNatClampNeg)]) (rest := []) (ci := 11) C (c_X11_build hw) pk_X11_build e_836 rfl (by decide) rfl (by decide) rfl rfl (Nat.le_of_ble_eq_true rfl) dL_law_1083 (fun r σ1 hw => ?_)
  refine v_aload_n (pc := 1086) 1 C dL_law_1086 rfl rfl ?_
  refine v_aload_n (pc := 1087) 3 C dL_law_1087 rfl rfl ?_
  refine v_iload_n (pc := 1088) 0 C dL_law_1088 rfl rfl ?_
  refine v_iconst (pc := 1089) (v := 1) C dL_law_1089 (by decide) ?_
  refine v_iadd (pc := 1090) C dL_law_1090 ?_
  refine v_scr (pc := 1091) C S (ix_1 hi S) dL_law_1091 ?_
  refine v_cVi (pc := 1092) (o := 33) (As := [.int (f (nI i + 1).toNatClampNeg)]) (rest := [.int r]) (ci := 12) C (c_X12_build hw) pk_X12_build e_1476 rfl (by decide) rfl (by decide) rfl rfl (Nat.le_of_ble_eq_true rfl) dL_law_1092 (fun r2 σ2 hw => ?_)
  exact v_icmp_eq (pc := 1095) (tgt := 1677) C dL_law_1095 (by decide) (fun _ => hN σ2 hw.2) (fun q => absurd hw.1 q)
theorem l_28 {X : Cx} {G : Gl} {b L i : Nat} {f : Nat → Int32} {σ : Mem} (C : Ck X G RL cL_law 4 10) (S : Lw X G b L f) (hi : i + 5 ≤ L) (hN : ∀ σ, RR σ → V X G 4 1677 [(3, .int (nI i)), (2, .ref (gA G 33)), (1, .ref (gA G 0)), (0, .ref b)] [] σ) (h : RR σ) : V X G 4 1100 [(3, .int (nI i)), (2, .ref (gA G 33)), (1, .ref (gA G 0)), (0, .ref b)] [] σ := by
  refine v_aload_n (pc := 1100) 2 C dL_law_1100 rfl rfl ?_
  refine v_aload_n (pc := 1101) 3 C dL_law_1101 rfl rfl ?_
  refine v_iload_n (pc := 1102) 0 C dL_law_1102 rfl rfl ?_
  refine v_iconst (pc := 1103) (v := 1) C dL_law_1103 (by decide) ?_
  refine v_iadd (pc := 1104) C dL_law_1104 ?_
  refine v_scr (pc := 1105) C S (ix_1 hi S) dL_law_1105 ?_
  refine v_aload_n (pc := 1106) 3 C dL_law_1106 rfl rfl ?_
  refine v_iload_n (pc := 1107) 0 C dL_law_1107 rfl rfl ?_
  refine v_iconst (pc := 1108) (v := 2) C dL_law_1108 (by decide) ?_
  refine v_iadd (pc := 1109) C dL_law_1109 ?_
  refine v_scr (pc := 1110) C S (ix_2 hi S) dL_law_1110 ?_
  have hw := t_change h (f (nI i + 1).toNatClampNeg) (f (nI i + 2).toNatClampNeg)
  refine v_cVi (pc := 1111) (o := 0) (As := [.int (f (nI i + 1).toNatClampNeg), .int (f (nI i + 2).toNatClampNeg)]) (rest := []) (ci := 11) C (c_X11_change hw) pk_X11_change e_849 rfl (by decide) rfl (by decide) rfl rfl (Nat.le_of_ble_eq_true rfl) dL_law_1111 (fun r σ1 hw => ?_)
  refine v_aload_n (pc := 1114) 1 C dL_law_1114 rfl rfl ?_
  refine v_aload_n (pc := 1115) 3 C dL_law_1115 rfl rfl ?_
  refine v_iload_n (pc := 1116) 0 C dL_law_1116 rfl rfl ?_
  refine v_iconst (pc := 1117) (v := 1) C dL_law_1117 (by decide) ?_
  refine v_iadd (pc := 1118) C dL_law_1118 ?_
  refine v_scr (pc := 1119) C S (ix_1 hi S) dL_law_1119 ?_
  refine v_aload_n (pc := 1120) 3 C dL_law_1120 rfl rfl ?_
  refine v_iload_n (pc := 1121) 0 C dL_law_1121 rfl rfl ?_
  refine v_iconst (pc := 1122) (v := 2) C dL_law_1122 (by decide) ?_
  refine v_iadd (pc := 1123) C dL_law_1123 ?_
  refine v_scr (pc := 1124) C S (ix_2 hi S) dL_law_1124 ?_
  refine v_cVi (pc := 1125) (o := 33) (As := [.int (f (nI i + 1).toNatClampNeg), .int (f (nI i + 2).toNatClampNeg)]) (rest := [.int r]) (ci := 12) C (c_X12_change hw) pk_X12_change e_1480 rfl (by decide) rfl (by decide) rfl rfl (Nat.le_of_ble_eq_true rfl) dL_law_1125 (fun r2 σ2 hw => ?_)
  exact v_icmp_eq (pc := 1128) (tgt := 1677) C dL_law_1128 (by decide) (fun _ => hN σ2 hw.2) (fun q => absurd hw.1 q)
theorem l_29 {X : Cx} {G : Gl} {b L i : Nat} {f : Nat → Int32} {σ : Mem} (C : Ck X G RL cL_law 4 10) (S : Lw X G b L f) (hi : i + 5 ≤ L) (hN : ∀ σ, RR σ → V X G 4 1677 [(3, .int (nI i)), (2, .ref (gA G 33)), (1, .ref (gA G 0)), (0, .ref b)] [] σ) (h : RR σ) : V X G 4 1133 [(3, .int (nI i)), (2, .ref (gA G 33)), (1, .ref (gA G 0)), (0, .ref b)] [] σ := by
  refine v_aload_n (pc := 1133) 2 C dL_law_1133 rfl rfl ?_
  have hw := t_way h
  refine v_cVi (pc := 1134) (o := 0) (As := []) (rest := []) (ci := 11) C (c_X11_way hw) pk_X11_way e_853 rfl (by decide) rfl (by decide) rfl rfl (Nat.le_of_ble_eq_true rfl) dL_law_1134 (fun r σ1 hw => ?_)
  refine v_aload_n (pc := 1137) 1 C dL_law_1137 rfl rfl ?_
  refine v_cVi (pc := 1138) (o := 33) (As := []) (rest := [.int r]) (ci := 12) C (c_X12_way hw) pk_X12_way e_1484 rfl (by decide) rfl (by decide) rfl rfl (Nat.le_of_ble_eq_true rfl) dL_law_1138 (fun r2 σ2 hw => ?_)
  exact v_icmp_eq (pc := 1141) (tgt := 1677) C dL_law_1141 (by decide) (fun _ => hN σ2 hw.2) (fun q => absurd hw.1 q)
theorem l_30 {X : Cx} {G : Gl} {b L i : Nat} {f : Nat → Int32} {σ : Mem} (C : Ck X G RL cL_law 4 10) (S : Lw X G b L f) (hi : i + 5 ≤ L) (hN : ∀ σ, RR σ → V X G 4 1677 [(3, .int (nI i)), (2, .ref (gA G 33)), (1, .ref (gA G 0)), (0, .ref b)] [] σ) (h : RR σ) : V X G 4 1146 [(3, .int (nI i)), (2, .ref (gA G 33)), (1, .ref (gA G 0)), (0, .ref b)] [] σ := by
  refine v_aload_n (pc := 1146) 2 C dL_law_1146 rfl rfl ?_
  have hw := t_least h
  refine v_cVi (pc := 1147) (o := 0) (As := []) (rest := []) (ci := 11) C (c_X11_least hw) pk_X11_least e_880 rfl (by decide) rfl (by decide) rfl rfl (Nat.le_of_ble_eq_true rfl) dL_law_1147 (fun r σ1 hw => ?_)
  refine v_aload_n (pc := 1150) 1 C dL_law_1150 rfl rfl ?_
  refine v_cVi (pc := 1151) (o := 33) (As := []) (rest := [.int r]) (ci := 12) C (c_X12_least hw) pk_X12_least e_1492 rfl (by decide) rfl (by decide) rfl rfl (Nat.le_of_ble_eq_true rfl) dL_law_1151 (fun r2 σ2 hw => ?_)
  exact v_icmp_eq (pc := 1154) (tgt := 1677) C dL_law_1154 (by decide) (fun _ => hN σ2 hw.2) (fun q => absurd hw.1 q)
theorem l_31 {X : Cx} {G : Gl} {b L i : Nat} {f : Nat → Int32} {σ : Mem} (C : Ck X G RL cL_law 4 10) (S : Lw X G b L f) (hi : i + 5 ≤ L) (hN : ∀ σ, RR σ → V X G 4 1677 [(3, .int (nI i)), (2, .ref (gA G 33)), (1, .ref (gA G 0)), (0, .ref b)] [] σ) (h : RR σ) : V X G 4 1159 [(3, .int (nI i)), (2, .ref (gA G 33)), (1, .ref (gA G 0)), (0, .ref b)] [] σ := by
  refine v_aload_n (pc := 1159) 2 C dL_law_1159 rfl rfl ?_
  have hw := t_arrange h
  refine v_cVi (pc := 1160) (o := 0) (As := []) (rest := []) (ci := 11) C (c_X11_arrange hw) pk_X11_arrange e_898 rfl (by decide) rfl (by decide) rfl rfl (Nat.le_of_ble_eq_true rfl) dL_law_1160 (fun r σ1 hw => ?_)
  refine v_aload_n (pc := 1163) 1 C dL_law_1163 rfl rfl ?_
  refine v_cVi (pc := 1164) (o := 33) (As := []) (rest := [.int r]) (ci := 12) C (c_X12_arrange hw) pk_X12_arrange e_1501 rfl (by decide) rfl (by decide) rfl rfl (Nat.le_of_ble_eq_true rfl) dL_law_1164 (fun r2 σ2 hw => ?_)
  exact v_icmp_eq (pc := 1167) (tgt := 1677) C dL_law_1167 (by decide) (fun _ => hN σ2 hw.2) (fun q => absurd hw.1 q)
theorem l_32 {X : Cx} {G : Gl} {b L i : Nat} {f : Nat → Int32} {σ : Mem} (C : Ck X G RL cL_law 4 10) (S : Lw X G b L f) (hi : i + 5 ≤ L) (hN : ∀ σ, RR σ → V X G 4 1677 [(3, .int (nI i)), (2, .ref (gA G 33)), (1, .ref (gA G 0)), (0, .ref b)] [] σ) (h : RR σ) : V X G 4 1172 [(3, .int (nI i)), (2, .ref (gA G 33)), (1, .ref (gA G 0)), (0, .ref b)] [] σ := by
  refine v_aload_n (pc := 1172) 2 C dL_law_1172 rfl rfl ?_
  refine v_aload_n (pc := 1173) 3 C dL_law_1173 rfl rfl ?_
  refine v_iload_n (pc := 1174) 0 C dL_law_1174 rfl rfl ?_
  refine v_iconst (pc := 1175) (v := 1) C dL_law_1175 (by decide) ?_
  refine v_iadd (pc := 1176) C dL_law_1176 ?_
  refine v_scr (pc := 1177) C S (ix_1 hi S) dL_law_1177 ?_
  have hw := t_trouble h (f (nI i + 1).toNatClampNeg)
  refine v_cVi (pc := 1178) (o := 0) (As := [.int (f (nI i + 1).toNatClampNeg)]) (rest := []) (ci := 11) C (c_X11_trouble hw) pk_X11_trouble e_906 rfl (by decide) rfl (by decide) rfl rfl (Nat.le_of_ble_eq_true rfl) dL_law_1178 (fun r σ1 hw => ?_)
  refine v_aload_n (pc := 1181) 1 C dL_law_1181 rfl rfl ?_
  refine v_aload_n (pc := 1182) 3 C dL_law_1182 rfl rfl ?_
  refine v_iload_n (pc := 1183) 0 C dL_law_1183 rfl rfl ?_
  refine v_iconst (pc := 1184) (v := 1) C dL_law_1184 (by decide) ?_
  refine v_iadd (pc := 1185) C dL_law_1185 ?_
  refine v_scr (pc := 1186) C S (ix_1 hi S) dL_law_1186 ?_
  refine v_cVi (pc := 1187) (o := 33) (As := [.int (f (nI i + 1).toNatClampNeg)]) (rest := [.int r]) (ci := 12) C (c_X12_trouble hw) pk_X12_trouble e_1505 rfl (by decide) rfl (by decide) rfl rfl (Nat.le_of_ble_eq_true rfl) dL_law_1187 (fun r2 σ2 hw => ?_)
  exact v_icmp_eq (pc := 1190) (tgt := 1677) C dL_law_1190 (by decide) (fun _ => hN σ2 hw.2) (fun q => absurd hw.1 q)
theorem l_33 {X : Cx} {G : Gl} {b L i : Nat} {f : Nat → Int32} {σ : Mem} (C : Ck X G RL cL_law 4 10) (S : Lw X G b L f) (hi : i + 5 ≤ L) (hN : ∀ σ, RR σ → V X G 4 1677 [(3, .int (nI i)), (2, .ref (gA G 33)), (1, .ref (gA G 0)), (0, .ref b)] [] σ) (h : RR σ) : V X G 4 1195 [(3, .int (nI i)), (2, .ref (gA G 33)), (1, .ref (gA G 0)), (0, .ref b)] [] σ := by
  refine v_aload_n (pc := 1195) 2 C dL_law_1195 rfl rfl ?_
  refine v_aload_n (pc := 1196) 3 C dL_law_1196 rfl rfl ?_
  refine v_iload_n (pc := 1197) 0 C dL_law_1197 rfl rfl ?_
  refine v_iconst (pc := 1198) (v := 1) C dL_law_1198 (by decide) ?_
  refine v_iadd (pc := 1199) C dL_law_1199 ?_
  refine v_scr (pc := 1200) C S (ix_1 hi S) dL_law_1200 ?_
  refine v_aload_n (pc := 1201) 3 C dL_law_1201 rfl rfl ?_
  refine v_iload_n (pc := 1202) 0 C dL_law_1202 rfl rfl ?_
  refine v_iconst (pc := 1203) (v := 2) C dL_law_1203 (by decide) ?_
  refine v_iadd (pc := 1204) C dL_law_1204 ?_
  refine v_scr (pc := 1205) C S (ix_2 hi S) dL_law_1205 ?_
  have hw := t_grip h (f (nI i + 1).toNatClampNeg) (f (nI i + 2).toNatClampNeg)
  refine v_cVi (pc := 1206) (o := 0) (As := [.int (f (nI i + 1).toNatClampNeg), .int (f (nI i + 2).toNatClampNeg)]) (rest := []) (ci := 11) C (c_X11_grip hw) pk_X11_grip e_954 rfl (by decide) rfl (by decide) rfl rfl (Nat.le_of_ble_eq_true rfl) dL_law_1206 (fun r σ1 hw => ?_)
  refine v_aload_n (pc := 1209) 1 C dL_law_1209 rfl rfl ?_
  refine v_aload_n (pc := 1210) 3 C dL_law_1210 rfl rfl ?_
  refine v_iload_n (pc := 1211) 0 C dL_law_1211 rfl rfl ?_
  refine v_iconst (pc := 1212) (v := 1) C dL_law_1212 (by decide) ?_
  refine v_iadd (pc := 1213) C dL_law_1213 ?_
  refine v_scr (pc := 1214) C S (ix_1 hi S) dL_law_1214 ?_
  refine v_aload_n (pc := 1215) 3 C dL_law_1215 rfl rfl ?_
  refine v_iload_n (pc := 1216) 0 C dL_law_1216 rfl rfl ?_
  refine v_iconst (pc := 1217) (v := 2) C dL_law_1217 (by decide) ?_
  refine v_iadd (pc := 1218) C dL_law_1218 ?_
  refine v_scr (pc := 1219) C S (ix_2 hi S) dL_law_1219 ?_
  refine v_cVi (pc := 1220) (o := 33) (As := [.int (f (nI i + 1).toNatClampNeg), .int (f (nI i + 2).toNatClampNeg)]) (rest := [.int r]) (ci := 12) C (c_X12_grip hw) pk_X12_grip e_1525 rfl (by decide) rfl (by decide) rfl rfl (Nat.le_of_ble_eq_true rfl) dL_law_1220 (fun r2 σ2 hw => ?_)
  exact v_icmp_eq (pc := 1223) (tgt := 1677) C dL_law_1223 (by decide) (fun _ => hN σ2 hw.2) (fun q => absurd hw.1 q)
theorem l_34 {X : Cx} {G : Gl} {b L i : Nat} {f : Nat → Int32} {σ : Mem} (C : Ck X G RL cL_law 4 10) (S : Lw X G b L f) (hi : i + 5 ≤ L) (hN : ∀ σ, RR σ → V X G 4 1677 [(3, .int (nI i)), (2, .ref (gA G 33)), (1, .ref (gA G 0)), (0, .ref b)] [] σ) (h : RR σ) : V X G 4 1228 [(3, .int (nI i)), (2, .ref (gA G 33)), (1, .ref (gA G 0)), (0, .ref b)] [] σ := by
  refine v_aload_n (pc := 1228) 2 C dL_law_1228 rfl rfl ?_
  refine v_aload_n (pc := 1229) 3 C dL_law_1229 rfl rfl ?_
  refine v_iload_n (pc := 1230) 0 C dL_law_1230 rfl rfl ?_
  refine v_iconst (pc := 1231) (v := 1) C dL_law_1231 (by decide) ?_
  refine v_iadd (pc := 1232) C dL_law_1232 ?_
  refine v_scr (pc := 1233) C S (ix_1 hi S) dL_law_1233 ?_
  refine v_aload_n (pc := 1234) 3 C dL_law_1234 rfl rfl ?_
  refine v_iload_n (pc := 1235) 0 C dL_law_1235 rfl rfl ?_
  refine v_iconst (pc := 1236) (v := 2) C dL_law_1236 (by decide) ?_
  refine v_iadd (pc := 1237) C dL_law_1237 ?_
  refine v_scr (pc := 1238) C S (ix_2 hi S) dL_law_1238 ?_
  refine v_aload_n (pc := 1239) 3 C dL_law_1239 rfl rfl ?_
  refine v_iload_n (pc := 1240) 0 C dL_law_1240 rfl rfl ?_
  refine v_iconst (pc := 1241) (v := 3) C dL_law_1241 (by decide) ?_
  refine v_iadd (pc := 1242) C dL_law_1242 ?_
  refine v_scr (pc := 1243) C S (ix_3 hi S) dL_law_1243 ?_
  refine v_aload_n (pc := 1244) 3 C dL_law_1244 rfl rfl ?_
  refine v_iload_n (pc := 1245) 0 C dL_law_1245 rfl rfl ?_
  refine v_iconst (pc := 1246) (v := 4) C dL_law_1246 (by decide) ?_
  refine v_iadd (pc := 1247) C dL_law_1247 ?_
  refine v_scr (pc := 1248) C S (ix_4 hi S) dL_law_1248 ?_
  have hw := t_heard h (f (nI i + 1).toNatClampNeg) (f (nI i + 2).toNatClampNeg) (f (nI i + 3).toNatClampNeg) (f (nI i + 4).toNatClampNeg)
  refine v_cVi (pc := 1249) (o := 0) (As := [.int (f (nI i + 1).toNatClampNeg), .int (f (nI i + 2).toNatClampNeg), .int (f (nI i + 3).toNatClampNeg), .int (f (nI i + 4).toNatClampNeg)]) (rest := []) (ci := 11) C (c_X11_heard hw) pk_X11_heard e_962 rfl (by decide) rfl (by decide) rfl rfl (Nat.le_of_ble_eq_true rfl) dL_law_1249 (fun r σ1 hw => ?_)
  refine v_aload_n (pc := 1252) 1 C dL_law_1252 rfl rfl ?_
  refine v_aload_n (pc := 1253) 3 C dL_law_1253 rfl rfl ?_
  refine v_iload_n (pc := 1254) 0 C dL_law_1254 rfl rfl ?_
  refine v_iconst (pc := 1255) (v := 1) C dL_law_1255 (by decide) ?_
  refine v_iadd (pc := 1256) C dL_law_1256 ?_
  refine v_scr (pc := 1257) C S (ix_1 hi S) dL_law_1257 ?_
  refine v_aload_n (pc := 1258) 3 C dL_law_1258 rfl rfl ?_
  refine v_iload_n (pc := 1259) 0 C dL_law_1259 rfl rfl ?_
  refine v_iconst (pc := 1260) (v := 2) C dL_law_1260 (by decide) ?_
  refine v_iadd (pc := 1261) C dL_law_1261 ?_
  refine v_scr (pc := 1262) C S (ix_2 hi S) dL_law_1262 ?_
  refine v_aload_n (pc := 1263) 3 C dL_law_1263 rfl rfl ?_
  refine v_iload_n (pc := 1264) 0 C dL_law_1264 rfl rfl ?_
  refine v_iconst (pc := 1265) (v := 3) C dL_law_1265 (by decide) ?_
  refine v_iadd (pc := 1266) C dL_law_1266 ?_
  refine v_scr (pc := 1267) C S (ix_3 hi S) dL_law_1267 ?_
  refine v_aload_n (pc := 1268) 3 C dL_law_1268 rfl rfl ?_
  refine v_iload_n (pc := 1269) 0 C dL_law_1269 rfl rfl ?_
  refine v_iconst (pc := 1270) (v := 4) C dL_law_1270 (by decide) ?_
  refine v_iadd (pc := 1271) C dL_law_1271 ?_
  refine v_scr (pc := 1272) C S (ix_4 hi S) dL_law_1272 ?_
  refine v_cVi (pc := 1273) (o := 33) (As := [.int (f (nI i + 1).toNatClampNeg), .int (f (nI i + 2).toNatClampNeg), .int (f (nI i + 3).toNatClampNeg), .int (f (nI i + 4).toNatClampNeg)]) (rest := [.int r]) (ci := 12) C (c_X12_heard hw) pk_X12_heard e_1529 rfl (by decide) rfl (by decide) rfl rfl (Nat.le_of_ble_eq_true rfl) dL_law_1273 (fun r2 σ2 hw => ?_)
  exact v_icmp_eq (pc := 1276) (tgt := 1677) C dL_law_1276 (by decide) (fun _ => hN σ2 hw.2) (fun q => absurd hw.1 q)
theorem l_35 {X : Cx} {G : Gl} {b L i : Nat} {f : Nat → Int32} {σ : Mem} (C : Ck X G RL cL_law 4 10) (S : Lw X G b L f) (hi : i + 5 ≤ L) (hN : ∀ σ, RR σ → V X G 4 1677 [(3, .int (nI i)), (2, .ref (gA G 33)), (1, .ref (gA G 0)), (0, .ref b)] [] σ) (h : RR σ) : V X G 4 1281 [(3, .int (nI i)), (2, .ref (gA G 33)), (1, .ref (gA G 0)), (0, .ref b)] [] σ := by
  refine v_aload_n (pc := 1281) 2 C dL_law_1281 rfl rfl ?_
  have hw := t_worn h
  refine v_cVi (pc := 1282) (o := 0) (As := []) (rest := []) (ci := 11) C (c_X11_worn hw) pk_X11_worn e_981 rfl (by decide) rfl (by decide) rfl rfl (Nat.le_of_ble_eq_true rfl) dL_law_1282 (fun r σ1 hw => ?_)
  refine v_aload_n (pc := 1285) 1 C dL_law_1285 rfl rfl ?_
  refine v_cVi (pc := 1286) (o := 33) (As := []) (rest := [.int r]) (ci := 12) C (c_X12_worn hw) pk_X12_worn e_1533 rfl (by decide) rfl (by decide) rfl rfl (Nat.le_of_ble_eq_true rfl) dL_law_1286 (fun r2 σ2 hw => ?_)
  exact v_icmp_eq (pc := 1289) (tgt := 1677) C dL_law_1289 (by decide) (fun _ => hN σ2 hw.2) (fun q => absurd hw.1 q)
theorem l_36 {X : Cx} {G : Gl} {b L i : Nat} {f : Nat → Int32} {σ : Mem} (C : Ck X G RL cL_law 4 10) (S : Lw X G b L f) (hi : i + 5 ≤ L) (hN : ∀ σ, RR σ → V X G 4 1677 [(3, .int (nI i)), (2, .ref (gA G 33)), (1, .ref (gA G 0)), (0, .ref b)] [] σ) (h : RR σ) : V X G 4 1294 [(3, .int (nI i)), (2, .ref (gA G 33)), (1, .ref (gA G 0)), (0, .ref b)] [] σ := by
  refine v_aload_n (pc := 1294) 2 C dL_law_1294 rfl rfl ?_
  refine v_aload_n (pc := 1295) 3 C dL_law_1295 rfl rfl ?_
  refine v_iload_n (pc := 1296) 0 C dL_law_1296 rfl rfl ?_
  refine v_iconst (pc := 1297) (v := 1) C dL_law_1297 (by decide) ?_
  refine v_iadd (pc := 1298) C dL_law_1298 ?_
  refine v_scr (pc := 1299) C S (ix_1 hi S) dL_law_1299 ?_
  refine v_aload_n (pc := 1300) 3 C dL_law_1300 rfl rfl ?_
  refine v_iload_n (pc := 1301) 0 C dL_law_1301 rfl rfl ?_
  refine v_iconst (pc := 1302) (v := 2) C dL_law_1302 (by decide) ?_
  refine v_iadd (pc := 1303) C dL_law_1303 ?_
  refine v_scr (pc := 1304) C S (ix_2 hi S) dL_law_1304 ?_
  have hw := t_sure h (f (nI i + 1).toNatClampNeg) (f (nI i + 2).toNatClampNeg)
  refine v_cVi (pc := 1305) (o := 0) (As := [.int (f (nI i + 1).toNatClampNeg), .int (f (nI i + 2).toNatClampNeg)]) (rest := []) (ci := 11) C (c_X11_sure hw) pk_X11_sure e_1000 rfl (by decide) rfl (by decide) rfl rfl (Nat.le_of_ble_eq_true rfl) dL_law_1305 (fun r σ1 hw => ?_)
  refine v_aload_n (pc := 1308) 1 C dL_law_1308 rfl rfl ?_
  refine v_aload_n (pc := 1309) 3 C dL_law_1309 rfl rfl ?_
  refine v_iload_n (pc := 1310) 0 C dL_law_1310 rfl rfl ?_
  refine v_iconst (pc := 1311) (v := 1) C dL_law_1311 (by decide) ?_
  refine v_iadd (pc := 1312) C dL_law_1312 ?_
  refine v_scr (pc := 1313) C S (ix_1 hi S) dL_law_1313 ?_
  refine v_aload_n (pc := 1314) 3 C dL_law_1314 rfl rfl ?_
  refine v_iload_n (pc := 1315) 0 C dL_law_1315 rfl rfl ?_
  refine v_iconst (pc := 1316) (v := 2) C dL_law_1316 (by decide) ?_
  refine v_iadd (pc := 1317) C dL_law_1317 ?_
  refine v_scr (pc := 1318) C S (ix_2 hi S) dL_law_1318 ?_
  refine v_cVi (pc := 1319) (o := 33) (As := [.int (f (nI i + 1).toNatClampNeg), .int (f (nI i + 2).toNatClampNeg)]) (rest := [.int r]) (ci := 12) C (c_X12_sure hw) pk_X12_sure e_1549 rfl (by decide) rfl (by decide) rfl rfl (Nat.le_of_ble_eq_true rfl) dL_law_1319 (fun r2 σ2 hw => ?_)
  exact v_icmp_eq (pc := 1322) (tgt := 1677) C dL_law_1322 (by decide) (fun _ => hN σ2 hw.2) (fun q => absurd hw.1 q)
theorem l_37 {X : Cx} {G : Gl} {b L i : Nat} {f : Nat → Int32} {σ : Mem} (C : Ck X G RL cL_law 4 10) (S : Lw X G b L f) (hi : i + 5 ≤ L) (hN : ∀ σ, RR σ → V X G 4 1677 [(3, .int (nI i)), (2, .ref (gA G 33)), (1, .ref (gA G 0)), (0, .ref b)] [] σ) (h : RR σ) : V X G 4 1327 [(3, .int (nI i)), (2, .ref (gA G 33)), (1, .ref (gA G 0)), (0, .ref b)] [] σ := by
  refine v_aload_n (pc := 1327) 2 C dL_law_1327 rfl rfl ?_
  have hw := t_unhear h
  refine v_cVi (pc := 1328) (o := 0) (As := []) (rest := []) (ci := 11) C (c_X11_unhear hw) pk_X11_unhear e_1012 rfl (by decide) rfl (by decide) rfl rfl (Nat.le_of_ble_eq_true rfl) dL_law_1328 (fun r σ1 hw => ?_)
  refine v_aload_n (pc := 1331) 1 C dL_law_1331 rfl rfl ?_
  refine v_cVi (pc := 1332) (o := 33) (As := []) (rest := [.int r]) (ci := 12) C (c_X12_unhear hw) pk_X12_unhear e_1553 rfl (by decide) rfl (by decide) rfl rfl (Nat.le_of_ble_eq_true rfl) dL_law_1332 (fun r2 σ2 hw => ?_)
  exact v_icmp_eq (pc := 1335) (tgt := 1677) C dL_law_1335 (by decide) (fun _ => hN σ2 hw.2) (fun q => absurd hw.1 q)
theorem l_38 {X : Cx} {G : Gl} {b L i : Nat} {f : Nat → Int32} {σ : Mem} (C : Ck X G RL cL_law 4 10) (S : Lw X G b L f) (hi : i + 5 ≤ L) (hN : ∀ σ, RR σ → V X G 4 1677 [(3, .int (nI i)), (2, .ref (gA G 33)), (1, .ref (gA G 0)), (0, .ref b)] [] σ) (h : RR σ) : V X G 4 1340 [(3, .int (nI i)), (2, .ref (gA G 33)), (1, .ref (gA G 0)), (0, .ref b)] [] σ := by
  refine v_aload_n (pc := 1340) 2 C dL_law_1340 rfl rfl ?_
  refine v_aload_n (pc := 1341) 3 C dL_law_1341 rfl rfl ?_
  refine v_iload_n (pc := 1342) 0 C dL_law_1342 rfl rfl ?_
  refine v_iconst (pc := 1343) (v := 1) C dL_law_1343 (by decide) ?_
  refine v_iadd (pc := 1344) C dL_law_1344 ?_
  refine v_scr (pc := 1345) C S (ix_1 hi S) dL_law_1345 ?_
  refine v_aload_n (pc := 1346) 3 C dL_law_1346 rfl rfl ?_
  refine v_iload_n (pc := 1347) 0 C dL_law_1347 rfl rfl ?_
  refine v_iconst (pc := 1348) (v := 2) C dL_law_1348 (by decide) ?_
  refine v_iadd (pc := 1349) C dL_law_1349 ?_
  refine v_scr (pc := 1350) C S (ix_2 hi S) dL_law_1350 ?_
  have hw := t_otherwise h (f (nI i + 1).toNatClampNeg) (f (nI i + 2).toNatClampNeg)
  refine v_cVi (pc := 1351) (o := 0) (As := [.int (f (nI i + 1).toNatClampNeg), .int (f (nI i + 2).toNatClampNeg)]) (rest := []) (ci := 11) C (c_X11_otherwise hw) pk_X11_otherwise e_1016 rfl (by decide) rfl (by decide) rfl rfl (Nat.le_of_ble_eq_true rfl) dL_law_1351 (fun r σ1 hw => ?_)
  refine v_aload_n (pc := 1354) 1 C dL_law_1354 rfl rfl ?_
  refine v_aload_n (pc := 1355) 3 C dL_law_1355 rfl rfl ?_
  refine v_iload_n (pc := 1356) 0 C dL_law_1356 rfl rfl ?_
  refine v_iconst (pc := 1357) (v := 1) C dL_law_1357 (by decide) ?_
  refine v_iadd (pc := 1358) C dL_law_1358 ?_
  refine v_scr (pc := 1359) C S (ix_1 hi S) dL_law_1359 ?_
  refine v_aload_n (pc := 1360) 3 C dL_law_1360 rfl rfl ?_
  refine v_iload_n (pc := 1361) 0 C dL_law_1361 rfl rfl ?_
  refine v_iconst (pc := 1362) (v := 2) C dL_law_1362 (by decide) ?_
  refine v_iadd (pc := 1363) C dL_law_1363 ?_
  refine v_scr (pc := 1364) C S (ix_2 hi S) dL_law_1364 ?_
  refine v_cVi (pc := 1365) (o := 33) (As := [.int (f (nI i + 1).toNatClampNeg), .int (f (nI i + 2).toNatClampNeg)]) (rest := [.int r]) (ci := 12) C (c_X12_otherwise hw) pk_X12_otherwise e_1557 rfl (by decide) rfl (by decide) rfl rfl (Nat.le_of_ble_eq_true rfl) dL_law_1365 (fun r2 σ2 hw => ?_)
  exact v_icmp_eq (pc := 1368) (tgt := 1677) C dL_law_1368 (by decide) (fun _ => hN σ2 hw.2) (fun q => absurd hw.1 q)
theorem l_39 {X : Cx} {G : Gl} {b L i : Nat} {f : Nat → Int32} {σ : Mem} (C : Ck X G RL cL_law 4 10) (S : Lw X G b L f) (hi : i + 5 ≤ L) (hN : ∀ σ, RR σ → V X G 4 1677 [(3, .int (nI i)), (2, .ref (gA G 33)), (1, .ref (gA G 0)), (0, .ref b)] [] σ) (h : RR σ) : V X G 4 1373 [(3, .int (nI i)), (2, .ref (gA G 33)), (1, .ref (gA G 0)), (0, .ref b)] [] σ := by
  refine v_aload_n (pc := 1373) 2 C dL_law_1373 rfl rfl ?_
  refine v_aload_n (pc := 1374) 3 C dL_law_1374 rfl rfl ?_
  refine v_iload_n (pc := 1375) 0 C dL_law_1375 rfl rfl ?_
  refine v_iconst (pc := 1376) (v := 1) C dL_law_1376 (by decide) ?_
  refine v_iadd (pc := 1377) C dL_law_1377 ?_
  refine v_scr (pc := 1378) C S (ix_1 hi S) dL_law_1378 ?_
  have hw := t_best h (f (nI i + 1).toNatClampNeg)
  refine v_cVi (pc := 1379) (o := 0) (As := [.int (f (nI i + 1).toNatClampNeg)]) (rest := []) (ci := 11) C (c_X11_best hw) pk_X11_best e_1027 rfl (by decide) rfl (by decide) rfl rfl (Nat.le_of_ble_eq_true rfl) dL_law_1379 (fun r σ1 hw => ?_)
  refine v_aload_n (pc := 1382) 1 C dL_law_1382 rfl rfl ?_
  refine v_aload_n (pc := 1383) 3 C dL_law_1383 rfl rfl ?_
  refine v_iload_n (pc := 1384) 0 C dL_law_1384 rfl rfl ?_
  refine v_iconst (pc := 1385) (v := 1) C dL_law_1385 (by decide) ?_
  refine v_iadd (pc := 1386) C dL_law_1386 ?_
  refine v_scr (pc := 1387) C S (ix_1 hi S) dL_law_1387 ?_
  refine v_cVi (pc := 1388) (o := 33) (As := [.int (f (nI i + 1).toNatClampNeg)]) (rest := [.int r]) (ci := 12) C (c_X12_best hw) pk_X12_best e_1568 rfl (by decide) rfl (by decide) rfl rfl (Nat.le_of_ble_eq_true rfl) dL_law_1388 (fun r2 σ2 hw => ?_)
  exact v_icmp_eq (pc := 1391) (tgt := 1677) C dL_law_1391 (by decide) (fun _ => hN σ2 hw.2) (fun q => absurd hw.1 q)
theorem l_40 {X : Cx} {G : Gl} {b L i : Nat} {f : Nat → Int32} {σ : Mem} (C : Ck X G RL cL_law 4 10) (S : Lw X G b L f) (hi : i + 5 ≤ L) (hN : ∀ σ, RR σ → V X G 4 1677 [(3, .int (nI i)), (2, .ref (gA G 33)), (1, .ref (gA G 0)), (0, .ref b)] [] σ) (h : RR σ) : V X G 4 1396 [(3, .int (nI i)), (2, .ref (gA G 33)), (1, .ref (gA G 0)), (0, .ref b)] [] σ := by
  refine v_aload_n (pc := 1396) 2 C dL_law_1396 rfl rfl ?_
  refine v_aload_n (pc := 1397) 3 C dL_law_1397 rfl rfl ?_
  refine v_iload_n (pc := 1398) 0 C dL_law_1398 rfl rfl ?_
  refine v_iconst (pc := 1399) (v := 1) C dL_law_1399 (by decide) ?_
  refine v_iadd (pc := 1400) C dL_law_1400 ?_
  refine v_scr (pc := 1401) C S (ix_1 hi S) dL_law_1401 ?_
  refine v_aload_n (pc := 1402) 3 C dL_law_1402 rfl rfl ?_
  refine v_iload_n (pc := 1403) 0 C dL_law_1403 rfl rfl ?_
  refine v_iconst (pc := 1404) (v := 2) C dL_law_1404 (by decide) ?_
  refine v_iadd (pc := 1405) C dL_law_1405 ?_
  refine v_scr (pc := 1406) C S (ix_2 hi S) dL_law_1406 ?_
  refine v_aload_n (pc := 1407) 3 C dL_law_1407 rfl rfl ?_
  refine v_iload_n (pc := 1408) 0 C dL_law_1408 rfl rfl ?_
  refine v_iconst (pc := 1409) (v := 3) C dL_law_1409 (by decide) ?_
  refine v_iadd (pc := 1410) C dL_law_1410 ?_
  refine v_scr (pc := 1411) C S (ix_3 hi S) dL_law_1411 ?_
  have hw := t_sheet h (f (nI i + 1).toNatClampNeg) (f (nI i + 2).toNatClampNeg) (f (nI i + 3).toNatClampNeg)
  refine v_cVi (pc := 1412) (o := 0) (As := [.int (f (nI i + 1).toNatClampNeg), .int (f (nI i + 2).toNatClampNeg), .int (f (nI i + 3).toNatClampNeg)]) (rest := []) (ci := 11) C (c_X11_sheet hw) pk_X11_sheet e_1033 rfl (by decide) rfl (by decide) rfl rfl (Nat.le_of_ble_eq_true rfl) dL_law_1412 (fun r σ1 hw => ?_)
  refine v_aload_n (pc := 1415) 1 C dL_law_1415 rfl rfl ?_
  refine v_aload_n (pc := 1416) 3 C dL_law_1416 rfl rfl ?_
  refine v_iload_n (pc := 1417) 0 C dL_law_1417 rfl rfl ?_
  refine v_iconst (pc := 1418) (v := 1) C dL_law_1418 (by decide) ?_
  refine v_iadd (pc := 1419) C dL_law_1419 ?_
  refine v_scr (pc := 1420) C S (ix_1 hi S) dL_law_1420 ?_
  refine v_aload_n (pc := 1421) 3 C dL_law_1421 rfl rfl ?_
  refine v_iload_n (pc := 1422) 0 C dL_law_1422 rfl rfl ?_
  refine v_iconst (pc := 1423) (v := 2) C dL_law_1423 (by decide) ?_
  refine v_iadd (pc := 1424) C dL_law_1424 ?_
  refine v_scr (pc := 1425) C S (ix_2 hi S) dL_law_1425 ?_
  refine v_aload_n (pc := 1426) 3 C dL_law_1426 rfl rfl ?_
  refine v_iload_n (pc := 1427) 0 C dL_law_1427 rfl rfl ?_
  refine v_iconst (pc := 1428) (v := 3) C dL_law_1428 (by decide) ?_
  refine v_iadd (pc := 1429) C dL_law_1429 ?_
  refine v_scr (pc := 1430) C S (ix_3 hi S) dL_law_1430 ?_
  refine v_cVi (pc := 1431) (o := 33) (As := [.int (f (nI i + 1).toNatClampNeg), .int (f (nI i + 2).toNatClampNeg), .int (f (nI i + 3).toNatClampNeg)]) (rest := [.int r]) (ci := 12) C (c_X12_sheet hw) pk_X12_sheet e_1572 rfl (by decide) rfl (by decide) rfl rfl (Nat.le_of_ble_eq_true rfl) dL_law_1431 (fun r2 σ2 hw => ?_)
  exact v_icmp_eq (pc := 1434) (tgt := 1677) C dL_law_1434 (by decide) (fun _ => hN σ2 hw.2) (fun q => absurd hw.1 q)
theorem l_41 {X : Cx} {G : Gl} {b L i : Nat} {f : Nat → Int32} {σ : Mem} (C : Ck X G RL cL_law 4 10) (S : Lw X G b L f) (hi : i + 5 ≤ L) (hN : ∀ σ, RR σ → V X G 4 1677 [(3, .int (nI i)), (2, .ref (gA G 33)), (1, .ref (gA G 0)), (0, .ref b)] [] σ) (h : RR σ) : V X G 4 1439 [(3, .int (nI i)), (2, .ref (gA G 33)), (1, .ref (gA G 0)), (0, .ref b)] [] σ := by
  refine v_aload_n (pc := 1439) 2 C dL_law_1439 rfl rfl ?_
  refine v_aload_n (pc := 1440) 3 C dL_law_1440 rfl rfl ?_
  refine v_iload_n (pc := 1441) 0 C dL_law_1441 rfl rfl ?_
  refine v_iconst (pc := 1442) (v := 1) C dL_law_1442 (by decide) ?_
  refine v_iadd (pc := 1443) C dL_law_1443 ?_
  refine v_scr (pc := 1444) C S (ix_1 hi S) dL_law_1444 ?_
  have hw := t_lose h (f (nI i + 1).toNatClampNeg)
  refine v_cVi (pc := 1445) (o := 0) (As := [.int (f (nI i + 1).toNatClampNeg)]) (rest := []) (ci := 11) C (c_X11_lose hw) pk_X11_lose e_1042 rfl (by decide) rfl (by decide) rfl rfl (Nat.le_of_ble_eq_true rfl) dL_law_1445 (fun r σ1 hw => ?_)
  refine v_aload_n (pc := 1448) 1 C dL_law_1448 rfl rfl ?_
  refine v_aload_n (pc := 1449) 3 C dL_law_1449 rfl rfl ?_
  refine v_iload_n (pc := 1450) 0 C dL_law_1450 rfl rfl ?_
  refine v_iconst (pc := 1451) (v := 1) C dL_law_1451 (by decide) ?_
  refine v_iadd (pc := 1452) C dL_law_1452 ?_
  refine v_scr (pc := 1453) C S (ix_1 hi S) dL_law_1453 ?_
  refine v_cVi (pc := 1454) (o := 33) (As := [.int (f (nI i + 1).toNatClampNeg)]) (rest := [.int r]) (ci := 12) C (c_X12_lose hw) pk_X12_lose e_1576 rfl (by decide) rfl (by decide) rfl rfl (Nat.le_of_ble_eq_true rfl) dL_law_1454 (fun r2 σ2 hw => ?_)
  exact v_icmp_eq (pc := 1457) (tgt := 1677) C dL_law_1457 (by decide) (fun _ => hN σ2 hw.2) (fun q => absurd hw.1 q)
theorem l_42 {X : Cx} {G : Gl} {b L i : Nat} {f : Nat → Int32} {σ : Mem} (C : Ck X G RL cL_law 4 10) (S : Lw X G b L f) (hi : i + 5 ≤ L) (hN : ∀ σ, RR σ → V X G 4 1677 [(3, .int (nI i)), (2, .ref (gA G 33)), (1, .ref (gA G 0)), (0, .ref b)] [] σ) (h : RR σ) : V X G 4 1462 [(3, .int (nI i)), (2, .ref (gA G 33)), (1, .ref (gA G 0)), (0, .ref b)] [] σ := by
  refine v_aload_n (pc := 1462) 2 C dL_law_1462 rfl rfl ?_
  refine v_aload_n (pc := 1463) 3 C dL_law_1463 rfl rfl ?_
  refine v_iload_n (pc := 1464) 0 C dL_law_1464 rfl rfl ?_
  refine v_iconst (pc := 1465) (v := 1) C dL_law_1465 (by decide) ?_
  refine v_iadd (pc := 1466) C dL_law_1466 ?_
  refine v_scr (pc := 1467) C S (ix_1 hi S) dL_law_1467 ?_
  refine v_aload_n (pc := 1468) 3 C dL_law_1468 rfl rfl ?_
  refine v_iload_n (pc := 1469) 0 C dL_law_1469 rfl rfl ?_
  refine v_iconst (pc := 1470) (v := 2) C dL_law_1470 (by decide) ?_
  refine v_iadd (pc := 1471) C dL_law_1471 ?_
  refine v_scr (pc := 1472) C S (ix_2 hi S) dL_law_1472 ?_
  refine v_aload_n (pc := 1473) 3 C dL_law_1473 rfl rfl ?_
  refine v_iload_n (pc := 1474) 0 C dL_law_1474 rfl rfl ?_
  refine v_iconst (pc := 1475) (v := 3) C dL_law_1475 (by decide) ?_
  refine v_iadd (pc := 1476) C dL_law_1476 ?_
  refine v_scr (pc := 1477) C S (ix_3 hi S) dL_law_1477 ?_
  have hw := t_put h (f (nI i + 1).toNatClampNeg) (f (nI i + 2).toNatClampNeg) (f (nI i + 3).toNatClampNeg)
  refine v_cVi (pc := 1478) (o := 0) (As := [.int (f (nI i + 1).toNatClampNeg), .int (f (nI i + 2).toNatClampNeg), .int (f (nI i + 3).toNatClampNeg)]) (rest := []) (ci := 11) C (c_X11_put hw) pk_X11_put e_1050 rfl (by decide) rfl (by decide) rfl rfl (Nat.le_of_ble_eq_true rfl) dL_law_1478 (fun r σ1 hw => ?_)
  refine v_aload_n (pc := 1481) 1 C dL_law_1481 rfl rfl ?_
  refine v_aload_n (pc := 1482) 3 C dL_law_1482 rfl rfl ?_
  refine v_iload_n (pc := 1483) 0 C dL_law_1483 rfl rfl ?_
  refine v_iconst (pc := 1484) (v := 1) C dL_law_1484 (by decide) ?_
  refine v_iadd (pc := 1485) C dL_law_1485 ?_
  refine v_scr (pc := 1486) C S (ix_1 hi S) dL_law_1486 ?_
  refine v_aload_n (pc := 1487) 3 C dL_law_1487 rfl rfl ?_
  refine v_iload_n (pc := 1488) 0 C dL_law_1488 rfl rfl ?_
  refine v_iconst (pc := 1489) (v := 2) C dL_law_1489 (by decide) ?_
  refine v_iadd (pc := 1490) C dL_law_1490 ?_
  refine v_scr (pc := 1491) C S (ix_2 hi S) dL_law_1491 ?_
  refine v_aload_n (pc := 1492) 3 C dL_law_1492 rfl rfl ?_
  refine v_iload_n (pc := 1493) 0 C dL_law_1493 rfl rfl ?_
  refine v_iconst (pc := 1494) (v := 3) C dL_law_1494 (by decide) ?_
  refine v_iadd (pc := 1495) C dL_law_1495 ?_
  refine v_scr (pc := 1496) C S (ix_3 hi S) dL_law_1496 ?_
  refine v_cVi (pc := 1497) (o := 33) (As := [.int (f (nI i + 1).toNatClampNeg), .int (f (nI i + 2).toNatClampNeg), .int (f (nI i + 3).toNatClampNeg)]) (rest := [.int r]) (ci := 12) C (c_X12_put hw) pk_X12_put e_1580 rfl (by decide) rfl (by decide) rfl rfl (Nat.le_of_ble_eq_true rfl) dL_law_1497 (fun r2 σ2 hw => ?_)
  exact v_icmp_eq (pc := 1500) (tgt := 1677) C dL_law_1500 (by decide) (fun _ => hN σ2 hw.2) (fun q => absurd hw.1 q)
theorem l_43 {X : Cx} {G : Gl} {b L i : Nat} {f : Nat → Int32} {σ : Mem} (C : Ck X G RL cL_law 4 10) (S : Lw X G b L f) (hi : i + 5 ≤ L) (hN : ∀ σ, RR σ → V X G 4 1677 [(3, .int (nI i)), (2, .ref (gA G 33)), (1, .ref (gA G 0)), (0, .ref b)] [] σ) (h : RR σ) : V X G 4 1505 [(3, .int (nI i)), (2, .ref (gA G 33)), (1, .ref (gA G 0)), (0, .ref b)] [] σ := by
  refine v_aload_n (pc := 1505) 2 C dL_law_1505 rfl rfl ?_
  refine v_aload_n (pc := 1506) 3 C dL_law_1506 rfl rfl ?_
  refine v_iload_n (pc := 1507) 0 C dL_law_1507 rfl rfl ?_
  refine v_iconst (pc := 1508) (v := 1) C dL_law_1508 (by decide) ?_
  refine v_iadd (pc := 1509) C dL_law_1509 ?_
  refine v_scr (pc := 1510) C S (ix_1 hi S) dL_law_1510 ?_
  refine v_aload_n (pc := 1511) 3 C dL_law_1511 rfl rfl ?_
  refine v_iload_n (pc := 1512) 0 C dL_law_1512 rfl rfl ?_
  refine v_iconst (pc := 1513) (v := 2) C dL_law_1513 (by decide) ?_
  refine v_iadd (pc := 1514) C dL_law_1514 ?_
  refine v_scr (pc := 1515) C S (ix_2 hi S) dL_law_1515 ?_
  refine v_aload_n (pc := 1516) 3 C dL_law_1516 rfl rfl ?_
  refine v_iload_n (pc := 1517) 0 C dL_law_1517 rfl rfl ?_
  refine v_iconst (pc := 1518) (v := 3) C dL_law_1518 (by decide) ?_
  refine v_iadd (pc := 1519) C dL_law_1519 ?_
  refine v_scr (pc := 1520) C S (ix_3 hi S) dL_law_1520 ?_
  have hw := t_at h (f (nI i + 1).toNatClampNeg) (f (nI i + 2).toNatClampNeg) (f (nI i + 3).toNatClampNeg)
  refine v_cVl (pc := 1521) (o := 0) (As := [.int (f (nI i + 1).toNatClampNeg), .int (f (nI i + 2).toNatClampNeg), .int (f (nI i + 3).toNatClampNeg)]) (rest := []) (ci := 11) C (c_X11_at hw) pk_X11_at e_1063 rfl (by decide) rfl (by decide) rfl rfl (Nat.le_of_ble_eq_true rfl) dL_law_1521 (fun r σ1 hw => ?_)
  refine v_aload_n (pc := 1524) 1 C dL_law_1524 rfl rfl ?_
  refine v_aload_n (pc := 1525) 3 C dL_law_1525 rfl rfl ?_
  refine v_iload_n (pc := 1526) 0 C dL_law_1526 rfl rfl ?_
  refine v_iconst (pc := 1527) (v := 1) C dL_law_1527 (by decide) ?_
  refine v_iadd (pc := 1528) C dL_law_1528 ?_
  refine v_scr (pc := 1529) C S (ix_1 hi S) dL_law_1529 ?_
  refine v_aload_n (pc := 1530) 3 C dL_law_1530 rfl rfl ?_
  refine v_iload_n (pc := 1531) 0 C dL_law_1531 rfl rfl ?_
  refine v_iconst (pc := 1532) (v := 2) C dL_law_1532 (by decide) ?_
  refine v_iadd (pc := 1533) C dL_law_1533 ?_
  refine v_scr (pc := 1534) C S (ix_2 hi S) dL_law_1534 ?_
  refine v_aload_n (pc := 1535) 3 C dL_law_1535 rfl rfl ?_
  refine v_iload_n (pc := 1536) 0 C dL_law_1536 rfl rfl ?_
  refine v_iconst (pc := 1537) (v := 3) C dL_law_1537 (by decide) ?_
  refine v_iadd (pc := 1538) C dL_law_1538 ?_
  refine v_scr (pc := 1539) C S (ix_3 hi S) dL_law_1539 ?_
  refine v_cVl (pc := 1540) (o := 33) (As := [.int (f (nI i + 1).toNatClampNeg), .int (f (nI i + 2).toNatClampNeg), .int (f (nI i + 3).toNatClampNeg)]) (rest := [.long r]) (ci := 12) C (c_X12_at hw) pk_X12_at e_1584 rfl (by decide) rfl (by decide) rfl rfl (Nat.le_of_ble_eq_true rfl) dL_law_1540 (fun r2 σ2 hw => ?_)
  exact v_lcmp_eq (pc := 1543) (tgt := 1677) C dL_law_1543 dL_law_1544 (by decide) (fun _ => hN σ2 hw.2) (fun q => absurd hw.1 q)
theorem l_44 {X : Cx} {G : Gl} {b L i : Nat} {f : Nat → Int32} {σ : Mem} (C : Ck X G RL cL_law 4 10) (S : Lw X G b L f) (hi : i + 5 ≤ L) (hN : ∀ σ, RR σ → V X G 4 1677 [(3, .int (nI i)), (2, .ref (gA G 33)), (1, .ref (gA G 0)), (0, .ref b)] [] σ) (h : RR σ) : V X G 4 1549 [(3, .int (nI i)), (2, .ref (gA G 33)), (1, .ref (gA G 0)), (0, .ref b)] [] σ := by
  refine v_aload_n (pc := 1549) 2 C dL_law_1549 rfl rfl ?_
  refine v_aload_n (pc := 1550) 3 C dL_law_1550 rfl rfl ?_
  refine v_iload_n (pc := 1551) 0 C dL_law_1551 rfl rfl ?_
  refine v_iconst (pc := 1552) (v := 1) C dL_law_1552 (by decide) ?_
  refine v_iadd (pc := 1553) C dL_law_1553 ?_
  refine v_scr (pc := 1554) C S (ix_1 hi S) dL_law_1554 ?_
  have hw := t_tell h (f (nI i + 1).toNatClampNeg)
  refine v_cVi (pc := 1555) (o := 0) (As := [.int (f (nI i + 1).toNatClampNeg)]) (rest := []) (ci := 11) C (c_X11_tell hw) pk_X11_tell e_1068 rfl (by decide) rfl (by decide) rfl rfl (Nat.le_of_ble_eq_true rfl) dL_law_1555 (fun r σ1 hw => ?_)
  refine v_aload_n (pc := 1558) 1 C dL_law_1558 rfl rfl ?_
  refine v_aload_n (pc := 1559) 3 C dL_law_1559 rfl rfl ?_
  refine v_iload_n (pc := 1560) 0 C dL_law_1560 rfl rfl ?_
  refine v_iconst (pc := 1561) (v := 1) C dL_law_1561 (by decide) ?_
  refine v_iadd (pc := 1562) C dL_law_1562 ?_
  refine v_scr (pc := 1563) C S (ix_1 hi S) dL_law_1563 ?_
  refine v_cVi (pc := 1564) (o := 33) (As := [.int (f (nI i + 1).toNatClampNeg)]) (rest := [.int r]) (ci := 12) C (c_X12_tell hw) pk_X12_tell e_1593 rfl (by decide) rfl (by decide) rfl rfl (Nat.le_of_ble_eq_true rfl) dL_law_1564 (fun r2 σ2 hw => ?_)
  exact v_icmp_eq (pc := 1567) (tgt := 1677) C dL_law_1567 (by decide) (fun _ => hN σ2 hw.2) (fun q => absurd hw.1 q)
theorem l_45 {X : Cx} {G : Gl} {b L i : Nat} {f : Nat → Int32} {σ : Mem} (C : Ck X G RL cL_law 4 10) (S : Lw X G b L f) (hi : i + 5 ≤ L) (hN : ∀ σ, RR σ → V X G 4 1677 [(3, .int (nI i)), (2, .ref (gA G 33)), (1, .ref (gA G 0)), (0, .ref b)] [] σ) (h : RR σ) : V X G 4 1572 [(3, .int (nI i)), (2, .ref (gA G 33)), (1, .ref (gA G 0)), (0, .ref b)] [] σ := by
  refine v_aload_n (pc := 1572) 2 C dL_law_1572 rfl rfl ?_
  refine v_aload_n (pc := 1573) 3 C dL_law_1573 rfl rfl ?_
  refine v_iload_n (pc := 1574) 0 C dL_law_1574 rfl rfl ?_
  refine v_iconst (pc := 1575) (v := 1) C dL_law_1575 (by decide) ?_
  refine v_iadd (pc := 1576) C dL_law_1576 ?_
  refine v_scr (pc := 1577) C S (ix_1 hi S) dL_law_1577 ?_
  have hw := t_name h (f (nI i + 1).toNatClampNeg)
  refine v_cVi (pc := 1578) (o := 0) (As := [.int (f (nI i + 1).toNatClampNeg)]) (rest := []) (ci := 11) C (c_X11_name hw) pk_X11_name e_1088 rfl (by decide) rfl (by decide) rfl rfl (Nat.le_of_ble_eq_true rfl) dL_law_1578 (fun r σ1 hw => ?_)
  refine v_aload_n (pc := 1581) 1 C dL_law_1581 rfl rfl ?_
  refine v_aload_n (pc := 1582) 3 C dL_law_1582 rfl rfl ?_
  refine v_iload_n (pc := 1583) 0 C dL_law_1583 rfl rfl ?_
  refine v_iconst (pc := 1584) (v := 1) C dL_law_1584 (by decide) ?_
  refine v_iadd (pc := 1585) C dL_law_1585 ?_
  refine v_scr (pc := 1586) C S (ix_1 hi S) dL_law_1586 ?_
  refine v_cVi (pc := 1587) (o := 33) (As := [.int (f (nI i + 1).toNatClampNeg)]) (rest := [.int r]) (ci := 12) C (c_X12_name hw) pk_X12_name e_1601 rfl (by decide) rfl (by decide) rfl rfl (Nat.le_of_ble_eq_true rfl) dL_law_1587 (fun r2 σ2 hw => ?_)
  exact v_icmp_eq (pc := 1590) (tgt := 1677) C dL_law_1590 (by decide) (fun _ => hN σ2 hw.2) (fun q => absurd hw.1 q)
theorem l_46 {X : Cx} {G : Gl} {b L i : Nat} {f : Nat → Int32} {σ : Mem} (C : Ck X G RL cL_law 4 10) (S : Lw X G b L f) (hi : i + 5 ≤ L) (hN : ∀ σ, RR σ → V X G 4 1677 [(3, .int (nI i)), (2, .ref (gA G 33)), (1, .ref (gA G 0)), (0, .ref b)] [] σ) (h : RR σ) : V X G 4 1595 [(3, .int (nI i)), (2, .ref (gA G 33)), (1, .ref (gA G 0)), (0, .ref b)] [] σ := by
  refine v_aload_n (pc := 1595) 2 C dL_law_1595 rfl rfl ?_
  refine v_aload_n (pc := 1596) 3 C dL_law_1596 rfl rfl ?_
  refine v_iload_n (pc := 1597) 0 C dL_law_1597 rfl rfl ?_
  refine v_iconst (pc := 1598) (v := 1) C dL_law_1598 (by decide) ?_
  refine v_iadd (pc := 1599) C dL_law_1599 ?_
  refine v_scr (pc := 1600) C S (ix_1 hi S) dL_law_1600 ?_
  refine v_aload_n (pc := 1601) 3 C dL_law_1601 rfl rfl ?_
  refine v_iload_n (pc := 1602) 0 C dL_law_1602 rfl rfl ?_
  refine v_iconst (pc := 1603) (v := 2) C dL_law_1603 (by decide) ?_
  refine v_iadd (pc := 1604) C dL_law_1604 ?_
  refine v_scr (pc := 1605) C S (ix_2 hi S) dL_law_1605 ?_
  have hw := t_as h (f (nI i + 1).toNatClampNeg) (f (nI i + 2).toNatClampNeg)
  refine v_cVi (pc := 1606) (o := 0) (As := [.int (f (nI i + 1).toNatClampNeg), .int (f (nI i + 2).toNatClampNeg)]) (rest := []) (ci := 11) C (c_X11_as hw) pk_X11_as e_1092 rfl (by decide) rfl (by decide) rfl rfl (Nat.le_of_ble_eq_true rfl) dL_law_1606 (fun r σ1 hw => ?_)
  refine v_aload_n (pc := 1609) 1 C dL_law_1609 rfl rfl ?_
  refine v_aload_n (pc := 1610) 3 C dL_law_1610 rfl rfl ?_
  refine v_iload_n (pc := 1611) 0 C dL_law_1611 rfl rfl ?_
  refine v_iconst (pc := 1612) (v := 1) C dL_law_1612 (by decide) ?_
  refine v_iadd (pc := 1613) C dL_law_1613 ?_
  refine v_scr (pc := 1614) C S (ix_1 hi S) dL_law_1614 ?_
  refine v_aload_n (pc := 1615) 3 C dL_law_1615 rfl rfl ?_
  refine v_iload_n (pc := 1616) 0 C dL_law_1616 rfl rfl ?_
  refine v_iconst (pc := 1617) (v := 2) C dL_law_1617 (by decide) ?_
  refine v_iadd (pc := 1618) C dL_law_1618 ?_
  refine v_scr (pc := 1619) C S (ix_2 hi S) dL_law_1619 ?_
  refine v_cVi (pc := 1620) (o := 33) (As := [.int (f (nI i + 1).toNatClampNeg), .int (f (nI i + 2).toNatClampNeg)]) (rest := [.int r]) (ci := 12) C (c_X12_as hw) pk_X12_as e_1605 rfl (by decide) rfl (by decide) rfl rfl (Nat.le_of_ble_eq_true rfl) dL_law_1620 (fun r2 σ2 hw => ?_)
  exact v_icmp_eq (pc := 1623) (tgt := 1677) C dL_law_1623 (by decide) (fun _ => hN σ2 hw.2) (fun q => absurd hw.1 q)
theorem l_47 {X : Cx} {G : Gl} {b L i : Nat} {f : Nat → Int32} {σ : Mem} (C : Ck X G RL cL_law 4 10) (S : Lw X G b L f) (hi : i + 5 ≤ L) (hN : ∀ σ, RR σ → V X G 4 1677 [(3, .int (nI i)), (2, .ref (gA G 33)), (1, .ref (gA G 0)), (0, .ref b)] [] σ) (h : RR σ) : V X G 4 1628 [(3, .int (nI i)), (2, .ref (gA G 33)), (1, .ref (gA G 0)), (0, .ref b)] [] σ := by
  refine v_aload_n (pc := 1628) 2 C dL_law_1628 rfl rfl ?_
  have hw := t_trace h
  refine v_cVi (pc := 1629) (o := 0) (As := []) (rest := []) (ci := 11) C (c_X11_trace hw) pk_X11_trace e_1096 rfl (by decide) rfl (by decide) rfl rfl (Nat.le_of_ble_eq_true rfl) dL_law_1629 (fun r σ1 hw => ?_)
  refine v_aload_n (pc := 1632) 1 C dL_law_1632 rfl rfl ?_
  refine v_cVi (pc := 1633) (o := 33) (As := []) (rest := [.int r]) (ci := 12) C (c_X12_trace hw) pk_X12_trace e_1609 rfl (by decide) rfl (by decide) rfl rfl (Nat.le_of_ble_eq_true rfl) dL_law_1633 (fun r2 σ2 hw => ?_)
  exact v_icmp_eq (pc := 1636) (tgt := 1677) C dL_law_1636 (by decide) (fun _ => hN σ2 hw.2) (fun q => absurd hw.1 q)
theorem l_48 {X : Cx} {G : Gl} {b L i : Nat} {f : Nat → Int32} {σ : Mem} (C : Ck X G RL cL_law 4 10) (S : Lw X G b L f) (hi : i + 5 ≤ L) (hN : ∀ σ, RR σ → V X G 4 1677 [(3, .int (nI i)), (2, .ref (gA G 33)), (1, .ref (gA G 0)), (0, .ref b)] [] σ) (h : RR σ) : V X G 4 1641 [(3, .int (nI i)), (2, .ref (gA G 33)), (1, .ref (gA G 0)), (0, .ref b)] [] σ := by
  refine v_aload_n (pc := 1641) 2 C dL_law_1641 rfl rfl ?_
  have hw := t_fault h
  refine v_cVi (pc := 1642) (o := 0) (As := []) (rest := []) (ci := 11) C (c_X11_fault hw) pk_X11_fault e_1100 rfl (by decide) rfl (by decide) rfl rfl (Nat.le_of_ble_eq_true rfl) dL_law_1642 (fun r σ1 hw => ?_)
  refine v_aload_n (pc := 1645) 1 C dL_law_1645 rfl rfl ?_
  refine v_cVi (pc := 1646) (o := 33) (As := []) (rest := [.int r]) (ci := 12) C (c_X12_fault hw) pk_X12_fault e_1613 rfl (by decide) rfl (by decide) rfl rfl (Nat.le_of_ble_eq_true rfl) dL_law_1646 (fun r2 σ2 hw => ?_)
  exact v_icmp_eq (pc := 1649) (tgt := 1677) C dL_law_1649 (by decide) (fun _ => hN σ2 hw.2) (fun q => absurd hw.1 q)
theorem l_49 {X : Cx} {G : Gl} {b L i : Nat} {f : Nat → Int32} {σ : Mem} (C : Ck X G RL cL_law 4 10) (S : Lw X G b L f) (hi : i + 5 ≤ L) (hN : ∀ σ, RR σ → V X G 4 1677 [(3, .int (nI i)), (2, .ref (gA G 33)), (1, .ref (gA G 0)), (0, .ref b)] [] σ) (h : RR σ) : V X G 4 1654 [(3, .int (nI i)), (2, .ref (gA G 33)), (1, .ref (gA G 0)), (0, .ref b)] [] σ := by
  refine v_aload_n (pc := 1654) 2 C dL_law_1654 rfl rfl ?_
  refine v_aload_n (pc := 1655) 3 C dL_law_1655 rfl rfl ?_
  refine v_iload_n (pc := 1656) 0 C dL_law_1656 rfl rfl ?_
  refine v_iconst (pc := 1657) (v := 1) C dL_law_1657 (by decide) ?_
  refine v_iadd (pc := 1658) C dL_law_1658 ?_
  refine v_scr (pc := 1659) C S (ix_1 hi S) dL_law_1659 ?_
  have hw := t_told h (f (nI i + 1).toNatClampNeg)
  refine v_cVi (pc := 1660) (o := 0) (As := [.int (f (nI i + 1).toNatClampNeg)]) (rest := []) (ci := 11) C (c_X11_told hw) pk_X11_told e_1104 rfl (by decide) rfl (by decide) rfl rfl (Nat.le_of_ble_eq_true rfl) dL_law_1660 (fun r σ1 hw => ?_)
  refine v_aload_n (pc := 1663) 1 C dL_law_1663 rfl rfl ?_
  refine v_aload_n (pc := 1664) 3 C dL_law_1664 rfl rfl ?_
  refine v_iload_n (pc := 1665) 0 C dL_law_1665 rfl rfl ?_
  refine v_iconst (pc := 1666) (v := 1) C dL_law_1666 (by decide) ?_
  refine v_iadd (pc := 1667) C dL_law_1667 ?_
  refine v_scr (pc := 1668) C S (ix_1 hi S) dL_law_1668 ?_
  refine v_cVi (pc := 1669) (o := 33) (As := [.int (f (nI i + 1).toNatClampNeg)]) (rest := [.int r]) (ci := 12) C (c_X12_told hw) pk_X12_told e_1617 rfl (by decide) rfl (by decide) rfl rfl (Nat.le_of_ble_eq_true rfl) dL_law_1669 (fun r2 σ2 hw => ?_)
  exact v_icmp_eq (pc := 1672) (tgt := 1677) C dL_law_1672 (by decide) (fun _ => hN σ2 hw.2) (fun q => absurd hw.1 q)
theorem l_turn {X : Cx} {G : Gl} {b L i : Nat} {f : Nat → Int32} {σ : Mem} (C : Ck X G RL cL_law 4 10) (S : Lw X G b L f) (hi : i + 5 ≤ L) (hN : ∀ σ, RR σ → V X G 4 1677 [(3, .int (nI i)), (2, .ref (gA G 33)), (1, .ref (gA G 0)), (0, .ref b)] [] σ) (h : RR σ) : V X G 4 26 [(3, .int (nI i)), (2, .ref (gA G 33)), (1, .ref (gA G 0)), (0, .ref b)] [] σ := by
  refine v_aload_n (pc := 26) 3 C dL_law_26 rfl rfl ?_
  refine v_iload_n (pc := 27) 0 C dL_law_27 rfl rfl ?_
  refine v_scr (pc := 28) C S (ix_0 hi S) dL_law_28 ?_
  refine v_bipush (pc := 29) (v := 63) C dL_law_29 (by decide) ?_
  refine v_iand (pc := 31) C dL_law_31 ?_
  refine v_topi (fun x _ => ?_)
  by_cases hx : x.toInt < 0 ∨ 49 < x.toInt
  · exact v_tableOut (pc := 32) (tgt := 1677) C dL_law_32 hx (by decide) (hN σ h)
  · obtain ⟨k, hk, e⟩ : ∃ k, k < 50 ∧ x = nI k := by
      have h0 : 0 ≤ x.toInt := by omega
      have h1 : x.toInt ≤ 49 := by omega
      refine ⟨x.toInt.toNat, by omega, ?_⟩
      apply Int32.toInt_inj.mp
      rw [nI_toInt (by omega)]
      omega
    match k, hk, e with
    | 0, _, e => exact v_tableIn (pc := 32) (tgt := 248) (off := 216) C dL_law_32 (by rw [e]; decide) (by rw [e]; decide) (by rw [e]; rfl) (by decide) (l_0 C S hi hN h)
    | 1, _, e => exact v_tableIn (pc := 32) (tgt := 297) (off := 265) C dL_law_32 (by rw [e]; decide) (by rw [e]; decide) (by rw [e]; rfl) (by decide) (l_1 C S hi hN h)
    | 2, _, e => exact v_tableIn (pc := 32) (tgt := 330) (off := 298) C dL_law_32 (by rw [e]; decide) (by rw [e]; decide) (by rw [e]; rfl) (by decide) (l_2 C S hi hN h)
    | 3, _, e => exact v_tableIn (pc := 32) (tgt := 353) (off := 321) C dL_law_32 (by rw [e]; decide) (by rw [e]; decide) (by rw [e]; rfl) (by decide) (l_3 C S hi hN h)
    | 4, _, e => exact v_tableIn (pc := 32) (tgt := 366) (off := 334) C dL_law_32 (by rw [e]; decide) (by rw [e]; decide) (by rw [e]; rfl) (by decide) (l_4 C S hi hN h)
    | 5, _, e => exact v_tableIn (pc := 32) (tgt := 425) (off := 393) C dL_law_32 (by rw [e]; decide) (by rw [e]; decide) (by rw [e]; rfl) (by decide) (l_5 C S hi hN h)
    | 6, _, e => exact v_tableIn (pc := 32) (tgt := 484) (off := 452) C dL_law_32 (by rw [e]; decide) (by rw [e]; decide) (by rw [e]; rfl) (by decide) (l_6 C S hi hN h)
    | 7, _, e => exact v_tableIn (pc := 32) (tgt := 517) (off := 485) C dL_law_32 (by rw [e]; decide) (by rw [e]; decide) (by rw [e]; rfl) (by decide) (l_7 C S hi hN h)
    | 8, _, e => exact v_tableIn (pc := 32) (tgt := 550) (off := 518) C dL_law_32 (by rw [e]; decide) (by rw [e]; decide) (by rw [e]; rfl) (by decide) (l_8 C S hi hN h)
    | 9, _, e => exact v_tableIn (pc := 32) (tgt := 583) (off := 551) C dL_law_32 (by rw [e]; decide) (by rw [e]; decide) (by rw [e]; rfl) (by decide) (l_9 C S hi hN h)
    | 10, _, e => exact v_tableIn (pc := 32) (tgt := 616) (off := 584) C dL_law_32 (by rw [e]; decide) (by rw [e]; decide) (by rw [e]; rfl) (by decide) (l_10 C S hi hN h)
    | 11, _, e => exact v_tableIn (pc := 32) (tgt := 639) (off := 607) C dL_law_32 (by rw [e]; decide) (by rw [e]; decide) (by rw [e]; rfl) (by decide) (l_11 C S hi hN h)
    | 12, _, e => exact v_tableIn (pc := 32) (tgt := 662) (off := 630) C dL_law_32 (by rw [e]; decide) (by rw [e]; decide) (by rw [e]; rfl) (by decide) (l_12 C S hi hN h)
    | 13, _, e => exact v_tableIn (pc := 32) (tgt := 695) (off := 663) C dL_law_32 (by rw [e]; decide) (by rw [e]; decide) (by rw [e]; rfl) (by decide) (l_13 C S hi hN h)
    | 14, _, e => exact v_tableIn (pc := 32) (tgt := 718) (off := 686) C dL_law_32 (by rw [e]; decide) (by rw [e]; decide) (by rw [e]; rfl) (by decide) (l_14 C S hi hN h)
    | 15, _, e => exact v_tableIn (pc := 32) (tgt := 741) (off := 709) C dL_law_32 (by rw [e]; decide) (by rw [e]; decide) (by rw [e]; rfl) (by decide) (l_15 C S hi hN h)
    | 16, _, e => exact v_tableIn (pc := 32) (tgt := 764) (off := 732) C dL_law_32 (by rw [e]; decide) (by rw [e]; decide) (by rw [e]; rfl) (by decide) (l_16 C S hi hN h)
    | 17, _, e => exact v_tableIn (pc := 32) (tgt := 797) (off := 765) C dL_law_32 (by rw [e]; decide) (by rw [e]; decide) (by rw [e]; rfl) (by decide) (l_17 C S hi hN h)
    | 18, _, e => exact v_tableIn (pc := 32) (tgt := 850) (off := 818) C dL_law_32 (by rw [e]; decide) (by rw [e]; decide) (by rw [e]; rfl) (by decide) (l_18 C S hi hN h)
    | 19, _, e => exact v_tableIn (pc := 32) (tgt := 893) (off := 861) C dL_law_32 (by rw [e]; decide) (by rw [e]; decide) (by rw [e]; rfl) (by decide) (l_19 C S hi hN h)
    | 20, _, e => exact v_tableIn (pc := 32) (tgt := 926) (off := 894) C dL_law_32 (by rw [e]; decide) (by rw [e]; decide) (by rw [e]; rfl) (by decide) (l_20 C S hi hN h)
    | 21, _, e => exact v_tableIn (pc := 32) (tgt := 959) (off := 927) C dL_law_32 (by rw [e]; decide) (by rw [e]; decide) (by rw [e]; rfl) (by decide) (l_21 C S hi hN h)
    | 22, _, e => exact v_tableIn (pc := 32) (tgt := 982) (off := 950) C dL_law_32 (by rw [e]; decide) (by rw [e]; decide) (by rw [e]; rfl) (by decide) (l_22 C S hi hN h)
    | 23, _, e => exact v_tableIn (pc := 32) (tgt := 995) (off := 963) C dL_law_32 (by rw [e]; decide) (by rw [e]; decide) (by rw [e]; rfl) (by decide) (l_23 C S hi hN h)
    | 24, _, e => exact v_tableIn (pc := 32) (tgt := 1018) (off := 986) C dL_law_32 (by rw [e]; decide) (by rw [e]; decide) (by rw [e]; rfl) (by decide) (l_24 C S hi hN h)
    | 25, _, e => exact v_tableIn (pc := 32) (tgt := 1041) (off := 1009) C dL_law_32 (by rw [e]; decide) (by rw [e]; decide) (by rw [e]; rfl) (by decide) (l_25 C S hi hN h)
    | 26, _, e => exact v_tableIn (pc := 32) (tgt := 1054) (off := 1022) C dL_law_32 (by rw [e]; decide) (by rw [e]; decide) (by rw [e]; rfl) (by decide) (l_26 C S hi hN h)
    | 27, _, e => exact v_tableIn (pc := 32) (tgt := 1077) (off := 1045) C dL_law_32 (by rw [e]; decide) (by rw [e]; decide) (by rw [e]; rfl) (by decide) (l_27 C S hi hN h)
    | 28, _, e => exact v_tableIn (pc := 32) (tgt := 1100) (off := 1068) C dL_law_32 (by rw [e]; decide) (by rw [e]; decide) (by rw [e]; rfl) (by decide) (l_28 C S hi hN h)
    | 29, _, e => exact v_tableIn (pc := 32) (tgt := 1133) (off := 1101) C dL_law_32 (by rw [e]; decide) (by rw [e]; decide) (by rw [e]; rfl) (by decide) (l_29 C S hi hN h)
    | 30, _, e => exact v_tableIn (pc := 32) (tgt := 1146) (off := 1114) C dL_law_32 (by rw [e]; decide) (by rw [e]; decide) (by rw [e]; rfl) (by decide) (l_30 C S hi hN h)
    | 31, _, e => exact v_tableIn (pc := 32) (tgt := 1159) (off := 1127) C dL_law_32 (by rw [e]; decide) (by rw [e]; decide) (by rw [e]; rfl) (by decide) (l_31 C S hi hN h)
    | 32, _, e => exact v_tableIn (pc := 32) (tgt := 1172) (off := 1140) C dL_law_32 (by rw [e]; decide) (by rw [e]; decide) (by rw [e]; rfl) (by decide) (l_32 C S hi hN h)
    | 33, _, e => exact v_tableIn (pc := 32) (tgt := 1195) (off := 1163) C dL_law_32 (by rw [e]; decide) (by rw [e]; decide) (by rw [e]; rfl) (by decide) (l_33 C S hi hN h)
    | 34, _, e => exact v_tableIn (pc := 32) (tgt := 1228) (off := 1196) C dL_law_32 (by rw [e]; decide) (by rw [e]; decide) (by rw [e]; rfl) (by decide) (l_34 C S hi hN h)
    | 35, _, e => exact v_tableIn (pc := 32) (tgt := 1281) (off := 1249) C dL_law_32 (by rw [e]; decide) (by rw [e]; decide) (by rw [e]; rfl) (by decide) (l_35 C S hi hN h)
    | 36, _, e => exact v_tableIn (pc := 32) (tgt := 1294) (off := 1262) C dL_law_32 (by rw [e]; decide) (by rw [e]; decide) (by rw [e]; rfl) (by decide) (l_36 C S hi hN h)
    | 37, _, e => exact v_tableIn (pc := 32) (tgt := 1327) (off := 1295) C dL_law_32 (by rw [e]; decide) (by rw [e]; decide) (by rw [e]; rfl) (by decide) (l_37 C S hi hN h)
    | 38, _, e => exact v_tableIn (pc := 32) (tgt := 1340) (off := 1308) C dL_law_32 (by rw [e]; decide) (by rw [e]; decide) (by rw [e]; rfl) (by decide) (l_38 C S hi hN h)
    | 39, _, e => exact v_tableIn (pc := 32) (tgt := 1373) (off := 1341) C dL_law_32 (by rw [e]; decide) (by rw [e]; decide) (by rw [e]; rfl) (by decide) (l_39 C S hi hN h)
    | 40, _, e => exact v_tableIn (pc := 32) (tgt := 1396) (off := 1364) C dL_law_32 (by rw [e]; decide) (by rw [e]; decide) (by rw [e]; rfl) (by decide) (l_40 C S hi hN h)
    | 41, _, e => exact v_tableIn (pc := 32) (tgt := 1439) (off := 1407) C dL_law_32 (by rw [e]; decide) (by rw [e]; decide) (by rw [e]; rfl) (by decide) (l_41 C S hi hN h)
    | 42, _, e => exact v_tableIn (pc := 32) (tgt := 1462) (off := 1430) C dL_law_32 (by rw [e]; decide) (by rw [e]; decide) (by rw [e]; rfl) (by decide) (l_42 C S hi hN h)
    | 43, _, e => exact v_tableIn (pc := 32) (tgt := 1505) (off := 1473) C dL_law_32 (by rw [e]; decide) (by rw [e]; decide) (by rw [e]; rfl) (by decide) (l_43 C S hi hN h)
    | 44, _, e => exact v_tableIn (pc := 32) (tgt := 1549) (off := 1517) C dL_law_32 (by rw [e]; decide) (by rw [e]; decide) (by rw [e]; rfl) (by decide) (l_44 C S hi hN h)
    | 45, _, e => exact v_tableIn (pc := 32) (tgt := 1572) (off := 1540) C dL_law_32 (by rw [e]; decide) (by rw [e]; decide) (by rw [e]; rfl) (by decide) (l_45 C S hi hN h)
    | 46, _, e => exact v_tableIn (pc := 32) (tgt := 1595) (off := 1563) C dL_law_32 (by rw [e]; decide) (by rw [e]; decide) (by rw [e]; rfl) (by decide) (l_46 C S hi hN h)
    | 47, _, e => exact v_tableIn (pc := 32) (tgt := 1628) (off := 1596) C dL_law_32 (by rw [e]; decide) (by rw [e]; decide) (by rw [e]; rfl) (by decide) (l_47 C S hi hN h)
    | 48, _, e => exact v_tableIn (pc := 32) (tgt := 1641) (off := 1609) C dL_law_32 (by rw [e]; decide) (by rw [e]; decide) (by rw [e]; rfl) (by decide) (l_48 C S hi hN h)
    | 49, _, e => exact v_tableIn (pc := 32) (tgt := 1654) (off := 1622) C dL_law_32 (by rw [e]; decide) (by rw [e]; decide) (by rw [e]; rfl) (by decide) (l_49 C S hi hN h)
    | k + 50, hk, _ => omega
theorem nI_sub5 {i L : Nat} (hL : L ≤ 2560) (hi : i ≤ 2560) (h : ¬ nI L - 5 < nI i) : i + 5 ≤ L := by
  by_cases h5 : L < 5
  · exfalso
    have hn : nI L - 5 < 0 := (by decide : ∀ L, L < 5 → nI L - 5 < 0) L h5
    have h0 := nI_pos' (n := i) (by omega)
    rw [Int32.lt_iff_toInt_lt] at h hn
    rw [Int32.le_iff_toInt_le] at h0
    omega
  · have e : nI L - 5 = nI (L - 5) := by
      rw [show nI L = nI (L - 5) + 5 from by rw [show (5 : Int32) = nI 5 from by decide, ← nI_spl]; congr 1; omega, Int32.add_sub_cancel]
    rw [e] at h
    rcases Nat.lt_or_ge (L - 5) i with q | q
    · exact absurd (nI_lt q (by omega)) h
    · omega
theorem l_loop {X : Cx} {G : Gl} {b L : Nat} {f : Nat → Int32} (C : Ck X G RL cL_law 4 10) (S : Lw X G b L f) : ∀ (n i : Nat), L < n + i → i ≤ L → ∀ σ, RR σ → V X G 4 18 [(3, .int (nI i)), (2, .ref (gA G 33)), (1, .ref (gA G 0)), (0, .ref b)] [] σ := by
  intro n
  induction n with
  | zero => intro i h1 h2; omega
  | succ n ih =>
    intro i h1 h2 σ h
    have hL := S.2.2.2.1
    refine v_iload_n (pc := 18) 0 C dL_law_18 rfl rfl ?_
    refine v_aload_n (pc := 19) 3 C dL_law_19 rfl rfl ?_
    refine v_scl (pc := 20) C S dL_law_20 ?_
    refine v_iconst (pc := 21) (v := 5) C dL_law_21 (by decide) ?_
    refine v_isub (pc := 22) C dL_law_22 ?_
    refine v_icmp_gt (pc := 23) (tgt := 1683) C dL_law_23 (by decide) (fun c => ?_) (fun c => ?_)
    · exact v_iconst (pc := 1683) (v := 1) C dL_law_1683 (by decide) (S.2.2.2.2 _ _)
    · have hi : i + 5 ≤ L := nI_sub5 hL (by omega) c
      refine l_turn C S hi (fun σ1 q => ?_) h
      refine v_iinc (pc := 1677) (v := nI (i + 5)) (loc' := [(3, .int (nI (i + 5))), (2, .ref (gA G 33)), (1, .ref (gA G 0)), (0, .ref b)]) 0 C dL_law_1677 rfl (by rw [nI_spl]; rfl) (by decide) rfl ?_
      refine v_goto (pc := 1680) (tgt := 18) C dL_law_1680 (by decide) ?_
      exact ih (i + 5) (by omega) hi σ1 q
