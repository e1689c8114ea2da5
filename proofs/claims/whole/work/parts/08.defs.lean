def v_X11_isChord (a0 : Int32) (σ : Mem) (P : Int32 → Mem → Prop) : Prop := (a0 < 0 → P 0 σ) ∧ (¬ a0 < 0 → (96 ≤ a0 → P 0 σ) ∧ (¬ 96 ≤ a0 → P 1 σ))

def v_X0_kind (o0 : Nat) (σ : Mem) (P : Int32 → Mem → Prop) : Prop := v_X11_isChord (σ.1 o0 0) σ (fun (r_1 : Int32) (σ_2 : Mem) => (r_1 = 0 → P 0 σ_2) ∧ (¬ r_1 = 0 → (((σ_2.1 o0 0) / 12) = 2 → P 2 σ_2) ∧ (¬ ((σ_2.1 o0 0) / 12) = 2 → (((σ_2.1 o0 0) / 12) = 3 → P 2 σ_2) ∧ (¬ ((σ_2.1 o0 0) / 12) = 3 → (((σ_2.1 o0 0) / 12) = 6 → P 2 σ_2) ∧ (¬ ((σ_2.1 o0 0) / 12) = 6 → P 1 σ_2)))))

def v_X0_wholeOnes (o0 : Nat) (σ : Mem) (P : Int64 → Mem → Prop) : Prop := P ((σ.2 o0 1) &&& ((σ.2 o0 2) ^^^ -1)) σ

def v_X11_hasBit (a0 : Int64) (a2 : Int32) (σ : Mem) (P : Int32 → Mem → Prop) : Prop := ((((Int64.toUInt64 a0 >>> ((Int32.toInt64 a2).toUInt64 &&& Int64.toUInt64 63)).toInt64) &&& 1) = 0 → P 0 σ) ∧ (¬ (((Int64.toUInt64 a0 >>> ((Int32.toInt64 a2).toUInt64 &&& Int64.toUInt64 63)).toInt64) &&& 1) = 0 → P 1 σ)

def v_X0_hasFelt (o0 : Nat) (a1 : Int32) (σ : Mem) (P : Int32 → Mem → Prop) : Prop := v_X11_hasBit (σ.2 o0 1) a1 σ (fun (r_1 : Int32) (σ_2 : Mem) => isB r_1 ∧ P r_1 σ_2)

def v_X0_isWorn (o0 : Nat) (a1 : Int32) (σ : Mem) (P : Int32 → Mem → Prop) : Prop := v_X11_hasBit (σ.2 o0 2) a1 σ (fun (r_1 : Int32) (σ_2 : Mem) => isB r_1 ∧ P r_1 σ_2)

def v_X0_setFelt (o0 : Nat) (a1 : Int32) (a2 : Int32) (σ : Mem) (P : Int32 → Mem → Prop) : Prop := v_X0_hasFelt o0 a1 σ (fun (r_1 : Int32) (σ_2 : Mem) => (r_1 = a2 → P 0 σ_2) ∧ (¬ r_1 = a2 → P 1 (wJ (wJ σ_2 o0 1 ((σ_2.2 o0 1) ^^^ ((1 : Int64) <<< (Int32.toInt64 a1 &&& 63)))) o0 2 (((wJ σ_2 o0 1 ((σ_2.2 o0 1) ^^^ ((1 : Int64) <<< (Int32.toInt64 a1 &&& 63)))).2 o0 2) &&& (((1 : Int64) <<< (Int32.toInt64 a1 &&& 63)) ^^^ -1)))))

def v_X0_setWorn (o0 : Nat) (a1 : Int32) (a2 : Int32) (σ : Mem) (P : Int32 → Mem → Prop) : Prop := v_X0_isWorn o0 a1 σ (fun (r_1 : Int32) (σ_2 : Mem) => (r_1 = a2 → P 0 σ_2) ∧ (¬ r_1 = a2 → P 1 (wJ σ_2 o0 2 ((σ_2.2 o0 2) ^^^ ((1 : Int64) <<< (Int32.toInt64 a1 &&& 63))))))

def v_X1_knows (a1 : Int32) (σ : Mem) (P : Int32 → Mem → Prop) : Prop := (a1 < 0 → P 0 σ) ∧ (¬ a1 < 0 → ((σ.1 13 1) ≤ a1 → P 0 σ) ∧ (¬ (σ.1 13 1) ≤ a1 → P 1 σ))

def v_X1_isFull (σ : Mem) (P : Int32 → Mem → Prop) : Prop := ((σ.1 13 1) < 8 → P 0 σ) ∧ (¬ (σ.1 13 1) < 8 → P 1 σ)

def v_X1_all (σ : Mem) (P : Int32 → Mem → Prop) : Prop := P (((1 : Int32) <<< ((σ.1 13 1) &&& 31)) - 1) σ

def v_X1_add_L30 (o1 : Nat) (x2 : Int32) (x3 : Int32) (x4 : Int32) (P : Int32 → Mem → Prop) : Nat → Int32 → Mem → Prop
  | 0, _, _ => False
  | n + 1, x5, σ => (x3 ≤ x5 → P x4 σ) ∧ (¬ x3 ≤ x5 → vp_in x4 8 ∧ (vp_in (x2 + (2 * x5)) 64 ∧ (vp_in x5 24 ∧ (vp_in x4 8 ∧ (vp_in ((x2 + (2 * x5)) + 1) 64 ∧ (vp_in x5 24 ∧ (v_X1_add_L30 o1 x2 x3 x4 P n (x5 + 1) (wI (wI σ ((bG + Int32.toNatClampNeg x4) + 8) (Int32.toNatClampNeg x5) (σ.1 (o1 + 4) (Int32.toNatClampNeg (x2 + (2 * x5))))) ((bG + Int32.toNatClampNeg x4) + 16) (Int32.toNatClampNeg x5) ((wI σ ((bG + Int32.toNatClampNeg x4) + 8) (Int32.toNatClampNeg x5) (σ.1 (o1 + 4) (Int32.toNatClampNeg (x2 + (2 * x5))))).1 (o1 + 4) (Int32.toNatClampNeg ((x2 + (2 * x5)) + 1)))))))))))

def v_X1_add (o1 : Nat) (a2 : Int32) (a3 : Int32) (σ : Mem) (P : Int32 → Mem → Prop) : Prop := vp_in (σ.1 13 1) 8 ∧ (v_X1_add_L30 o1 a2 a3 (σ.1 13 1) P 5000 0 (wI (wI σ 13 1 ((σ.1 13 1) + 1)) (bG + Int32.toNatClampNeg (σ.1 13 1)) 2 a3))

def v_J9_floorMod_7cf53 (a0 : Int32) (a1 : Int32) (σ : Mem) (P : Int32 → Mem → Prop) : Prop := ¬ a1 = 0 ∧ ((0 ≤ (a0 ^^^ a1) → P (a0 - a0 / a1 * a1) σ) ∧ (¬ 0 ≤ (a0 ^^^ a1) → ((a0 - a0 / a1 * a1) = 0 → P (a0 - a0 / a1 * a1) σ) ∧ (¬ (a0 - a0 / a1 * a1) = 0 → P ((a0 - a0 / a1 * a1) + a1) σ)))

def v_X9_chordIn (o0 : Nat) (a1 : Int32) (a2 : Int32) (σ : Mem) (P : Int32 → Mem → Prop) : Prop := vp_in a2 24 ∧ (∀ y_1 : Int32, y_1 = (σ.1 (o0 + 8) (Int32.toNatClampNeg a2)) - (σ.1 (o0 + 8) (Int32.toNatClampNeg a2)) / 12 * 12 → (vp_in a2 24 ∧ (v_J9_floorMod_7cf53 (y_1 + a1) 12 σ (fun (r_2 : Int32) (σ_3 : Mem) => P (((σ.1 (o0 + 8) (Int32.toNatClampNeg a2)) - y_1) + r_2) σ_3))))

def v_X11_classesOf (a0 : Int32) (σ : Mem) (P : Int32 → Mem → Prop) : Prop := v_X11_isChord a0 σ (fun (r_1 : Int32) (σ_2 : Mem) => (r_1 = 0 → P 0 σ_2) ∧ (¬ r_1 = 0 → vp_in (a0 / 12) 8 ∧ (P ((((tSorts (Int32.toNatClampNeg (a0 / 12))) <<< ((a0 - a0 / 12 * 12) &&& 31)) ||| ((Int32.toUInt32 (tSorts (Int32.toNatClampNeg (a0 / 12))) >>> (Int32.toUInt32 (12 - (a0 - a0 / 12 * 12)) &&& Int32.toUInt32 31)).toInt32)) &&& 4095) σ_2)))

def v_X4_seekHold_L2 (x1 : Int32) (P : Int32 → Mem → Prop) : Nat → Int32 → Mem → Prop
  | 0, _, _ => False
  | n + 1, x2, σ => ((σ.1 7 5) ≤ x2 → P 0 σ) ∧ (¬ (σ.1 7 5) ≤ x2 → vp_in x2 79 ∧ (((σ.1 10 (Int32.toNatClampNeg x2)) = x1 → P x2 σ) ∧ (¬ (σ.1 10 (Int32.toNatClampNeg x2)) = x1 → v_X4_seekHold_L2 x1 P n (x2 + 1) σ)))

def v_X4_seekHold (a1 : Int32) (σ : Mem) (P : Int32 → Mem → Prop) : Prop := v_X4_seekHold_L2 a1 P 5000 1 σ

def v_X4_holdOf (a1 : Int32) (σ : Mem) (P : Int32 → Mem → Prop) : Prop := vp_in a1 96 ∧ (((σ.1 11 (Int32.toNatClampNeg a1)) = (-1) → v_X11_classesOf a1 σ (fun (r_1 : Int32) (σ_2 : Mem) => v_X4_seekHold r_1 σ_2 (fun (r_3 : Int32) (σ_4 : Mem) => vp_in a1 96 ∧ (vp_in a1 96 ∧ (P ((wI σ_4 11 (Int32.toNatClampNeg a1) r_3).1 11 (Int32.toNatClampNeg a1)) (wI σ_4 11 (Int32.toNatClampNeg a1) r_3)))))) ∧ (¬ (σ.1 11 (Int32.toNatClampNeg a1)) = (-1) → vp_in a1 96 ∧ (P (σ.1 11 (Int32.toNatClampNeg a1)) σ)))

def v_X9_noteIn (o0 : Nat) (a1 : Int32) (a2 : Int32) (σ : Mem) (P : Int32 → Mem → Prop) : Prop := vp_in a2 24 ∧ (P ((σ.1 (o0 + 16) (Int32.toNatClampNeg a2)) + a1) σ)

def v_X9_hasNote (o0 : Nat) (a1 : Int32) (σ : Mem) (P : Int32 → Mem → Prop) : Prop := vp_in a1 24 ∧ (((σ.1 (o0 + 16) (Int32.toNatClampNeg a1)) = (-1) → P 0 σ) ∧ (¬ (σ.1 (o0 + 16) (Int32.toNatClampNeg a1)) = (-1) → P 1 σ))

def v_X11_isTone (a0 : Int32) (σ : Mem) (P : Int32 → Mem → Prop) : Prop := (a0 < 0 → P 0 σ) ∧ (¬ a0 < 0 → (61 ≤ a0 → P 0 σ) ∧ (¬ 61 ≤ a0 → P 1 σ))

def v_X4_lacksNote (o1 : Nat) (a2 : Int32) (a3 : Int32) (a4 : Int32) (σ : Mem) (P : Int32 → Mem → Prop) : Prop := v_X9_noteIn o1 a2 a3 σ (fun (r_1 : Int32) (σ_2 : Mem) => v_X9_hasNote o1 a3 σ_2 (fun (r_3 : Int32) (σ_4 : Mem) => (r_3 = 0 → P 0 σ_4) ∧ (¬ r_3 = 0 → v_X11_isTone r_1 σ_4 (fun (r_5 : Int32) (σ_6 : Mem) => (r_5 = 0 → P 1 σ_6) ∧ (¬ r_5 = 0 → vp_in r_1 61 ∧ (vp_in a4 79 ∧ ((((σ_6.2 12 (Int32.toNatClampNeg r_1)) &&& (σ_6.2 9 (Int32.toNatClampNeg a4))) = 0 → P 1 σ_6) ∧ (¬ ((σ_6.2 12 (Int32.toNatClampNeg r_1)) &&& (σ_6.2 9 (Int32.toNatClampNeg a4))) = 0 → P 0 σ_6))))))))

def v_X4_canPlay_L2 (o1 : Nat) (P : Int32 → Mem → Prop) : Nat → Int32 → Mem → Prop
  | 0, _, _ => False
  | n + 1, x2, σ => ((σ.1 o1 2) ≤ x2 → P 1 σ) ∧ (¬ (σ.1 o1 2) ≤ x2 → v_X9_chordIn o1 (σ.1 o1 3) x2 σ (fun (r_1 : Int32) (σ_2 : Mem) => v_X4_holdOf r_1 σ_2 (fun (r_3 : Int32) (σ_4 : Mem) => (r_3 = 0 → P 0 σ_4) ∧ (¬ r_3 = 0 → v_X4_lacksNote o1 (σ_4.1 o1 3) x2 r_3 σ_4 (fun (r_5 : Int32) (σ_6 : Mem) => (r_5 = 0 → v_X4_canPlay_L2 o1 P n (x2 + 1) σ_6) ∧ (¬ r_5 = 0 → P 0 σ_6))))))

def v_X4_canPlay (o1 : Nat) (σ : Mem) (P : Int32 → Mem → Prop) : Prop := v_X4_canPlay_L2 o1 P 5000 0 σ

def v_X1_playedWith_L4 (P : Int32 → Mem → Prop) : Nat → Int32 → Int32 → Mem → Prop
  | 0, _, _, _ => False
  | n + 1, x2, x3, σ => ((σ.1 13 1) ≤ x3 → P x2 σ) ∧ (¬ (σ.1 13 1) ≤ x3 → vp_in x3 8 ∧ (v_X4_canPlay (bG + Int32.toNatClampNeg x3) σ (fun (r_2 : Int32) (σ_3 : Mem) => (r_2 = 0 → v_X1_playedWith_L4 P n x2 (x3 + 1) σ_3) ∧ (¬ r_2 = 0 → v_X1_playedWith_L4 P n (x2 ||| ((1 : Int32) <<< (x3 &&& 31))) (x3 + 1) σ_3))))

def v_X1_playedWith (σ : Mem) (P : Int32 → Mem → Prop) : Prop := v_X1_playedWith_L4 P 5000 0 0 σ

def v_X2_isFull (σ : Mem) (P : Int32 → Mem → Prop) : Prop := ((σ.1 27 4) < 20 → P 0 σ) ∧ (¬ (σ.1 27 4) < 20 → P 1 σ)

def v_X2_clear (σ : Mem) (P : Mem → Prop) : Prop := P (wI σ 27 4 0)

def v_X8_bitsWhere_L6 (o0 : Nat) (x1 : Int32) (x2 : Int32) (x3 : Int32) (P : Int64 → Mem → Prop) : Nat → Int64 → Int32 → Mem → Prop
  | 0, _, _, _ => False
  | n + 1, x4, x6, σ => (x3 ≤ x6 → P x4 σ) ∧ (¬ x3 ≤ x6 → vp_in (x2 + x6) 64 ∧ (((σ.1 (o0 + 4) (Int32.toNatClampNeg (x2 + x6))) = x1 → v_X8_bitsWhere_L6 o0 x1 x2 x3 P n (x4 ||| ((1 : Int64) <<< (Int32.toInt64 x6 &&& 63))) (x6 + 1) σ) ∧ (¬ (σ.1 (o0 + 4) (Int32.toNatClampNeg (x2 + x6))) = x1 → v_X8_bitsWhere_L6 o0 x1 x2 x3 P n x4 (x6 + 1) σ)))

def v_X8_bitsWhere (o0 : Nat) (a1 : Int32) (a2 : Int32) (a3 : Int32) (σ : Mem) (P : Int64 → Mem → Prop) : Prop := v_X8_bitsWhere_L6 o0 a1 a2 a3 P 5000 0 0 σ

def v_X2_add (a1 : Int32) (o2 : Nat) (a3 : Int32) (a4 : Int32) (σ : Mem) (P : Int32 → Mem → Prop) : Prop := vp_in (σ.1 27 4) 20 ∧ (v_X8_bitsWhere o2 0 a3 a4 (wI (wI σ 27 4 ((σ.1 27 4) + 1)) 28 (Int32.toNatClampNeg (σ.1 27 4)) a1) (fun (r_1 : Int64) (σ_2 : Mem) => vp_in (σ.1 27 4) 20 ∧ (v_X8_bitsWhere o2 1 a3 a4 (wJ σ_2 29 (Int32.toNatClampNeg (σ.1 27 4)) r_1) (fun (r_3 : Int64) (σ_4 : Mem) => vp_in (σ.1 27 4) 20 ∧ (P (σ.1 27 4) (wJ σ_4 30 (Int32.toNatClampNeg (σ.1 27 4)) r_3))))))

def v_X2_findWorn_L17 (x2 : Int32) (K70 : Mem → Prop) (P : Mem → Prop) : Nat → Int32 → Mem → Prop
  | 0, _, _ => False
  | n + 1, x3, σ => ((σ.1 27 4) ≤ x3 → K70 σ) ∧ (¬ (σ.1 27 4) ≤ x3 → vp_in x3 20 ∧ (v_X11_hasBit (Int32.toInt64 (σ.1 28 (Int32.toNatClampNeg x3))) x2 σ (fun (r_1 : Int32) (σ_2 : Mem) => (r_1 = 0 → v_X2_findWorn_L17 x2 K70 P n (x3 + 1) σ_2) ∧ (¬ r_1 = 0 → vp_in x2 12 ∧ (vp_in x2 12 ∧ (vp_in x3 20 ∧ (vp_in x2 12 ∧ (v_X2_findWorn_L17 x2 K70 P n (x3 + 1) (wJ σ_2 31 (Int32.toNatClampNeg x2) ((σ_2.2 31 (Int32.toNatClampNeg x2)) ||| ((σ_2.2 (bB + Int32.toNatClampNeg x2) 1) &&& (σ_2.2 30 (Int32.toNatClampNeg x3)))))))))))))

def v_X2_findWorn_L2 (P : Mem → Prop) : Nat → Int32 → Mem → Prop
  | 0, _, _ => False
  | n + 1, x2, σ => (12 ≤ x2 → P σ) ∧ (¬ 12 ≤ x2 → vp_in x2 12 ∧ (v_X2_findWorn_L17 x2 (fun (σ_5 : Mem) => v_X2_findWorn_L2 P n (x2 + 1) σ_5) P 5000 0 (wJ σ 31 (Int32.toNatClampNeg x2) 0)))

def v_X2_findWorn (σ : Mem) (P : Mem → Prop) : Prop := v_X2_findWorn_L2 P 5000 0 σ

def v_J13_bitCount_95d88 (a0 : Int64) (σ : Mem) (P : Int32 → Mem → Prop) : Prop := ∀ y_1 : Int64, y_1 = a0 - (((Int64.toUInt64 a0 >>> ((Int32.toInt64 1).toUInt64 &&& Int64.toUInt64 63)).toInt64) &&& 6148914691236517205) → (∀ y_2 : Int64, y_2 = (y_1 &&& 3689348814741910323) + (((Int64.toUInt64 y_1 >>> ((Int32.toInt64 2).toUInt64 &&& Int64.toUInt64 63)).toInt64) &&& 3689348814741910323) → (∀ y_3 : Int64, y_3 = (y_2 + ((Int64.toUInt64 y_2 >>> ((Int32.toInt64 4).toUInt64 &&& Int64.toUInt64 63)).toInt64)) &&& 1085102592571150095 → (∀ y_4 : Int64, y_4 = y_3 + ((Int64.toUInt64 y_3 >>> ((Int32.toInt64 8).toUInt64 &&& Int64.toUInt64 63)).toInt64) → (∀ y_5 : Int64, y_5 = y_4 + ((Int64.toUInt64 y_4 >>> ((Int32.toInt64 16).toUInt64 &&& Int64.toUInt64 63)).toInt64) → (∀ y_6 : Int64, y_6 = y_5 + ((Int64.toUInt64 y_5 >>> ((Int32.toInt64 32).toUInt64 &&& Int64.toUInt64 63)).toInt64) → (P ((Int64.toInt32 y_6) &&& 127) σ))))))

def v_X2_howManyWorn_L4 (P : Int32 → Mem → Prop) : Nat → Int32 → Int32 → Mem → Prop
  | 0, _, _, _ => False
  | n + 1, x1, x2, σ => (12 ≤ x2 → P x1 σ) ∧ (¬ 12 ≤ x2 → vp_in x2 12 ∧ (v_J13_bitCount_95d88 (σ.2 31 (Int32.toNatClampNeg x2)) σ (fun (r_1 : Int32) (σ_2 : Mem) => v_X2_howManyWorn_L4 P n (x1 + r_1) (x2 + 1) σ_2)))

def v_X2_howManyWorn (σ : Mem) (P : Int32 → Mem → Prop) : Prop := v_X2_howManyWorn_L4 P 5000 0 0 σ

def v_X2_takesAsWorn (a1 : Int32) (a2 : Int32) (σ : Mem) (P : Int32 → Mem → Prop) : Prop := vp_in a1 12 ∧ (v_X11_hasBit (σ.2 31 (Int32.toNatClampNeg a1)) a2 σ (fun (r_1 : Int32) (σ_2 : Mem) => isB r_1 ∧ P r_1 σ_2))

def v_X2_takeAsWorn (a1 : Int32) (a2 : Int32) (σ : Mem) (P : Mem → Prop) : Prop := vp_in a1 12 ∧ (vp_in a1 12 ∧ (P (wJ σ 31 (Int32.toNatClampNeg a1) ((σ.2 31 (Int32.toNatClampNeg a1)) ||| ((1 : Int64) <<< (Int32.toInt64 a2 &&& 63))))))

def v_X2_explains_L15 (x2 : Int32) (K68 : Int64 → Mem → Prop) (P : Int32 → Mem → Prop) : Nat → Int64 → Int32 → Mem → Prop
  | 0, _, _, _ => False
  | n + 1, x3, x5, σ => (12 ≤ x5 → K68 x3 σ) ∧ (¬ 12 ≤ x5 → vp_in x2 20 ∧ (v_X11_hasBit (Int32.toInt64 (σ.1 28 (Int32.toNatClampNeg x2))) x5 σ (fun (r_1 : Int32) (σ_2 : Mem) => (r_1 = 0 → v_X2_explains_L15 x2 K68 P n x3 (x5 + 1) σ_2) ∧ (¬ r_1 = 0 → vp_in x5 12 ∧ (vp_in x5 12 ∧ (∀ y_4 : Int64, y_4 = x3 ||| ((σ_2.2 (bB + Int32.toNatClampNeg x5) 1) &&& ((σ_2.2 31 (Int32.toNatClampNeg x5)) ^^^ -1)) → (v_X2_explains_L15 x2 K68 P n y_4 (x5 + 1) σ_2)))))))

def v_X2_explains_L2 (P : Int32 → Mem → Prop) : Nat → Int32 → Mem → Prop
  | 0, _, _ => False
  | n + 1, x2, σ => ((σ.1 27 4) ≤ x2 → P 1 σ) ∧ (¬ (σ.1 27 4) ≤ x2 → v_X2_explains_L15 x2 (fun (x3_5 : Int64) (σ_6 : Mem) => vp_in x2 20 ∧ ((((σ_6.2 29 (Int32.toNatClampNeg x2)) &&& (x3_5 ^^^ -1)) = 0 → v_X2_explains_L2 P n (x2 + 1) σ_6) ∧ (¬ ((σ_6.2 29 (Int32.toNatClampNeg x2)) &&& (x3_5 ^^^ -1)) = 0 → P 0 σ_6))) P 5000 0 0 σ)

def v_X2_explains (σ : Mem) (P : Int32 → Mem → Prop) : Prop := v_X2_explains_L2 P 5000 0 σ

def v_J7_fill_53178_L5 (o0 : Nat) (x1 : Int32) (x3 : Int32) (P : Mem → Prop) : Nat → Int32 → Mem → Prop
  | 0, _, _ => False
  | n + 1, x2, σ => (x3 ≤ x2 → P σ) ∧ (¬ x3 ≤ x2 → vp_in x2 (kd o0).2 ∧ (v_J7_fill_53178_L5 o0 x1 x3 P n (x2 + 1) (wI σ o0 (Int32.toNatClampNeg x2) x1)))

def v_J7_fill_53178 (o0 : Nat) (a1 : Int32) (σ : Mem) (P : Mem → Prop) : Prop := v_J7_fill_53178_L5 o0 a1 (nI (kd o0).2) P 5000 0 σ

def v_J6_numberOfTrailingZeros_0f7a4_J62 (P : Int32 → Mem → Prop) (x0 : Int32) (x1 : Int32) (σ : Mem) : Prop := (x0 ≤ 4 → P (x1 + ((Int32.toUInt32 x0 >>> (Int32.toUInt32 1 &&& Int32.toUInt32 31)).toInt32)) σ) ∧ (¬ x0 ≤ 4 → ∀ y_1 : Int32, y_1 = (Int32.toUInt32 x0 >>> (Int32.toUInt32 2 &&& Int32.toUInt32 31)).toInt32 → (P ((x1 + 2) + ((Int32.toUInt32 y_1 >>> (Int32.toUInt32 1 &&& Int32.toUInt32 31)).toInt32)) σ))

def v_J6_numberOfTrailingZeros_0f7a4_J49 (P : Int32 → Mem → Prop) (x0 : Int32) (x1 : Int32) (σ : Mem) : Prop := (x0 ≤ 16 → v_J6_numberOfTrailingZeros_0f7a4_J62 P x0 x1 σ) ∧ (¬ x0 ≤ 16 → ∀ y_2 : Int32, y_2 = (Int32.toUInt32 x0 >>> (Int32.toUInt32 4 &&& Int32.toUInt32 31)).toInt32 → (v_J6_numberOfTrailingZeros_0f7a4_J62 P y_2 (x1 + 4) σ))

def v_J6_numberOfTrailingZeros_0f7a4_J34 (P : Int32 → Mem → Prop) (x0 : Int32) (x1 : Int32) (σ : Mem) : Prop := (x0 ≤ 256 → v_J6_numberOfTrailingZeros_0f7a4_J49 P x0 x1 σ) ∧ (¬ x0 ≤ 256 → ∀ y_3 : Int32, y_3 = (Int32.toUInt32 x0 >>> (Int32.toUInt32 8 &&& Int32.toUInt32 31)).toInt32 → (v_J6_numberOfTrailingZeros_0f7a4_J49 P y_3 (x1 + 8) σ))

def v_J6_numberOfTrailingZeros_0f7a4 (a0 : Int32) (σ : Mem) (P : Int32 → Mem → Prop) : Prop := (0 < ((a0 ^^^ (-1)) &&& (a0 - 1)) → (((a0 ^^^ (-1)) &&& (a0 - 1)) ≤ 65536 → v_J6_numberOfTrailingZeros_0f7a4_J34 P ((a0 ^^^ (-1)) &&& (a0 - 1)) 1 σ) ∧ (¬ ((a0 ^^^ (-1)) &&& (a0 - 1)) ≤ 65536 → ∀ y_4 : Int32, y_4 = (Int32.toUInt32 ((a0 ^^^ (-1)) &&& (a0 - 1)) >>> (Int32.toUInt32 16 &&& Int32.toUInt32 31)).toInt32 → (v_J6_numberOfTrailingZeros_0f7a4_J34 P y_4 (1 + 16) σ))) ∧ (¬ 0 < ((a0 ^^^ (-1)) &&& (a0 - 1)) → P (((a0 ^^^ (-1)) &&& (a0 - 1)) &&& 32) σ)

def v_X3_countMove (a1 : Int32) (a2 : Int32) (σ : Mem) (P : Mem → Prop) : Prop := (a1 = 0 → P σ) ∧ (¬ a1 = 0 → (a2 = 0 → P σ) ∧ (¬ a2 = 0 → vp_in a1 79 ∧ (v_J6_numberOfTrailingZeros_0f7a4 (σ.1 8 (Int32.toNatClampNeg a1)) σ (fun (r_1 : Int32) (σ_2 : Mem) => vp_in a2 79 ∧ (v_J6_numberOfTrailingZeros_0f7a4 (σ_2.1 8 (Int32.toNatClampNeg a2)) σ_2 (fun (r_3 : Int32) (σ_4 : Mem) => (12 ≤ r_1 → P σ_4) ∧ (¬ 12 ≤ r_1 → (12 ≤ r_3 → P σ_4) ∧ (¬ 12 ≤ r_3 → (r_1 = r_3 → P σ_4) ∧ (¬ r_1 = r_3 → vp_in ((r_1 * 12) + r_3) 144 ∧ (vp_in ((r_1 * 12) + r_3) 144 ∧ (vp_in ((r_3 * 12) + r_1) 144 ∧ (vp_in ((r_3 * 12) + r_1) 144 ∧ (P (wI (wI σ_4 22 (Int32.toNatClampNeg ((r_1 * 12) + r_3)) ((σ_4.1 22 (Int32.toNatClampNeg ((r_1 * 12) + r_3))) + 1)) 22 (Int32.toNatClampNeg ((r_3 * 12) + r_1)) (((wI σ_4 22 (Int32.toNatClampNeg ((r_1 * 12) + r_3)) ((σ_4.1 22 (Int32.toNatClampNeg ((r_1 * 12) + r_3))) + 1)).1 22 (Int32.toNatClampNeg ((r_3 * 12) + r_1))) + 1)))))))))))))))

def v_X3_countMoves_L29 (x3 : Int32) (o4 : Nat) (K84 : Mem → Prop) (P : Mem → Prop) : Nat → Int32 → Mem → Prop
  | 0, _, _ => False
  | n + 1, x5, σ => ((σ.1 o4 2) ≤ x5 → K84 σ) ∧ (¬ (σ.1 o4 2) ≤ x5 → v_X9_chordIn o4 (σ.1 o4 3) (x5 - 1) σ (fun (r_3 : Int32) (σ_4 : Mem) => v_X4_holdOf r_3 σ_4 (fun (r_5 : Int32) (σ_6 : Mem) => v_X9_chordIn o4 (σ_6.1 o4 3) x5 σ_6 (fun (r_7 : Int32) (σ_8 : Mem) => v_X4_holdOf r_7 σ_8 (fun (r_9 : Int32) (σ_10 : Mem) => v_X3_countMove r_5 r_9 σ_10 (fun (σ_11 : Mem) => v_X3_countMoves_L29 x3 o4 K84 P n (x5 + 1) σ_11))))))

def v_X3_countMoves_L10 (P : Mem → Prop) : Nat → Int32 → Mem → Prop
  | 0, _, _ => False
  | n + 1, x3, σ => ((σ.1 13 1) ≤ x3 → P σ) ∧ (¬ (σ.1 13 1) ≤ x3 → vp_in x3 8 ∧ (v_X3_countMoves_L29 x3 (bG + Int32.toNatClampNeg x3) (fun (σ_13 : Mem) => v_X3_countMoves_L10 P n (x3 + 1) σ_13) P 5000 1 σ))

def v_X3_countMoves (σ : Mem) (P : Mem → Prop) : Prop := v_J7_fill_53178 22 0 σ (fun (σ_1 : Mem) => v_X3_countMoves_L10 P 5000 0 σ_1)

def v_J9_abs_0f7a4 (a0 : Int32) (σ : Mem) (P : Int32 → Mem → Prop) : Prop := (0 ≤ a0 → P a0 σ) ∧ (¬ 0 ≤ a0 → P (-a0) σ)

def v_X3_wayOf_L17 (x3 : Int32) (K75 : Int32 → Mem → Prop) (P : Int32 → Mem → Prop) : Nat → Int32 → Int32 → Mem → Prop
  | 0, _, _, _ => False
  | n + 1, x2, x4, σ => ((σ.1 5 1) ≤ x4 → K75 x2 σ) ∧ (¬ (σ.1 5 1) ≤ x4 → vp_in x3 12 ∧ (vp_in x4 12 ∧ (v_J9_abs_0f7a4 ((σ.1 (bB + Int32.toNatClampNeg x3) 3) - (σ.1 (bB + Int32.toNatClampNeg x4) 3)) σ (fun (r_3 : Int32) (σ_4 : Mem) => vp_in ((x3 * 12) + x4) 144 ∧ (∀ y_5 : Int32, y_5 = x2 + ((σ_4.1 22 (Int32.toNatClampNeg ((x3 * 12) + x4))) * r_3) → (v_X3_wayOf_L17 x3 K75 P n y_5 (x4 + 1) σ_4))))))

def v_X3_wayOf_L4 (P : Int32 → Mem → Prop) : Nat → Int32 → Int32 → Mem → Prop
  | 0, _, _, _ => False
  | n + 1, x2, x3, σ => ((σ.1 5 1) ≤ x3 → P x2 σ) ∧ (¬ (σ.1 5 1) ≤ x3 → v_X3_wayOf_L17 x3 (fun (x2_6 : Int32) (σ_7 : Mem) => v_X3_wayOf_L4 P n x2_6 (x3 + 1) σ_7) P 5000 x2 (x3 + 1) σ)

def v_X3_wayOf (σ : Mem) (P : Int32 → Mem → Prop) : Prop := v_X3_wayOf_L4 P 5000 0 0 σ

def v_X3_crossingsBy_L6 (x1 : Int32) (x2 : Int32) (x3 : Int32) (P : Int32 → Mem → Prop) : Nat → Int32 → Int32 → Mem → Prop
  | 0, _, _, _ => False
  | n + 1, x4, x5, σ => (x3 ≤ x5 → P x4 σ) ∧ (¬ x3 ≤ x5 → vp_in ((x1 * 12) + x5) 144 ∧ (v_X11_hasBit (Int32.toInt64 x2) x5 σ (fun (r_1 : Int32) (σ_2 : Mem) => (r_1 = 0 → v_X3_crossingsBy_L6 x1 x2 x3 P n (x4 + (σ.1 22 (Int32.toNatClampNeg ((x1 * 12) + x5)))) (x5 + 1) σ_2) ∧ (¬ r_1 = 0 → v_X3_crossingsBy_L6 x1 x2 x3 P n (x4 + (-(σ.1 22 (Int32.toNatClampNeg ((x1 * 12) + x5))))) (x5 + 1) σ_2))))

def v_X3_crossingsBy (a1 : Int32) (a2 : Int32) (a3 : Int32) (σ : Mem) (P : Int32 → Mem → Prop) : Prop := v_X3_crossingsBy_L6 a1 a2 a3 P 5000 0 0 σ

def v_J9_max_7cf53 (a0 : Int32) (a1 : Int32) (σ : Mem) (P : Int32 → Mem → Prop) : Prop := (a0 < a1 → P a1 σ) ∧ (¬ a0 < a1 → P a0 σ)

def v_X3_nextBar_L6 (x1 : Int32) (x2 : Int32) (K59 : Int32 → Mem → Prop) (P : Int32 → Mem → Prop) : Nat → Int32 → Int32 → Mem → Prop
  | 0, _, _, _ => False
  | n + 1, x3, x4, σ => (x2 ≤ x4 → K59 x3 σ) ∧ (¬ x2 ≤ x4 → v_X11_hasBit (Int32.toInt64 x1) x4 σ (fun (r_1 : Int32) (σ_2 : Mem) => (r_1 = 0 → (x3 < 0 → v_X3_nextBar_L6 x1 x2 K59 P n x4 (x4 + 1) σ_2) ∧ (¬ x3 < 0 → vp_in (x1 ||| ((1 : Int32) <<< (x4 &&& 31))) 4096 ∧ (vp_in (x1 ||| ((1 : Int32) <<< (x3 &&& 31))) 4096 ∧ (((σ_2.1 23 (Int32.toNatClampNeg (x1 ||| ((1 : Int32) <<< (x3 &&& 31))))) ≤ (σ_2.1 23 (Int32.toNatClampNeg (x1 ||| ((1 : Int32) <<< (x4 &&& 31))))) → v_X3_nextBar_L6 x1 x2 K59 P n x3 (x4 + 1) σ_2) ∧ (¬ (σ_2.1 23 (Int32.toNatClampNeg (x1 ||| ((1 : Int32) <<< (x3 &&& 31))))) ≤ (σ_2.1 23 (Int32.toNatClampNeg (x1 ||| ((1 : Int32) <<< (x4 &&& 31))))) → v_X3_nextBar_L6 x1 x2 K59 P n x4 (x4 + 1) σ_2))))) ∧ (¬ r_1 = 0 → v_X3_nextBar_L6 x1 x2 K59 P n x3 (x4 + 1) σ_2)))

def v_X3_nextBar (a1 : Int32) (a2 : Int32) (σ : Mem) (P : Int32 → Mem → Prop) : Prop := v_X3_nextBar_L6 a1 a2 (fun (x3_3 : Int32) (σ_4 : Mem) => v_J9_max_7cf53 x3_3 0 σ_4 (fun (r_5 : Int32) (σ_6 : Mem) => P r_5 σ_6)) P 5000 (-9) 0 σ

def v_X3_leastWay_L15 (x1 : Int32) (x2 : Int32) (K57 : Mem → Prop) (P : Int32 → Mem → Prop) : Nat → Int32 → Mem → Prop
  | 0, _, _ => False
  | n + 1, x3, σ => (x2 < x3 → K57 σ) ∧ (¬ x2 < x3 → v_J6_numberOfTrailingZeros_0f7a4 x3 σ (fun (r_1 : Int32) (σ_2 : Mem) => vp_in (x3 &&& (x3 - 1)) 4096 ∧ (v_X3_crossingsBy r_1 x3 x1 σ_2 (fun (r_3 : Int32) (σ_4 : Mem) => vp_in x3 4096 ∧ (v_X3_leastWay_L15 x1 x2 K57 P n (x3 + 1) (wI σ_4 23 (Int32.toNatClampNeg x3) ((σ_2.1 23 (Int32.toNatClampNeg (x3 &&& (x3 - 1)))) + r_3)))))))

def v_X3_leastWay_L61 (x1 : Int32) (P : Int32 → Mem → Prop) : Nat → Int32 → Mem → Prop
  | 0, _, _ => False
  | n + 1, x3, σ => (x3 < 0 → vp_in 0 4096 ∧ (P (σ.1 23 (Int32.toNatClampNeg 0)) σ)) ∧ (¬ x3 < 0 → vp_in x3 4096 ∧ (v_X3_nextBar x3 x1 σ (fun (r_7 : Int32) (σ_8 : Mem) => vp_in (x3 ||| ((1 : Int32) <<< (r_7 &&& 31))) 4096 ∧ (vp_in x3 4096 ∧ (v_X3_leastWay_L61 x1 P n (x3 + (-1)) (wI σ_8 23 (Int32.toNatClampNeg x3) ((σ.1 23 (Int32.toNatClampNeg x3)) + (σ_8.1 23 (Int32.toNatClampNeg (x3 ||| ((1 : Int32) <<< (r_7 &&& 31))))))))))))

def v_X3_leastWay (a1 : Int32) (σ : Mem) (P : Int32 → Mem → Prop) : Prop := vp_in 0 4096 ∧ (v_X3_leastWay_L15 a1 (((1 : Int32) <<< (a1 &&& 31)) - 1) (fun (σ_6 : Mem) => v_X3_leastWay_L61 a1 P 5000 ((((1 : Int32) <<< (a1 &&& 31)) - 1) - 1) σ_6) P 5000 1 (wI σ 23 (Int32.toNatClampNeg 0) 0))

def v_X3_putInOrder_L7 (P : Int32 → Mem → Prop) : Nat → Int32 → Int32 → Int32 → Mem → Prop
  | 0, _, _, _, _ => False
  | n + 1, x2, x3, x4, σ => ((σ.1 5 1) ≤ x4 → P x2 σ) ∧ (¬ (σ.1 5 1) ≤ x4 → v_X3_nextBar x3 (σ.1 5 1) σ (fun (r_1 : Int32) (σ_2 : Mem) => vp_in r_1 12 ∧ (((σ_2.1 (bB + Int32.toNatClampNeg r_1) 3) = x4 → v_X3_putInOrder_L7 P n x2 (x3 ||| ((1 : Int32) <<< (r_1 &&& 31))) (x4 + 1) σ_2) ∧ (¬ (σ_2.1 (bB + Int32.toNatClampNeg r_1) 3) = x4 → vp_in r_1 12 ∧ (v_X3_putInOrder_L7 P n (x2 + 1) (x3 ||| ((1 : Int32) <<< (r_1 &&& 31))) (x4 + 1) (wI σ_2 (bB + Int32.toNatClampNeg r_1) 3 x4))))))

def v_X3_putInOrder (σ : Mem) (P : Int32 → Mem → Prop) : Prop := v_X3_putInOrder_L7 P 5000 0 0 0 σ

def v_X10_classesAmong_L5 (x1 : Int64) (P : Int32 → Mem → Prop) : Nat → Int32 → Int32 → Mem → Prop
  | 0, _, _, _ => False
  | n + 1, x3, x4, σ => (12 ≤ x4 → P x3 σ) ∧ (¬ 12 ≤ x4 → vp_in x4 12 ∧ ((((σ.2 3 (Int32.toNatClampNeg x4)) &&& x1) = 0 → v_X10_classesAmong_L5 x1 P n x3 (x4 + 1) σ) ∧ (¬ ((σ.2 3 (Int32.toNatClampNeg x4)) &&& x1) = 0 → v_X10_classesAmong_L5 x1 P n (x3 ||| ((1 : Int32) <<< (x4 &&& 31))) (x4 + 1) σ)))

def v_X10_classesAmong (a1 : Int64) (σ : Mem) (P : Int32 → Mem → Prop) : Prop := v_X10_classesAmong_L5 a1 P 5000 0 0 σ

def v_X4_add (a1 : Int32) (a2 : Int64) (σ : Mem) (P : Mem → Prop) : Prop := (79 ≤ (σ.1 7 5) → P σ) ∧ (¬ 79 ≤ (σ.1 7 5) → vp_in (σ.1 7 5) 79 ∧ (vp_in ((wI σ 8 (Int32.toNatClampNeg (σ.1 7 5)) a1).1 7 5) 79 ∧ (v_X10_classesAmong (a2 ^^^ -1) (wJ (wI σ 8 (Int32.toNatClampNeg (σ.1 7 5)) a1) 9 (Int32.toNatClampNeg ((wI σ 8 (Int32.toNatClampNeg (σ.1 7 5)) a1).1 7 5)) (a2 ^^^ -1)) (fun (r_1 : Int32) (σ_2 : Mem) => vp_in ((wJ (wI σ 8 (Int32.toNatClampNeg (σ.1 7 5)) a1) 9 (Int32.toNatClampNeg ((wI σ 8 (Int32.toNatClampNeg (σ.1 7 5)) a1).1 7 5)) (a2 ^^^ -1)).1 7 5) 79 ∧ (P (wI (wI σ_2 10 (Int32.toNatClampNeg ((wJ (wI σ 8 (Int32.toNatClampNeg (σ.1 7 5)) a1) 9 (Int32.toNatClampNeg ((wI σ 8 (Int32.toNatClampNeg (σ.1 7 5)) a1).1 7 5)) (a2 ^^^ -1)).1 7 5)) r_1) 7 5 (((wI σ_2 10 (Int32.toNatClampNeg ((wJ (wI σ 8 (Int32.toNatClampNeg (σ.1 7 5)) a1) 9 (Int32.toNatClampNeg ((wI σ 8 (Int32.toNatClampNeg (σ.1 7 5)) a1).1 7 5)) (a2 ^^^ -1)).1 7 5)) r_1).1 7 5) + 1)))))))

def v_X4_look_L37 (K68 : Mem → Prop) (P : Mem → Prop) : Nat → Int32 → Mem → Prop
  | 0, _, _ => False
  | n + 1, x3, σ => ((σ.1 5 1) ≤ x3 → K68 σ) ∧ (¬ (σ.1 5 1) ≤ x3 → vp_in x3 12 ∧ (v_X0_wholeOnes (bB + Int32.toNatClampNeg x3) σ (fun (r_4 : Int64) (σ_5 : Mem) => v_X4_add ((1 : Int32) <<< (x3 &&& 31)) r_4 σ_5 (fun (σ_6 : Mem) => v_X4_look_L37 K68 P n (x3 + 1) σ_6))))

def v_X4_look_L83 (x3 : Int32) (K135 : Mem → Prop) (P : Mem → Prop) : Nat → Int32 → Mem → Prop
  | 0, _, _ => False
  | n + 1, x4, σ => ((σ.1 5 1) ≤ x4 → K135 σ) ∧ (¬ (σ.1 5 1) ≤ x4 → vp_in x3 12 ∧ (v_X0_wholeOnes (bB + Int32.toNatClampNeg x3) σ (fun (r_10 : Int64) (σ_11 : Mem) => vp_in x4 12 ∧ (v_X0_wholeOnes (bB + Int32.toNatClampNeg x4) σ_11 (fun (r_13 : Int64) (σ_14 : Mem) => v_X4_add (((1 : Int32) <<< (x3 &&& 31)) ||| ((1 : Int32) <<< (x4 &&& 31))) (r_10 ||| r_13) σ_14 (fun (σ_15 : Mem) => v_X4_look_L83 x3 K135 P n (x4 + 1) σ_15))))))

def v_X4_look_L70 (P : Mem → Prop) : Nat → Int32 → Mem → Prop
  | 0, _, _ => False
  | n + 1, x3, σ => ((σ.1 5 1) ≤ x3 → P σ) ∧ (¬ (σ.1 5 1) ≤ x3 → v_X4_look_L83 x3 (fun (σ_17 : Mem) => v_X4_look_L70 P n (x3 + 1) σ_17) P 5000 (x3 + 1) σ)

def v_X4_look (σ : Mem) (P : Mem → Prop) : Prop := v_J7_fill_53178 11 (-1) (wJr σ 12 (va_cpy (σ.2 4) (σ.2 12) (Int32.toNatClampNeg 0) (Int32.toNatClampNeg 0) (Int32.toNatClampNeg 61))) (fun (σ_1 : Mem) => v_X4_add 0 0 (wI σ_1 7 5 0) (fun (σ_2 : Mem) => v_X4_look_L37 (fun (σ_8 : Mem) => v_X4_look_L70 P 5000 0 σ_8) P 5000 0 σ_2))

def v_X4_gripOf (a0 : Int32) (σ : Mem) (P : Int32 → Mem → Prop) : Prop := (a0 = 0 → P 0 σ) ∧ (¬ a0 = 0 → v_J6_numberOfTrailingZeros_0f7a4 a0 σ (fun (r_1 : Int32) (σ_2 : Mem) => P (1 + r_1) σ_2))

def v_X4_missesChord (o1 : Nat) (a2 : Int32) (a3 : Int32) (σ : Mem) (P : Int32 → Mem → Prop) : Prop := v_X9_chordIn o1 a2 a3 σ (fun (r_1 : Int32) (σ_2 : Mem) => v_X4_holdOf r_1 σ_2 (fun (r_3 : Int32) (σ_4 : Mem) => (r_3 = 0 → P 1 σ_4) ∧ (¬ r_3 = 0 → P 0 σ_4)))

def v_X4_missesNote (o1 : Nat) (a2 : Int32) (a3 : Int32) (σ : Mem) (P : Int32 → Mem → Prop) : Prop := v_X9_chordIn o1 a2 a3 σ (fun (r_1 : Int32) (σ_2 : Mem) => v_X4_holdOf r_1 σ_2 (fun (r_3 : Int32) (σ_4 : Mem) => v_X4_lacksNote o1 a2 a3 r_3 σ_4 (fun (r_5 : Int32) (σ_6 : Mem) => isB r_5 ∧ P r_5 σ_6)))

def v_X4_missedChords_L5 (o1 : Nat) (x2 : Int32) (P : Int32 → Mem → Prop) : Nat → Int32 → Int32 → Mem → Prop
  | 0, _, _, _ => False
  | n + 1, x3, x4, σ => ((σ.1 o1 2) ≤ x4 → P x3 σ) ∧ (¬ (σ.1 o1 2) ≤ x4 → v_X4_missesChord o1 x2 x4 σ (fun (r_1 : Int32) (σ_2 : Mem) => (r_1 = 0 → v_X4_missedChords_L5 o1 x2 P n x3 (x4 + 1) σ_2) ∧ (¬ r_1 = 0 → v_X4_missedChords_L5 o1 x2 P n (x3 + 1) (x4 + 1) σ_2)))

def v_X4_missedChords (o1 : Nat) (a2 : Int32) (σ : Mem) (P : Int32 → Mem → Prop) : Prop := v_X4_missedChords_L5 o1 a2 P 5000 0 0 σ

def v_X4_missedNotes_L5 (o1 : Nat) (x2 : Int32) (P : Int32 → Mem → Prop) : Nat → Int32 → Int32 → Mem → Prop
  | 0, _, _, _ => False
  | n + 1, x3, x4, σ => ((σ.1 o1 2) ≤ x4 → P x3 σ) ∧ (¬ (σ.1 o1 2) ≤ x4 → v_X4_missesNote o1 x2 x4 σ (fun (r_1 : Int32) (σ_2 : Mem) => (r_1 = 0 → v_X4_missedNotes_L5 o1 x2 P n x3 (x4 + 1) σ_2) ∧ (¬ r_1 = 0 → v_X4_missedNotes_L5 o1 x2 P n (x3 + 1) (x4 + 1) σ_2)))

def v_X4_missedNotes (o1 : Nat) (a2 : Int32) (σ : Mem) (P : Int32 → Mem → Prop) : Prop := v_X4_missedNotes_L5 o1 a2 P 5000 0 0 σ

def v_X4_missed (o1 : Nat) (a2 : Int32) (σ : Mem) (P : Int32 → Mem → Prop) : Prop := v_X4_missedChords o1 a2 σ (fun (r_1 : Int32) (σ_2 : Mem) => v_X4_missedNotes o1 a2 σ_2 (fun (r_3 : Int32) (σ_4 : Mem) => P (r_1 + r_3) σ_4))

def v_X4_bestKeyOf_J32 (kb : Int32 → Int32 → Mem → Prop) (P : Int32 → Mem → Prop) (o1 : Nat) (x2 : Int32) (x3 : Int32) (σ : Mem) : Prop := v_X4_missed o1 (-x3) σ (fun (r_1 : Int32) (σ_2 : Mem) => v_X4_missed o1 x2 σ_2 (fun (r_3 : Int32) (σ_4 : Mem) => (r_3 ≤ r_1 → kb x2 (x3 + 1) σ_4) ∧ (¬ r_3 ≤ r_1 → kb (-x3) (x3 + 1) σ_4)))

def v_X4_bestKeyOf_L4 (o1 : Nat) (P : Int32 → Mem → Prop) : Nat → Int32 → Int32 → Mem → Prop
  | 0, _, _, _ => False
  | n + 1, x2, x3, σ => (6 < x3 → P x2 σ) ∧ (¬ 6 < x3 → (5 < x3 → v_X4_bestKeyOf_J32 (v_X4_bestKeyOf_L4 o1 P n) P o1 x2 x3 σ) ∧ (¬ 5 < x3 → v_X4_missed o1 x3 σ (fun (r_5 : Int32) (σ_6 : Mem) => v_X4_missed o1 x2 σ_6 (fun (r_7 : Int32) (σ_8 : Mem) => (r_7 ≤ r_5 → v_X4_bestKeyOf_J32 (v_X4_bestKeyOf_L4 o1 P n) P o1 x2 x3 σ_8) ∧ (¬ r_7 ≤ r_5 → v_X4_bestKeyOf_J32 (v_X4_bestKeyOf_L4 o1 P n) P o1 x3 x3 σ_8)))))

def v_X4_bestKeyOf (o1 : Nat) (σ : Mem) (P : Int32 → Mem → Prop) : Prop := v_X4_bestKeyOf_L4 o1 P 5000 0 1 σ

def v_X5_isFull (σ : Mem) (P : Int32 → Mem → Prop) : Prop := ((σ.1 15 6) < 12 → P 0 σ) ∧ (¬ (σ.1 15 6) < 12 → P 1 σ)

def v_X5_isSet (a1 : Int32) (σ : Mem) (P : Int32 → Mem → Prop) : Prop := (((Int32.toUInt32 a1 >>> (Int32.toUInt32 (σ.1 15 6) &&& Int32.toUInt32 31)).toInt32) = 0 → P 1 σ) ∧ (¬ ((Int32.toUInt32 a1 >>> (Int32.toUInt32 (σ.1 15 6) &&& Int32.toUInt32 31)).toInt32) = 0 → P 0 σ)

def v_X5_hasChord_L2 (x1 : Int32) (P : Int32 → Mem → Prop) : Nat → Int32 → Mem → Prop
  | 0, _, _ => False
  | n + 1, x2, σ => ((σ.1 15 6) ≤ x2 → P 0 σ) ∧ (¬ (σ.1 15 6) ≤ x2 → vp_in x2 12 ∧ (((σ.1 16 (Int32.toNatClampNeg x2)) = x1 → P 1 σ) ∧ (¬ (σ.1 16 (Int32.toNatClampNeg x2)) = x1 → v_X5_hasChord_L2 x1 P n (x2 + 1) σ)))

def v_X5_hasChord (a1 : Int32) (σ : Mem) (P : Int32 → Mem → Prop) : Prop := v_X5_hasChord_L2 a1 P 5000 0 σ

def v_X5_add (a1 : Int32) (σ : Mem) (P : Int32 → Mem → Prop) : Prop := vp_in (σ.1 15 6) 12 ∧ (P (σ.1 15 6) (wI (wI σ 15 6 ((σ.1 15 6) + 1)) 16 (Int32.toNatClampNeg (σ.1 15 6)) a1))

def v_X5_lowBit (a0 : Int32) (σ : Mem) (P : Int64 → Mem → Prop) : Prop := (64 ≤ a0 → P 0 σ) ∧ (¬ 64 ≤ a0 → P ((1 : Int64) <<< (Int32.toInt64 a0 &&& 63)) σ)

def v_X5_highBit (a0 : Int32) (σ : Mem) (P : Int64 → Mem → Prop) : Prop := (64 ≤ a0 → P ((1 : Int64) <<< (Int32.toInt64 (a0 - 64) &&& 63)) σ) ∧ (¬ 64 ≤ a0 → P 0 σ)

def v_X5_lookAtSongs_L42 (x2 : Int32) (o3 : Nat) (K97 : Mem → Prop) (P : Mem → Prop) : Nat → Int32 → Mem → Prop
  | 0, _, _ => False
  | n + 1, x4, σ => ((σ.1 o3 2) ≤ x4 → K97 σ) ∧ (¬ (σ.1 o3 2) ≤ x4 → v_X9_chordIn o3 (σ.1 o3 3) x4 σ (fun (r_2 : Int32) (σ_3 : Mem) => vp_in x2 8 ∧ (v_X5_lowBit r_2 σ_3 (fun (r_4 : Int64) (σ_5 : Mem) => vp_in x2 8 ∧ (vp_in x2 8 ∧ (v_X5_highBit r_2 (wJ σ_5 19 (Int32.toNatClampNeg x2) ((σ_3.2 19 (Int32.toNatClampNeg x2)) ||| r_4)) (fun (r_6 : Int64) (σ_7 : Mem) => vp_in x2 8 ∧ (v_X5_lookAtSongs_L42 x2 o3 K97 P n (x4 + 1) (wJ σ_7 20 (Int32.toNatClampNeg x2) (((wJ σ_5 19 (Int32.toNatClampNeg x2) ((σ_3.2 19 (Int32.toNatClampNeg x2)) ||| r_4)).2 20 (Int32.toNatClampNeg x2)) ||| r_6))))))))))

def v_X5_lookAtSongs_L10 (P : Mem → Prop) : Nat → Int32 → Mem → Prop
  | 0, _, _ => False
  | n + 1, x2, σ => ((σ.1 15 5) ≤ x2 → P σ) ∧ (¬ (σ.1 15 5) ≤ x2 → vp_in x2 8 ∧ (vp_in x2 8 ∧ (vp_in x2 8 ∧ (v_X5_lookAtSongs_L42 x2 (bG + Int32.toNatClampNeg x2) (fun (σ_9 : Mem) => v_X5_lookAtSongs_L10 P n (x2 + 1) σ_9) P 5000 0 (wJ (wJ σ 19 (Int32.toNatClampNeg x2) 0) 20 (Int32.toNatClampNeg x2) 0)))))

def v_X5_lookAtSongs (σ : Mem) (P : Mem → Prop) : Prop := v_X5_lookAtSongs_L10 P 5000 0 (wI σ 15 5 (σ.1 13 1))

def v_X5_lookAtTwo_L16 (x1 : Int32) (x2 : Int32) (P : Mem → Prop) : Nat → Int32 → Mem → Prop
  | 0, _, _ => False
  | n + 1, x3, σ => (96 ≤ x3 → P σ) ∧ (¬ 96 ≤ x3 → v_X11_classesOf x3 σ (fun (r_1 : Int32) (σ_2 : Mem) => (r_1 = x2 → vp_in x1 144 ∧ (v_X5_lowBit x3 σ_2 (fun (r_3 : Int64) (σ_4 : Mem) => vp_in x1 144 ∧ (vp_in x1 144 ∧ (v_X5_highBit x3 (wJ σ_4 17 (Int32.toNatClampNeg x1) ((σ_2.2 17 (Int32.toNatClampNeg x1)) ||| r_3)) (fun (r_5 : Int64) (σ_6 : Mem) => vp_in x1 144 ∧ (v_X5_lookAtTwo_L16 x1 x2 P n (x3 + 1) (wJ σ_6 18 (Int32.toNatClampNeg x1) (((wJ σ_4 17 (Int32.toNatClampNeg x1) ((σ_2.2 17 (Int32.toNatClampNeg x1)) ||| r_3)).2 18 (Int32.toNatClampNeg x1)) ||| r_5))))))))) ∧ (¬ r_1 = x2 → v_X5_lookAtTwo_L16 x1 x2 P n (x3 + 1) σ_2)))

def v_X5_lookAtTwo (a1 : Int32) (a2 : Int32) (σ : Mem) (P : Mem → Prop) : Prop := vp_in a1 144 ∧ (vp_in a1 144 ∧ (v_X5_lookAtTwo_L16 a1 a2 P 5000 0 (wJ (wJ σ 17 (Int32.toNatClampNeg a1) 0) 18 (Int32.toNatClampNeg a1) 0)))

def v_X5_lookAtClasses_L12 (x1 : Int32) (x2 : Int32) (K61 : Mem → Prop) (P : Mem → Prop) : Nat → Int32 → Mem → Prop
  | 0, _, _ => False
  | n + 1, x3, σ => ((σ.1 15 6) ≤ x3 → K61 σ) ∧ (¬ (σ.1 15 6) ≤ x3 → vp_in x2 12 ∧ (v_X11_classesOf (σ.1 16 (Int32.toNatClampNeg x2)) σ (fun (r_1 : Int32) (σ_2 : Mem) => vp_in x3 12 ∧ (v_X11_classesOf (σ_2.1 16 (Int32.toNatClampNeg x3)) σ_2 (fun (r_3 : Int32) (σ_4 : Mem) => v_X5_lookAtTwo ((x2 * 12) + x3) (x1 &&& (r_1 &&& r_3)) σ_4 (fun (σ_5 : Mem) => v_X5_lookAtClasses_L12 x1 x2 K61 P n (x3 + 1) σ_5))))))

def v_X5_lookAtClasses_L2 (x1 : Int32) (P : Mem → Prop) : Nat → Int32 → Mem → Prop
  | 0, _, _ => False
  | n + 1, x2, σ => ((σ.1 15 6) ≤ x2 → P σ) ∧ (¬ (σ.1 15 6) ≤ x2 → v_X5_lookAtClasses_L12 x1 x2 (fun (σ_7 : Mem) => v_X5_lookAtClasses_L2 x1 P n (x2 + 1) σ_7) P 5000 x2 σ)

def v_X5_lookAtClasses (a1 : Int32) (σ : Mem) (P : Mem → Prop) : Prop := v_X5_lookAtClasses_L2 a1 P 5000 0 σ

def v_X5_songsWithin_L6 (x1 : Int64) (x3 : Int64) (P : Int32 → Mem → Prop) : Nat → Int32 → Int32 → Mem → Prop
  | 0, _, _, _ => False
  | n + 1, x5, x6, σ => ((σ.1 15 5) ≤ x6 → P x5 σ) ∧ (¬ (σ.1 15 5) ≤ x6 → vp_in x6 8 ∧ ((((σ.2 19 (Int32.toNatClampNeg x6)) &&& (x1 ^^^ -1)) = 0 → vp_in x6 8 ∧ ((((σ.2 20 (Int32.toNatClampNeg x6)) &&& (x3 ^^^ -1)) = 0 → v_X5_songsWithin_L6 x1 x3 P n (x5 ||| ((1 : Int32) <<< (x6 &&& 31))) (x6 + 1) σ) ∧ (¬ ((σ.2 20 (Int32.toNatClampNeg x6)) &&& (x3 ^^^ -1)) = 0 → v_X5_songsWithin_L6 x1 x3 P n x5 (x6 + 1) σ))) ∧ (¬ ((σ.2 19 (Int32.toNatClampNeg x6)) &&& (x1 ^^^ -1)) = 0 → v_X5_songsWithin_L6 x1 x3 P n x5 (x6 + 1) σ)))

def v_X5_songsWithin (a1 : Int64) (a3 : Int64) (σ : Mem) (P : Int32 → Mem → Prop) : Prop := v_X5_songsWithin_L6 a1 a3 P 5000 0 0 σ

def v_X5_servedBy_L34 (x1 : Int32) (x6 : Int32) (K93 : Int64 → Int64 → Mem → Prop) (P : Int32 → Mem → Prop) : Nat → Int64 → Int64 → Int32 → Mem → Prop
  | 0, _, _, _, _ => False
  | n + 1, x2, x4, x7, σ => ((σ.1 15 6) ≤ x7 → K93 x2 x4 σ) ∧ (¬ (σ.1 15 6) ≤ x7 → v_X11_hasBit (Int32.toInt64 x1) x7 σ (fun (r_3 : Int32) (σ_4 : Mem) => (r_3 = 0 → v_X5_servedBy_L34 x1 x6 K93 P n x2 x4 (x7 + 1) σ_4) ∧ (¬ r_3 = 0 → vp_in ((x6 * 12) + x7) 144 ∧ (vp_in ((x6 * 12) + x7) 144 ∧ (v_X5_servedBy_L34 x1 x6 K93 P n (x2 ||| (σ_4.2 17 (Int32.toNatClampNeg ((x6 * 12) + x7)))) (x4 ||| (σ_4.2 18 (Int32.toNatClampNeg ((x6 * 12) + x7)))) (x7 + 1) σ_4)))))

def v_X5_servedBy_L8 (x1 : Int32) (K99 : Int64 → Int64 → Mem → Prop) (P : Int32 → Mem → Prop) : Nat → Int64 → Int64 → Int32 → Mem → Prop
  | 0, _, _, _, _ => False
  | n + 1, x2, x4, x6, σ => ((σ.1 15 6) ≤ x6 → K99 x2 x4 σ) ∧ (¬ (σ.1 15 6) ≤ x6 → v_X11_hasBit (Int32.toInt64 x1) x6 σ (fun (r_1 : Int32) (σ_2 : Mem) => (r_1 = 0 → v_X5_servedBy_L8 x1 K99 P n x2 x4 (x6 + 1) σ_2) ∧ (¬ r_1 = 0 → v_X5_servedBy_L34 x1 x6 (fun (x2_5 : Int64) (x4_5 : Int64) (σ_6 : Mem) => v_X5_servedBy_L8 x1 K99 P n x2_5 x4_5 (x6 + 1) σ_6) P 5000 x2 x4 x6 σ_2)))

def v_X5_servedBy (a1 : Int32) (σ : Mem) (P : Int32 → Mem → Prop) : Prop := v_X5_servedBy_L8 a1 (fun (x2_7 : Int64) (x4_7 : Int64) (σ_8 : Mem) => v_X5_songsWithin x2_7 x4_7 σ_8 (fun (r_9 : Int32) (σ_10 : Mem) => P r_9 σ_10)) P 5000 0 0 0 σ

def v_J6_bitCount_0f7a4 (a0 : Int32) (σ : Mem) (P : Int32 → Mem → Prop) : Prop := ∀ y_1 : Int32, y_1 = a0 - (((Int32.toUInt32 a0 >>> (Int32.toUInt32 1 &&& Int32.toUInt32 31)).toInt32) &&& 1431655765) → (∀ y_2 : Int32, y_2 = (y_1 &&& 858993459) + (((Int32.toUInt32 y_1 >>> (Int32.toUInt32 2 &&& Int32.toUInt32 31)).toInt32) &&& 858993459) → (∀ y_3 : Int32, y_3 = (y_2 + ((Int32.toUInt32 y_2 >>> (Int32.toUInt32 4 &&& Int32.toUInt32 31)).toInt32)) &&& 252645135 → (∀ y_4 : Int32, y_4 = y_3 + ((Int32.toUInt32 y_3 >>> (Int32.toUInt32 8 &&& Int32.toUInt32 31)).toInt32) → (∀ y_5 : Int32, y_5 = y_4 + ((Int32.toUInt32 y_4 >>> (Int32.toUInt32 16 &&& Int32.toUInt32 31)).toInt32) → (P (y_5 &&& 63) σ)))))

def v_X5_mostServing_J92 (kb : Int32 → Int32 → Int32 → Mem → Prop) (K109 : Int32 → Int32 → Mem → Prop) (P : Int32 → Mem → Prop) (x1 : Int32) (x2 : Int32) (x3 : Int32) (x4 : Int32) (x6 : Int32) (x7 : Int32) (x8 : Int32) (xs0 : Int32) (σ : Mem) : Prop := v_J9_max_7cf53 x4 x8 σ (fun (r_11 : Int32) (σ_12 : Mem) => kb r_11 xs0 (x7 + 1) σ_12)

def v_X5_mostServing_L45 (x1 : Int32) (x2 : Int32) (x3 : Int32) (x6 : Int32) (K109 : Int32 → Int32 → Mem → Prop) (P : Int32 → Mem → Prop) : Nat → Int32 → Int32 → Int32 → Mem → Prop
  | 0, _, _, _, _ => False
  | n + 1, x4, x5, x7, σ => (x2 < x7 → K109 x4 x5 σ) ∧ (¬ x2 < x7 → (x3 ≤ x4 → K109 x4 x5 σ) ∧ (¬ x3 ≤ x4 → v_J6_bitCount_0f7a4 x7 σ (fun (r_5 : Int32) (σ_6 : Mem) => (r_5 = x6 → v_X5_servedBy x7 σ_6 (fun (r_7 : Int32) (σ_8 : Mem) => v_J6_bitCount_0f7a4 r_7 σ_8 (fun (r_9 : Int32) (σ_10 : Mem) => (r_9 ≤ x4 → v_X5_mostServing_J92 (v_X5_mostServing_L45 x1 x2 x3 x6 K109 P n) K109 P x1 x2 x3 x4 x6 x7 r_9 x5 σ_10) ∧ (¬ r_9 ≤ x4 → v_X5_mostServing_J92 (v_X5_mostServing_L45 x1 x2 x3 x6 K109 P n) K109 P x1 x2 x3 x4 x6 x7 r_9 x7 σ_10)))) ∧ (¬ r_5 = x6 → v_X5_mostServing_L45 x1 x2 x3 x6 K109 P n x4 x5 (x7 + 1) σ_6))))

def v_X5_mostServing_L27 (x1 : Int32) (x2 : Int32) (x3 : Int32) (P : Int32 → Mem → Prop) : Nat → Int32 → Int32 → Int32 → Mem → Prop
  | 0, _, _, _, _ => False
  | n + 1, x4, x5, x6, σ => (x1 < x6 → P x5 σ) ∧ (¬ x1 < x6 → ((σ.1 15 6) < x6 → P x5 σ) ∧ (¬ (σ.1 15 6) < x6 → v_X5_mostServing_L45 x1 x2 x3 x6 (fun (x4_13 : Int32) (x5_13 : Int32) (σ_14 : Mem) => v_X5_mostServing_L27 x1 x2 x3 P n x4_13 x5_13 (x6 + 1) σ_14) P 5000 x4 x5 1 σ))

def v_X5_mostServing (a1 : Int32) (σ : Mem) (P : Int32 → Mem → Prop) : Prop := v_X5_servedBy (((1 : Int32) <<< ((σ.1 15 6) &&& 31)) - 1) σ (fun (r_1 : Int32) (σ_2 : Mem) => v_J6_bitCount_0f7a4 r_1 σ_2 (fun (r_3 : Int32) (σ_4 : Mem) => v_X5_mostServing_L27 a1 (((1 : Int32) <<< ((σ.1 15 6) &&& 31)) - 1) r_3 P 5000 0 0 1 σ_4))

def v_X6_troubleOf_J41 (P : Int32 → Mem → Prop) (x4 : Int32) (xs0 : Int32) (σ : Mem) : Prop := v_J6_bitCount_0f7a4 x4 σ (fun (r_7 : Int32) (σ_8 : Mem) => P ((10 * r_7) + xs0) σ_8)

def v_X6_troubleOf (o0 : Nat) (a1 : Int32) (a2 : Int32) (σ : Mem) (P : Int32 → Mem → Prop) : Prop := vp_in a2 79 ∧ (v_X9_chordIn o0 (σ.1 o0 3) a1 σ (fun (r_1 : Int32) (σ_2 : Mem) => v_X11_classesOf r_1 σ_2 (fun (r_3 : Int32) (σ_4 : Mem) => v_X4_lacksNote o0 (σ_4.1 o0 3) a1 a2 σ_4 (fun (r_5 : Int32) (σ_6 : Mem) => (r_5 = 0 → v_X6_troubleOf_J41 P ((σ.1 10 (Int32.toNatClampNeg a2)) ^^^ r_3) 0 σ_6) ∧ (¬ r_5 = 0 → v_X6_troubleOf_J41 P ((σ.1 10 (Int32.toNatClampNeg a2)) ^^^ r_3) 30 σ_6)))))

def v_J9_min_7cf53 (a0 : Int32) (a1 : Int32) (σ : Mem) (P : Int32 → Mem → Prop) : Prop := (a1 < a0 → P a1 σ) ∧ (¬ a1 < a0 → P a0 σ)

def v_X6_ease (a1 : Int32) (a2 : Int32) (σ : Mem) (P : Mem → Prop) : Prop := vp_in a1 79 ∧ (vp_in a2 79 ∧ (v_J9_min_7cf53 (σ.1 26 (Int32.toNatClampNeg a1)) ((σ.1 26 (Int32.toNatClampNeg a2)) + 2) σ (fun (r_1 : Int32) (σ_2 : Mem) => vp_in a1 79 ∧ (P (wI σ_2 26 (Int32.toNatClampNeg a1) r_1)))))

def v_J6_numberOfLeadingZeros_0f7a4_J61 (P : Int32 → Mem → Prop) (x0 : Int32) (x1 : Int32) (σ : Mem) : Prop := (x0 < 4 → P (x1 - ((Int32.toUInt32 x0 >>> (Int32.toUInt32 1 &&& Int32.toUInt32 31)).toInt32)) σ) ∧ (¬ x0 < 4 → ∀ y_1 : Int32, y_1 = (Int32.toUInt32 x0 >>> (Int32.toUInt32 2 &&& Int32.toUInt32 31)).toInt32 → (P ((x1 + (-2)) - ((Int32.toUInt32 y_1 >>> (Int32.toUInt32 1 &&& Int32.toUInt32 31)).toInt32)) σ))

def v_J6_numberOfLeadingZeros_0f7a4_J48 (P : Int32 → Mem → Prop) (x0 : Int32) (x1 : Int32) (σ : Mem) : Prop := (x0 < 16 → v_J6_numberOfLeadingZeros_0f7a4_J61 P x0 x1 σ) ∧ (¬ x0 < 16 → ∀ y_2 : Int32, y_2 = (Int32.toUInt32 x0 >>> (Int32.toUInt32 4 &&& Int32.toUInt32 31)).toInt32 → (v_J6_numberOfLeadingZeros_0f7a4_J61 P y_2 (x1 + (-4)) σ))

def v_J6_numberOfLeadingZeros_0f7a4_J33 (P : Int32 → Mem → Prop) (x0 : Int32) (x1 : Int32) (σ : Mem) : Prop := (x0 < 256 → v_J6_numberOfLeadingZeros_0f7a4_J48 P x0 x1 σ) ∧ (¬ x0 < 256 → ∀ y_3 : Int32, y_3 = (Int32.toUInt32 x0 >>> (Int32.toUInt32 8 &&& Int32.toUInt32 31)).toInt32 → (v_J6_numberOfLeadingZeros_0f7a4_J48 P y_3 (x1 + (-8)) σ))

def v_J6_numberOfLeadingZeros_0f7a4 (a0 : Int32) (σ : Mem) (P : Int32 → Mem → Prop) : Prop := (0 < a0 → (a0 < 65536 → v_J6_numberOfLeadingZeros_0f7a4_J33 P a0 31 σ) ∧ (¬ a0 < 65536 → ∀ y_4 : Int32, y_4 = (Int32.toUInt32 a0 >>> (Int32.toUInt32 16 &&& Int32.toUInt32 31)).toInt32 → (v_J6_numberOfLeadingZeros_0f7a4_J33 P y_4 (31 + (-16)) σ))) ∧ (¬ 0 < a0 → (a0 = 0 → P 32 σ) ∧ (¬ a0 = 0 → P 0 σ))

def v_J6_highestOneBit_0f7a4 (a0 : Int32) (σ : Mem) (P : Int32 → Mem → Prop) : Prop := v_J6_numberOfLeadingZeros_0f7a4 a0 σ (fun (r_1 : Int32) (σ_2 : Mem) => P (a0 &&& ((Int32.toUInt32 (-2147483648) >>> (Int32.toUInt32 r_1 &&& Int32.toUInt32 31)).toInt32)) σ_2)

def v_X6_letBarsChange_L7 (K51 : Mem → Prop) (P : Mem → Prop) : Nat → Int32 → Mem → Prop
  | 0, _, _ => False
  | n + 1, x2, σ => (x2 ≤ 0 → K51 σ) ∧ (¬ x2 ≤ 0 → vp_in x2 79 ∧ (v_X4_gripOf ((σ.1 8 (Int32.toNatClampNeg x2)) &&& ((σ.1 8 (Int32.toNatClampNeg x2)) - 1)) σ (fun (r_1 : Int32) (σ_2 : Mem) => v_X6_ease r_1 x2 σ_2 (fun (σ_3 : Mem) => v_J6_highestOneBit_0f7a4 (σ.1 8 (Int32.toNatClampNeg x2)) σ_3 (fun (r_4 : Int32) (σ_5 : Mem) => v_X4_gripOf ((σ.1 8 (Int32.toNatClampNeg x2)) ^^^ r_4) σ_5 (fun (r_6 : Int32) (σ_7 : Mem) => v_X6_ease r_6 x2 σ_7 (fun (σ_8 : Mem) => v_X6_letBarsChange_L7 K51 P n (x2 + (-1)) σ_8)))))))

def v_X6_letBarsChange_L53 (P : Mem → Prop) : Nat → Int32 → Mem → Prop
  | 0, _, _ => False
  | n + 1, x2, σ => ((σ.1 7 5) ≤ x2 → P σ) ∧ (¬ (σ.1 7 5) ≤ x2 → vp_in x2 79 ∧ (v_X4_gripOf ((σ.1 8 (Int32.toNatClampNeg x2)) &&& ((σ.1 8 (Int32.toNatClampNeg x2)) - 1)) σ (fun (r_11 : Int32) (σ_12 : Mem) => v_X6_ease x2 r_11 σ_12 (fun (σ_13 : Mem) => v_J6_highestOneBit_0f7a4 (σ.1 8 (Int32.toNatClampNeg x2)) σ_13 (fun (r_14 : Int32) (σ_15 : Mem) => v_X4_gripOf ((σ.1 8 (Int32.toNatClampNeg x2)) ^^^ r_14) σ_15 (fun (r_16 : Int32) (σ_17 : Mem) => v_X6_ease x2 r_16 σ_17 (fun (σ_18 : Mem) => v_X6_letBarsChange_L53 P n (x2 + 1) σ_18)))))))

def v_X6_letBarsChange (σ : Mem) (P : Mem → Prop) : Prop := v_X6_letBarsChange_L7 (fun (σ_10 : Mem) => v_X6_letBarsChange_L53 P 5000 1 σ_10) P 5000 ((σ.1 7 5) - 1) σ

def v_X6_plan_L22 (o1 : Nat) (x3 : Int32) (K74 : Mem → Prop) (P : Mem → Prop) : Nat → Int32 → Mem → Prop
  | 0, _, _ => False
  | n + 1, x4, σ => ((σ.1 7 5) ≤ x4 → K74 σ) ∧ (¬ (σ.1 7 5) ≤ x4 → vp_in x4 79 ∧ (v_X6_troubleOf o1 x3 x4 σ (fun (r_2 : Int32) (σ_3 : Mem) => vp_in x4 79 ∧ (vp_in x4 79 ∧ (vp_in ((x3 * 79) + x4) 1896 ∧ (v_X6_plan_L22 o1 x3 K74 P n (x4 + 1) (wI (wI σ_3 26 (Int32.toNatClampNeg x4) ((σ.1 26 (Int32.toNatClampNeg x4)) + r_2)) 25 (Int32.toNatClampNeg ((x3 * 79) + x4)) ((wI σ_3 26 (Int32.toNatClampNeg x4) ((σ.1 26 (Int32.toNatClampNeg x4)) + r_2)).1 26 (Int32.toNatClampNeg x4)))))))))

def v_X6_plan_L15 (o1 : Nat) (P : Mem → Prop) : Nat → Int32 → Mem → Prop
  | 0, _, _ => False
  | n + 1, x3, σ => (x3 < 0 → P σ) ∧ (¬ x3 < 0 → v_X6_plan_L22 o1 x3 (fun (σ_5 : Mem) => v_X6_letBarsChange σ_5 (fun (σ_6 : Mem) => v_X6_plan_L15 o1 P n (x3 + (-1)) σ_6)) P 5000 0 σ)

def v_X6_plan (o1 : Nat) (σ : Mem) (P : Mem → Prop) : Prop := v_J7_fill_53178 26 0 σ (fun (σ_1 : Mem) => v_X6_plan_L15 o1 P 5000 ((σ_1.1 o1 2) - 1) σ_1)

def v_X6_troubleFrom_J20 (P : Int32 → Mem → Prop) (x1 : Int32) (x3 : Int32) (xs0 : Int32) (σ : Mem) : Prop := vp_in ((x1 * 79) + x3) 1896 ∧ (P ((2 * xs0) + (σ.1 25 (Int32.toNatClampNeg ((x1 * 79) + x3)))) σ)

def v_X6_troubleFrom (a1 : Int32) (a2 : Int32) (a3 : Int32) (σ : Mem) (P : Int32 → Mem → Prop) : Prop := (a1 = 0 → v_X6_troubleFrom_J20 P a1 a3 0 σ) ∧ (¬ a1 = 0 → vp_in a3 79 ∧ (v_J6_bitCount_0f7a4 (a2 ^^^ (σ.1 8 (Int32.toNatClampNeg a3))) σ (fun (r_1 : Int32) (σ_2 : Mem) => v_X6_troubleFrom_J20 P a1 a3 r_1 σ_2)))

def v_X6_firstBest_L16 (x1 : Int32) (x2 : Int32) (P : Int32 → Mem → Prop) : Nat → Int32 → Int32 → Int32 → Mem → Prop
  | 0, _, _, _, _ => False
  | n + 1, x4, x5, x6, σ => ((σ.1 7 5) ≤ x6 → P x4 σ) ∧ (¬ (σ.1 7 5) ≤ x6 → v_X6_troubleFrom x1 x2 x6 σ (fun (r_3 : Int32) (σ_4 : Mem) => (x5 ≤ r_3 → v_X6_firstBest_L16 x1 x2 P n x4 x5 (x6 + 1) σ_4) ∧ (¬ x5 ≤ r_3 → v_X6_firstBest_L16 x1 x2 P n x6 r_3 (x6 + 1) σ_4)))

def v_X6_firstBest (a1 : Int32) (a2 : Int32) (σ : Mem) (P : Int32 → Mem → Prop) : Prop := v_X6_troubleFrom a1 a2 0 σ (fun (r_1 : Int32) (σ_2 : Mem) => v_X6_firstBest_L16 a1 a2 P 5000 0 r_1 1 σ_2)

def v_X6_leastTrouble (σ : Mem) (P : Int32 → Mem → Prop) : Prop := v_X6_firstBest 0 0 σ (fun (r_1 : Int32) (σ_2 : Mem) => vp_in r_1 1896 ∧ (P (σ_2.1 25 (Int32.toNatClampNeg r_1)) σ_2))

def v_X6_setAt_L5 (x1 : Int32) (P : Int32 → Mem → Prop) : Nat → Int32 → Int32 → Mem → Prop
  | 0, _, _, _ => False
  | n + 1, x3, x4, σ => (x1 < x4 → P x3 σ) ∧ (¬ x1 < x4 → (24 ≤ x4 → P x3 σ) ∧ (¬ 24 ≤ x4 → v_X6_firstBest x4 x3 σ (fun (r_1 : Int32) (σ_2 : Mem) => vp_in r_1 79 ∧ (v_X6_setAt_L5 x1 P n (σ_2.1 8 (Int32.toNatClampNeg r_1)) (x4 + 1) σ_2))))

def v_X6_setAt (a1 : Int32) (σ : Mem) (P : Int32 → Mem → Prop) : Prop := v_X6_setAt_L5 a1 P 5000 0 0 σ

def v_X7_knows (a1 : Int32) (σ : Mem) (P : Int32 → Mem → Prop) : Prop := (a1 < 0 → P 0 σ) ∧ (¬ a1 < 0 → ((σ.1 5 1) ≤ a1 → P 0 σ) ∧ (¬ (σ.1 5 1) ≤ a1 → P 1 σ))

def v_X7_isFull (σ : Mem) (P : Int32 → Mem → Prop) : Prop := ((σ.1 5 1) < 12 → P 0 σ) ∧ (¬ (σ.1 5 1) < 12 → P 1 σ)

def v_X7_isSet (a1 : Int32) (σ : Mem) (P : Int32 → Mem → Prop) : Prop := (((Int32.toUInt32 a1 >>> (Int32.toUInt32 (σ.1 5 1) &&& Int32.toUInt32 31)).toInt32) = 0 → P 1 σ) ∧ (¬ ((Int32.toUInt32 a1 >>> (Int32.toUInt32 (σ.1 5 1) &&& Int32.toUInt32 31)).toInt32) = 0 → P 0 σ)

def v_X7_add (a1 : Int32) (a2 : Int64) (σ : Mem) (P : Int32 → Mem → Prop) : Prop := vp_in (σ.1 5 1) 12 ∧ (vp_in (σ.1 5 1) 12 ∧ (vp_in (σ.1 5 1) 12 ∧ (vp_in (σ.1 5 1) 12 ∧ (P (σ.1 5 1) (wI (wJ (wJ (wI (wI σ 5 1 ((σ.1 5 1) + 1)) (bB + Int32.toNatClampNeg (σ.1 5 1)) 0 a1) (bB + Int32.toNatClampNeg (σ.1 5 1)) 1 a2) (bB + Int32.toNatClampNeg (σ.1 5 1)) 2 0) (bB + Int32.toNatClampNeg (σ.1 5 1)) 3 (σ.1 5 1))))))

def v_X7_clear (σ : Mem) (P : Mem → Prop) : Prop := P (wI σ 5 1 0)

def v_X7_hushed_L5 (x1 : Int32) (P : Int64 → Mem → Prop) : Nat → Int64 → Int32 → Mem → Prop
  | 0, _, _, _ => False
  | n + 1, x2, x4, σ => ((σ.1 5 1) ≤ x4 → P x2 σ) ∧ (¬ (σ.1 5 1) ≤ x4 → v_X11_hasBit (Int32.toInt64 x1) x4 σ (fun (r_1 : Int32) (σ_2 : Mem) => (r_1 = 0 → v_X7_hushed_L5 x1 P n x2 (x4 + 1) σ_2) ∧ (¬ r_1 = 0 → vp_in x4 12 ∧ (v_X0_wholeOnes (bB + Int32.toNatClampNeg x4) σ_2 (fun (r_4 : Int64) (σ_5 : Mem) => v_X7_hushed_L5 x1 P n (x2 ||| r_4) (x4 + 1) σ_5)))))

def v_X7_hushed (a1 : Int32) (σ : Mem) (P : Int64 → Mem → Prop) : Prop := v_X7_hushed_L5 a1 P 5000 0 0 σ

def v_X7_wholeFeltsOn_L4 (x1 : Int32) (P : Int32 → Mem → Prop) : Nat → Int32 → Int32 → Mem → Prop
  | 0, _, _, _ => False
  | n + 1, x2, x3, σ => ((σ.1 5 1) ≤ x3 → P x2 σ) ∧ (¬ (σ.1 5 1) ≤ x3 → vp_in x3 12 ∧ (v_X0_wholeOnes (bB + Int32.toNatClampNeg x3) σ (fun (r_2 : Int64) (σ_3 : Mem) => v_X11_hasBit r_2 x1 σ_3 (fun (r_4 : Int32) (σ_5 : Mem) => (r_4 = 0 → v_X7_wholeFeltsOn_L4 x1 P n x2 (x3 + 1) σ_5) ∧ (¬ r_4 = 0 → v_X7_wholeFeltsOn_L4 x1 P n (x2 + 1) (x3 + 1) σ_5)))))

def v_X7_wholeFeltsOn (a1 : Int32) (σ : Mem) (P : Int32 → Mem → Prop) : Prop := v_X7_wholeFeltsOn_L4 a1 P 5000 0 0 σ

def v_X8_isNothing (o0 : Nat) (σ : Mem) (P : Int32 → Mem → Prop) : Prop := ((σ.1 o0 1) = (-1) → P 1 σ) ∧ (¬ (σ.1 o0 1) = (-1) → P 0 σ)

def v_X8_begin (o0 : Nat) (a1 : Int32) (a2 : Int32) (σ : Mem) (P : Mem → Prop) : Prop := v_J7_fill_53178 (o0 + 4) 0 (wI (wI σ o0 1 a1) o0 2 a2) (fun (σ_1 : Mem) => P σ_1)

def v_X8_drop (o0 : Nat) (σ : Mem) (P : Int32 → Mem → Prop) : Prop := v_X8_isNothing o0 σ (fun (r_1 : Int32) (σ_2 : Mem) => (r_1 = 0 → P 1 (wI (wI σ_2 o0 1 (-1)) o0 2 0)) ∧ (¬ r_1 = 0 → P 0 (wI (wI σ_2 o0 1 (-1)) o0 2 0)))

def v_X8_faultAs (o0 : Nat) (a1 : Int32) (σ : Mem) (P : Int32 → Mem → Prop) : Prop := v_X8_isNothing o0 σ (fun (r_1 : Int32) (σ_2 : Mem) => (r_1 = 0 → ((σ_2.1 o0 1) = a1 → P 0 σ_2) ∧ (¬ (σ_2.1 o0 1) = a1 → P 2 σ_2)) ∧ (¬ r_1 = 0 → P 1 σ_2))

def v_X8_hasCell (o0 : Nat) (a1 : Int32) (σ : Mem) (P : Int32 → Mem → Prop) : Prop := (a1 < 0 → P 0 σ) ∧ (¬ a1 < 0 → ((σ.1 o0 2) ≤ a1 → P 0 σ) ∧ (¬ (σ.1 o0 2) ≤ a1 → P 1 σ))

def v_X8_hasCells (o0 : Nat) (a1 : Int32) (a2 : Int64) (σ : Mem) (P : Int32 → Mem → Prop) : Prop := (a1 < 0 → P 0 σ) ∧ (¬ a1 < 0 → ((σ.1 o0 2) < a1 → P 0 σ) ∧ (¬ (σ.1 o0 2) < a1 → ((Int32.toInt64 ((σ.1 o0 2) - a1)) < a2 → P 0 σ) ∧ (¬ (Int32.toInt64 ((σ.1 o0 2) - a1)) < a2 → P 1 σ)))

def v_X8_write (o0 : Nat) (a1 : Int32) (a2 : Int32) (σ : Mem) (P : Mem → Prop) : Prop := ((σ.1 o0 1) = 0 → vp_in a1 64 ∧ (P (wI σ (o0 + 4) (Int32.toNatClampNeg a1) ((Int32.toInt8 a2).toInt32)))) ∧ (¬ (σ.1 o0 1) = 0 → ((σ.1 o0 1) = 1 → vp_in a1 64 ∧ (P (wI σ (o0 + 4) (Int32.toNatClampNeg a1) ((Int32.toInt16 a2).toInt32)))) ∧ (¬ (σ.1 o0 1) = 1 → vp_in a1 64 ∧ (P (wI σ (o0 + 4) (Int32.toNatClampNeg a1) a2))))

def v_X10_knows (a1 : Int32) (σ : Mem) (P : Int32 → Mem → Prop) : Prop := (a1 < 0 → P 0 σ) ∧ (¬ a1 < 0 → ((σ.1 1 4) ≤ a1 → P 0 σ) ∧ (¬ (σ.1 1 4) ≤ a1 → P 1 σ))

def v_X10_isFull (σ : Mem) (P : Int32 → Mem → Prop) : Prop := ((σ.1 1 4) < 36 → P 0 σ) ∧ (¬ (σ.1 1 4) < 36 → P 1 σ)

def v_X10_isFree (a1 : Int32) (σ : Mem) (P : Int32 → Mem → Prop) : Prop := v_X11_hasBit (σ.2 1 3) a1 σ (fun (r_1 : Int32) (σ_2 : Mem) => isB r_1 ∧ P r_1 σ_2)

def v_X10_all (σ : Mem) (P : Int64 → Mem → Prop) : Prop := P (((1 : Int64) <<< (Int32.toInt64 (σ.1 1 4) &&& 63)) - 1) σ

def v_X10_turnBits (a1 : Int32) (σ : Mem) (P : Mem → Prop) : Prop := vp_in a1 36 ∧ (vp_in (σ.1 2 (Int32.toNatClampNeg a1)) 61 ∧ (vp_in (σ.1 2 (Int32.toNatClampNeg a1)) 61 ∧ (v_X10_isFree a1 (wJ σ 4 (Int32.toNatClampNeg (σ.1 2 (Int32.toNatClampNeg a1))) ((σ.2 4 (Int32.toNatClampNeg (σ.1 2 (Int32.toNatClampNeg a1)))) ^^^ ((1 : Int64) <<< (Int32.toInt64 a1 &&& 63)))) (fun (r_1 : Int32) (σ_2 : Mem) => (r_1 = 0 → vp_in a1 36 ∧ (vp_in ((σ_2.1 2 (Int32.toNatClampNeg a1)) - (σ_2.1 2 (Int32.toNatClampNeg a1)) / 12 * 12) 12 ∧ (vp_in ((σ_2.1 2 (Int32.toNatClampNeg a1)) - (σ_2.1 2 (Int32.toNatClampNeg a1)) / 12 * 12) 12 ∧ (P (wJ σ_2 3 (Int32.toNatClampNeg ((σ_2.1 2 (Int32.toNatClampNeg a1)) - (σ_2.1 2 (Int32.toNatClampNeg a1)) / 12 * 12)) ((σ_2.2 3 (Int32.toNatClampNeg ((σ_2.1 2 (Int32.toNatClampNeg a1)) - (σ_2.1 2 (Int32.toNatClampNeg a1)) / 12 * 12))) ^^^ ((1 : Int64) <<< (Int32.toInt64 a1 &&& 63)))))))) ∧ (¬ r_1 = 0 → P σ_2)))))

def v_X10_add_J38 (P : Int32 → Mem → Prop) (x3 : Int32) (σ : Mem) : Prop := v_X10_turnBits x3 σ (fun (σ_1 : Mem) => P x3 σ_1)

def v_X10_add (a1 : Int32) (a2 : Int32) (σ : Mem) (P : Int32 → Mem → Prop) : Prop := vp_in (σ.1 1 4) 36 ∧ ((a2 = 0 → v_X10_add_J38 P (σ.1 1 4) (wI (wI σ 1 4 ((σ.1 1 4) + 1)) 2 (Int32.toNatClampNeg (σ.1 1 4)) a1)) ∧ (¬ a2 = 0 → v_X10_add_J38 P (σ.1 1 4) (wJ (wI (wI σ 1 4 ((σ.1 1 4) + 1)) 2 (Int32.toNatClampNeg (σ.1 1 4)) a1) 1 3 (((wI (wI σ 1 4 ((σ.1 1 4) + 1)) 2 (Int32.toNatClampNeg (σ.1 1 4)) a1).2 1 3) ||| ((1 : Int64) <<< (Int32.toInt64 (σ.1 1 4) &&& 63))))))

def v_X10_retune (a1 : Int32) (a2 : Int32) (σ : Mem) (P : Mem → Prop) : Prop := v_X10_turnBits a1 σ (fun (σ_1 : Mem) => vp_in a1 36 ∧ (v_X10_turnBits a1 (wI σ_1 2 (Int32.toNatClampNeg a1) a2) (fun (σ_2 : Mem) => P σ_2)))

def v_X10_notOfClasses_L5 (x1 : Int32) (P : Int64 → Mem → Prop) : Nat → Int64 → Int32 → Mem → Prop
  | 0, _, _, _ => False
  | n + 1, x2, x4, σ => (12 ≤ x4 → P x2 σ) ∧ (¬ 12 ≤ x4 → v_X11_hasBit (Int32.toInt64 x1) x4 σ (fun (r_1 : Int32) (σ_2 : Mem) => (r_1 = 0 → vp_in x4 12 ∧ (v_X10_notOfClasses_L5 x1 P n (x2 ||| (σ_2.2 3 (Int32.toNatClampNeg x4))) (x4 + 1) σ_2)) ∧ (¬ r_1 = 0 → v_X10_notOfClasses_L5 x1 P n x2 (x4 + 1) σ_2)))

def v_X10_notOfClasses (a1 : Int32) (σ : Mem) (P : Int64 → Mem → Prop) : Prop := v_X10_notOfClasses_L5 a1 P 5000 0 0 σ

def v_X10_tonesAmong_L5 (x1 : Int64) (P : Int64 → Mem → Prop) : Nat → Int64 → Int32 → Mem → Prop
  | 0, _, _, _ => False
  | n + 1, x3, x5, σ => (61 ≤ x5 → P x3 σ) ∧ (¬ 61 ≤ x5 → vp_in x5 61 ∧ ((((σ.2 4 (Int32.toNatClampNeg x5)) &&& x1) = 0 → v_X10_tonesAmong_L5 x1 P n x3 (x5 + 1) σ) ∧ (¬ ((σ.2 4 (Int32.toNatClampNeg x5)) &&& x1) = 0 → v_X10_tonesAmong_L5 x1 P n (x3 ||| ((1 : Int64) <<< (Int32.toInt64 x5 &&& 63))) (x5 + 1) σ)))

def v_X10_tonesAmong (a1 : Int64) (σ : Mem) (P : Int64 → Mem → Prop) : Prop := v_X10_tonesAmong_L5 a1 P 5000 0 0 σ

def v_X11_string (a1 : Int32) (a2 : Int32) (σ : Mem) (P : Int32 → Mem → Prop) : Prop := v_X11_isTone a1 σ (fun (r_1 : Int32) (σ_2 : Mem) => (r_1 = 0 → P (-2) σ_2) ∧ (¬ r_1 = 0 → v_X10_isFull σ_2 (fun (r_3 : Int32) (σ_4 : Mem) => (r_3 = 0 → v_X10_add a1 a2 σ_4 (fun (r_5 : Int32) (σ_6 : Mem) => P r_5 σ_6)) ∧ (¬ r_3 = 0 → P (-4) σ_4))))

def v_X11_tune (a1 : Int32) (a2 : Int32) (σ : Mem) (P : Int32 → Mem → Prop) : Prop := v_X10_knows a1 σ (fun (r_1 : Int32) (σ_2 : Mem) => (r_1 = 0 → P (-1) σ_2) ∧ (¬ r_1 = 0 → v_X11_isTone a2 σ_2 (fun (r_3 : Int32) (σ_4 : Mem) => (r_3 = 0 → P (-2) σ_4) ∧ (¬ r_3 = 0 → vp_in a1 36 ∧ (v_X10_retune a1 a2 σ_4 (fun (σ_5 : Mem) => P (σ_4.1 2 (Int32.toNatClampNeg a1)) σ_5))))))

def v_X11_bar (a1 : Int32) (σ : Mem) (P : Int32 → Mem → Prop) : Prop := v_X11_isChord a1 σ (fun (r_1 : Int32) (σ_2 : Mem) => (r_1 = 0 → P (-2) σ_2) ∧ (¬ r_1 = 0 → v_X7_isFull σ_2 (fun (r_3 : Int32) (σ_4 : Mem) => (r_3 = 0 → v_X11_classesOf a1 σ_4 (fun (r_5 : Int32) (σ_6 : Mem) => v_X10_notOfClasses r_5 σ_6 (fun (r_7 : Int64) (σ_8 : Mem) => v_X7_add a1 r_7 σ_8 (fun (r_9 : Int32) (σ_10 : Mem) => P r_9 σ_10)))) ∧ (¬ r_3 = 0 → P (-4) σ_4))))

def v_X11_blank (σ : Mem) (P : Int32 → Mem → Prop) : Prop := v_X7_isFull σ (fun (r_1 : Int32) (σ_2 : Mem) => (r_1 = 0 → v_X7_add (-9) 0 σ_2 (fun (r_3 : Int32) (σ_4 : Mem) => P r_3 σ_4)) ∧ (¬ r_1 = 0 → P (-4) σ_2))

def v_X11_asNumber (a0 : Int32) (σ : Mem) (P : Int32 → Mem → Prop) : Prop := (a0 = 0 → P 0 σ) ∧ (¬ a0 = 0 → P 1 σ)

def v_X11_felt (a1 : Int32) (a2 : Int32) (a3 : Int32) (σ : Mem) (P : Int32 → Mem → Prop) : Prop := v_X7_knows a1 σ (fun (r_1 : Int32) (σ_2 : Mem) => (r_1 = 0 → P (-1) σ_2) ∧ (¬ r_1 = 0 → v_X10_knows a2 σ_2 (fun (r_3 : Int32) (σ_4 : Mem) => (r_3 = 0 → P (-1) σ_4) ∧ (¬ r_3 = 0 → v_X10_isFree a2 σ_4 (fun (r_5 : Int32) (σ_6 : Mem) => (r_5 = 0 → vp_in a1 12 ∧ (v_X0_setFelt (bB + Int32.toNatClampNeg a1) a2 a3 σ_6 (fun (r_8 : Int32) (σ_9 : Mem) => v_X11_asNumber r_8 σ_9 (fun (r_10 : Int32) (σ_11 : Mem) => P r_10 σ_11)))) ∧ (¬ r_5 = 0 → P (-3) σ_6))))))

def v_X11_hasFelt (a1 : Int32) (a2 : Int32) (σ : Mem) (P : Int32 → Mem → Prop) : Prop := v_X7_knows a1 σ (fun (r_1 : Int32) (σ_2 : Mem) => (r_1 = 0 → P 0 σ_2) ∧ (¬ r_1 = 0 → v_X10_knows a2 σ_2 (fun (r_3 : Int32) (σ_4 : Mem) => (r_3 = 0 → P 0 σ_4) ∧ (¬ r_3 = 0 → vp_in a1 12 ∧ (v_X0_hasFelt (bB + Int32.toNatClampNeg a1) a2 σ_4 (fun (r_6 : Int32) (σ_7 : Mem) => (r_6 = 0 → P 0 σ_7) ∧ (¬ r_6 = 0 → P 1 σ_7)))))))

def v_X11_wear (a1 : Int32) (a2 : Int32) (a3 : Int32) (σ : Mem) (P : Int32 → Mem → Prop) : Prop := v_X11_hasFelt a1 a2 σ (fun (r_1 : Int32) (σ_2 : Mem) => (r_1 = 0 → P (-1) σ_2) ∧ (¬ r_1 = 0 → vp_in a1 12 ∧ (v_X0_setWorn (bB + Int32.toNatClampNeg a1) a2 a3 σ_2 (fun (r_4 : Int32) (σ_5 : Mem) => v_X11_asNumber r_4 σ_5 (fun (r_6 : Int32) (σ_7 : Mem) => P r_6 σ_7)))))

def v_X11_ofString (a1 : Int32) (a2 : Int32) (σ : Mem) (P : Int32 → Mem → Prop) : Prop := v_X10_knows a1 σ (fun (r_1 : Int32) (σ_2 : Mem) => (r_1 = 0 → P (-1) σ_2) ∧ (¬ r_1 = 0 → (a2 = 0 → vp_in a1 36 ∧ (P (σ_2.1 2 (Int32.toNatClampNeg a1)) σ_2)) ∧ (¬ a2 = 0 → (a2 = 1 → v_X10_isFree a1 σ_2 (fun (r_3 : Int32) (σ_4 : Mem) => v_X11_asNumber r_3 σ_4 (fun (r_5 : Int32) (σ_6 : Mem) => P r_5 σ_6))) ∧ (¬ a2 = 1 → (a2 = 2 → vp_in a1 36 ∧ (P ((σ_2.1 2 (Int32.toNatClampNeg a1)) - (σ_2.1 2 (Int32.toNatClampNeg a1)) / 12 * 12) σ_2)) ∧ (¬ a2 = 2 → (a2 = 3 → v_X7_wholeFeltsOn a1 σ_2 (fun (r_7 : Int32) (σ_8 : Mem) => P r_7 σ_8)) ∧ (¬ a2 = 3 → P (-2) σ_2))))))

def v_X11_ofBar (a1 : Int32) (a2 : Int32) (σ : Mem) (P : Int32 → Mem → Prop) : Prop := v_X7_knows a1 σ (fun (r_1 : Int32) (σ_2 : Mem) => (r_1 = 0 → P (-1) σ_2) ∧ (¬ r_1 = 0 → vp_in a1 12 ∧ ((a2 = 0 → v_X0_kind (bB + Int32.toNatClampNeg a1) σ_2 (fun (r_4 : Int32) (σ_5 : Mem) => P r_4 σ_5)) ∧ (¬ a2 = 0 → (a2 = 1 → P (σ_2.1 (bB + Int32.toNatClampNeg a1) 0) σ_2) ∧ (¬ a2 = 1 → (a2 = 2 → v_J13_bitCount_95d88 (σ_2.2 (bB + Int32.toNatClampNeg a1) 1) σ_2 (fun (r_6 : Int32) (σ_7 : Mem) => P r_6 σ_7)) ∧ (¬ a2 = 2 → (a2 = 3 → v_J13_bitCount_95d88 (σ_2.2 (bB + Int32.toNatClampNeg a1) 2) σ_2 (fun (r_8 : Int32) (σ_9 : Mem) => P r_8 σ_9)) ∧ (¬ a2 = 3 → (a2 = 4 → v_X0_wholeOnes (bB + Int32.toNatClampNeg a1) σ_2 (fun (r_10 : Int64) (σ_11 : Mem) => v_X10_classesAmong (r_10 ^^^ -1) σ_11 (fun (r_12 : Int32) (σ_13 : Mem) => P r_12 σ_13))) ∧ (¬ a2 = 4 → (a2 = 5 → P (σ_2.1 (bB + Int32.toNatClampNeg a1) 3) σ_2) ∧ (¬ a2 = 5 → P (-2) σ_2)))))))))

def v_X11_has (a1 : Int32) (a2 : Int32) (σ : Mem) (P : Int32 → Mem → Prop) : Prop := v_X7_knows a1 σ (fun (r_1 : Int32) (σ_2 : Mem) => (r_1 = 0 → P (-1) σ_2) ∧ (¬ r_1 = 0 → v_X10_knows a2 σ_2 (fun (r_3 : Int32) (σ_4 : Mem) => (r_3 = 0 → P (-1) σ_4) ∧ (¬ r_3 = 0 → vp_in a1 12 ∧ (v_X0_hasFelt (bB + Int32.toNatClampNeg a1) a2 σ_4 (fun (r_6 : Int32) (σ_7 : Mem) => (r_6 = 0 → P 0 σ_7) ∧ (¬ r_6 = 0 → v_X0_isWorn (bB + Int32.toNatClampNeg a1) a2 σ_7 (fun (r_8 : Int32) (σ_9 : Mem) => (r_8 = 0 → P 2 σ_9) ∧ (¬ r_8 = 0 → P 1 σ_9)))))))))

def v_X11_sounds_J47 (P : Int32 → Mem → Prop) (xs0 : Int32) (σ : Mem) : Prop := v_X11_asNumber xs0 σ (fun (r_9 : Int32) (σ_10 : Mem) => P r_9 σ_10)

def v_X11_sounds (a1 : Int32) (a2 : Int32) (σ : Mem) (P : Int32 → Mem → Prop) : Prop := v_X10_knows a2 σ (fun (r_1 : Int32) (σ_2 : Mem) => (r_1 = 0 → P (-1) σ_2) ∧ (¬ r_1 = 0 → v_X7_isSet a1 σ_2 (fun (r_3 : Int32) (σ_4 : Mem) => (r_3 = 0 → P (-2) σ_4) ∧ (¬ r_3 = 0 → v_X7_hushed a1 σ_4 (fun (r_5 : Int64) (σ_6 : Mem) => v_X11_hasBit r_5 a2 σ_6 (fun (r_7 : Int32) (σ_8 : Mem) => (r_7 = 0 → v_X11_sounds_J47 P 1 σ_8) ∧ (¬ r_7 = 0 → v_X11_sounds_J47 P 0 σ_8)))))))

def v_X11_classes (a1 : Int32) (σ : Mem) (P : Int32 → Mem → Prop) : Prop := v_X7_isSet a1 σ (fun (r_1 : Int32) (σ_2 : Mem) => (r_1 = 0 → P (-2) σ_2) ∧ (¬ r_1 = 0 → v_X7_hushed a1 σ_2 (fun (r_3 : Int64) (σ_4 : Mem) => v_X10_classesAmong (r_3 ^^^ -1) σ_4 (fun (r_5 : Int32) (σ_6 : Mem) => P r_5 σ_6))))

def v_X11_chord (a1 : Int32) (σ : Mem) (P : Int32 → Mem → Prop) : Prop := v_X11_isChord a1 σ (fun (r_1 : Int32) (σ_2 : Mem) => (r_1 = 0 → P (-2) σ_2) ∧ (¬ r_1 = 0 → v_X11_classesOf a1 σ_2 (fun (r_3 : Int32) (σ_4 : Mem) => P r_3 σ_4)))

def v_X11_gives_J52 (P : Int32 → Mem → Prop) (xs0 : Int32) (σ : Mem) : Prop := v_X11_asNumber xs0 σ (fun (r_11 : Int32) (σ_12 : Mem) => P r_11 σ_12)

def v_X11_gives (a1 : Int32) (a2 : Int32) (σ : Mem) (P : Int32 → Mem → Prop) : Prop := v_X7_isSet a1 σ (fun (r_1 : Int32) (σ_2 : Mem) => (r_1 = 0 → P (-2) σ_2) ∧ (¬ r_1 = 0 → v_X11_isChord a2 σ_2 (fun (r_3 : Int32) (σ_4 : Mem) => (r_3 = 0 → P (-2) σ_4) ∧ (¬ r_3 = 0 → v_X7_hushed a1 σ_4 (fun (r_5 : Int64) (σ_6 : Mem) => v_X10_classesAmong (r_5 ^^^ -1) σ_6 (fun (r_7 : Int32) (σ_8 : Mem) => v_X11_classesOf a2 σ_8 (fun (r_9 : Int32) (σ_10 : Mem) => (r_7 = r_9 → v_X11_gives_J52 P 1 σ_10) ∧ (¬ r_7 = r_9 → v_X11_gives_J52 P 0 σ_10))))))))

def v_X11_lack (a1 : Int32) (σ : Mem) (P : Int32 → Mem → Prop) : Prop := v_X11_isChord a1 σ (fun (r_1 : Int32) (σ_2 : Mem) => (r_1 = 0 → P (-2) σ_2) ∧ (¬ r_1 = 0 → v_X11_classesOf a1 σ_2 (fun (r_3 : Int32) (σ_4 : Mem) => v_X10_all σ_4 (fun (r_5 : Int64) (σ_6 : Mem) => v_X10_classesAmong r_5 σ_6 (fun (r_7 : Int32) (σ_8 : Mem) => P (r_3 &&& (r_7 ^^^ (-1))) σ_8)))))

def v_X11_lookAtGrips (σ : Mem) (P : Mem → Prop) : Prop := v_X4_look σ (fun (σ_1 : Mem) => P σ_1)

def v_X11_hold (a1 : Int32) (σ : Mem) (P : Int32 → Mem → Prop) : Prop := v_X11_isChord a1 σ (fun (r_1 : Int32) (σ_2 : Mem) => (r_1 = 0 → P (-2) σ_2) ∧ (¬ r_1 = 0 → v_X11_lookAtGrips σ_2 (fun (σ_3 : Mem) => v_X4_holdOf a1 σ_3 (fun (r_4 : Int32) (σ_5 : Mem) => (r_4 = 0 → P (-9) σ_5) ∧ (¬ r_4 = 0 → vp_in r_4 79 ∧ (P (σ_5.1 8 (Int32.toNatClampNeg r_4)) σ_5))))))

def v_X11_holds_L20 (x1 : Int32) (P : Int32 → Mem → Prop) : Nat → Int32 → Int32 → Mem → Prop
  | 0, _, _, _ => False
  | n + 1, x2, x3, σ => (96 ≤ x3 → P x2 σ) ∧ (¬ 96 ≤ x3 → v_X4_holdOf x3 σ (fun (r_2 : Int32) (σ_3 : Mem) => vp_in r_2 79 ∧ (v_J6_bitCount_0f7a4 (σ_3.1 8 (Int32.toNatClampNeg r_2)) σ_3 (fun (r_4 : Int32) (σ_5 : Mem) => (r_4 = x1 → v_X11_holds_L20 x1 P n (x2 + 1) (x3 + 1) σ_5) ∧ (¬ r_4 = x1 → v_X11_holds_L20 x1 P n x2 (x3 + 1) σ_5)))))

def v_X11_holds (a1 : Int32) (σ : Mem) (P : Int32 → Mem → Prop) : Prop := (a1 < 0 → P (-2) σ) ∧ (¬ a1 < 0 → (a1 ≤ 2 → v_X11_lookAtGrips σ (fun (σ_1 : Mem) => v_X11_holds_L20 a1 P 5000 0 0 σ_1)) ∧ (¬ a1 ≤ 2 → P (-2) σ))

def v_J13_numberOfTrailingZeros_95d88 (a0 : Int64) (σ : Mem) (P : Int32 → Mem → Prop) : Prop := ((Int64.toInt32 a0) = 0 → v_J6_numberOfTrailingZeros_0f7a4 (Int64.toInt32 ((Int64.toUInt64 a0 >>> ((Int32.toInt64 32).toUInt64 &&& Int64.toUInt64 63)).toInt64)) σ (fun (r_1 : Int32) (σ_2 : Mem) => P (32 + r_1) σ_2)) ∧ (¬ (Int64.toInt32 a0) = 0 → v_J6_numberOfTrailingZeros_0f7a4 (Int64.toInt32 a0) σ (fun (r_3 : Int32) (σ_4 : Mem) => P r_3 σ_4))

def v_J13_numberOfLeadingZeros_95d88 (a0 : Int64) (σ : Mem) (P : Int32 → Mem → Prop) : Prop := ∀ y_1 : Int32, y_1 = Int64.toInt32 ((Int64.toUInt64 a0 >>> ((Int32.toInt64 32).toUInt64 &&& Int64.toUInt64 63)).toInt64) → ((y_1 = 0 → v_J6_numberOfLeadingZeros_0f7a4 (Int64.toInt32 a0) σ (fun (r_2 : Int32) (σ_3 : Mem) => P (32 + r_2) σ_3)) ∧ (¬ y_1 = 0 → v_J6_numberOfLeadingZeros_0f7a4 y_1 σ (fun (r_4 : Int32) (σ_5 : Mem) => P r_4 σ_5)))

def v_X11_greatestStep_L8 (x0 : Int64) (P : Int32 → Mem → Prop) : Nat → Int32 → Int32 → Int32 → Mem → Prop
  | 0, _, _, _, _ => False
  | n + 1, x2, x3, x4, σ => (61 ≤ x4 → P x2 σ) ∧ (¬ 61 ≤ x4 → v_X11_hasBit x0 x4 σ (fun (r_1 : Int32) (σ_2 : Mem) => (r_1 = 0 → v_X11_greatestStep_L8 x0 P n x2 x3 (x4 + 1) σ_2) ∧ (¬ r_1 = 0 → (x3 = (-9) → v_X11_greatestStep_L8 x0 P n x2 x4 (x4 + 1) σ_2) ∧ (¬ x3 = (-9) → v_J9_max_7cf53 x2 (x4 - x3) σ_2 (fun (r_3 : Int32) (σ_4 : Mem) => v_X11_greatestStep_L8 x0 P n r_3 x4 (x4 + 1) σ_4)))))

def v_X11_greatestStep (a0 : Int64) (σ : Mem) (P : Int32 → Mem → Prop) : Prop := v_X11_greatestStep_L8 a0 P 5000 0 (-9) 0 σ

def v_X11_strum (a1 : Int32) (a2 : Int32) (σ : Mem) (P : Int32 → Mem → Prop) : Prop := v_X7_isSet a1 σ (fun (r_1 : Int32) (σ_2 : Mem) => (r_1 = 0 → P (-2) σ_2) ∧ (¬ r_1 = 0 → v_X10_all σ_2 (fun (r_3 : Int64) (σ_4 : Mem) => v_X7_hushed a1 σ_4 (fun (r_5 : Int64) (σ_6 : Mem) => v_X10_tonesAmong (r_3 &&& (r_5 ^^^ -1)) σ_6 (fun (r_7 : Int64) (σ_8 : Mem) => (a2 = 0 → v_J13_bitCount_95d88 (r_3 &&& (r_5 ^^^ -1)) σ_8 (fun (r_9 : Int32) (σ_10 : Mem) => P r_9 σ_10)) ∧ (¬ a2 = 0 → (a2 = 1 → (r_7 = 0 → P (-9) σ_8) ∧ (¬ r_7 = 0 → v_J13_numberOfTrailingZeros_95d88 r_7 σ_8 (fun (r_11 : Int32) (σ_12 : Mem) => P r_11 σ_12))) ∧ (¬ a2 = 1 → (a2 = 2 → (r_7 = 0 → P (-9) σ_8) ∧ (¬ r_7 = 0 → v_J13_numberOfLeadingZeros_95d88 r_7 σ_8 (fun (r_13 : Int32) (σ_14 : Mem) => P (63 - r_13) σ_14))) ∧ (¬ a2 = 2 → (a2 = 3 → v_X11_greatestStep r_7 σ_8 (fun (r_15 : Int32) (σ_16 : Mem) => P r_15 σ_16)) ∧ (¬ a2 = 3 → P (-2) σ_8)))))))))

def v_X11_isSheet (a0 : Int32) (σ : Mem) (P : Int32 → Mem → Prop) : Prop := (a0 < 0 → P 0 σ) ∧ (¬ a0 < 0 → (4 ≤ a0 → P 0 σ) ∧ (¬ 4 ≤ a0 → P 1 σ))

def v_X11_isLane (a0 : Int32) (σ : Mem) (P : Int32 → Mem → Prop) : Prop := (a0 < 0 → P 0 σ) ∧ (¬ a0 < 0 → (3 ≤ a0 → P 0 σ) ∧ (¬ 3 ≤ a0 → P 1 σ))

def v_X11_fail (a1 : Int32) (σ : Mem) (P : Int32 → Mem → Prop) : Prop := P ((-10) - a1) (wI σ 0 10 a1)

def v_X11_hasSong_L2 (o0 : Nat) (x1 : Int32) (x2 : Int32) (P : Int32 → Mem → Prop) : Nat → Int32 → Mem → Prop
  | 0, _, _ => False
  | n + 1, x3, σ => (x2 ≤ x3 → P 1 σ) ∧ (¬ x2 ≤ x3 → vp_in ((x1 + (2 * x3)) + 1) 64 ∧ (vp_in (x1 + (2 * x3)) 64 ∧ (v_X11_isChord (σ.1 (o0 + 4) (Int32.toNatClampNeg (x1 + (2 * x3)))) σ (fun (r_1 : Int32) (σ_2 : Mem) => (r_1 = 0 → P 0 σ_2) ∧ (¬ r_1 = 0 → ((σ.1 (o0 + 4) (Int32.toNatClampNeg ((x1 + (2 * x3)) + 1))) = (-1) → v_X11_hasSong_L2 o0 x1 x2 P n (x3 + 1) σ_2) ∧ (¬ (σ.1 (o0 + 4) (Int32.toNatClampNeg ((x1 + (2 * x3)) + 1))) = (-1) → v_X11_isTone (σ.1 (o0 + 4) (Int32.toNatClampNeg ((x1 + (2 * x3)) + 1))) σ_2 (fun (r_3 : Int32) (σ_4 : Mem) => (r_3 = 0 → P 0 σ_4) ∧ (¬ r_3 = 0 → v_X11_hasSong_L2 o0 x1 x2 P n (x3 + 1) σ_4))))))))

def v_X11_hasSong (o0 : Nat) (a1 : Int32) (a2 : Int32) (σ : Mem) (P : Int32 → Mem → Prop) : Prop := v_X11_hasSong_L2 o0 a1 a2 P 5000 0 σ

def v_X11_song_J77 (P : Int32 → Mem → Prop) (x3 : Int32) (x4 : Int32) (o5 : Nat) (x6 : Int32) (σ : Mem) : Prop := (x6 = 0 → (x4 < 1 → P (-2) σ) ∧ (¬ x4 < 1 → (24 < x4 → P (-2) σ) ∧ (¬ 24 < x4 → v_X11_hasSong o5 x3 x4 σ (fun (r_10 : Int32) (σ_11 : Mem) => (r_10 = 0 → P (-2) σ_11) ∧ (¬ r_10 = 0 → v_X1_isFull σ_11 (fun (r_12 : Int32) (σ_13 : Mem) => (r_12 = 0 → v_X1_add o5 x3 x4 σ_13 (fun (r_14 : Int32) (σ_15 : Mem) => P r_14 σ_15)) ∧ (¬ r_12 = 0 → P (-4) σ_13))))))) ∧ (¬ x6 = 0 → v_X11_fail x6 σ (fun (r_16 : Int32) (σ_17 : Mem) => P r_16 σ_17))

def v_X11_song_J53 (P : Int32 → Mem → Prop) (x3 : Int32) (x4 : Int32) (o5 : Nat) (x6 : Int32) (σ : Mem) : Prop := (x6 = 0 → v_X8_hasCells o5 x3 (2 * (Int32.toInt64 x4)) σ (fun (r_8 : Int32) (σ_9 : Mem) => (r_8 = 0 → v_X11_song_J77 P x3 x4 o5 3 σ_9) ∧ (¬ r_8 = 0 → v_X11_song_J77 P x3 x4 o5 x6 σ_9))) ∧ (¬ x6 = 0 → v_X11_song_J77 P x3 x4 o5 x6 σ)

def v_X11_song (a1 : Int32) (a2 : Int32) (a3 : Int32) (a4 : Int32) (σ : Mem) (P : Int32 → Mem → Prop) : Prop := v_X11_isSheet a1 (wI σ 0 10 0) (fun (r_1 : Int32) (σ_2 : Mem) => (r_1 = 0 → P (-1) σ_2) ∧ (¬ r_1 = 0 → v_X11_isLane a2 σ_2 (fun (r_3 : Int32) (σ_4 : Mem) => (r_3 = 0 → P (-2) σ_4) ∧ (¬ r_3 = 0 → vp_in a1 4 ∧ (v_X8_faultAs (bT + Int32.toNatClampNeg a1) a2 σ_4 (fun (r_6 : Int32) (σ_7 : Mem) => (r_6 = 0 → (0 ≤ a4 → v_X11_song_J53 P a3 a4 (bT + Int32.toNatClampNeg a1) r_6 σ_7) ∧ (¬ 0 ≤ a4 → v_X11_song_J53 P a3 a4 (bT + Int32.toNatClampNeg a1) 4 σ_7)) ∧ (¬ r_6 = 0 → v_X11_song_J53 P a3 a4 (bT + Int32.toNatClampNeg a1) r_6 σ_7)))))))

def v_X11_hasStep (a1 : Int32) (a2 : Int32) (σ : Mem) (P : Int32 → Mem → Prop) : Prop := v_X1_knows a1 σ (fun (r_1 : Int32) (σ_2 : Mem) => (r_1 = 0 → P 0 σ_2) ∧ (¬ r_1 = 0 → (a2 < 0 → P 0 σ_2) ∧ (¬ a2 < 0 → vp_in a1 8 ∧ (((σ_2.1 (bG + Int32.toNatClampNeg a1) 2) ≤ a2 → P 0 σ_2) ∧ (¬ (σ_2.1 (bG + Int32.toNatClampNeg a1) 2) ≤ a2 → P 1 σ_2)))))

def v_X11_step (a1 : Int32) (a2 : Int32) (a3 : Int32) (σ : Mem) (P : Int32 → Mem → Prop) : Prop := v_X11_hasStep a1 a2 σ (fun (r_1 : Int32) (σ_2 : Mem) => (r_1 = 0 → P (-1) σ_2) ∧ (¬ r_1 = 0 → vp_in a1 8 ∧ ((a3 = 0 → v_X9_chordIn (bG + Int32.toNatClampNeg a1) (σ_2.1 (bG + Int32.toNatClampNeg a1) 3) a2 σ_2 (fun (r_4 : Int32) (σ_5 : Mem) => P r_4 σ_5)) ∧ (¬ a3 = 0 → (a3 = 1 → v_X9_hasNote (bG + Int32.toNatClampNeg a1) a2 σ_2 (fun (r_6 : Int32) (σ_7 : Mem) => (r_6 = 0 → P (-9) σ_7) ∧ (¬ r_6 = 0 → v_X9_noteIn (bG + Int32.toNatClampNeg a1) (σ_7.1 (bG + Int32.toNatClampNeg a1) 3) a2 σ_7 (fun (r_8 : Int32) (σ_9 : Mem) => P r_8 σ_9)))) ∧ (¬ a3 = 1 → (a3 = 2 → v_X11_lookAtGrips σ_2 (fun (σ_10 : Mem) => v_X4_missesChord (bG + Int32.toNatClampNeg a1) (σ_10.1 (bG + Int32.toNatClampNeg a1) 3) a2 σ_10 (fun (r_11 : Int32) (σ_12 : Mem) => v_X11_asNumber r_11 σ_12 (fun (r_13 : Int32) (σ_14 : Mem) => P r_13 σ_14)))) ∧ (¬ a3 = 2 → (a3 = 3 → v_X11_lookAtGrips σ_2 (fun (σ_15 : Mem) => v_X4_missesNote (bG + Int32.toNatClampNeg a1) (σ_15.1 (bG + Int32.toNatClampNeg a1) 3) a2 σ_15 (fun (r_16 : Int32) (σ_17 : Mem) => v_X11_asNumber r_16 σ_17 (fun (r_18 : Int32) (σ_19 : Mem) => P r_18 σ_19)))) ∧ (¬ a3 = 3 → P (-2) σ_2)))))))

def v_X11_key (a1 : Int32) (a2 : Int32) (σ : Mem) (P : Int32 → Mem → Prop) : Prop := v_X1_knows a1 σ (fun (r_1 : Int32) (σ_2 : Mem) => (r_1 = 0 → P (-1) σ_2) ∧ (¬ r_1 = 0 → (a2 < (-6) → P (-2) σ_2) ∧ (¬ a2 < (-6) → (a2 ≤ 5 → vp_in a1 8 ∧ (vp_in a1 8 ∧ (P (σ_2.1 (bG + Int32.toNatClampNeg a1) 3) (wI σ_2 (bG + Int32.toNatClampNeg a1) 3 a2)))) ∧ (¬ a2 ≤ 5 → P (-2) σ_2))))

def v_X11_misses (a1 : Int32) (a2 : Int32) (σ : Mem) (P : Int32 → Mem → Prop) : Prop := v_X1_knows a1 σ (fun (r_1 : Int32) (σ_2 : Mem) => (r_1 = 0 → P (-1) σ_2) ∧ (¬ r_1 = 0 → vp_in a1 8 ∧ (v_X11_lookAtGrips σ_2 (fun (σ_4 : Mem) => (a2 = 0 → v_X4_missedChords (bG + Int32.toNatClampNeg a1) (σ_4.1 (bG + Int32.toNatClampNeg a1) 3) σ_4 (fun (r_5 : Int32) (σ_6 : Mem) => P r_5 σ_6)) ∧ (¬ a2 = 0 → (a2 = 1 → v_X4_missedNotes (bG + Int32.toNatClampNeg a1) (σ_4.1 (bG + Int32.toNatClampNeg a1) 3) σ_4 (fun (r_7 : Int32) (σ_8 : Mem) => P r_7 σ_8)) ∧ (¬ a2 = 1 → (a2 = 2 → v_X4_missed (bG + Int32.toNatClampNeg a1) (σ_4.1 (bG + Int32.toNatClampNeg a1) 3) σ_4 (fun (r_9 : Int32) (σ_10 : Mem) => P r_9 σ_10)) ∧ (¬ a2 = 2 → (a2 = 3 → P (σ_4.1 (bG + Int32.toNatClampNeg a1) 2) σ_4) ∧ (¬ a2 = 3 → (a2 = 4 → P (σ_4.1 (bG + Int32.toNatClampNeg a1) 3) σ_4) ∧ (¬ a2 = 4 → P (-2) σ_4)))))))))

def v_X11_bestKey (a1 : Int32) (σ : Mem) (P : Int32 → Mem → Prop) : Prop := v_X1_knows a1 σ (fun (r_1 : Int32) (σ_2 : Mem) => (r_1 = 0 → P 99 σ_2) ∧ (¬ r_1 = 0 → v_X11_lookAtGrips σ_2 (fun (σ_3 : Mem) => vp_in a1 8 ∧ (v_X4_bestKeyOf (bG + Int32.toNatClampNeg a1) σ_3 (fun (r_5 : Int32) (σ_6 : Mem) => P r_5 σ_6)))))

def v_X11_playable (σ : Mem) (P : Int32 → Mem → Prop) : Prop := v_X11_lookAtGrips σ (fun (σ_1 : Mem) => v_X1_playedWith σ_1 (fun (r_2 : Int32) (σ_3 : Mem) => P r_2 σ_3))

def v_X11_offer (a1 : Int32) (σ : Mem) (P : Int32 → Mem → Prop) : Prop := v_X11_isChord a1 σ (fun (r_1 : Int32) (σ_2 : Mem) => (r_1 = 0 → P (-2) σ_2) ∧ (¬ r_1 = 0 → v_X5_hasChord a1 σ_2 (fun (r_3 : Int32) (σ_4 : Mem) => (r_3 = 0 → v_X5_isFull σ_4 (fun (r_5 : Int32) (σ_6 : Mem) => (r_5 = 0 → v_X5_add a1 σ_6 (fun (r_7 : Int32) (σ_8 : Mem) => P r_7 σ_8)) ∧ (¬ r_5 = 0 → P (-4) σ_6))) ∧ (¬ r_3 = 0 → P (-3) σ_4))))

def v_X11_lookAtOffers (σ : Mem) (P : Mem → Prop) : Prop := v_X5_lookAtSongs σ (fun (σ_1 : Mem) => v_X10_all σ_1 (fun (r_2 : Int64) (σ_3 : Mem) => v_X10_classesAmong r_2 σ_3 (fun (r_4 : Int32) (σ_5 : Mem) => v_X5_lookAtClasses r_4 σ_5 (fun (σ_6 : Mem) => P σ_6))))

def v_X11_serves (a1 : Int32) (σ : Mem) (P : Int32 → Mem → Prop) : Prop := v_X5_isSet a1 σ (fun (r_1 : Int32) (σ_2 : Mem) => (r_1 = 0 → P (-2) σ_2) ∧ (¬ r_1 = 0 → v_X11_lookAtOffers σ_2 (fun (σ_3 : Mem) => v_X5_servedBy a1 σ_3 (fun (r_4 : Int32) (σ_5 : Mem) => P r_4 σ_5))))

def v_X11_fewest (σ : Mem) (P : Int32 → Mem → Prop) : Prop := v_X11_lookAtOffers σ (fun (σ_1 : Mem) => v_X5_mostServing 12 σ_1 (fun (r_2 : Int32) (σ_3 : Mem) => v_X5_servedBy r_2 σ_3 (fun (r_4 : Int32) (σ_5 : Mem) => v_X1_all σ_5 (fun (r_6 : Int32) (σ_7 : Mem) => (r_4 = r_6 → P r_2 σ_7) ∧ (¬ r_4 = r_6 → P (-9) σ_7)))))

def v_X11_most (a1 : Int32) (σ : Mem) (P : Int32 → Mem → Prop) : Prop := (a1 < 0 → P (-2) σ) ∧ (¬ a1 < 0 → (a1 ≤ 12 → v_X11_lookAtOffers σ (fun (σ_1 : Mem) => v_X5_mostServing a1 σ_1 (fun (r_2 : Int32) (σ_3 : Mem) => P r_2 σ_3))) ∧ (¬ a1 ≤ 12 → P (-2) σ))

def v_X11_build_L30 (x1 : Int32) (P : Int32 → Mem → Prop) : Nat → Int32 → Mem → Prop
  | 0, _, _ => False
  | n + 1, x2, σ => ((σ.1 15 6) ≤ x2 → P (σ.1 5 1) σ) ∧ (¬ (σ.1 15 6) ≤ x2 → v_X11_hasBit (Int32.toInt64 x1) x2 σ (fun (r_5 : Int32) (σ_6 : Mem) => (r_5 = 0 → v_X11_build_L30 x1 P n (x2 + 1) σ_6) ∧ (¬ r_5 = 0 → vp_in x2 12 ∧ (v_X11_bar (σ_6.1 16 (Int32.toNatClampNeg x2)) σ_6 (fun (r_7 : Int32) (σ_8 : Mem) => v_X11_build_L30 x1 P n (x2 + 1) σ_8)))))

def v_X11_build (a1 : Int32) (σ : Mem) (P : Int32 → Mem → Prop) : Prop := v_X5_isSet a1 σ (fun (r_1 : Int32) (σ_2 : Mem) => (r_1 = 0 → P (-2) σ_2) ∧ (¬ r_1 = 0 → v_X7_clear σ_2 (fun (σ_3 : Mem) => v_X2_clear σ_3 (fun (σ_4 : Mem) => v_X11_build_L30 a1 P 5000 0 σ_4))))

def v_X11_change (a1 : Int32) (a2 : Int32) (σ : Mem) (P : Int32 → Mem → Prop) : Prop := v_X7_knows a1 σ (fun (r_1 : Int32) (σ_2 : Mem) => (r_1 = 0 → P (-1) σ_2) ∧ (¬ r_1 = 0 → v_X7_knows a2 σ_2 (fun (r_3 : Int32) (σ_4 : Mem) => (r_3 = 0 → P (-1) σ_4) ∧ (¬ r_3 = 0 → (a1 = a2 → P 0 σ_4) ∧ (¬ a1 = a2 → vp_in a1 12 ∧ (vp_in a1 12 ∧ (vp_in a2 12 ∧ (vp_in a2 12 ∧ (P 1 (wI (wI σ_4 (bB + Int32.toNatClampNeg a1) 3 (σ_4.1 (bB + Int32.toNatClampNeg a2) 3)) (bB + Int32.toNatClampNeg a2) 3 (σ_4.1 (bB + Int32.toNatClampNeg a1) 3)))))))))))

def v_X11_lookAtFrame (σ : Mem) (P : Mem → Prop) : Prop := v_X11_lookAtGrips σ (fun (σ_1 : Mem) => v_X3_countMoves σ_1 (fun (σ_2 : Mem) => P σ_2))

def v_X11_way (σ : Mem) (P : Int32 → Mem → Prop) : Prop := v_X11_lookAtFrame σ (fun (σ_1 : Mem) => v_X3_wayOf σ_1 (fun (r_2 : Int32) (σ_3 : Mem) => P r_2 σ_3))

def v_X11_least (σ : Mem) (P : Int32 → Mem → Prop) : Prop := v_X11_lookAtFrame σ (fun (σ_1 : Mem) => v_X3_leastWay (σ_1.1 5 1) σ_1 (fun (r_2 : Int32) (σ_3 : Mem) => P r_2 σ_3))

def v_X11_arrange (σ : Mem) (P : Int32 → Mem → Prop) : Prop := v_X11_lookAtFrame σ (fun (σ_1 : Mem) => v_X3_leastWay (σ_1.1 5 1) σ_1 (fun (r_2 : Int32) (σ_3 : Mem) => v_X3_putInOrder σ_3 (fun (r_4 : Int32) (σ_5 : Mem) => P r_4 σ_5)))

def v_X11_trouble (a1 : Int32) (σ : Mem) (P : Int32 → Mem → Prop) : Prop := v_X1_knows a1 σ (fun (r_1 : Int32) (σ_2 : Mem) => (r_1 = 0 → P (-1) σ_2) ∧ (¬ r_1 = 0 → v_X11_lookAtGrips σ_2 (fun (σ_3 : Mem) => vp_in a1 8 ∧ (v_X6_plan (bG + Int32.toNatClampNeg a1) σ_3 (fun (σ_5 : Mem) => v_X6_leastTrouble σ_5 (fun (r_6 : Int32) (σ_7 : Mem) => P r_6 σ_7))))))

def v_X11_grip (a1 : Int32) (a2 : Int32) (σ : Mem) (P : Int32 → Mem → Prop) : Prop := v_X11_hasStep a1 a2 σ (fun (r_1 : Int32) (σ_2 : Mem) => (r_1 = 0 → P (-1) σ_2) ∧ (¬ r_1 = 0 → v_X11_lookAtGrips σ_2 (fun (σ_3 : Mem) => vp_in a1 8 ∧ (v_X6_plan (bG + Int32.toNatClampNeg a1) σ_3 (fun (σ_5 : Mem) => v_X6_setAt a2 σ_5 (fun (r_6 : Int32) (σ_7 : Mem) => P r_6 σ_7))))))

def v_X11_hasHearing_L2 (o0 : Nat) (x1 : Int32) (x2 : Int32) (P : Int32 → Mem → Prop) : Nat → Int32 → Mem → Prop
  | 0, _, _ => False
  | n + 1, x3, σ => (x2 ≤ x3 → P 1 σ) ∧ (¬ x2 ≤ x3 → vp_in (x1 + x3) 64 ∧ (((σ.1 (o0 + 4) (Int32.toNatClampNeg (x1 + x3))) < 0 → P 0 σ) ∧ (¬ (σ.1 (o0 + 4) (Int32.toNatClampNeg (x1 + x3))) < 0 → ((σ.1 (o0 + 4) (Int32.toNatClampNeg (x1 + x3))) ≤ 2 → v_X11_hasHearing_L2 o0 x1 x2 P n (x3 + 1) σ) ∧ (¬ (σ.1 (o0 + 4) (Int32.toNatClampNeg (x1 + x3))) ≤ 2 → P 0 σ))))

def v_X11_hasHearing (o0 : Nat) (a1 : Int32) (a2 : Int32) (σ : Mem) (P : Int32 → Mem → Prop) : Prop := v_X11_hasHearing_L2 o0 a1 a2 P 5000 0 σ

def v_X11_heard_J77 (P : Int32 → Mem → Prop) (x1 : Int32) (x4 : Int32) (o5 : Nat) (x6 : Int32) (σ : Mem) : Prop := (x6 = 0 → v_X11_hasHearing o5 x4 (σ.1 1 4) σ (fun (r_12 : Int32) (σ_13 : Mem) => (r_12 = 0 → P (-2) σ_13) ∧ (¬ r_12 = 0 → v_X2_isFull σ_13 (fun (r_14 : Int32) (σ_15 : Mem) => (r_14 = 0 → v_X2_add x1 o5 x4 (σ_15.1 1 4) σ_15 (fun (r_16 : Int32) (σ_17 : Mem) => P r_16 σ_17)) ∧ (¬ r_14 = 0 → P (-4) σ_15))))) ∧ (¬ x6 = 0 → v_X11_fail x6 σ (fun (r_18 : Int32) (σ_19 : Mem) => P r_18 σ_19))

def v_X11_heard (a1 : Int32) (a2 : Int32) (a3 : Int32) (a4 : Int32) (σ : Mem) (P : Int32 → Mem → Prop) : Prop := v_X11_isSheet a2 (wI σ 0 10 0) (fun (r_1 : Int32) (σ_2 : Mem) => (r_1 = 0 → P (-1) σ_2) ∧ (¬ r_1 = 0 → v_X7_isSet a1 σ_2 (fun (r_3 : Int32) (σ_4 : Mem) => (r_3 = 0 → P (-2) σ_4) ∧ (¬ r_3 = 0 → v_X11_isLane a3 σ_4 (fun (r_5 : Int32) (σ_6 : Mem) => (r_5 = 0 → P (-2) σ_6) ∧ (¬ r_5 = 0 → vp_in a2 4 ∧ (v_X8_faultAs (bT + Int32.toNatClampNeg a2) a3 σ_6 (fun (r_8 : Int32) (σ_9 : Mem) => (r_8 = 0 → v_X8_hasCells (bT + Int32.toNatClampNeg a2) a4 (Int32.toInt64 (σ_9.1 1 4)) σ_9 (fun (r_10 : Int32) (σ_11 : Mem) => (r_10 = 0 → v_X11_heard_J77 P a1 a4 (bT + Int32.toNatClampNeg a2) 3 σ_11) ∧ (¬ r_10 = 0 → v_X11_heard_J77 P a1 a4 (bT + Int32.toNatClampNeg a2) r_8 σ_11))) ∧ (¬ r_8 = 0 → v_X11_heard_J77 P a1 a4 (bT + Int32.toNatClampNeg a2) r_8 σ_9)))))))))

def v_X11_worn (σ : Mem) (P : Int32 → Mem → Prop) : Prop := v_X2_findWorn σ (fun (σ_1 : Mem) => v_X2_explains σ_1 (fun (r_2 : Int32) (σ_3 : Mem) => (r_2 = 0 → P (-9) σ_3) ∧ (¬ r_2 = 0 → v_X2_howManyWorn σ_3 (fun (r_4 : Int32) (σ_5 : Mem) => P r_4 σ_5))))

def v_X11_sure (a1 : Int32) (a2 : Int32) (σ : Mem) (P : Int32 → Mem → Prop) : Prop := v_X11_hasFelt a1 a2 σ (fun (r_1 : Int32) (σ_2 : Mem) => (r_1 = 0 → P (-1) σ_2) ∧ (¬ r_1 = 0 → v_X2_findWorn σ_2 (fun (σ_3 : Mem) => v_X2_explains σ_3 (fun (r_4 : Int32) (σ_5 : Mem) => (r_4 = 0 → P (-3) σ_5) ∧ (¬ r_4 = 0 → v_X2_takesAsWorn a1 a2 σ_5 (fun (r_6 : Int32) (σ_7 : Mem) => (r_6 = 0 → v_X2_takeAsWorn a1 a2 σ_7 (fun (σ_8 : Mem) => v_X2_explains σ_8 (fun (r_9 : Int32) (σ_10 : Mem) => (r_9 = 0 → P 0 σ_10) ∧ (¬ r_9 = 0 → P 2 σ_10)))) ∧ (¬ r_6 = 0 → P 1 σ_7)))))))

def v_X11_unhear (σ : Mem) (P : Int32 → Mem → Prop) : Prop := v_X2_clear σ (fun (σ_1 : Mem) => P (σ.1 27 4) σ_1)

def v_X11_isShift (a0 : Int32) (σ : Mem) (P : Int32 → Mem → Prop) : Prop := (a0 < (-2) → P 0 σ) ∧ (¬ a0 < (-2) → (2 < a0 → P 0 σ) ∧ (¬ 2 < a0 → (a0 = 0 → P 0 σ) ∧ (¬ a0 = 0 → P 1 σ)))

def v_X11_songsWith (a1 : Int32) (a2 : Int32) (σ : Mem) (P : Int32 → Mem → Prop) : Prop := vp_in a1 36 ∧ (v_X10_retune a1 ((σ.1 2 (Int32.toNatClampNeg a1)) + a2) σ (fun (σ_1 : Mem) => v_X11_lookAtGrips σ_1 (fun (σ_2 : Mem) => v_X1_playedWith σ_2 (fun (r_3 : Int32) (σ_4 : Mem) => v_J6_bitCount_0f7a4 r_3 σ_4 (fun (r_5 : Int32) (σ_6 : Mem) => v_X10_retune a1 (σ.1 2 (Int32.toNatClampNeg a1)) σ_6 (fun (σ_7 : Mem) => P r_5 σ_7))))))

def v_X11_otherwise (a1 : Int32) (a2 : Int32) (σ : Mem) (P : Int32 → Mem → Prop) : Prop := v_X10_knows a1 σ (fun (r_1 : Int32) (σ_2 : Mem) => (r_1 = 0 → P (-1) σ_2) ∧ (¬ r_1 = 0 → v_X11_isShift a2 σ_2 (fun (r_3 : Int32) (σ_4 : Mem) => (r_3 = 0 → P (-2) σ_4) ∧ (¬ r_3 = 0 → vp_in a1 36 ∧ (v_X11_isTone ((σ_4.1 2 (Int32.toNatClampNeg a1)) + a2) σ_4 (fun (r_5 : Int32) (σ_6 : Mem) => (r_5 = 0 → P (-2) σ_6) ∧ (¬ r_5 = 0 → v_X11_songsWith a1 a2 σ_6 (fun (r_7 : Int32) (σ_8 : Mem) => P r_7 σ_8))))))))

def v_X11_best_J110 (kb : Int32 → Int32 → Int32 → Int32 → Mem → Prop) (K134 : Int32 → Int32 → Int32 → Mem → Prop) (P : Int32 → Mem → Prop) (x1 : Int32) (x2 : Int32) (x3 : Int32) (x4 : Int32) (x5 : Int32) (x7 : Int32) (x8 : Int32) (x9 : Int32) (xs0 : Int32) (σ : Mem) : Prop := (xs0 ≤ x2 → kb x2 x3 x4 (x8 + 1) σ) ∧ (¬ xs0 ≤ x2 → kb xs0 x5 x9 (x8 + 1) σ)

def v_X11_best_L65 (x1 : Int32) (x5 : Int32) (x7 : Int32) (K134 : Int32 → Int32 → Int32 → Mem → Prop) (P : Int32 → Mem → Prop) : Nat → Int32 → Int32 → Int32 → Int32 → Mem → Prop
  | 0, _, _, _, _, _ => False
  | n + 1, x2, x3, x4, x8, σ => (x7 ≤ x8 → K134 x2 x3 x4 σ) ∧ (¬ x7 ≤ x8 → vp_in x8 4 ∧ (vp_in x5 36 ∧ (v_X11_isTone ((σ.1 2 (Int32.toNatClampNeg x5)) + (tShifts (Int32.toNatClampNeg x8))) σ (fun (r_6 : Int32) (σ_7 : Mem) => (r_6 = 0 → v_X11_best_J110 (v_X11_best_L65 x1 x5 x7 K134 P n) K134 P x1 x2 x3 x4 x5 x7 x8 (tShifts (Int32.toNatClampNeg x8)) 0 σ_7) ∧ (¬ r_6 = 0 → v_X11_songsWith x5 (tShifts (Int32.toNatClampNeg x8)) σ_7 (fun (r_8 : Int32) (σ_9 : Mem) => v_X11_best_J110 (v_X11_best_L65 x1 x5 x7 K134 P n) K134 P x1 x2 x3 x4 x5 x7 x8 (tShifts (Int32.toNatClampNeg x8)) r_8 σ_9))))))

def v_X11_best_L40 (x1 : Int32) (K140 : Int32 → Int32 → Int32 → Mem → Prop) (P : Int32 → Mem → Prop) : Nat → Int32 → Int32 → Int32 → Int32 → Mem → Prop
  | 0, _, _, _, _, _ => False
  | n + 1, x2, x3, x4, x5, σ => ((σ.1 1 4) ≤ x5 → K140 x2 x3 x4 σ) ∧ (¬ (σ.1 1 4) ≤ x5 → v_X11_best_L65 x1 x5 (nI 4) (fun (x2_10 : Int32) (x3_10 : Int32) (x4_10 : Int32) (σ_11 : Mem) => v_X11_best_L40 x1 K140 P n x2_10 x3_10 x4_10 (x5 + 1) σ_11) P 5000 x2 x3 x4 0 σ)

def v_X11_best (a1 : Int32) (σ : Mem) (P : Int32 → Mem → Prop) : Prop := (a1 < 0 → P 99 σ) ∧ (¬ a1 < 0 → (a1 ≤ 2 → v_X11_lookAtGrips σ (fun (σ_1 : Mem) => v_X1_playedWith σ_1 (fun (r_2 : Int32) (σ_3 : Mem) => v_J6_bitCount_0f7a4 r_2 σ_3 (fun (r_4 : Int32) (σ_5 : Mem) => v_X11_best_L40 a1 (fun (x2_12 : Int32) (x3_12 : Int32) (x4_12 : Int32) (σ_13 : Mem) => (a1 = 0 → P x3_12 σ_13) ∧ (¬ a1 = 0 → (a1 = 1 → P x4_12 σ_13) ∧ (¬ a1 = 1 → (x3_12 = (-9) → P (-9) σ_13) ∧ (¬ x3_12 = (-9) → P x2_12 σ_13)))) P 5000 r_4 (-9) 0 0 σ_5)))) ∧ (¬ a1 ≤ 2 → P 99 σ))

def v_X11_sheet (a1 : Int32) (a2 : Int32) (a3 : Int32) (σ : Mem) (P : Int32 → Mem → Prop) : Prop := v_X11_isSheet a1 (wI σ 0 10 0) (fun (r_1 : Int32) (σ_2 : Mem) => (r_1 = 0 → P (-1) σ_2) ∧ (¬ r_1 = 0 → v_X11_isLane a2 σ_2 (fun (r_3 : Int32) (σ_4 : Mem) => (r_3 = 0 → P (-2) σ_4) ∧ (¬ r_3 = 0 → (a3 ≤ 64 → (0 ≤ a3 → vp_in a1 4 ∧ (v_X8_begin (bT + Int32.toNatClampNeg a1) a2 a3 σ_4 (fun (σ_6 : Mem) => P 1 σ_6))) ∧ (¬ 0 ≤ a3 → v_X11_fail 4 σ_4 (fun (r_7 : Int32) (σ_8 : Mem) => P r_7 σ_8))) ∧ (¬ a3 ≤ 64 → P (-2) σ_4)))))

def v_X11_lose (a1 : Int32) (σ : Mem) (P : Int32 → Mem → Prop) : Prop := v_X11_isSheet a1 σ (fun (r_1 : Int32) (σ_2 : Mem) => (r_1 = 0 → P (-1) σ_2) ∧ (¬ r_1 = 0 → vp_in a1 4 ∧ (v_X8_drop (bT + Int32.toNatClampNeg a1) σ_2 (fun (r_4 : Int32) (σ_5 : Mem) => v_X11_asNumber r_4 σ_5 (fun (r_6 : Int32) (σ_7 : Mem) => P r_6 σ_7)))))

def v_X11_put (a1 : Int32) (a2 : Int32) (a3 : Int32) (σ : Mem) (P : Int32 → Mem → Prop) : Prop := v_X11_isSheet a1 (wI σ 0 10 0) (fun (r_1 : Int32) (σ_2 : Mem) => (r_1 = 0 → P (-1) σ_2) ∧ (¬ r_1 = 0 → vp_in a1 4 ∧ (v_X8_isNothing (bT + Int32.toNatClampNeg a1) σ_2 (fun (r_4 : Int32) (σ_5 : Mem) => (r_4 = 0 → vp_in a1 4 ∧ (v_X8_hasCell (bT + Int32.toNatClampNeg a1) a2 σ_5 (fun (r_7 : Int32) (σ_8 : Mem) => (r_7 = 0 → v_X11_fail 3 σ_8 (fun (r_9 : Int32) (σ_10 : Mem) => P r_9 σ_10)) ∧ (¬ r_7 = 0 → vp_in a1 4 ∧ (v_X8_write (bT + Int32.toNatClampNeg a1) a2 a3 σ_8 (fun (σ_12 : Mem) => P 1 σ_12)))))) ∧ (¬ r_4 = 0 → v_X11_fail 1 σ_5 (fun (r_13 : Int32) (σ_14 : Mem) => P r_13 σ_14))))))

def v_X11_at_J62 (P : Int64 → Mem → Prop) (x1 : Int32) (x2 : Int32) (σ : Mem) : Prop := ((σ.1 0 10) = 0 → vp_in x1 4 ∧ (vp_in x2 64 ∧ (P (Int32.toInt64 (σ.1 ((bT + Int32.toNatClampNeg x1) + 4) (Int32.toNatClampNeg x2))) σ))) ∧ (¬ (σ.1 0 10) = 0 → P (-9223372036854775808) σ)

def v_X11_at (a1 : Int32) (a2 : Int32) (a3 : Int32) (σ : Mem) (P : Int64 → Mem → Prop) : Prop := v_X11_isSheet a1 (wI σ 0 10 0) (fun (r_1 : Int32) (σ_2 : Mem) => (r_1 = 0 → P (-9223372036854775808) σ_2) ∧ (¬ r_1 = 0 → v_X11_isLane a3 σ_2 (fun (r_3 : Int32) (σ_4 : Mem) => (r_3 = 0 → P (-9223372036854775808) σ_4) ∧ (¬ r_3 = 0 → vp_in a1 4 ∧ (v_X8_faultAs (bT + Int32.toNatClampNeg a1) a3 σ_4 (fun (r_6 : Int32) (σ_7 : Mem) => (((wI σ_7 0 10 r_6).1 0 10) = 0 → vp_in a1 4 ∧ (v_X8_hasCell (bT + Int32.toNatClampNeg a1) a2 (wI σ_7 0 10 r_6) (fun (r_9 : Int32) (σ_10 : Mem) => (r_9 = 0 → v_X11_at_J62 P a1 a2 (wI σ_10 0 10 3)) ∧ (¬ r_9 = 0 → v_X11_at_J62 P a1 a2 σ_10)))) ∧ (¬ ((wI σ_7 0 10 r_6).1 0 10) = 0 → v_X11_at_J62 P a1 a2 (wI σ_7 0 10 r_6))))))))

def v_X11_leaveInTrace (a1 : Int32) (σ : Mem) (P : Mem → Prop) : Prop := P (wI σ 0 9 ((31 * (σ.1 0 9)) + a1))

def v_X11_tellByHand (o1 : Nat) (σ : Mem) (P : Int32 → Mem → Prop) : Prop := v_X11_leaveInTrace 1 σ (fun (σ_1 : Mem) => v_J13_bitCount_95d88 (σ_1.2 o1 1) σ_1 (fun (r_2 : Int32) (σ_3 : Mem) => P r_2 σ_3))

def v_X11_tellChord (o1 : Nat) (σ : Mem) (P : Int32 → Mem → Prop) : Prop := v_X11_leaveInTrace 2 σ (fun (σ_1 : Mem) => v_X11_tellByHand o1 σ_1 (fun (r_2 : Int32) (σ_3 : Mem) => P (r_2 + (σ_3.1 o1 0)) σ_3))

def v_X11_tellSeventh (o1 : Nat) (σ : Mem) (P : Int32 → Mem → Prop) : Prop := v_X11_leaveInTrace 3 σ (fun (σ_1 : Mem) => v_X11_tellChord o1 σ_1 (fun (r_2 : Int32) (σ_3 : Mem) => v_X11_tellByHand o1 σ_3 (fun (r_4 : Int32) (σ_5 : Mem) => P (r_2 + r_4) σ_5)))

def v_X11_tell (a1 : Int32) (σ : Mem) (P : Int32 → Mem → Prop) : Prop := v_X7_knows a1 σ (fun (r_1 : Int32) (σ_2 : Mem) => (r_1 = 0 → P (-1) σ_2) ∧ (¬ r_1 = 0 → vp_in a1 12 ∧ (v_X0_kind (bB + Int32.toNatClampNeg a1) σ_2 (fun (r_4 : Int32) (σ_5 : Mem) => (r_4 = 1 → v_X11_tellChord (bB + Int32.toNatClampNeg a1) σ_5 (fun (r_6 : Int32) (σ_7 : Mem) => P r_6 σ_7)) ∧ (¬ r_4 = 1 → (r_4 = 2 → v_X11_tellSeventh (bB + Int32.toNatClampNeg a1) σ_5 (fun (r_8 : Int32) (σ_9 : Mem) => P r_8 σ_9)) ∧ (¬ r_4 = 2 → v_X11_tellByHand (bB + Int32.toNatClampNeg a1) σ_5 (fun (r_10 : Int32) (σ_11 : Mem) => P r_10 σ_11)))))))

def v_X11_name (a1 : Int32) (σ : Mem) (P : Int32 → Mem → Prop) : Prop := v_X7_knows a1 σ (fun (r_1 : Int32) (σ_2 : Mem) => (r_1 = 0 → P (-1) σ_2) ∧ (¬ r_1 = 0 → vp_in a1 12 ∧ (v_X0_kind (bB + Int32.toNatClampNeg a1) σ_2 (fun (r_4 : Int32) (σ_5 : Mem) => (r_4 = 2 → v_X11_leaveInTrace 5 σ_5 (fun (σ_6 : Mem) => P 77 σ_6)) ∧ (¬ r_4 = 2 → v_X11_leaveInTrace 4 σ_5 (fun (σ_7 : Mem) => P (a1 + 10) σ_7))))))

def v_X11_as (a1 : Int32) (a2 : Int32) (σ : Mem) (P : Int32 → Mem → Prop) : Prop := v_X7_knows a1 (wI σ 0 10 0) (fun (r_1 : Int32) (σ_2 : Mem) => (r_1 = 0 → P (-1) σ_2) ∧ (¬ r_1 = 0 → (a2 < 0 → P (-2) σ_2) ∧ (¬ a2 < 0 → (a2 ≤ 2 → vp_in a1 12 ∧ (v_X0_kind (bB + Int32.toNatClampNeg a1) σ_2 (fun (r_4 : Int32) (σ_5 : Mem) => (a2 ≤ r_4 → P 1 σ_5) ∧ (¬ a2 ≤ r_4 → v_X11_fail 2 σ_5 (fun (r_6 : Int32) (σ_7 : Mem) => P r_6 σ_7))))) ∧ (¬ a2 ≤ 2 → P (-2) σ_2))))

def v_X11_trace (σ : Mem) (P : Int32 → Mem → Prop) : Prop := P (σ.1 0 9) σ

def v_X11_fault (σ : Mem) (P : Int32 → Mem → Prop) : Prop := P (σ.1 0 10) σ

def v_X11_told (a1 : Int32) (σ : Mem) (P : Int32 → Mem → Prop) : Prop := (a1 = 0 → P (σ.1 1 4) σ) ∧ (¬ a1 = 0 → (a1 = 1 → v_J13_bitCount_95d88 (σ.2 1 3) σ (fun (r_1 : Int32) (σ_2 : Mem) => P r_1 σ_2)) ∧ (¬ a1 = 1 → (a1 = 2 → P (σ.1 5 1) σ) ∧ (¬ a1 = 2 → (a1 = 3 → P (σ.1 13 1) σ) ∧ (¬ a1 = 3 → (a1 = 4 → P (σ.1 15 6) σ) ∧ (¬ a1 = 4 → (a1 = 5 → P (σ.1 27 4) σ) ∧ (¬ a1 = 5 → (a1 = 6 → v_X10_all σ (fun (r_3 : Int64) (σ_4 : Mem) => v_X10_classesAmong r_3 σ_4 (fun (r_5 : Int32) (σ_6 : Mem) => v_J6_bitCount_0f7a4 r_5 σ_6 (fun (r_7 : Int32) (σ_8 : Mem) => P r_7 σ_8)))) ∧ (¬ a1 = 6 → P (-2) σ)))))))

def v_X12_fails (a1 : Int32) (σ : Mem) (P : Int32 → Mem → Prop) : Prop := P ((-10) - a1) (wI σ 33 0 a1)

def v_X12_lost (a1 : Int32) (σ : Mem) (P : Int64 → Mem → Prop) : Prop := P (-9223372036854775808) (wI σ 33 0 a1)

def v_X12_within (a0 : Int32) (a1 : Int32) (a2 : Int32) (σ : Mem) (P : Int32 → Mem → Prop) : Prop := (a0 < a1 → P 0 σ) ∧ (¬ a0 < a1 → (a2 < a0 → P 0 σ) ∧ (¬ a2 < a0 → P 1 σ))

def v_X12_countOf_L4 (x0 : Int32) (P : Int32 → Mem → Prop) : Nat → Int32 → Int32 → Mem → Prop
  | 0, _, _, _ => False
  | n + 1, x1, x2, σ => (12 ≤ x2 → P x1 σ) ∧ (¬ 12 ≤ x2 → v_X12_countOf_L4 x0 P n (x1 + ((x0 >>> (x2 &&& 31)) &&& 1)) (x2 + 1) σ)

def v_X12_countOf (a0 : Int32) (σ : Mem) (P : Int32 → Mem → Prop) : Prop := v_X12_countOf_L4 a0 P 5000 0 0 σ

def v_X12_isString (a1 : Int32) (σ : Mem) (P : Int32 → Mem → Prop) : Prop := (a1 < 0 → P 0 σ) ∧ (¬ a1 < 0 → ((σ.1 33 2) ≤ a1 → P 0 σ) ∧ (¬ (σ.1 33 2) ≤ a1 → P 1 σ))

def v_X12_isBar (a1 : Int32) (σ : Mem) (P : Int32 → Mem → Prop) : Prop := (a1 < 0 → P 0 σ) ∧ (¬ a1 < 0 → ((σ.1 33 5) ≤ a1 → P 0 σ) ∧ (¬ (σ.1 33 5) ≤ a1 → P 1 σ))

def v_X12_isSet (a1 : Int32) (σ : Mem) (P : Int32 → Mem → Prop) : Prop := v_X12_within a1 0 (((1 : Int32) <<< ((σ.1 33 5) &&& 31)) - 1) σ (fun (r_1 : Int32) (σ_2 : Mem) => isB r_1 ∧ P r_1 σ_2)

def v_X12_isChord (a0 : Int32) (σ : Mem) (P : Int32 → Mem → Prop) : Prop := v_X12_within a0 0 95 σ (fun (r_1 : Int32) (σ_2 : Mem) => isB r_1 ∧ P r_1 σ_2)

def v_X12_classOf (a1 : Int32) (σ : Mem) (P : Int32 → Mem → Prop) : Prop := vp_in a1 36 ∧ (P ((σ.1 34 (Int32.toNatClampNeg a1)) - (σ.1 34 (Int32.toNatClampNeg a1)) / 12 * 12) σ)

def v_X12_string (a1 : Int32) (a2 : Int32) (σ : Mem) (P : Int32 → Mem → Prop) : Prop := v_X12_within a1 0 60 σ (fun (r_1 : Int32) (σ_2 : Mem) => (r_1 = 0 → P (-2) σ_2) ∧ (¬ r_1 = 0 → ((σ_2.1 33 2) = 36 → P (-4) σ_2) ∧ (¬ (σ_2.1 33 2) = 36 → vp_in (σ_2.1 33 2) 36 ∧ (vp_in ((wI σ_2 34 (Int32.toNatClampNeg (σ_2.1 33 2)) a1).1 33 2) 36 ∧ (P (((wI (wI (wI σ_2 34 (Int32.toNatClampNeg (σ_2.1 33 2)) a1) 35 (Int32.toNatClampNeg ((wI σ_2 34 (Int32.toNatClampNeg (σ_2.1 33 2)) a1).1 33 2)) (vp_nar .boolean a2)) 33 2 (((wI (wI σ_2 34 (Int32.toNatClampNeg (σ_2.1 33 2)) a1) 35 (Int32.toNatClampNeg ((wI σ_2 34 (Int32.toNatClampNeg (σ_2.1 33 2)) a1).1 33 2)) (vp_nar .boolean a2)).1 33 2) + 1)).1 33 2) - 1) (wI (wI (wI σ_2 34 (Int32.toNatClampNeg (σ_2.1 33 2)) a1) 35 (Int32.toNatClampNeg ((wI σ_2 34 (Int32.toNatClampNeg (σ_2.1 33 2)) a1).1 33 2)) (vp_nar .boolean a2)) 33 2 (((wI (wI σ_2 34 (Int32.toNatClampNeg (σ_2.1 33 2)) a1) 35 (Int32.toNatClampNeg ((wI σ_2 34 (Int32.toNatClampNeg (σ_2.1 33 2)) a1).1 33 2)) (vp_nar .boolean a2)).1 33 2) + 1)))))))

def v_X12_tune (a1 : Int32) (a2 : Int32) (σ : Mem) (P : Int32 → Mem → Prop) : Prop := v_X12_isString a1 σ (fun (r_1 : Int32) (σ_2 : Mem) => (r_1 = 0 → P (-1) σ_2) ∧ (¬ r_1 = 0 → v_X12_within a2 0 60 σ_2 (fun (r_3 : Int32) (σ_4 : Mem) => (r_3 = 0 → P (-2) σ_4) ∧ (¬ r_3 = 0 → vp_in a1 36 ∧ (vp_in a1 36 ∧ (P (σ_4.1 34 (Int32.toNatClampNeg a1)) (wI σ_4 34 (Int32.toNatClampNeg a1) a2)))))))

def v_X12_above (a0 : Int32) (a1 : Int32) (σ : Mem) (P : Int32 → Mem → Prop) : Prop := P ((1 : Int32) <<< (((a0 + a1) - (a0 + a1) / 12 * 12) &&& 31)) σ

def v_X12_classesOf (a0 : Int32) (σ : Mem) (P : Int32 → Mem → Prop) : Prop := v_X12_above (a0 - a0 / 12 * 12) 0 σ (fun (r_1 : Int32) (σ_2 : Mem) => ((a0 / 12) = 0 → v_X12_above (a0 - a0 / 12 * 12) 4 σ_2 (fun (r_3 : Int32) (σ_4 : Mem) => v_X12_above (a0 - a0 / 12 * 12) 7 σ_4 (fun (r_5 : Int32) (σ_6 : Mem) => P ((r_1 ||| r_3) ||| r_5) σ_6))) ∧ (¬ (a0 / 12) = 0 → ((a0 / 12) = 1 → v_X12_above (a0 - a0 / 12 * 12) 3 σ_2 (fun (r_7 : Int32) (σ_8 : Mem) => v_X12_above (a0 - a0 / 12 * 12) 7 σ_8 (fun (r_9 : Int32) (σ_10 : Mem) => P ((r_1 ||| r_7) ||| r_9) σ_10))) ∧ (¬ (a0 / 12) = 1 → ((a0 / 12) = 2 → v_X12_above (a0 - a0 / 12 * 12) 4 σ_2 (fun (r_11 : Int32) (σ_12 : Mem) => v_X12_above (a0 - a0 / 12 * 12) 7 σ_12 (fun (r_13 : Int32) (σ_14 : Mem) => v_X12_above (a0 - a0 / 12 * 12) 10 σ_14 (fun (r_15 : Int32) (σ_16 : Mem) => P (((r_1 ||| r_11) ||| r_13) ||| r_15) σ_16)))) ∧ (¬ (a0 / 12) = 2 → ((a0 / 12) = 3 → v_X12_above (a0 - a0 / 12 * 12) 3 σ_2 (fun (r_17 : Int32) (σ_18 : Mem) => v_X12_above (a0 - a0 / 12 * 12) 7 σ_18 (fun (r_19 : Int32) (σ_20 : Mem) => v_X12_above (a0 - a0 / 12 * 12) 10 σ_20 (fun (r_21 : Int32) (σ_22 : Mem) => P (((r_1 ||| r_17) ||| r_19) ||| r_21) σ_22)))) ∧ (¬ (a0 / 12) = 3 → ((a0 / 12) = 4 → v_X12_above (a0 - a0 / 12 * 12) 3 σ_2 (fun (r_23 : Int32) (σ_24 : Mem) => v_X12_above (a0 - a0 / 12 * 12) 6 σ_24 (fun (r_25 : Int32) (σ_26 : Mem) => P ((r_1 ||| r_23) ||| r_25) σ_26))) ∧ (¬ (a0 / 12) = 4 → ((a0 / 12) = 5 → v_X12_above (a0 - a0 / 12 * 12) 5 σ_2 (fun (r_27 : Int32) (σ_28 : Mem) => v_X12_above (a0 - a0 / 12 * 12) 7 σ_28 (fun (r_29 : Int32) (σ_30 : Mem) => P ((r_1 ||| r_27) ||| r_29) σ_30))) ∧ (¬ (a0 / 12) = 5 → ((a0 / 12) = 6 → v_X12_above (a0 - a0 / 12 * 12) 4 σ_2 (fun (r_31 : Int32) (σ_32 : Mem) => v_X12_above (a0 - a0 / 12 * 12) 7 σ_32 (fun (r_33 : Int32) (σ_34 : Mem) => v_X12_above (a0 - a0 / 12 * 12) 11 σ_34 (fun (r_35 : Int32) (σ_36 : Mem) => P (((r_1 ||| r_31) ||| r_33) ||| r_35) σ_36)))) ∧ (¬ (a0 / 12) = 6 → v_X12_above (a0 - a0 / 12 * 12) 4 σ_2 (fun (r_37 : Int32) (σ_38 : Mem) => v_X12_above (a0 - a0 / 12 * 12) 8 σ_38 (fun (r_39 : Int32) (σ_40 : Mem) => P ((r_1 ||| r_37) ||| r_39) σ_40))))))))))

def v_X12_isSeventh (a0 : Int32) (σ : Mem) (P : Int32 → Mem → Prop) : Prop := ((a0 / 12) = 2 → P 1 σ) ∧ (¬ (a0 / 12) = 2 → ((a0 / 12) = 3 → P 1 σ) ∧ (¬ (a0 / 12) = 3 → ((a0 / 12) = 6 → P 1 σ) ∧ (¬ (a0 / 12) = 6 → P 0 σ)))

def v_X12_newBar_L35 (K62 : Mem → Prop) (P : Int32 → Mem → Prop) : Nat → Int32 → Mem → Prop
  | 0, _, _ => False
  | n + 1, x3, σ => (36 ≤ x3 → K62 σ) ∧ (¬ 36 ≤ x3 → vp_in ((36 * (σ.1 33 5)) + x3) 432 ∧ (v_X12_newBar_L35 K62 P n (x3 + 1) (wI σ 39 (Int32.toNatClampNeg ((36 * (σ.1 33 5)) + x3)) 0)))

def v_X12_newBar (a1 : Int32) (a2 : Int32) (σ : Mem) (P : Int32 → Mem → Prop) : Prop := vp_in (σ.1 33 5) 12 ∧ (vp_in ((wI σ 36 (Int32.toNatClampNeg (σ.1 33 5)) a1).1 33 5) 12 ∧ (vp_in ((wI (wI σ 36 (Int32.toNatClampNeg (σ.1 33 5)) a1) 37 (Int32.toNatClampNeg ((wI σ 36 (Int32.toNatClampNeg (σ.1 33 5)) a1).1 33 5)) a2).1 33 5) 12 ∧ (v_X12_newBar_L35 (fun (σ_2 : Mem) => P (((wI σ_2 33 5 ((σ_2.1 33 5) + 1)).1 33 5) - 1) (wI σ_2 33 5 ((σ_2.1 33 5) + 1))) P 5000 0 (wI (wI (wI σ 36 (Int32.toNatClampNeg (σ.1 33 5)) a1) 37 (Int32.toNatClampNeg ((wI σ 36 (Int32.toNatClampNeg (σ.1 33 5)) a1).1 33 5)) a2) 38 (Int32.toNatClampNeg ((wI (wI σ 36 (Int32.toNatClampNeg (σ.1 33 5)) a1) 37 (Int32.toNatClampNeg ((wI σ 36 (Int32.toNatClampNeg (σ.1 33 5)) a1).1 33 5)) a2).1 33 5)) ((wI (wI σ 36 (Int32.toNatClampNeg (σ.1 33 5)) a1) 37 (Int32.toNatClampNeg ((wI σ 36 (Int32.toNatClampNeg (σ.1 33 5)) a1).1 33 5)) a2).1 33 5)))))

def v_X12_hushes (a1 : Int32) (a2 : Int32) (σ : Mem) (P : Int32 → Mem → Prop) : Prop := vp_in a2 36 ∧ (((σ.1 35 (Int32.toNatClampNeg a2)) = 0 → v_X12_classesOf a1 σ (fun (r_1 : Int32) (σ_2 : Mem) => v_X12_classOf a2 σ_2 (fun (r_3 : Int32) (σ_4 : Mem) => (((r_1 >>> (r_3 &&& 31)) &&& 1) = 0 → P 1 σ_4) ∧ (¬ ((r_1 >>> (r_3 &&& 31)) &&& 1) = 0 → P 0 σ_4)))) ∧ (¬ (σ.1 35 (Int32.toNatClampNeg a2)) = 0 → P 0 σ))

def v_X12_cutFor_L20 (x1 : Int32) (x2 : Int32) (P : Int32 → Mem → Prop) : Nat → Int32 → Mem → Prop
  | 0, _, _ => False
  | n + 1, x3, σ => ((σ.1 33 2) ≤ x3 → P x2 σ) ∧ (¬ (σ.1 33 2) ≤ x3 → v_X12_hushes x1 x3 σ (fun (r_5 : Int32) (σ_6 : Mem) => (r_5 = 0 → vp_in ((36 * x2) + x3) 432 ∧ (v_X12_cutFor_L20 x1 x2 P n (x3 + 1) (wI σ_6 39 (Int32.toNatClampNeg ((36 * x2) + x3)) 0))) ∧ (¬ r_5 = 0 → vp_in ((36 * x2) + x3) 432 ∧ (v_X12_cutFor_L20 x1 x2 P n (x3 + 1) (wI σ_6 39 (Int32.toNatClampNeg ((36 * x2) + x3)) 2)))))

def v_X12_cutFor_J13 (P : Int32 → Mem → Prop) (x1 : Int32) (xs0 : Int32) (σ : Mem) : Prop := v_X12_newBar xs0 x1 σ (fun (r_3 : Int32) (σ_4 : Mem) => v_X12_cutFor_L20 x1 r_3 P 5000 0 σ_4)

def v_X12_cutFor (a1 : Int32) (σ : Mem) (P : Int32 → Mem → Prop) : Prop := v_X12_isSeventh a1 σ (fun (r_1 : Int32) (σ_2 : Mem) => (r_1 = 0 → v_X12_cutFor_J13 P a1 1 σ_2) ∧ (¬ r_1 = 0 → v_X12_cutFor_J13 P a1 2 σ_2))

def v_X12_bar (a1 : Int32) (σ : Mem) (P : Int32 → Mem → Prop) : Prop := v_X12_isChord a1 σ (fun (r_1 : Int32) (σ_2 : Mem) => (r_1 = 0 → P (-2) σ_2) ∧ (¬ r_1 = 0 → ((σ_2.1 33 5) = 12 → P (-4) σ_2) ∧ (¬ (σ_2.1 33 5) = 12 → v_X12_cutFor a1 σ_2 (fun (r_3 : Int32) (σ_4 : Mem) => P r_3 σ_4))))

def v_X12_blank (σ : Mem) (P : Int32 → Mem → Prop) : Prop := ((σ.1 33 5) = 12 → P (-4) σ) ∧ (¬ (σ.1 33 5) = 12 → v_X12_newBar 0 (-9) σ (fun (r_1 : Int32) (σ_2 : Mem) => P r_1 σ_2))

def v_X12_felt_J49 (P : Int32 → Mem → Prop) (x1 : Int32) (x2 : Int32) (x3 : Int32) (xs0 : Int32) (σ : Mem) : Prop := (xs0 = x3 → P 0 σ) ∧ (¬ xs0 = x3 → (x3 = 0 → vp_in ((36 * x1) + x2) 432 ∧ (P 1 (wI σ 39 (Int32.toNatClampNeg ((36 * x1) + x2)) 0))) ∧ (¬ x3 = 0 → vp_in ((36 * x1) + x2) 432 ∧ (P 1 (wI σ 39 (Int32.toNatClampNeg ((36 * x1) + x2)) 2))))

def v_X12_felt (a1 : Int32) (a2 : Int32) (a3 : Int32) (σ : Mem) (P : Int32 → Mem → Prop) : Prop := v_X12_isBar a1 σ (fun (r_1 : Int32) (σ_2 : Mem) => (r_1 = 0 → P (-1) σ_2) ∧ (¬ r_1 = 0 → v_X12_isString a2 σ_2 (fun (r_3 : Int32) (σ_4 : Mem) => (r_3 = 0 → P (-1) σ_4) ∧ (¬ r_3 = 0 → vp_in a2 36 ∧ (((σ_4.1 35 (Int32.toNatClampNeg a2)) = 0 → vp_in ((36 * a1) + a2) 432 ∧ (((σ_4.1 39 (Int32.toNatClampNeg ((36 * a1) + a2))) ≤ 0 → v_X12_felt_J49 P a1 a2 a3 0 σ_4) ∧ (¬ (σ_4.1 39 (Int32.toNatClampNeg ((36 * a1) + a2))) ≤ 0 → v_X12_felt_J49 P a1 a2 a3 1 σ_4))) ∧ (¬ (σ_4.1 35 (Int32.toNatClampNeg a2)) = 0 → P (-3) σ_4))))))

def v_X12_wear_J64 (P : Int32 → Mem → Prop) (x1 : Int32) (x2 : Int32) (x4 : Int32) (xs0 : Int32) (σ : Mem) : Prop := vp_in ((36 * x1) + x2) 432 ∧ (P xs0 (wI σ 39 (Int32.toNatClampNeg ((36 * x1) + x2)) x4))

def v_X12_wear_J41 (P : Int32 → Mem → Prop) (x1 : Int32) (x2 : Int32) (xs0 : Int32) (σ : Mem) : Prop := vp_in ((36 * x1) + x2) 432 ∧ (((σ.1 39 (Int32.toNatClampNeg ((36 * x1) + x2))) = xs0 → v_X12_wear_J64 P x1 x2 xs0 0 σ) ∧ (¬ (σ.1 39 (Int32.toNatClampNeg ((36 * x1) + x2))) = xs0 → v_X12_wear_J64 P x1 x2 xs0 1 σ))

def v_X12_wear (a1 : Int32) (a2 : Int32) (a3 : Int32) (σ : Mem) (P : Int32 → Mem → Prop) : Prop := v_X12_isBar a1 σ (fun (r_1 : Int32) (σ_2 : Mem) => (r_1 = 0 → P (-1) σ_2) ∧ (¬ r_1 = 0 → v_X12_isString a2 σ_2 (fun (r_3 : Int32) (σ_4 : Mem) => (r_3 = 0 → P (-1) σ_4) ∧ (¬ r_3 = 0 → vp_in ((36 * a1) + a2) 432 ∧ (((σ_4.1 39 (Int32.toNatClampNeg ((36 * a1) + a2))) = 0 → P (-1) σ_4) ∧ (¬ (σ_4.1 39 (Int32.toNatClampNeg ((36 * a1) + a2))) = 0 → (a3 = 0 → v_X12_wear_J41 P a1 a2 2 σ_4) ∧ (¬ a3 = 0 → v_X12_wear_J41 P a1 a2 1 σ_4)))))))

def v_X12_ofString_L73 (x1 : Int32) (P : Int32 → Mem → Prop) : Nat → Int32 → Int32 → Mem → Prop
  | 0, _, _, _ => False
  | n + 1, x3, x4, σ => ((σ.1 33 5) ≤ x4 → P x3 σ) ∧ (¬ (σ.1 33 5) ≤ x4 → vp_in ((36 * x4) + x1) 432 ∧ (((σ.1 39 (Int32.toNatClampNeg ((36 * x4) + x1))) = 2 → v_X12_ofString_L73 x1 P n (x3 + 1) (x4 + 1) σ) ∧ (¬ (σ.1 39 (Int32.toNatClampNeg ((36 * x4) + x1))) = 2 → v_X12_ofString_L73 x1 P n (x3 + 0) (x4 + 1) σ)))

def v_X12_ofString (a1 : Int32) (a2 : Int32) (σ : Mem) (P : Int32 → Mem → Prop) : Prop := v_X12_isString a1 σ (fun (r_1 : Int32) (σ_2 : Mem) => (r_1 = 0 → P (-1) σ_2) ∧ (¬ r_1 = 0 → (a2 = 0 → vp_in a1 36 ∧ (P (σ_2.1 34 (Int32.toNatClampNeg a1)) σ_2)) ∧ (¬ a2 = 0 → (a2 = 1 → vp_in a1 36 ∧ (((σ_2.1 35 (Int32.toNatClampNeg a1)) = 0 → P 0 σ_2) ∧ (¬ (σ_2.1 35 (Int32.toNatClampNeg a1)) = 0 → P 1 σ_2))) ∧ (¬ a2 = 1 → (a2 = 2 → v_X12_classOf a1 σ_2 (fun (r_3 : Int32) (σ_4 : Mem) => P r_3 σ_4)) ∧ (¬ a2 = 2 → (a2 = 3 → v_X12_ofString_L73 a1 P 5000 0 0 σ_2) ∧ (¬ a2 = 3 → P (-2) σ_2))))))

def v_X12_feltsOf_L5 (x1 : Int32) (x2 : Int32) (P : Int32 → Mem → Prop) : Nat → Int32 → Int32 → Mem → Prop
  | 0, _, _, _ => False
  | n + 1, x3, x4, σ => ((σ.1 33 2) ≤ x4 → P x3 σ) ∧ (¬ (σ.1 33 2) ≤ x4 → vp_in ((36 * x1) + x4) 432 ∧ (((σ.1 39 (Int32.toNatClampNeg ((36 * x1) + x4))) ≤ 0 → v_X12_feltsOf_L5 x1 x2 P n (x3 + 0) (x4 + 1) σ) ∧ (¬ (σ.1 39 (Int32.toNatClampNeg ((36 * x1) + x4))) ≤ 0 → (x2 < (σ.1 39 (Int32.toNatClampNeg ((36 * x1) + x4))) → v_X12_feltsOf_L5 x1 x2 P n (x3 + 0) (x4 + 1) σ) ∧ (¬ x2 < (σ.1 39 (Int32.toNatClampNeg ((36 * x1) + x4))) → v_X12_feltsOf_L5 x1 x2 P n (x3 + 1) (x4 + 1) σ))))

def v_X12_feltsOf (a1 : Int32) (a2 : Int32) (σ : Mem) (P : Int32 → Mem → Prop) : Prop := v_X12_feltsOf_L5 a1 a2 P 5000 0 0 σ

def v_X12_doesSound_L2 (x1 : Int32) (x2 : Int32) (P : Int32 → Mem → Prop) : Nat → Int32 → Mem → Prop
  | 0, _, _ => False
  | n + 1, x3, σ => ((σ.1 33 5) ≤ x3 → P 1 σ) ∧ (¬ (σ.1 33 5) ≤ x3 → (((x1 >>> (x3 &&& 31)) &&& 1) = 1 → vp_in ((36 * x3) + x2) 432 ∧ (((σ.1 39 (Int32.toNatClampNeg ((36 * x3) + x2))) = 2 → P 0 σ) ∧ (¬ (σ.1 39 (Int32.toNatClampNeg ((36 * x3) + x2))) = 2 → v_X12_doesSound_L2 x1 x2 P n (x3 + 1) σ))) ∧ (¬ ((x1 >>> (x3 &&& 31)) &&& 1) = 1 → v_X12_doesSound_L2 x1 x2 P n (x3 + 1) σ))

def v_X12_doesSound (a1 : Int32) (a2 : Int32) (σ : Mem) (P : Int32 → Mem → Prop) : Prop := v_X12_doesSound_L2 a1 a2 P 5000 0 σ

def v_X12_classesWith_L4 (x1 : Int32) (P : Int32 → Mem → Prop) : Nat → Int32 → Int32 → Mem → Prop
  | 0, _, _, _ => False
  | n + 1, x2, x3, σ => ((σ.1 33 2) ≤ x3 → P x2 σ) ∧ (¬ (σ.1 33 2) ≤ x3 → vp_in x3 36 ∧ (((σ.1 35 (Int32.toNatClampNeg x3)) = 0 → v_X12_doesSound x1 x3 σ (fun (r_1 : Int32) (σ_2 : Mem) => (r_1 = 0 → v_X12_classesWith_L4 x1 P n (x2 ||| 0) (x3 + 1) σ_2) ∧ (¬ r_1 = 0 → v_X12_classOf x3 σ_2 (fun (r_3 : Int32) (σ_4 : Mem) => v_X12_classesWith_L4 x1 P n (x2 ||| ((1 : Int32) <<< (r_3 &&& 31))) (x3 + 1) σ_4)))) ∧ (¬ (σ.1 35 (Int32.toNatClampNeg x3)) = 0 → v_X12_classesWith_L4 x1 P n (x2 ||| 0) (x3 + 1) σ)))

def v_X12_classesWith (a1 : Int32) (σ : Mem) (P : Int32 → Mem → Prop) : Prop := v_X12_classesWith_L4 a1 P 5000 0 0 σ

def v_X12_ofBar (a1 : Int32) (a2 : Int32) (σ : Mem) (P : Int32 → Mem → Prop) : Prop := v_X12_isBar a1 σ (fun (r_1 : Int32) (σ_2 : Mem) => (r_1 = 0 → P (-1) σ_2) ∧ (¬ r_1 = 0 → (a2 = 0 → vp_in a1 12 ∧ (P (σ_2.1 36 (Int32.toNatClampNeg a1)) σ_2)) ∧ (¬ a2 = 0 → (a2 = 1 → vp_in a1 12 ∧ (P (σ_2.1 37 (Int32.toNatClampNeg a1)) σ_2)) ∧ (¬ a2 = 1 → (a2 = 2 → v_X12_feltsOf a1 2 σ_2 (fun (r_3 : Int32) (σ_4 : Mem) => P r_3 σ_4)) ∧ (¬ a2 = 2 → (a2 = 3 → v_X12_feltsOf a1 1 σ_2 (fun (r_5 : Int32) (σ_6 : Mem) => P r_5 σ_6)) ∧ (¬ a2 = 3 → (a2 = 4 → v_X12_classesWith ((1 : Int32) <<< (a1 &&& 31)) σ_2 (fun (r_7 : Int32) (σ_8 : Mem) => P r_7 σ_8)) ∧ (¬ a2 = 4 → (a2 = 5 → vp_in a1 12 ∧ (P (σ_2.1 38 (Int32.toNatClampNeg a1)) σ_2)) ∧ (¬ a2 = 5 → P (-2) σ_2))))))))

def v_X12_has (a1 : Int32) (a2 : Int32) (σ : Mem) (P : Int32 → Mem → Prop) : Prop := v_X12_isBar a1 σ (fun (r_1 : Int32) (σ_2 : Mem) => (r_1 = 0 → P (-1) σ_2) ∧ (¬ r_1 = 0 → v_X12_isString a2 σ_2 (fun (r_3 : Int32) (σ_4 : Mem) => (r_3 = 0 → P (-1) σ_4) ∧ (¬ r_3 = 0 → vp_in ((36 * a1) + a2) 432 ∧ (P (σ_4.1 39 (Int32.toNatClampNeg ((36 * a1) + a2))) σ_4)))))

def v_X12_sounds (a1 : Int32) (a2 : Int32) (σ : Mem) (P : Int32 → Mem → Prop) : Prop := v_X12_isString a2 σ (fun (r_1 : Int32) (σ_2 : Mem) => (r_1 = 0 → P (-1) σ_2) ∧ (¬ r_1 = 0 → v_X12_isSet a1 σ_2 (fun (r_3 : Int32) (σ_4 : Mem) => (r_3 = 0 → P (-2) σ_4) ∧ (¬ r_3 = 0 → v_X12_doesSound a1 a2 σ_4 (fun (r_5 : Int32) (σ_6 : Mem) => (r_5 = 0 → P 0 σ_6) ∧ (¬ r_5 = 0 → P 1 σ_6))))))

def v_X12_classes (a1 : Int32) (σ : Mem) (P : Int32 → Mem → Prop) : Prop := v_X12_isSet a1 σ (fun (r_1 : Int32) (σ_2 : Mem) => (r_1 = 0 → P (-2) σ_2) ∧ (¬ r_1 = 0 → v_X12_classesWith a1 σ_2 (fun (r_3 : Int32) (σ_4 : Mem) => P r_3 σ_4)))

def v_X12_chord (a1 : Int32) (σ : Mem) (P : Int32 → Mem → Prop) : Prop := v_X12_isChord a1 σ (fun (r_1 : Int32) (σ_2 : Mem) => (r_1 = 0 → P (-2) σ_2) ∧ (¬ r_1 = 0 → v_X12_classesOf a1 σ_2 (fun (r_3 : Int32) (σ_4 : Mem) => P r_3 σ_4)))

def v_X12_gives (a1 : Int32) (a2 : Int32) (σ : Mem) (P : Int32 → Mem → Prop) : Prop := v_X12_isSet a1 σ (fun (r_1 : Int32) (σ_2 : Mem) => (r_1 = 0 → P (-2) σ_2) ∧ (¬ r_1 = 0 → v_X12_isChord a2 σ_2 (fun (r_3 : Int32) (σ_4 : Mem) => (r_3 = 0 → P (-2) σ_4) ∧ (¬ r_3 = 0 → v_X12_classesWith a1 σ_4 (fun (r_5 : Int32) (σ_6 : Mem) => v_X12_classesOf a2 σ_6 (fun (r_7 : Int32) (σ_8 : Mem) => (r_5 = r_7 → P 1 σ_8) ∧ (¬ r_5 = r_7 → P 0 σ_8)))))))

def v_X12_allClasses_L4 (P : Int32 → Mem → Prop) : Nat → Int32 → Int32 → Mem → Prop
  | 0, _, _, _ => False
  | n + 1, x1, x2, σ => ((σ.1 33 2) ≤ x2 → P x1 σ) ∧ (¬ (σ.1 33 2) ≤ x2 → vp_in x2 36 ∧ (((σ.1 35 (Int32.toNatClampNeg x2)) = 0 → v_X12_classOf x2 σ (fun (r_1 : Int32) (σ_2 : Mem) => v_X12_allClasses_L4 P n (x1 ||| ((1 : Int32) <<< (r_1 &&& 31))) (x2 + 1) σ_2)) ∧ (¬ (σ.1 35 (Int32.toNatClampNeg x2)) = 0 → v_X12_allClasses_L4 P n (x1 ||| 0) (x2 + 1) σ)))

def v_X12_allClasses (σ : Mem) (P : Int32 → Mem → Prop) : Prop := v_X12_allClasses_L4 P 5000 0 0 σ

def v_X12_lack (a1 : Int32) (σ : Mem) (P : Int32 → Mem → Prop) : Prop := v_X12_isChord a1 σ (fun (r_1 : Int32) (σ_2 : Mem) => (r_1 = 0 → P (-2) σ_2) ∧ (¬ r_1 = 0 → v_X12_classesOf a1 σ_2 (fun (r_3 : Int32) (σ_4 : Mem) => v_X12_allClasses σ_4 (fun (r_5 : Int32) (σ_6 : Mem) => P (r_3 &&& (r_5 ^^^ (-1))) σ_6))))

def v_X12_addGrip (a1 : Int32) (σ : Mem) (P : Mem → Prop) : Prop := vp_in (σ.1 33 10) 79 ∧ (v_X12_classesWith a1 (wI σ 40 (Int32.toNatClampNeg (σ.1 33 10)) a1) (fun (r_1 : Int32) (σ_2 : Mem) => vp_in ((wI σ 40 (Int32.toNatClampNeg (σ.1 33 10)) a1).1 33 10) 79 ∧ (P (wI (wI σ_2 41 (Int32.toNatClampNeg ((wI σ 40 (Int32.toNatClampNeg (σ.1 33 10)) a1).1 33 10)) r_1) 33 10 (((wI σ_2 41 (Int32.toNatClampNeg ((wI σ 40 (Int32.toNatClampNeg (σ.1 33 10)) a1).1 33 10)) r_1).1 33 10) + 1)))))

def v_X12_findGrips_L12 (K33 : Mem → Prop) (P : Mem → Prop) : Nat → Int32 → Mem → Prop
  | 0, _, _ => False
  | n + 1, x1, σ => ((σ.1 33 5) ≤ x1 → K33 σ) ∧ (¬ (σ.1 33 5) ≤ x1 → v_X12_addGrip ((1 : Int32) <<< (x1 &&& 31)) σ (fun (σ_2 : Mem) => v_X12_findGrips_L12 K33 P n (x1 + 1) σ_2))

def v_X12_findGrips_L47 (x1 : Int32) (K72 : Mem → Prop) (P : Mem → Prop) : Nat → Int32 → Mem → Prop
  | 0, _, _ => False
  | n + 1, x2, σ => ((σ.1 33 5) ≤ x2 → K72 σ) ∧ (¬ (σ.1 33 5) ≤ x2 → v_X12_addGrip (((1 : Int32) <<< (x1 &&& 31)) ||| ((1 : Int32) <<< (x2 &&& 31))) σ (fun (σ_5 : Mem) => v_X12_findGrips_L47 x1 K72 P n (x2 + 1) σ_5))

def v_X12_findGrips_L35 (P : Mem → Prop) : Nat → Int32 → Mem → Prop
  | 0, _, _ => False
  | n + 1, x1, σ => ((σ.1 33 5) ≤ x1 → P σ) ∧ (¬ (σ.1 33 5) ≤ x1 → v_X12_findGrips_L47 x1 (fun (σ_7 : Mem) => v_X12_findGrips_L35 P n (x1 + 1) σ_7) P 5000 (x1 + 1) σ)

def v_X12_findGrips (σ : Mem) (P : Mem → Prop) : Prop := v_X12_addGrip 0 (wI σ 33 10 0) (fun (σ_1 : Mem) => v_X12_findGrips_L12 (fun (σ_4 : Mem) => v_X12_findGrips_L35 P 5000 0 σ_4) P 5000 0 σ_1)

def v_X12_findHolds_L32 (x1 : Int32) (x2 : Int32) (K68 : Mem → Prop) (P : Mem → Prop) : Nat → Int32 → Mem → Prop
  | 0, _, _ => False
  | n + 1, x3, σ => (x3 ≤ 0 → K68 σ) ∧ (¬ x3 ≤ 0 → vp_in x3 79 ∧ (((σ.1 41 (Int32.toNatClampNeg x3)) = x2 → vp_in x1 96 ∧ (v_X12_findHolds_L32 x1 x2 K68 P n (x3 + (-1)) (wI σ 42 (Int32.toNatClampNeg x1) x3))) ∧ (¬ (σ.1 41 (Int32.toNatClampNeg x3)) = x2 → vp_in x1 96 ∧ (vp_in x1 96 ∧ (v_X12_findHolds_L32 x1 x2 K68 P n (x3 + (-1)) (wI σ 42 (Int32.toNatClampNeg x1) (σ.1 42 (Int32.toNatClampNeg x1))))))))

def v_X12_findHolds_L6 (P : Mem → Prop) : Nat → Int32 → Mem → Prop
  | 0, _, _ => False
  | n + 1, x1, σ => (96 ≤ x1 → P σ) ∧ (¬ 96 ≤ x1 → v_X12_classesOf x1 σ (fun (r_2 : Int32) (σ_3 : Mem) => vp_in x1 96 ∧ (v_X12_findHolds_L32 x1 r_2 (fun (σ_5 : Mem) => v_X12_findHolds_L6 P n (x1 + 1) σ_5) P 5000 (((wI σ_3 42 (Int32.toNatClampNeg x1) (-9)).1 33 10) - 1) (wI σ_3 42 (Int32.toNatClampNeg x1) (-9)))))

def v_X12_findHolds (σ : Mem) (P : Mem → Prop) : Prop := v_X12_findGrips σ (fun (σ_1 : Mem) => v_X12_findHolds_L6 P 5000 0 σ_1)

def v_X12_setOf (a1 : Int32) (σ : Mem) (P : Int32 → Mem → Prop) : Prop := (a1 = (-9) → P 0 σ) ∧ (¬ a1 = (-9) → vp_in a1 79 ∧ (P (σ.1 40 (Int32.toNatClampNeg a1)) σ))

def v_X12_hold (a1 : Int32) (σ : Mem) (P : Int32 → Mem → Prop) : Prop := v_X12_isChord a1 σ (fun (r_1 : Int32) (σ_2 : Mem) => (r_1 = 0 → P (-2) σ_2) ∧ (¬ r_1 = 0 → v_X12_findHolds σ_2 (fun (σ_3 : Mem) => vp_in a1 96 ∧ (((σ_3.1 42 (Int32.toNatClampNeg a1)) = (-9) → P (-9) σ_3) ∧ (¬ (σ_3.1 42 (Int32.toNatClampNeg a1)) = (-9) → vp_in a1 96 ∧ (vp_in (σ_3.1 42 (Int32.toNatClampNeg a1)) 79 ∧ (P (σ_3.1 40 (Int32.toNatClampNeg (σ_3.1 42 (Int32.toNatClampNeg a1)))) σ_3)))))))

def v_X12_holds_J59 (kb : Int32 → Int32 → Mem → Prop) (P : Int32 → Mem → Prop) (x1 : Int32) (x2 : Int32) (x3 : Int32) (xs0 : Int32) (σ : Mem) : Prop := (xs0 = x1 → kb (x2 + 1) (x3 + 1) σ) ∧ (¬ xs0 = x1 → kb (x2 + 0) (x3 + 1) σ)

def v_X12_holds_L20 (x1 : Int32) (P : Int32 → Mem → Prop) : Nat → Int32 → Int32 → Mem → Prop
  | 0, _, _, _ => False
  | n + 1, x2, x3, σ => (96 ≤ x3 → P x2 σ) ∧ (¬ 96 ≤ x3 → vp_in x3 96 ∧ (((σ.1 42 (Int32.toNatClampNeg x3)) = (-9) → v_X12_holds_J59 (v_X12_holds_L20 x1 P n) P x1 x2 x3 0 σ) ∧ (¬ (σ.1 42 (Int32.toNatClampNeg x3)) = (-9) → ((σ.1 33 5) < (σ.1 42 (Int32.toNatClampNeg x3)) → v_X12_holds_J59 (v_X12_holds_L20 x1 P n) P x1 x2 x3 2 σ) ∧ (¬ (σ.1 33 5) < (σ.1 42 (Int32.toNatClampNeg x3)) → v_X12_holds_J59 (v_X12_holds_L20 x1 P n) P x1 x2 x3 1 σ))))

def v_X12_holds (a1 : Int32) (σ : Mem) (P : Int32 → Mem → Prop) : Prop := v_X12_within a1 0 2 σ (fun (r_1 : Int32) (σ_2 : Mem) => (r_1 = 0 → P (-2) σ_2) ∧ (¬ r_1 = 0 → v_X12_findHolds σ_2 (fun (σ_3 : Mem) => v_X12_holds_L20 a1 P 5000 0 0 σ_3)))

def v_X12_strum_L50 (x1 : Int32) (x2 : Int32) (x3 : Int32) (x4 : Int32) (K96 : Int32 → Mem → Prop) (P : Int32 → Mem → Prop) : Nat → Int32 → Mem → Prop
  | 0, _, _ => False
  | n + 1, x5, σ => (x5 ≤ 0 → K96 x5 σ) ∧ (¬ x5 ≤ 0 → vp_in (x5 - 1) 36 ∧ (vp_in x4 36 ∧ (((σ.1 43 (Int32.toNatClampNeg (x5 - 1))) ≤ (σ.1 34 (Int32.toNatClampNeg x4)) → K96 x5 σ) ∧ (¬ (σ.1 43 (Int32.toNatClampNeg (x5 - 1))) ≤ (σ.1 34 (Int32.toNatClampNeg x4)) → vp_in (x5 - 1) 36 ∧ (vp_in x5 36 ∧ (v_X12_strum_L50 x1 x2 x3 x4 K96 P n (x5 + (-1)) (wI σ 43 (Int32.toNatClampNeg x5) (σ.1 43 (Int32.toNatClampNeg (x5 - 1))))))))))

def v_X12_strum_J96 (kb : Int32 → Int32 → Mem → Prop) (K119 : Int32 → Mem → Prop) (P : Int32 → Mem → Prop) (x1 : Int32) (x2 : Int32) (x3 : Int32) (x4 : Int32) (x5 : Int32) (σ : Mem) : Prop := vp_in x4 36 ∧ (vp_in x5 36 ∧ (kb (x3 + 1) (x4 + 1) (wI σ 43 (Int32.toNatClampNeg x5) (σ.1 34 (Int32.toNatClampNeg x4)))))

def v_X12_strum_L25 (x1 : Int32) (x2 : Int32) (K119 : Int32 → Mem → Prop) (P : Int32 → Mem → Prop) : Nat → Int32 → Int32 → Mem → Prop
  | 0, _, _, _ => False
  | n + 1, x3, x4, σ => ((σ.1 33 2) ≤ x4 → K119 x3 σ) ∧ (¬ (σ.1 33 2) ≤ x4 → v_X12_doesSound x1 x4 σ (fun (r_5 : Int32) (σ_6 : Mem) => (r_5 = 0 → v_X12_strum_L25 x1 x2 K119 P n x3 (x4 + 1) σ_6) ∧ (¬ r_5 = 0 → v_X12_strum_L50 x1 x2 x3 x4 (fun (x5_7 : Int32) (σ_8 : Mem) => v_X12_strum_J96 (v_X12_strum_L25 x1 x2 K119 P n) K119 P x1 x2 x3 x4 x5_7 σ_8) P 5000 x3 σ_6)))

def v_X12_strum_L125 (x2 : Int32) (x3 : Int32) (K172 : Int32 → Mem → Prop) (P : Int32 → Mem → Prop) : Nat → Int32 → Int32 → Mem → Prop
  | 0, _, _, _ => False
  | n + 1, x4, x5, σ => (x3 ≤ x5 → K172 x4 σ) ∧ (¬ x3 ≤ x5 → vp_in x5 36 ∧ (vp_in (x5 - 1) 36 ∧ (∀ y_11 : Int32, y_11 = (σ.1 43 (Int32.toNatClampNeg x5)) - (σ.1 43 (Int32.toNatClampNeg (x5 - 1))) → ((y_11 ≤ x4 → v_X12_strum_L125 x2 x3 K172 P n x4 (x5 + 1) σ) ∧ (¬ y_11 ≤ x4 → v_X12_strum_L125 x2 x3 K172 P n y_11 (x5 + 1) σ)))))

def v_X12_strum (a1 : Int32) (a2 : Int32) (σ : Mem) (P : Int32 → Mem → Prop) : Prop := v_X12_isSet a1 σ (fun (r_1 : Int32) (σ_2 : Mem) => (r_1 = 0 → P (-2) σ_2) ∧ (¬ r_1 = 0 → v_X12_within a2 0 3 σ_2 (fun (r_3 : Int32) (σ_4 : Mem) => (r_3 = 0 → P (-2) σ_4) ∧ (¬ r_3 = 0 → v_X12_strum_L25 a1 a2 (fun (x3_9 : Int32) (σ_10 : Mem) => v_X12_strum_L125 a2 x3_9 (fun (x4_12 : Int32) (σ_13 : Mem) => (a2 = 0 → P x3_9 σ_13) ∧ (¬ a2 = 0 → (a2 = 1 → (x3_9 = 0 → P (-9) σ_13) ∧ (¬ x3_9 = 0 → vp_in 0 36 ∧ (P (σ_13.1 43 (Int32.toNatClampNeg 0)) σ_13))) ∧ (¬ a2 = 1 → (a2 = 2 → (x3_9 = 0 → P (-9) σ_13) ∧ (¬ x3_9 = 0 → vp_in (x3_9 - 1) 36 ∧ (P (σ_13.1 43 (Int32.toNatClampNeg (x3_9 - 1))) σ_13))) ∧ (¬ a2 = 2 → P x4_12 σ_13)))) P 5000 0 1 σ_10) P 5000 0 0 σ_4))))

def v_X12_isSong (a1 : Int32) (σ : Mem) (P : Int32 → Mem → Prop) : Prop := (a1 < 0 → P 0 σ) ∧ (¬ a1 < 0 → ((σ.1 33 15) ≤ a1 → P 0 σ) ∧ (¬ (σ.1 33 15) ≤ a1 → P 1 σ))

def v_X12_isStep (a1 : Int32) (a2 : Int32) (σ : Mem) (P : Int32 → Mem → Prop) : Prop := v_X12_isSong a1 σ (fun (r_1 : Int32) (σ_2 : Mem) => (r_1 = 0 → P 0 σ_2) ∧ (¬ r_1 = 0 → (a2 < 0 → P 0 σ_2) ∧ (¬ a2 < 0 → vp_in a1 8 ∧ (((σ_2.1 44 (Int32.toNatClampNeg a1)) ≤ a2 → P 0 σ_2) ∧ (¬ (σ_2.1 44 (Int32.toNatClampNeg a1)) ≤ a2 → P 1 σ_2)))))

def v_X12_song_J117 (P : Int32 → Mem → Prop) (σ : Mem) : Prop := v_X12_fails 3 σ (fun (r_7 : Int32) (σ_8 : Mem) => P r_7 σ_8)

def v_X12_song_L140 (x1 : Int32) (x3 : Int32) (x4 : Int32) (K200 : Mem → Prop) (P : Int32 → Mem → Prop) : Nat → Int32 → Mem → Prop
  | 0, _, _ => False
  | n + 1, x5, σ => (x4 ≤ x5 → K200 σ) ∧ (¬ x4 ≤ x5 → vp_in (((64 * x1) + x3) + (2 * x5)) 256 ∧ (v_X12_isChord (σ.1 50 (Int32.toNatClampNeg (((64 * x1) + x3) + (2 * x5)))) σ (fun (r_11 : Int32) (σ_12 : Mem) => (r_11 = 0 → P (-2) σ_12) ∧ (¬ r_11 = 0 → vp_in ((((64 * x1) + x3) + (2 * x5)) + 1) 256 ∧ (v_X12_within (σ_12.1 50 (Int32.toNatClampNeg ((((64 * x1) + x3) + (2 * x5)) + 1))) (-1) 60 σ_12 (fun (r_13 : Int32) (σ_14 : Mem) => (r_13 = 0 → P (-2) σ_14) ∧ (¬ r_13 = 0 → v_X12_song_L140 x1 x3 x4 K200 P n (x5 + 1) σ_14)))))))

def v_X12_song_L215 (x1 : Int32) (x3 : Int32) (x4 : Int32) (K287 : Mem → Prop) (P : Int32 → Mem → Prop) : Nat → Int32 → Mem → Prop
  | 0, _, _ => False
  | n + 1, x5, σ => (x4 ≤ x5 → K287 σ) ∧ (¬ x4 ≤ x5 → vp_in (((64 * x1) + x3) + (2 * x5)) 256 ∧ (vp_in ((24 * (σ.1 33 15)) + x5) 192 ∧ (vp_in ((((64 * x1) + x3) + (2 * x5)) + 1) 256 ∧ (vp_in ((24 * ((wI σ 46 (Int32.toNatClampNeg ((24 * (σ.1 33 15)) + x5)) (σ.1 50 (Int32.toNatClampNeg (((64 * x1) + x3) + (2 * x5))))).1 33 15)) + x5) 192 ∧ (v_X12_song_L215 x1 x3 x4 K287 P n (x5 + 1) (wI (wI σ 46 (Int32.toNatClampNeg ((24 * (σ.1 33 15)) + x5)) (σ.1 50 (Int32.toNatClampNeg (((64 * x1) + x3) + (2 * x5))))) 47 (Int32.toNatClampNeg ((24 * ((wI σ 46 (Int32.toNatClampNeg ((24 * (σ.1 33 15)) + x5)) (σ.1 50 (Int32.toNatClampNeg (((64 * x1) + x3) + (2 * x5))))).1 33 15)) + x5)) ((wI σ 46 (Int32.toNatClampNeg ((24 * (σ.1 33 15)) + x5)) (σ.1 50 (Int32.toNatClampNeg (((64 * x1) + x3) + (2 * x5))))).1 50 (Int32.toNatClampNeg ((((64 * x1) + x3) + (2 * x5)) + 1)))))))))

def v_X12_song_J55 (P : Int32 → Mem → Prop) (x1 : Int32) (x3 : Int32) (x4 : Int32) (σ : Mem) : Prop := vp_in x1 4 ∧ (((σ.1 48 (Int32.toNatClampNeg x1)) = (-9) → v_X12_fails 1 σ (fun (r_5 : Int32) (σ_6 : Mem) => P r_5 σ_6)) ∧ (¬ (σ.1 48 (Int32.toNatClampNeg x1)) = (-9) → (0 ≤ x4 → (x3 < 0 → v_X12_song_J117 P σ) ∧ (¬ x3 < 0 → vp_in x1 4 ∧ (((σ.1 49 (Int32.toNatClampNeg x1)) < x3 → v_X12_song_J117 P σ) ∧ (¬ (σ.1 49 (Int32.toNatClampNeg x1)) < x3 → vp_in x1 4 ∧ (((2 * (Int32.toInt64 x4)) ≤ (Int32.toInt64 ((σ.1 49 (Int32.toNatClampNeg x1)) - x3)) → v_X12_within x4 1 24 σ (fun (r_9 : Int32) (σ_10 : Mem) => (r_9 = 0 → P (-2) σ_10) ∧ (¬ r_9 = 0 → v_X12_song_L140 x1 x3 x4 (fun (σ_16 : Mem) => ((σ_16.1 33 15) = 8 → P (-4) σ_16) ∧ (¬ (σ_16.1 33 15) = 8 → v_X12_song_L215 x1 x3 x4 (fun (σ_18 : Mem) => vp_in (σ_18.1 33 15) 8 ∧ (vp_in ((wI σ_18 44 (Int32.toNatClampNeg (σ_18.1 33 15)) x4).1 33 15) 8 ∧ (P (((wI (wI (wI σ_18 44 (Int32.toNatClampNeg (σ_18.1 33 15)) x4) 45 (Int32.toNatClampNeg ((wI σ_18 44 (Int32.toNatClampNeg (σ_18.1 33 15)) x4).1 33 15)) 0) 33 15 (((wI (wI σ_18 44 (Int32.toNatClampNeg (σ_18.1 33 15)) x4) 45 (Int32.toNatClampNeg ((wI σ_18 44 (Int32.toNatClampNeg (σ_18.1 33 15)) x4).1 33 15)) 0).1 33 15) + 1)).1 33 15) - 1) (wI (wI (wI σ_18 44 (Int32.toNatClampNeg (σ_18.1 33 15)) x4) 45 (Int32.toNatClampNeg ((wI σ_18 44 (Int32.toNatClampNeg (σ_18.1 33 15)) x4).1 33 15)) 0) 33 15 (((wI (wI σ_18 44 (Int32.toNatClampNeg (σ_18.1 33 15)) x4) 45 (Int32.toNatClampNeg ((wI σ_18 44 (Int32.toNatClampNeg (σ_18.1 33 15)) x4).1 33 15)) 0).1 33 15) + 1))))) P 5000 0 σ_16)) P 5000 0 σ_10))) ∧ (¬ (2 * (Int32.toInt64 x4)) ≤ (Int32.toInt64 ((σ.1 49 (Int32.toNatClampNeg x1)) - x3)) → v_X12_song_J117 P σ)))))) ∧ (¬ 0 ≤ x4 → v_X12_fails 4 σ (fun (r_19 : Int32) (σ_20 : Mem) => P r_19 σ_20))))

def v_X12_song (a1 : Int32) (a2 : Int32) (a3 : Int32) (a4 : Int32) (σ : Mem) (P : Int32 → Mem → Prop) : Prop := v_X12_within a1 0 3 (wI σ 33 0 0) (fun (r_1 : Int32) (σ_2 : Mem) => (r_1 = 0 → P (-1) σ_2) ∧ (¬ r_1 = 0 → v_X12_within a2 0 2 σ_2 (fun (r_3 : Int32) (σ_4 : Mem) => (r_3 = 0 → P (-2) σ_4) ∧ (¬ r_3 = 0 → vp_in a1 4 ∧ (((σ_4.1 48 (Int32.toNatClampNeg a1)) = (-9) → v_X12_song_J55 P a1 a3 a4 σ_4) ∧ (¬ (σ_4.1 48 (Int32.toNatClampNeg a1)) = (-9) → vp_in a1 4 ∧ (((σ_4.1 48 (Int32.toNatClampNeg a1)) = a2 → v_X12_song_J55 P a1 a3 a4 σ_4) ∧ (¬ (σ_4.1 48 (Int32.toNatClampNeg a1)) = a2 → v_X12_fails 2 σ_4 (fun (r_21 : Int32) (σ_22 : Mem) => P r_21 σ_22)))))))))

def v_X12_chordAt (a1 : Int32) (a2 : Int32) (a3 : Int32) (σ : Mem) (P : Int32 → Mem → Prop) : Prop := vp_in ((24 * a1) + a2) 192 ∧ (P ((((σ.1 46 (Int32.toNatClampNeg ((24 * a1) + a2))) / 12) * 12) + (((((σ.1 46 (Int32.toNatClampNeg ((24 * a1) + a2))) - (σ.1 46 (Int32.toNatClampNeg ((24 * a1) + a2))) / 12 * 12) + a3) + 12) - ((((σ.1 46 (Int32.toNatClampNeg ((24 * a1) + a2))) - (σ.1 46 (Int32.toNatClampNeg ((24 * a1) + a2))) / 12 * 12) + a3) + 12) / 12 * 12)) σ)

def v_X12_hasNote (a1 : Int32) (a2 : Int32) (σ : Mem) (P : Int32 → Mem → Prop) : Prop := vp_in ((24 * a1) + a2) 192 ∧ (((σ.1 47 (Int32.toNatClampNeg ((24 * a1) + a2))) < 0 → P 0 σ) ∧ (¬ (σ.1 47 (Int32.toNatClampNeg ((24 * a1) + a2))) < 0 → P 1 σ))

def v_X12_noteAt (a1 : Int32) (a2 : Int32) (a3 : Int32) (σ : Mem) (P : Int32 → Mem → Prop) : Prop := vp_in ((24 * a1) + a2) 192 ∧ (P ((σ.1 47 (Int32.toNatClampNeg ((24 * a1) + a2))) + a3) σ)

def v_X12_isHeard_L2 (x1 : Int32) (x2 : Int32) (P : Int32 → Mem → Prop) : Nat → Int32 → Mem → Prop
  | 0, _, _ => False
  | n + 1, x3, σ => ((σ.1 33 2) ≤ x3 → P 0 σ) ∧ (¬ (σ.1 33 2) ≤ x3 → vp_in x3 36 ∧ (((σ.1 34 (Int32.toNatClampNeg x3)) = x1 → v_X12_doesSound x2 x3 σ (fun (r_1 : Int32) (σ_2 : Mem) => (r_1 = 0 → v_X12_isHeard_L2 x1 x2 P n (x3 + 1) σ_2) ∧ (¬ r_1 = 0 → P 1 σ_2))) ∧ (¬ (σ.1 34 (Int32.toNatClampNeg x3)) = x1 → v_X12_isHeard_L2 x1 x2 P n (x3 + 1) σ)))

def v_X12_isHeard (a1 : Int32) (a2 : Int32) (σ : Mem) (P : Int32 → Mem → Prop) : Prop := v_X12_isHeard_L2 a1 a2 P 5000 0 σ

def v_X12_missAt (a1 : Int32) (a2 : Int32) (a3 : Int32) (a4 : Int32) (σ : Mem) (P : Int32 → Mem → Prop) : Prop := v_X12_chordAt a1 a2 a3 σ (fun (r_1 : Int32) (σ_2 : Mem) => vp_in r_1 96 ∧ ((a4 = 0 → ((σ_2.1 42 (Int32.toNatClampNeg r_1)) = (-9) → P 1 σ_2) ∧ (¬ (σ_2.1 42 (Int32.toNatClampNeg r_1)) = (-9) → P 0 σ_2)) ∧ (¬ a4 = 0 → v_X12_hasNote a1 a2 σ_2 (fun (r_3 : Int32) (σ_4 : Mem) => (r_3 = 0 → P 0 σ_4) ∧ (¬ r_3 = 0 → v_X12_noteAt a1 a2 a3 σ_4 (fun (r_5 : Int32) (σ_6 : Mem) => v_X12_setOf (σ_2.1 42 (Int32.toNatClampNeg r_1)) σ_6 (fun (r_7 : Int32) (σ_8 : Mem) => v_X12_isHeard r_5 r_7 σ_8 (fun (r_9 : Int32) (σ_10 : Mem) => (r_9 = 0 → P 1 σ_10) ∧ (¬ r_9 = 0 → P 0 σ_10)))))))))

def v_X12_missesOf_J37 (kb : Int32 → Int32 → Mem → Prop) (P : Int32 → Mem → Prop) (x1 : Int32) (x2 : Int32) (x3 : Int32) (x5 : Int32) (xs0 : Int32) (xs1 : Int32) (σ : Mem) : Prop := (x3 = 0 → kb ((xs1 + xs0) + 0) (x5 + 1) σ) ∧ (¬ x3 = 0 → v_X12_missAt x1 x5 x2 1 σ (fun (r_1 : Int32) (σ_2 : Mem) => kb ((xs1 + xs0) + r_1) (x5 + 1) σ_2))

def v_X12_missesOf_L6 (x1 : Int32) (x2 : Int32) (x3 : Int32) (P : Int32 → Mem → Prop) : Nat → Int32 → Int32 → Mem → Prop
  | 0, _, _, _ => False
  | n + 1, x4, x5, σ => vp_in x1 8 ∧ (((σ.1 44 (Int32.toNatClampNeg x1)) ≤ x5 → P x4 σ) ∧ (¬ (σ.1 44 (Int32.toNatClampNeg x1)) ≤ x5 → (x3 = 1 → v_X12_missesOf_J37 (v_X12_missesOf_L6 x1 x2 x3 P n) P x1 x2 x3 x5 0 x4 σ) ∧ (¬ x3 = 1 → v_X12_missAt x1 x5 x2 0 σ (fun (r_3 : Int32) (σ_4 : Mem) => v_X12_missesOf_J37 (v_X12_missesOf_L6 x1 x2 x3 P n) P x1 x2 x3 x5 r_3 x4 σ_4))))

def v_X12_missesOf (a1 : Int32) (a2 : Int32) (a3 : Int32) (σ : Mem) (P : Int32 → Mem → Prop) : Prop := v_X12_missesOf_L6 a1 a2 a3 P 5000 0 0 σ

def v_X12_step_J111 (P : Int32 → Mem → Prop) (xs0 : Int32) (xs1 : Int32) (xs2 : Int32) (xs3 : Int32) (σ : Mem) : Prop := v_X12_missAt xs3 xs2 xs1 xs0 σ (fun (r_12 : Int32) (σ_13 : Mem) => P r_12 σ_13)

def v_X12_step (a1 : Int32) (a2 : Int32) (a3 : Int32) (σ : Mem) (P : Int32 → Mem → Prop) : Prop := v_X12_isStep a1 a2 σ (fun (r_1 : Int32) (σ_2 : Mem) => (r_1 = 0 → P (-1) σ_2) ∧ (¬ r_1 = 0 → v_X12_within a3 0 3 σ_2 (fun (r_3 : Int32) (σ_4 : Mem) => (r_3 = 0 → P (-2) σ_4) ∧ (¬ r_3 = 0 → v_X12_findHolds σ_4 (fun (σ_5 : Mem) => vp_in a1 8 ∧ ((a3 = 0 → v_X12_chordAt a1 a2 (σ_5.1 45 (Int32.toNatClampNeg a1)) σ_5 (fun (r_6 : Int32) (σ_7 : Mem) => P r_6 σ_7)) ∧ (¬ a3 = 0 → (a3 = 1 → v_X12_hasNote a1 a2 σ_5 (fun (r_8 : Int32) (σ_9 : Mem) => (r_8 = 0 → P (-9) σ_9) ∧ (¬ r_8 = 0 → v_X12_noteAt a1 a2 (σ_5.1 45 (Int32.toNatClampNeg a1)) σ_9 (fun (r_10 : Int32) (σ_11 : Mem) => P r_10 σ_11)))) ∧ (¬ a3 = 1 → (a3 = 3 → v_X12_step_J111 P 1 (σ_5.1 45 (Int32.toNatClampNeg a1)) a2 a1 σ_5) ∧ (¬ a3 = 3 → v_X12_step_J111 P 0 (σ_5.1 45 (Int32.toNatClampNeg a1)) a2 a1 σ_5)))))))))

def v_X12_key (a1 : Int32) (a2 : Int32) (σ : Mem) (P : Int32 → Mem → Prop) : Prop := v_X12_isSong a1 σ (fun (r_1 : Int32) (σ_2 : Mem) => (r_1 = 0 → P (-1) σ_2) ∧ (¬ r_1 = 0 → v_X12_within a2 (-6) 5 σ_2 (fun (r_3 : Int32) (σ_4 : Mem) => (r_3 = 0 → P (-2) σ_4) ∧ (¬ r_3 = 0 → vp_in a1 8 ∧ (vp_in a1 8 ∧ (P (σ_4.1 45 (Int32.toNatClampNeg a1)) (wI σ_4 45 (Int32.toNatClampNeg a1) a2)))))))

def v_X12_misses (a1 : Int32) (a2 : Int32) (σ : Mem) (P : Int32 → Mem → Prop) : Prop := v_X12_isSong a1 σ (fun (r_1 : Int32) (σ_2 : Mem) => (r_1 = 0 → P (-1) σ_2) ∧ (¬ r_1 = 0 → v_X12_within a2 0 4 σ_2 (fun (r_3 : Int32) (σ_4 : Mem) => (r_3 = 0 → P (-2) σ_4) ∧ (¬ r_3 = 0 → (a2 ≤ 2 → v_X12_findHolds σ_4 (fun (σ_5 : Mem) => vp_in a1 8 ∧ (v_X12_missesOf a1 (σ_5.1 45 (Int32.toNatClampNeg a1)) a2 σ_5 (fun (r_6 : Int32) (σ_7 : Mem) => P r_6 σ_7)))) ∧ (¬ a2 ≤ 2 → (a2 = 3 → vp_in a1 8 ∧ (P (σ_4.1 44 (Int32.toNatClampNeg a1)) σ_4)) ∧ (¬ a2 = 3 → vp_in a1 8 ∧ (P (σ_4.1 45 (Int32.toNatClampNeg a1)) σ_4)))))))

def v_X12_bestKey_J57 (kb : Int32 → Int32 → Int32 → Mem → Prop) (K96 : Int32 → Int32 → Mem → Prop) (P : Int32 → Mem → Prop) (x1 : Int32) (x2 : Int32) (x3 : Int32) (x4 : Int32) (x5 : Int32) (xs0 : Int32) (σ : Mem) : Prop := (xs0 ≤ 5 → v_X12_missesOf x1 xs0 2 σ (fun (r_6 : Int32) (σ_7 : Mem) => (x3 ≤ r_6 → kb x2 x3 (x5 + 1) σ_7) ∧ (¬ x3 ≤ r_6 → kb xs0 r_6 (x5 + 1) σ_7))) ∧ (¬ xs0 ≤ 5 → kb x2 x3 (x5 + 1) σ)

def v_X12_bestKey_L38 (x1 : Int32) (x4 : Int32) (K96 : Int32 → Int32 → Mem → Prop) (P : Int32 → Mem → Prop) : Nat → Int32 → Int32 → Int32 → Mem → Prop
  | 0, _, _, _, _ => False
  | n + 1, x2, x3, x5, σ => (2 ≤ x5 → K96 x2 x3 σ) ∧ (¬ 2 ≤ x5 → (x5 = 0 → v_X12_bestKey_J57 (v_X12_bestKey_L38 x1 x4 K96 P n) K96 P x1 x2 x3 x4 x5 x4 σ) ∧ (¬ x5 = 0 → v_X12_bestKey_J57 (v_X12_bestKey_L38 x1 x4 K96 P n) K96 P x1 x2 x3 x4 x5 (-x4) σ))

def v_X12_bestKey_L28 (x1 : Int32) (P : Int32 → Mem → Prop) : Nat → Int32 → Int32 → Int32 → Mem → Prop
  | 0, _, _, _, _ => False
  | n + 1, x2, x3, x4, σ => (6 < x4 → P x2 σ) ∧ (¬ 6 < x4 → v_X12_bestKey_L38 x1 x4 (fun (x2_8 : Int32) (x3_8 : Int32) (σ_9 : Mem) => v_X12_bestKey_L28 x1 P n x2_8 x3_8 (x4 + 1) σ_9) P 5000 x2 x3 0 σ)

def v_X12_bestKey (a1 : Int32) (σ : Mem) (P : Int32 → Mem → Prop) : Prop := v_X12_isSong a1 σ (fun (r_1 : Int32) (σ_2 : Mem) => (r_1 = 0 → P 99 σ_2) ∧ (¬ r_1 = 0 → v_X12_findHolds σ_2 (fun (σ_3 : Mem) => v_X12_missesOf a1 0 2 σ_3 (fun (r_4 : Int32) (σ_5 : Mem) => v_X12_bestKey_L28 a1 P 5000 0 r_4 1 σ_5))))

def v_X12_played_L8 (P : Int32 → Mem → Prop) : Nat → Int32 → Int32 → Mem → Prop
  | 0, _, _, _ => False
  | n + 1, x1, x2, σ => ((σ.1 33 15) ≤ x2 → P x1 σ) ∧ (¬ (σ.1 33 15) ≤ x2 → vp_in x2 8 ∧ (v_X12_missesOf x2 (σ.1 45 (Int32.toNatClampNeg x2)) 2 σ (fun (r_2 : Int32) (σ_3 : Mem) => (r_2 = 0 → v_X12_played_L8 P n (x1 ||| ((1 : Int32) <<< (x2 &&& 31))) (x2 + 1) σ_3) ∧ (¬ r_2 = 0 → v_X12_played_L8 P n (x1 ||| 0) (x2 + 1) σ_3))))

def v_X12_played (σ : Mem) (P : Int32 → Mem → Prop) : Prop := v_X12_findHolds σ (fun (σ_1 : Mem) => v_X12_played_L8 P 5000 0 0 σ_1)

def v_X12_playable (σ : Mem) (P : Int32 → Mem → Prop) : Prop := v_X12_played σ (fun (r_1 : Int32) (σ_2 : Mem) => P r_1 σ_2)

def v_X12_offer_L12 (x1 : Int32) (K39 : Mem → Prop) (P : Int32 → Mem → Prop) : Nat → Int32 → Mem → Prop
  | 0, _, _ => False
  | n + 1, x2, σ => ((σ.1 33 23) ≤ x2 → K39 σ) ∧ (¬ (σ.1 33 23) ≤ x2 → vp_in x2 12 ∧ (((σ.1 51 (Int32.toNatClampNeg x2)) = x1 → P (-3) σ) ∧ (¬ (σ.1 51 (Int32.toNatClampNeg x2)) = x1 → v_X12_offer_L12 x1 K39 P n (x2 + 1) σ)))

def v_X12_offer (a1 : Int32) (σ : Mem) (P : Int32 → Mem → Prop) : Prop := v_X12_isChord a1 σ (fun (r_1 : Int32) (σ_2 : Mem) => (r_1 = 0 → P (-2) σ_2) ∧ (¬ r_1 = 0 → v_X12_offer_L12 a1 (fun (σ_4 : Mem) => ((σ_4.1 33 23) = 12 → P (-4) σ_4) ∧ (¬ (σ_4.1 33 23) = 12 → vp_in (σ_4.1 33 23) 12 ∧ (P (((wI (wI σ_4 51 (Int32.toNatClampNeg (σ_4.1 33 23)) a1) 33 23 (((wI σ_4 51 (Int32.toNatClampNeg (σ_4.1 33 23)) a1).1 33 23) + 1)).1 33 23) - 1) (wI (wI σ_4 51 (Int32.toNatClampNeg (σ_4.1 33 23)) a1) 33 23 (((wI σ_4 51 (Int32.toNatClampNeg (σ_4.1 33 23)) a1).1 33 23) + 1))))) P 5000 0 σ_2))

def v_X12_findPairs_J69 (kb : Int32 → Int32 → Mem → Prop) (K107 : Int32 → Mem → Prop) (P : Mem → Prop) (x1 : Int32) (x2 : Int32) (x3 : Int32) (x4 : Int32) (xs0 : Int32) (σ : Mem) : Prop := vp_in x4 36 ∧ (((σ.1 35 (Int32.toNatClampNeg x4)) = 0 → (xs0 = 0 → v_X12_classOf x4 σ (fun (r_5 : Int32) (σ_6 : Mem) => kb (x3 ||| ((1 : Int32) <<< (r_5 &&& 31))) (x4 + 1) σ_6)) ∧ (¬ xs0 = 0 → kb (x3 ||| 0) (x4 + 1) σ)) ∧ (¬ (σ.1 35 (Int32.toNatClampNeg x4)) = 0 → kb (x3 ||| 0) (x4 + 1) σ))

def v_X12_findPairs_J64 (kb : Int32 → Int32 → Mem → Prop) (K107 : Int32 → Mem → Prop) (P : Mem → Prop) (x1 : Int32) (x2 : Int32) (x3 : Int32) (x4 : Int32) (σ : Mem) : Prop := v_X12_findPairs_J69 kb K107 P x1 x2 x3 x4 1 σ

def v_X12_findPairs_L25 (x1 : Int32) (x2 : Int32) (K107 : Int32 → Mem → Prop) (P : Mem → Prop) : Nat → Int32 → Int32 → Mem → Prop
  | 0, _, _, _ => False
  | n + 1, x3, x4, σ => ((σ.1 33 2) ≤ x4 → K107 x3 σ) ∧ (¬ (σ.1 33 2) ≤ x4 → vp_in x1 12 ∧ (v_X12_hushes (σ.1 51 (Int32.toNatClampNeg x1)) x4 σ (fun (r_1 : Int32) (σ_2 : Mem) => (r_1 = 0 → vp_in x2 12 ∧ (v_X12_hushes (σ_2.1 51 (Int32.toNatClampNeg x2)) x4 σ_2 (fun (r_3 : Int32) (σ_4 : Mem) => (r_3 = 0 → v_X12_findPairs_J69 (v_X12_findPairs_L25 x1 x2 K107 P n) K107 P x1 x2 x3 x4 0 σ_4) ∧ (¬ r_3 = 0 → v_X12_findPairs_J64 (v_X12_findPairs_L25 x1 x2 K107 P n) K107 P x1 x2 x3 x4 σ_4)))) ∧ (¬ r_1 = 0 → v_X12_findPairs_J64 (v_X12_findPairs_L25 x1 x2 K107 P n) K107 P x1 x2 x3 x4 σ_2))))

def v_X12_findPairs_L12 (x1 : Int32) (K125 : Mem → Prop) (P : Mem → Prop) : Nat → Int32 → Mem → Prop
  | 0, _, _ => False
  | n + 1, x2, σ => ((σ.1 33 23) ≤ x2 → K125 σ) ∧ (¬ (σ.1 33 23) ≤ x2 → v_X12_findPairs_L25 x1 x2 (fun (x3_7 : Int32) (σ_8 : Mem) => vp_in ((12 * x1) + x2) 144 ∧ (v_X12_findPairs_L12 x1 K125 P n (x2 + 1) (wI σ_8 52 (Int32.toNatClampNeg ((12 * x1) + x2)) x3_7))) P 5000 0 0 σ)

def v_X12_findPairs_L2 (P : Mem → Prop) : Nat → Int32 → Mem → Prop
  | 0, _, _ => False
  | n + 1, x1, σ => ((σ.1 33 23) ≤ x1 → P σ) ∧ (¬ (σ.1 33 23) ≤ x1 → v_X12_findPairs_L12 x1 (fun (σ_10 : Mem) => v_X12_findPairs_L2 P n (x1 + 1) σ_10) P 5000 0 σ)

def v_X12_findPairs (σ : Mem) (P : Mem → Prop) : Prop := v_X12_findPairs_L2 P 5000 0 σ

def v_X12_lowest_L2 (x0 : Int32) (P : Int32 → Mem → Prop) : Nat → Int32 → Mem → Prop
  | 0, _, _ => False
  | n + 1, x1, σ => (((x0 >>> (x1 &&& 31)) &&& 1) = 0 → v_X12_lowest_L2 x0 P n (x1 + 1) σ) ∧ (¬ ((x0 >>> (x1 &&& 31)) &&& 1) = 0 → P x1 σ)

def v_X12_lowest (a0 : Int32) (σ : Mem) (P : Int32 → Mem → Prop) : Prop := v_X12_lowest_L2 a0 P 5000 0 σ

def v_X12_findGiven_L46 (x2 : Int32) (x3 : Int32) (x4 : Int32) (K100 : Int32 → Mem → Prop) (P : Mem → Prop) : Nat → Int32 → Int32 → Mem → Prop
  | 0, _, _, _ => False
  | n + 1, x5, x6, σ => ((σ.1 33 23) ≤ x6 → K100 x5 σ) ∧ (¬ (σ.1 33 23) ≤ x6 → (x5 = 0 → (((x3 >>> (x6 &&& 31)) &&& 1) = 1 → vp_in ((12 * x4) + x6) 144 ∧ (((σ.1 52 (Int32.toNatClampNeg ((12 * x4) + x6))) = x2 → v_X12_findGiven_L46 x2 x3 x4 K100 P n 1 (x6 + 1) σ) ∧ (¬ (σ.1 52 (Int32.toNatClampNeg ((12 * x4) + x6))) = x2 → v_X12_findGiven_L46 x2 x3 x4 K100 P n 0 (x6 + 1) σ))) ∧ (¬ ((x3 >>> (x6 &&& 31)) &&& 1) = 1 → v_X12_findGiven_L46 x2 x3 x4 K100 P n 0 (x6 + 1) σ)) ∧ (¬ x5 = 0 → K100 x5 σ))

def v_X12_findGiven_L14 (x2 : Int32) (P : Mem → Prop) : Nat → Int32 → Mem → Prop
  | 0, _, _ => False
  | n + 1, x3, σ => (((1 : Int32) <<< ((σ.1 33 23) &&& 31)) ≤ x3 → P σ) ∧ (¬ ((1 : Int32) <<< ((σ.1 33 23) &&& 31)) ≤ x3 → v_X12_lowest x3 σ (fun (r_3 : Int32) (σ_4 : Mem) => vp_in (x3 &&& (x3 - 1)) 4096 ∧ (v_X12_findGiven_L46 x2 x3 r_3 (fun (x5_5 : Int32) (σ_6 : Mem) => vp_in x3 4096 ∧ (v_X12_findGiven_L14 x2 P n (x3 + 1) (wI σ_6 53 (Int32.toNatClampNeg x3) (vp_nar .boolean x5_5)))) P 5000 (σ_4.1 53 (Int32.toNatClampNeg (x3 &&& (x3 - 1)))) r_3 σ_4)))

def v_X12_findGiven (a1 : Int32) (σ : Mem) (P : Mem → Prop) : Prop := v_X12_classesOf a1 σ (fun (r_1 : Int32) (σ_2 : Mem) => vp_in 0 4096 ∧ (v_X12_findGiven_L14 r_1 P 5000 1 (wI σ_2 53 (Int32.toNatClampNeg 0) (vp_nar .boolean 0))))

def v_X12_findServed_L6 (K36 : Mem → Prop) (P : Mem → Prop) : Nat → Int32 → Mem → Prop
  | 0, _, _ => False
  | n + 1, x1, σ => (((1 : Int32) <<< ((σ.1 33 23) &&& 31)) ≤ x1 → K36 σ) ∧ (¬ ((1 : Int32) <<< ((σ.1 33 23) &&& 31)) ≤ x1 → vp_in x1 4096 ∧ (v_X12_findServed_L6 K36 P n (x1 + 1) (wI σ 54 (Int32.toNatClampNeg x1) (((1 : Int32) <<< ((σ.1 33 15) &&& 31)) - 1))))

def v_X12_findServed_L59 (x1 : Int32) (x3 : Int32) (K103 : Int32 → Mem → Prop) (P : Mem → Prop) : Nat → Int32 → Int32 → Mem → Prop
  | 0, _, _, _ => False
  | n + 1, x2, x4, σ => vp_in x3 8 ∧ (((σ.1 44 (Int32.toNatClampNeg x3)) ≤ x4 → K103 x2 σ) ∧ (¬ (σ.1 44 (Int32.toNatClampNeg x3)) ≤ x4 → vp_in x3 8 ∧ (v_X12_chordAt x3 x4 (σ.1 45 (Int32.toNatClampNeg x3)) σ (fun (r_4 : Int32) (σ_5 : Mem) => (r_4 = x1 → v_X12_findServed_L59 x1 x3 K103 P n (x2 ||| ((1 : Int32) <<< (x3 &&& 31))) (x4 + 1) σ_5) ∧ (¬ r_4 = x1 → v_X12_findServed_L59 x1 x3 K103 P n (x2 ||| 0) (x4 + 1) σ_5)))))

def v_X12_findServed_L48 (x1 : Int32) (K109 : Int32 → Mem → Prop) (P : Mem → Prop) : Nat → Int32 → Int32 → Mem → Prop
  | 0, _, _, _ => False
  | n + 1, x2, x3, σ => ((σ.1 33 15) ≤ x3 → K109 x2 σ) ∧ (¬ (σ.1 33 15) ≤ x3 → v_X12_findServed_L59 x1 x3 (fun (x2_6 : Int32) (σ_7 : Mem) => v_X12_findServed_L48 x1 K109 P n x2_6 (x3 + 1) σ_7) P 5000 x2 0 σ)

def v_X12_findServed_L123 (x1 : Int32) (x2 : Int32) (K164 : Mem → Prop) (P : Mem → Prop) : Nat → Int32 → Mem → Prop
  | 0, _, _ => False
  | n + 1, x3, σ => (((1 : Int32) <<< ((σ.1 33 23) &&& 31)) ≤ x3 → K164 σ) ∧ (¬ ((1 : Int32) <<< ((σ.1 33 23) &&& 31)) ≤ x3 → vp_in x3 4096 ∧ (vp_in x3 4096 ∧ (((σ.1 53 (Int32.toNatClampNeg x3)) = 0 → vp_in x3 4096 ∧ (v_X12_findServed_L123 x1 x2 K164 P n (x3 + 1) (wI σ 54 (Int32.toNatClampNeg x3) ((σ.1 54 (Int32.toNatClampNeg x3)) &&& (x2 ^^^ (-1)))))) ∧ (¬ (σ.1 53 (Int32.toNatClampNeg x3)) = 0 → vp_in x3 4096 ∧ (v_X12_findServed_L123 x1 x2 K164 P n (x3 + 1) (wI σ 54 (Int32.toNatClampNeg x3) ((σ.1 54 (Int32.toNatClampNeg x3)) &&& (-1))))))))

def v_X12_findServed_L38 (P : Mem → Prop) : Nat → Int32 → Mem → Prop
  | 0, _, _ => False
  | n + 1, x1, σ => (96 ≤ x1 → P σ) ∧ (¬ 96 ≤ x1 → v_X12_findServed_L48 x1 (fun (x2_8 : Int32) (σ_9 : Mem) => (x2_8 = 0 → v_X12_findServed_L38 P n (x1 + 1) σ_9) ∧ (¬ x2_8 = 0 → v_X12_findGiven x1 σ_9 (fun (σ_10 : Mem) => v_X12_findServed_L123 x1 x2_8 (fun (σ_12 : Mem) => v_X12_findServed_L38 P n (x1 + 1) σ_12) P 5000 0 σ_10))) P 5000 0 0 σ)

def v_X12_findServed (σ : Mem) (P : Mem → Prop) : Prop := v_X12_findPairs σ (fun (σ_1 : Mem) => v_X12_findServed_L6 (fun (σ_3 : Mem) => v_X12_findServed_L38 P 5000 0 σ_3) P 5000 0 σ_1)

def v_X12_areOffers (a1 : Int32) (σ : Mem) (P : Int32 → Mem → Prop) : Prop := v_X12_within a1 0 (((1 : Int32) <<< ((σ.1 33 23) &&& 31)) - 1) σ (fun (r_1 : Int32) (σ_2 : Mem) => isB r_1 ∧ P r_1 σ_2)

def v_X12_serves (a1 : Int32) (σ : Mem) (P : Int32 → Mem → Prop) : Prop := v_X12_areOffers a1 σ (fun (r_1 : Int32) (σ_2 : Mem) => (r_1 = 0 → P (-2) σ_2) ∧ (¬ r_1 = 0 → v_X12_findServed σ_2 (fun (σ_3 : Mem) => vp_in a1 4096 ∧ (P (σ_3.1 54 (Int32.toNatClampNeg a1)) σ_3))))

def v_X12_fewest_L9 (P : Int32 → Mem → Prop) : Nat → Int32 → Int32 → Mem → Prop
  | 0, _, _, _ => False
  | n + 1, x1, x2, σ => (((1 : Int32) <<< ((σ.1 33 23) &&& 31)) ≤ x2 → P x1 σ) ∧ (¬ ((1 : Int32) <<< ((σ.1 33 23) &&& 31)) ≤ x2 → vp_in x2 4096 ∧ (((σ.1 54 (Int32.toNatClampNeg x2)) = (((1 : Int32) <<< ((σ.1 33 15) &&& 31)) - 1) → (x1 = (-9) → v_X12_fewest_L9 P n x2 (x2 + 1) σ) ∧ (¬ x1 = (-9) → v_X12_countOf x2 σ (fun (r_2 : Int32) (σ_3 : Mem) => v_X12_countOf x1 σ_3 (fun (r_4 : Int32) (σ_5 : Mem) => (r_4 ≤ r_2 → v_X12_fewest_L9 P n x1 (x2 + 1) σ_5) ∧ (¬ r_4 ≤ r_2 → v_X12_fewest_L9 P n x2 (x2 + 1) σ_5))))) ∧ (¬ (σ.1 54 (Int32.toNatClampNeg x2)) = (((1 : Int32) <<< ((σ.1 33 15) &&& 31)) - 1) → v_X12_fewest_L9 P n x1 (x2 + 1) σ)))

def v_X12_fewest (σ : Mem) (P : Int32 → Mem → Prop) : Prop := v_X12_findServed σ (fun (σ_1 : Mem) => v_X12_fewest_L9 P 5000 (-9) 0 σ_1)

def v_X12_most_L21 (x1 : Int32) (P : Int32 → Mem → Prop) : Nat → Int32 → Int32 → Mem → Prop
  | 0, _, _, _ => False
  | n + 1, x2, x3, σ => (((1 : Int32) <<< ((σ.1 33 23) &&& 31)) ≤ x3 → P x2 σ) ∧ (¬ ((1 : Int32) <<< ((σ.1 33 23) &&& 31)) ≤ x3 → v_X12_countOf x3 σ (fun (r_4 : Int32) (σ_5 : Mem) => (r_4 ≤ x1 → vp_in x3 4096 ∧ (v_X12_countOf (σ_5.1 54 (Int32.toNatClampNeg x3)) σ_5 (fun (r_6 : Int32) (σ_7 : Mem) => vp_in x2 4096 ∧ (v_X12_countOf (σ_7.1 54 (Int32.toNatClampNeg x2)) σ_7 (fun (r_8 : Int32) (σ_9 : Mem) => (0 < (r_6 - r_8) → v_X12_most_L21 x1 P n x3 (x3 + 1) σ_9) ∧ (¬ 0 < (r_6 - r_8) → ((r_6 - r_8) = 0 → v_X12_countOf x3 σ_9 (fun (r_10 : Int32) (σ_11 : Mem) => v_X12_countOf x2 σ_11 (fun (r_12 : Int32) (σ_13 : Mem) => (r_12 ≤ r_10 → v_X12_most_L21 x1 P n x2 (x3 + 1) σ_13) ∧ (¬ r_12 ≤ r_10 → v_X12_most_L21 x1 P n x3 (x3 + 1) σ_13)))) ∧ (¬ (r_6 - r_8) = 0 → v_X12_most_L21 x1 P n x2 (x3 + 1) σ_9))))))) ∧ (¬ r_4 ≤ x1 → v_X12_most_L21 x1 P n x2 (x3 + 1) σ_5)))

def v_X12_most (a1 : Int32) (σ : Mem) (P : Int32 → Mem → Prop) : Prop := v_X12_within a1 0 12 σ (fun (r_1 : Int32) (σ_2 : Mem) => (r_1 = 0 → P (-2) σ_2) ∧ (¬ r_1 = 0 → v_X12_findServed σ_2 (fun (σ_3 : Mem) => v_X12_most_L21 a1 P 5000 0 1 σ_3)))

def v_X12_build_L23 (x1 : Int32) (P : Int32 → Mem → Prop) : Nat → Int32 → Mem → Prop
  | 0, _, _ => False
  | n + 1, x2, σ => ((σ.1 33 23) ≤ x2 → P (σ.1 33 5) σ) ∧ (¬ (σ.1 33 23) ≤ x2 → (((x1 >>> (x2 &&& 31)) &&& 1) = 1 → vp_in x2 12 ∧ (v_X12_cutFor (σ.1 51 (Int32.toNatClampNeg x2)) σ (fun (r_3 : Int32) (σ_4 : Mem) => v_X12_build_L23 x1 P n (x2 + 1) σ_4))) ∧ (¬ ((x1 >>> (x2 &&& 31)) &&& 1) = 1 → v_X12_build_L23 x1 P n (x2 + 1) σ))

def v_X12_build (a1 : Int32) (σ : Mem) (P : Int32 → Mem → Prop) : Prop := v_X12_areOffers a1 σ (fun (r_1 : Int32) (σ_2 : Mem) => (r_1 = 0 → P (-2) σ_2) ∧ (¬ r_1 = 0 → v_X12_build_L23 a1 P 5000 0 (wI (wI σ_2 33 5 0) 33 33 0)))

def v_X12_change (a1 : Int32) (a2 : Int32) (σ : Mem) (P : Int32 → Mem → Prop) : Prop := v_X12_isBar a1 σ (fun (r_1 : Int32) (σ_2 : Mem) => (r_1 = 0 → P (-1) σ_2) ∧ (¬ r_1 = 0 → v_X12_isBar a2 σ_2 (fun (r_3 : Int32) (σ_4 : Mem) => (r_3 = 0 → P (-1) σ_4) ∧ (¬ r_3 = 0 → vp_in a1 12 ∧ (vp_in a2 12 ∧ (vp_in a1 12 ∧ (vp_in a2 12 ∧ ((a1 = a2 → P 0 (wI (wI σ_4 38 (Int32.toNatClampNeg a1) (σ_4.1 38 (Int32.toNatClampNeg a2))) 38 (Int32.toNatClampNeg a2) (σ_4.1 38 (Int32.toNatClampNeg a1)))) ∧ (¬ a1 = a2 → P 1 (wI (wI σ_4 38 (Int32.toNatClampNeg a1) (σ_4.1 38 (Int32.toNatClampNeg a2))) 38 (Int32.toNatClampNeg a2) (σ_4.1 38 (Int32.toNatClampNeg a1))))))))))))

def v_X12_findOften_L6 (K26 : Mem → Prop) (P : Mem → Prop) : Nat → Int32 → Mem → Prop
  | 0, _, _ => False
  | n + 1, x1, σ => (144 ≤ x1 → K26 σ) ∧ (¬ 144 ≤ x1 → vp_in x1 144 ∧ (v_X12_findOften_L6 K26 P n (x1 + 1) (wI σ 55 (Int32.toNatClampNeg x1) 0)))

def v_X12_findOften_L38 (x1 : Int32) (K138 : Mem → Prop) (P : Mem → Prop) : Nat → Int32 → Mem → Prop
  | 0, _, _ => False
  | n + 1, x2, σ => vp_in x1 8 ∧ (((σ.1 44 (Int32.toNatClampNeg x1)) ≤ x2 → K138 σ) ∧ (¬ (σ.1 44 (Int32.toNatClampNeg x1)) ≤ x2 → vp_in x1 8 ∧ (v_X12_chordAt x1 (x2 - 1) (σ.1 45 (Int32.toNatClampNeg x1)) σ (fun (r_4 : Int32) (σ_5 : Mem) => vp_in r_4 96 ∧ (vp_in x1 8 ∧ (v_X12_chordAt x1 x2 (σ_5.1 45 (Int32.toNatClampNeg x1)) σ_5 (fun (r_6 : Int32) (σ_7 : Mem) => vp_in r_6 96 ∧ (((σ_5.1 42 (Int32.toNatClampNeg r_4)) = (-9) → v_X12_findOften_L38 x1 K138 P n (x2 + 1) σ_7) ∧ (¬ (σ_5.1 42 (Int32.toNatClampNeg r_4)) = (-9) → ((σ_7.1 42 (Int32.toNatClampNeg r_6)) = (-9) → v_X12_findOften_L38 x1 K138 P n (x2 + 1) σ_7) ∧ (¬ (σ_7.1 42 (Int32.toNatClampNeg r_6)) = (-9) → vp_in (σ_5.1 42 (Int32.toNatClampNeg r_4)) 79 ∧ (v_X12_lowest (σ_7.1 40 (Int32.toNatClampNeg (σ_5.1 42 (Int32.toNatClampNeg r_4)))) σ_7 (fun (r_8 : Int32) (σ_9 : Mem) => vp_in (σ_7.1 42 (Int32.toNatClampNeg r_6)) 79 ∧ (v_X12_lowest (σ_9.1 40 (Int32.toNatClampNeg (σ_7.1 42 (Int32.toNatClampNeg r_6)))) σ_9 (fun (r_10 : Int32) (σ_11 : Mem) => vp_in ((12 * r_8) + r_10) 144 ∧ (vp_in ((12 * r_8) + r_10) 144 ∧ (v_X12_findOften_L38 x1 K138 P n (x2 + 1) (wI σ_11 55 (Int32.toNatClampNeg ((12 * r_8) + r_10)) ((σ_11.1 55 (Int32.toNatClampNeg ((12 * r_8) + r_10))) + 1))))))))))))))))))

def v_X12_findOften_L28 (P : Mem → Prop) : Nat → Int32 → Mem → Prop
  | 0, _, _ => False
  | n + 1, x1, σ => ((σ.1 33 15) ≤ x1 → P σ) ∧ (¬ (σ.1 33 15) ≤ x1 → v_X12_findOften_L38 x1 (fun (σ_13 : Mem) => v_X12_findOften_L28 P n (x1 + 1) σ_13) P 5000 1 σ)

def v_X12_findOften (σ : Mem) (P : Mem → Prop) : Prop := v_X12_findHolds σ (fun (σ_1 : Mem) => v_X12_findOften_L6 (fun (σ_3 : Mem) => v_X12_findOften_L28 P 5000 0 σ_3) P 5000 0 σ_1)

def v_X12_way_L18 (x2 : Int32) (K75 : Int32 → Mem → Prop) (P : Int32 → Mem → Prop) : Nat → Int32 → Int32 → Mem → Prop
  | 0, _, _, _ => False
  | n + 1, x1, x3, σ => ((σ.1 33 5) ≤ x3 → K75 x1 σ) ∧ (¬ (σ.1 33 5) ≤ x3 → vp_in x2 12 ∧ (vp_in x3 12 ∧ (∀ y_2 : Int32, y_2 = (σ.1 38 (Int32.toNatClampNeg x2)) - (σ.1 38 (Int32.toNatClampNeg x3)) → (vp_in ((12 * x2) + x3) 144 ∧ ((0 ≤ y_2 → v_X12_way_L18 x2 K75 P n (x1 + ((σ.1 55 (Int32.toNatClampNeg ((12 * x2) + x3))) * y_2)) (x3 + 1) σ) ∧ (¬ 0 ≤ y_2 → ∀ y_3 : Int32, y_3 = x1 + ((σ.1 55 (Int32.toNatClampNeg ((12 * x2) + x3))) * (-y_2)) → (v_X12_way_L18 x2 K75 P n y_3 (x3 + 1) σ)))))))

def v_X12_way_L8 (P : Int32 → Mem → Prop) : Nat → Int32 → Int32 → Mem → Prop
  | 0, _, _, _ => False
  | n + 1, x1, x2, σ => ((σ.1 33 5) ≤ x2 → P x1 σ) ∧ (¬ (σ.1 33 5) ≤ x2 → v_X12_way_L18 x2 (fun (x1_4 : Int32) (σ_5 : Mem) => v_X12_way_L8 P n x1_4 (x2 + 1) σ_5) P 5000 x1 0 σ)

def v_X12_way (σ : Mem) (P : Int32 → Mem → Prop) : Prop := v_X12_findOften σ (fun (σ_1 : Mem) => v_X12_way_L8 P 5000 0 0 σ_1)

def v_X12_findLeast_L40 (x1 : Int32) (x2 : Int32) (x3 : Int32) (K94 : Mem → Prop) (P : Mem → Prop) : Nat → Int32 → Mem → Prop
  | 0, _, _ => False
  | n + 1, x4, σ => ((σ.1 33 5) ≤ x4 → K94 σ) ∧ (¬ (σ.1 33 5) ≤ x4 → vp_in x2 4096 ∧ ((((x2 >>> (x3 &&& 31)) &&& 1) = ((x2 >>> (x4 &&& 31)) &&& 1) → vp_in x2 4096 ∧ (v_X12_findLeast_L40 x1 x2 x3 K94 P n (x4 + 1) (wI σ 56 (Int32.toNatClampNeg x2) ((σ.1 56 (Int32.toNatClampNeg x2)) + 0)))) ∧ (¬ ((x2 >>> (x3 &&& 31)) &&& 1) = ((x2 >>> (x4 &&& 31)) &&& 1) → vp_in ((12 * x3) + x4) 144 ∧ (vp_in x2 4096 ∧ (v_X12_findLeast_L40 x1 x2 x3 K94 P n (x4 + 1) (wI σ 56 (Int32.toNatClampNeg x2) ((σ.1 56 (Int32.toNatClampNeg x2)) + (σ.1 55 (Int32.toNatClampNeg ((12 * x3) + x4))))))))))

def v_X12_findLeast_L29 (x1 : Int32) (x2 : Int32) (K100 : Mem → Prop) (P : Mem → Prop) : Nat → Int32 → Mem → Prop
  | 0, _, _ => False
  | n + 1, x3, σ => ((σ.1 33 5) ≤ x3 → K100 σ) ∧ (¬ (σ.1 33 5) ≤ x3 → v_X12_findLeast_L40 x1 x2 x3 (fun (σ_3 : Mem) => v_X12_findLeast_L29 x1 x2 K100 P n (x3 + 1) σ_3) P 5000 0 σ)

def v_X12_findLeast_L15 (x1 : Int32) (K106 : Mem → Prop) (P : Mem → Prop) : Nat → Int32 → Mem → Prop
  | 0, _, _ => False
  | n + 1, x2, σ => (x1 < x2 → K106 σ) ∧ (¬ x1 < x2 → vp_in x2 4096 ∧ (v_X12_findLeast_L29 x1 x2 (fun (σ_5 : Mem) => v_X12_findLeast_L15 x1 K106 P n (x2 + 1) σ_5) P 5000 0 (wI σ 56 (Int32.toNatClampNeg x2) 0)))

def v_X12_findLeast_L131 (x2 : Int32) (K205 : Mem → Prop) (P : Mem → Prop) : Nat → Int32 → Mem → Prop
  | 0, _, _ => False
  | n + 1, x3, σ => ((σ.1 33 5) ≤ x3 → K205 σ) ∧ (¬ (σ.1 33 5) ≤ x3 → (((x2 >>> (x3 &&& 31)) &&& 1) = 0 → vp_in (x2 ||| ((1 : Int32) <<< (x3 &&& 31))) 4096 ∧ (vp_in (x2 ||| ((1 : Int32) <<< (x3 &&& 31))) 4096 ∧ (∀ y_8 : Int32, y_8 = (σ.1 56 (Int32.toNatClampNeg (x2 ||| ((1 : Int32) <<< (x3 &&& 31))))) + (σ.1 57 (Int32.toNatClampNeg (x2 ||| ((1 : Int32) <<< (x3 &&& 31))))) → (vp_in x2 4096 ∧ (((σ.1 57 (Int32.toNatClampNeg x2)) ≤ y_8 → vp_in x2 4096 ∧ (vp_in x2 4096 ∧ (v_X12_findLeast_L131 x2 K205 P n (x3 + 1) (wI σ 57 (Int32.toNatClampNeg x2) (σ.1 57 (Int32.toNatClampNeg x2)))))) ∧ (¬ (σ.1 57 (Int32.toNatClampNeg x2)) ≤ y_8 → vp_in x2 4096 ∧ (v_X12_findLeast_L131 x2 K205 P n (x3 + 1) (wI σ 57 (Int32.toNatClampNeg x2) y_8)))))))) ∧ (¬ ((x2 >>> (x3 &&& 31)) &&& 1) = 0 → v_X12_findLeast_L131 x2 K205 P n (x3 + 1) σ))

def v_X12_findLeast_L117 (P : Mem → Prop) : Nat → Int32 → Mem → Prop
  | 0, _, _ => False
  | n + 1, x2, σ => (x2 < 0 → P σ) ∧ (¬ x2 < 0 → vp_in x2 4096 ∧ (v_X12_findLeast_L131 x2 (fun (σ_10 : Mem) => v_X12_findLeast_L117 P n (x2 + (-1)) σ_10) P 5000 0 (wI σ 57 (Int32.toNatClampNeg x2) 1000000)))

def v_X12_findLeast (σ : Mem) (P : Mem → Prop) : Prop := v_X12_findOften σ (fun (σ_1 : Mem) => v_X12_findLeast_L15 (((1 : Int32) <<< ((σ_1.1 33 5) &&& 31)) - 1) (fun (σ_7 : Mem) => vp_in (((1 : Int32) <<< ((σ_1.1 33 5) &&& 31)) - 1) 4096 ∧ (v_X12_findLeast_L117 P 5000 ((((1 : Int32) <<< ((σ_1.1 33 5) &&& 31)) - 1) - 1) (wI σ_7 57 (Int32.toNatClampNeg (((1 : Int32) <<< ((σ_1.1 33 5) &&& 31)) - 1)) 0))) P 5000 0 σ_1)

def v_X12_least (σ : Mem) (P : Int32 → Mem → Prop) : Prop := v_X12_findLeast σ (fun (σ_1 : Mem) => vp_in 0 4096 ∧ (P (σ_1.1 57 (Int32.toNatClampNeg 0)) σ_1))

def v_X12_arrange_L21 (x1 : Int32) (x2 : Int32) (x3 : Int32) (K69 : Int32 → Mem → Prop) (P : Int32 → Mem → Prop) : Nat → Int32 → Mem → Prop
  | 0, _, _ => False
  | n + 1, x4, σ => (((x1 >>> (x4 &&& 31)) &&& 1) = 1 → v_X12_arrange_L21 x1 x2 x3 K69 P n (x4 + 1) σ) ∧ (¬ ((x1 >>> (x4 &&& 31)) &&& 1) = 1 → vp_in (x1 ||| ((1 : Int32) <<< (x4 &&& 31))) 4096 ∧ (vp_in (x1 ||| ((1 : Int32) <<< (x4 &&& 31))) 4096 ∧ (vp_in x1 4096 ∧ ((((σ.1 56 (Int32.toNatClampNeg (x1 ||| ((1 : Int32) <<< (x4 &&& 31))))) + (σ.1 57 (Int32.toNatClampNeg (x1 ||| ((1 : Int32) <<< (x4 &&& 31)))))) = (σ.1 57 (Int32.toNatClampNeg x1)) → K69 x4 σ) ∧ (¬ ((σ.1 56 (Int32.toNatClampNeg (x1 ||| ((1 : Int32) <<< (x4 &&& 31))))) + (σ.1 57 (Int32.toNatClampNeg (x1 ||| ((1 : Int32) <<< (x4 &&& 31)))))) = (σ.1 57 (Int32.toNatClampNeg x1)) → v_X12_arrange_L21 x1 x2 x3 K69 P n (x4 + 1) σ)))))

def v_X12_arrange_J86 (kb : Int32 → Int32 → Int32 → Mem → Prop) (P : Int32 → Mem → Prop) (x1 : Int32) (x3 : Int32) (x4 : Int32) (xs0 : Int32) (xs1 : Int32) (σ : Mem) : Prop := vp_in x4 12 ∧ (kb (x1 ||| ((1 : Int32) <<< (x4 &&& 31))) (xs1 + xs0) (x3 + 1) (wI σ 38 (Int32.toNatClampNeg x4) x3))

def v_X12_arrange_L10 (P : Int32 → Mem → Prop) : Nat → Int32 → Int32 → Int32 → Mem → Prop
  | 0, _, _, _, _ => False
  | n + 1, x1, x2, x3, σ => ((σ.1 33 5) ≤ x3 → P x2 σ) ∧ (¬ (σ.1 33 5) ≤ x3 → v_X12_arrange_L21 x1 x2 x3 (fun (x4_2 : Int32) (σ_3 : Mem) => vp_in x4_2 12 ∧ (((σ_3.1 38 (Int32.toNatClampNeg x4_2)) = x3 → v_X12_arrange_J86 (v_X12_arrange_L10 P n) P x1 x3 x4_2 0 x2 σ_3) ∧ (¬ (σ_3.1 38 (Int32.toNatClampNeg x4_2)) = x3 → v_X12_arrange_J86 (v_X12_arrange_L10 P n) P x1 x3 x4_2 1 x2 σ_3))) P 5000 0 σ)

def v_X12_arrange (σ : Mem) (P : Int32 → Mem → Prop) : Prop := v_X12_findLeast σ (fun (σ_1 : Mem) => v_X12_arrange_L10 P 5000 0 0 0 σ_1)

def v_X12_troubleAt_J73 (P : Int32 → Mem → Prop) (x5 : Int32) (xs0 : Int32) (σ : Mem) : Prop := (xs0 = 0 → P x5 σ) ∧ (¬ xs0 = 0 → P (x5 + 30) σ)

def v_X12_troubleAt_J72 (P : Int32 → Mem → Prop) (x5 : Int32) (σ : Mem) : Prop := v_X12_troubleAt_J73 P x5 0 σ

def v_X12_troubleAt (a1 : Int32) (a2 : Int32) (a3 : Int32) (σ : Mem) (P : Int32 → Mem → Prop) : Prop := vp_in a1 8 ∧ (v_X12_chordAt a1 a2 (σ.1 45 (Int32.toNatClampNeg a1)) σ (fun (r_1 : Int32) (σ_2 : Mem) => v_X12_classesOf r_1 σ_2 (fun (r_3 : Int32) (σ_4 : Mem) => vp_in a3 79 ∧ (v_X12_countOf (r_3 ^^^ (σ_4.1 41 (Int32.toNatClampNeg a3))) σ_4 (fun (r_5 : Int32) (σ_6 : Mem) => v_X12_hasNote a1 a2 σ_6 (fun (r_7 : Int32) (σ_8 : Mem) => (r_7 = 0 → v_X12_troubleAt_J72 P (10 * r_5) σ_8) ∧ (¬ r_7 = 0 → vp_in a1 8 ∧ (v_X12_noteAt a1 a2 (σ_8.1 45 (Int32.toNatClampNeg a1)) σ_8 (fun (r_9 : Int32) (σ_10 : Mem) => vp_in a3 79 ∧ (v_X12_isHeard r_9 (σ_10.1 40 (Int32.toNatClampNeg a3)) σ_10 (fun (r_11 : Int32) (σ_12 : Mem) => (r_11 = 0 → v_X12_troubleAt_J73 P (10 * r_5) 1 σ_12) ∧ (¬ r_11 = 0 → v_X12_troubleAt_J72 P (10 * r_5) σ_12))))))))))))

def v_X12_goingOn (a1 : Int32) (a2 : Int32) (a3 : Int32) (σ : Mem) (P : Int32 → Mem → Prop) : Prop := vp_in a2 79 ∧ (vp_in a3 79 ∧ (v_X12_countOf ((σ.1 40 (Int32.toNatClampNeg a2)) ^^^ (σ.1 40 (Int32.toNatClampNeg a3))) σ (fun (r_1 : Int32) (σ_2 : Mem) => vp_in (((79 * a1) + 79) + a3) 1896 ∧ (P ((2 * r_1) + (σ_2.1 59 (Int32.toNatClampNeg (((79 * a1) + 79) + a3)))) σ_2))))

def v_X12_findTrouble_L50 (x1 : Int32) (x2 : Int32) (x3 : Int32) (K103 : Int32 → Mem → Prop) (P : Mem → Prop) : Nat → Int32 → Int32 → Mem → Prop
  | 0, _, _, _ => False
  | n + 1, x4, x5, σ => ((σ.1 33 10) ≤ x5 → K103 x4 σ) ∧ (¬ (σ.1 33 10) ≤ x5 → vp_in x1 8 ∧ ((((σ.1 44 (Int32.toNatClampNeg x1)) - 1) ≤ x2 → K103 x4 σ) ∧ (¬ ((σ.1 44 (Int32.toNatClampNeg x1)) - 1) ≤ x2 → v_X12_goingOn x2 x3 x5 σ (fun (r_2 : Int32) (σ_3 : Mem) => (x4 ≤ r_2 → v_X12_findTrouble_L50 x1 x2 x3 K103 P n x4 (x5 + 1) σ_3) ∧ (¬ x4 ≤ r_2 → v_X12_findTrouble_L50 x1 x2 x3 K103 P n r_2 (x5 + 1) σ_3)))))

def v_X12_findTrouble_J103 (kb : Int32 → Mem → Prop) (K130 : Mem → Prop) (P : Mem → Prop) (x1 : Int32) (x2 : Int32) (x3 : Int32) (x4 : Int32) (σ : Mem) : Prop := v_X12_troubleAt x1 x2 x3 σ (fun (r_6 : Int32) (σ_7 : Mem) => vp_in ((79 * x2) + x3) 1896 ∧ (kb (x3 + 1) (wI σ_7 59 (Int32.toNatClampNeg ((79 * x2) + x3)) (r_6 + x4))))

def v_X12_findTrouble_L19 (x1 : Int32) (x2 : Int32) (K130 : Mem → Prop) (P : Mem → Prop) : Nat → Int32 → Mem → Prop
  | 0, _, _ => False
  | n + 1, x3, σ => ((σ.1 33 10) ≤ x3 → K130 σ) ∧ (¬ (σ.1 33 10) ≤ x3 → vp_in x1 8 ∧ ((x2 = ((σ.1 44 (Int32.toNatClampNeg x1)) - 1) → v_X12_findTrouble_L50 x1 x2 x3 (fun (x4_4 : Int32) (σ_5 : Mem) => v_X12_findTrouble_J103 (v_X12_findTrouble_L19 x1 x2 K130 P n) K130 P x1 x2 x3 x4_4 σ_5) P 5000 0 0 σ) ∧ (¬ x2 = ((σ.1 44 (Int32.toNatClampNeg x1)) - 1) → v_X12_findTrouble_L50 x1 x2 x3 (fun (x4_8 : Int32) (σ_9 : Mem) => v_X12_findTrouble_J103 (v_X12_findTrouble_L19 x1 x2 K130 P n) K130 P x1 x2 x3 x4_8 σ_9) P 5000 1000000 0 σ)))

def v_X12_findTrouble_L13 (x1 : Int32) (P : Mem → Prop) : Nat → Int32 → Mem → Prop
  | 0, _, _ => False
  | n + 1, x2, σ => (x2 < 0 → P σ) ∧ (¬ x2 < 0 → v_X12_findTrouble_L19 x1 x2 (fun (σ_11 : Mem) => v_X12_findTrouble_L13 x1 P n (x2 + (-1)) σ_11) P 5000 0 σ)

def v_X12_findTrouble (a1 : Int32) (σ : Mem) (P : Mem → Prop) : Prop := v_X12_findGrips σ (fun (σ_1 : Mem) => vp_in a1 8 ∧ (v_X12_findTrouble_L13 a1 P 5000 ((σ_1.1 44 (Int32.toNatClampNeg a1)) - 1) σ_1))

def v_X12_leastFirst_L4 (P : Int32 → Mem → Prop) : Nat → Int32 → Int32 → Mem → Prop
  | 0, _, _, _ => False
  | n + 1, x1, x2, σ => ((σ.1 33 10) ≤ x2 → P x1 σ) ∧ (¬ (σ.1 33 10) ≤ x2 → vp_in x2 1896 ∧ (vp_in x1 1896 ∧ (((σ.1 59 (Int32.toNatClampNeg x1)) ≤ (σ.1 59 (Int32.toNatClampNeg x2)) → v_X12_leastFirst_L4 P n x1 (x2 + 1) σ) ∧ (¬ (σ.1 59 (Int32.toNatClampNeg x1)) ≤ (σ.1 59 (Int32.toNatClampNeg x2)) → v_X12_leastFirst_L4 P n x2 (x2 + 1) σ))))

def v_X12_leastFirst (σ : Mem) (P : Int32 → Mem → Prop) : Prop := v_X12_leastFirst_L4 P 5000 0 1 σ

def v_X12_trouble (a1 : Int32) (σ : Mem) (P : Int32 → Mem → Prop) : Prop := v_X12_isSong a1 σ (fun (r_1 : Int32) (σ_2 : Mem) => (r_1 = 0 → P (-1) σ_2) ∧ (¬ r_1 = 0 → v_X12_findTrouble a1 σ_2 (fun (σ_3 : Mem) => v_X12_leastFirst σ_3 (fun (r_4 : Int32) (σ_5 : Mem) => vp_in r_4 1896 ∧ (P (σ_5.1 59 (Int32.toNatClampNeg r_4)) σ_5)))))

def v_X12_grip_L36 (x2 : Int32) (x3 : Int32) (x4 : Int32) (K81 : Int32 → Mem → Prop) (P : Int32 → Mem → Prop) : Nat → Int32 → Int32 → Mem → Prop
  | 0, _, _, _ => False
  | n + 1, x5, x6, σ => ((σ.1 33 10) ≤ x6 → K81 x5 σ) ∧ (¬ (σ.1 33 10) ≤ x6 → v_X12_goingOn x4 x3 x6 σ (fun (r_6 : Int32) (σ_7 : Mem) => v_X12_goingOn x4 x3 x5 σ_7 (fun (r_8 : Int32) (σ_9 : Mem) => (r_8 ≤ r_6 → v_X12_grip_L36 x2 x3 x4 K81 P n x5 (x6 + 1) σ_9) ∧ (¬ r_8 ≤ r_6 → v_X12_grip_L36 x2 x3 x4 K81 P n x6 (x6 + 1) σ_9))))

def v_X12_grip_L24 (x2 : Int32) (P : Int32 → Mem → Prop) : Nat → Int32 → Int32 → Mem → Prop
  | 0, _, _, _ => False
  | n + 1, x3, x4, σ => (x2 ≤ x4 → vp_in x3 79 ∧ (P (σ.1 40 (Int32.toNatClampNeg x3)) σ)) ∧ (¬ x2 ≤ x4 → v_X12_grip_L36 x2 x3 x4 (fun (x5_10 : Int32) (σ_11 : Mem) => v_X12_grip_L24 x2 P n x5_10 (x4 + 1) σ_11) P 5000 0 1 σ)

def v_X12_grip (a1 : Int32) (a2 : Int32) (σ : Mem) (P : Int32 → Mem → Prop) : Prop := v_X12_isStep a1 a2 σ (fun (r_1 : Int32) (σ_2 : Mem) => (r_1 = 0 → P (-1) σ_2) ∧ (¬ r_1 = 0 → v_X12_findTrouble a1 σ_2 (fun (σ_3 : Mem) => v_X12_leastFirst σ_3 (fun (r_4 : Int32) (σ_5 : Mem) => v_X12_grip_L24 a2 P 5000 r_4 0 σ_5))))

def v_X12_heard_J101 (P : Int32 → Mem → Prop) (σ : Mem) : Prop := v_X12_fails 3 σ (fun (r_9 : Int32) (σ_10 : Mem) => P r_9 σ_10)

def v_X12_heard_L110 (x1 : Int32) (x2 : Int32) (x4 : Int32) (K151 : Mem → Prop) (P : Int32 → Mem → Prop) : Nat → Int32 → Mem → Prop
  | 0, _, _ => False
  | n + 1, x5, σ => ((σ.1 33 2) ≤ x5 → K151 σ) ∧ (¬ (σ.1 33 2) ≤ x5 → vp_in (((64 * x2) + x4) + x5) 256 ∧ (v_X12_within (σ.1 50 (Int32.toNatClampNeg (((64 * x2) + x4) + x5))) 0 2 σ (fun (r_11 : Int32) (σ_12 : Mem) => (r_11 = 0 → P (-2) σ_12) ∧ (¬ r_11 = 0 → v_X12_heard_L110 x1 x2 x4 K151 P n (x5 + 1) σ_12))))

def v_X12_heard_L189 (x2 : Int32) (x4 : Int32) (K234 : Mem → Prop) (P : Int32 → Mem → Prop) : Nat → Int32 → Mem → Prop
  | 0, _, _ => False
  | n + 1, x5, σ => ((σ.1 33 2) ≤ x5 → K234 σ) ∧ (¬ (σ.1 33 2) ≤ x5 → vp_in (((64 * x2) + x4) + x5) 256 ∧ (vp_in ((36 * (σ.1 33 33)) + x5) 720 ∧ (v_X12_heard_L189 x2 x4 K234 P n (x5 + 1) (wI σ 62 (Int32.toNatClampNeg ((36 * (σ.1 33 33)) + x5)) (σ.1 50 (Int32.toNatClampNeg (((64 * x2) + x4) + x5)))))))

def v_X12_heard_J63 (P : Int32 → Mem → Prop) (x1 : Int32) (x2 : Int32) (x4 : Int32) (σ : Mem) : Prop := vp_in x2 4 ∧ (((σ.1 48 (Int32.toNatClampNeg x2)) = (-9) → v_X12_fails 1 σ (fun (r_7 : Int32) (σ_8 : Mem) => P r_7 σ_8)) ∧ (¬ (σ.1 48 (Int32.toNatClampNeg x2)) = (-9) → (x4 < 0 → v_X12_heard_J101 P σ) ∧ (¬ x4 < 0 → vp_in x2 4 ∧ ((x4 ≤ ((σ.1 49 (Int32.toNatClampNeg x2)) - (σ.1 33 2)) → v_X12_heard_L110 x1 x2 x4 (fun (σ_14 : Mem) => ((σ_14.1 33 33) = 20 → P (-4) σ_14) ∧ (¬ (σ_14.1 33 33) = 20 → vp_in (σ_14.1 33 33) 20 ∧ (vp_in ((wI σ_14 60 (Int32.toNatClampNeg (σ_14.1 33 33)) x1).1 33 33) 20 ∧ (v_X12_heard_L189 x2 x4 (fun (σ_16 : Mem) => P (((wI σ_16 33 33 ((σ_16.1 33 33) + 1)).1 33 33) - 1) (wI σ_16 33 33 ((σ_16.1 33 33) + 1))) P 5000 0 (wI (wI σ_14 60 (Int32.toNatClampNeg (σ_14.1 33 33)) x1) 61 (Int32.toNatClampNeg ((wI σ_14 60 (Int32.toNatClampNeg (σ_14.1 33 33)) x1).1 33 33)) ((wI σ_14 60 (Int32.toNatClampNeg (σ_14.1 33 33)) x1).1 33 2)))))) P 5000 0 σ) ∧ (¬ x4 ≤ ((σ.1 49 (Int32.toNatClampNeg x2)) - (σ.1 33 2)) → v_X12_heard_J101 P σ)))))

def v_X12_heard (a1 : Int32) (a2 : Int32) (a3 : Int32) (a4 : Int32) (σ : Mem) (P : Int32 → Mem → Prop) : Prop := v_X12_within a2 0 3 (wI σ 33 0 0) (fun (r_1 : Int32) (σ_2 : Mem) => (r_1 = 0 → P (-1) σ_2) ∧ (¬ r_1 = 0 → v_X12_isSet a1 σ_2 (fun (r_3 : Int32) (σ_4 : Mem) => (r_3 = 0 → P (-2) σ_4) ∧ (¬ r_3 = 0 → v_X12_within a3 0 2 σ_4 (fun (r_5 : Int32) (σ_6 : Mem) => (r_5 = 0 → P (-2) σ_6) ∧ (¬ r_5 = 0 → vp_in a2 4 ∧ (((σ_6.1 48 (Int32.toNatClampNeg a2)) = (-9) → v_X12_heard_J63 P a1 a2 a4 σ_6) ∧ (¬ (σ_6.1 48 (Int32.toNatClampNeg a2)) = (-9) → vp_in a2 4 ∧ (((σ_6.1 48 (Int32.toNatClampNeg a2)) = a3 → v_X12_heard_J63 P a1 a2 a4 σ_6) ∧ (¬ (σ_6.1 48 (Int32.toNatClampNeg a2)) = a3 → v_X12_fails 2 σ_6 (fun (r_17 : Int32) (σ_18 : Mem) => P r_17 σ_18)))))))))))

def v_X12_findMust_L2 (K22 : Mem → Prop) (P : Mem → Prop) : Nat → Int32 → Mem → Prop
  | 0, _, _ => False
  | n + 1, x1, σ => (432 ≤ x1 → K22 σ) ∧ (¬ 432 ≤ x1 → vp_in x1 432 ∧ (v_X12_findMust_L2 K22 P n (x1 + 1) (wI σ 63 (Int32.toNatClampNeg x1) (vp_nar .boolean 0))))

def v_X12_findMust_J102 (kb : Int32 → Mem → Prop) (K126 : Mem → Prop) (P : Mem → Prop) (x1 : Int32) (x2 : Int32) (x3 : Int32) (xs0 : Int32) (σ : Mem) : Prop := vp_in ((36 * x3) + x2) 432 ∧ (vp_in ((36 * x3) + x2) 432 ∧ (kb (x3 + 1) (wI σ 63 (Int32.toNatClampNeg ((36 * x3) + x2)) (vp_nar .boolean ((σ.1 63 (Int32.toNatClampNeg ((36 * x3) + x2))) ||| xs0)))))

def v_X12_findMust_J101 (kb : Int32 → Mem → Prop) (K126 : Mem → Prop) (P : Mem → Prop) (x1 : Int32) (x2 : Int32) (x3 : Int32) (σ : Mem) : Prop := v_X12_findMust_J102 kb K126 P x1 x2 x3 0 σ

def v_X12_findMust_L46 (x1 : Int32) (x2 : Int32) (K126 : Mem → Prop) (P : Mem → Prop) : Nat → Int32 → Mem → Prop
  | 0, _, _ => False
  | n + 1, x3, σ => ((σ.1 33 5) ≤ x3 → K126 σ) ∧ (¬ (σ.1 33 5) ≤ x3 → vp_in ((36 * x1) + x2) 720 ∧ (((σ.1 62 (Int32.toNatClampNeg ((36 * x1) + x2))) = 1 → vp_in x1 20 ∧ (((((σ.1 60 (Int32.toNatClampNeg x1)) >>> (x3 &&& 31)) &&& 1) = 1 → vp_in ((36 * x3) + x2) 432 ∧ (((σ.1 39 (Int32.toNatClampNeg ((36 * x3) + x2))) ≤ 0 → v_X12_findMust_J101 (v_X12_findMust_L46 x1 x2 K126 P n) K126 P x1 x2 x3 σ) ∧ (¬ (σ.1 39 (Int32.toNatClampNeg ((36 * x3) + x2))) ≤ 0 → v_X12_findMust_J102 (v_X12_findMust_L46 x1 x2 K126 P n) K126 P x1 x2 x3 1 σ))) ∧ (¬ (((σ.1 60 (Int32.toNatClampNeg x1)) >>> (x3 &&& 31)) &&& 1) = 1 → v_X12_findMust_J101 (v_X12_findMust_L46 x1 x2 K126 P n) K126 P x1 x2 x3 σ))) ∧ (¬ (σ.1 62 (Int32.toNatClampNeg ((36 * x1) + x2))) = 1 → v_X12_findMust_J101 (v_X12_findMust_L46 x1 x2 K126 P n) K126 P x1 x2 x3 σ)))

def v_X12_findMust_L34 (x1 : Int32) (K132 : Mem → Prop) (P : Mem → Prop) : Nat → Int32 → Mem → Prop
  | 0, _, _ => False
  | n + 1, x2, σ => vp_in x1 20 ∧ (((σ.1 61 (Int32.toNatClampNeg x1)) ≤ x2 → K132 σ) ∧ (¬ (σ.1 61 (Int32.toNatClampNeg x1)) ≤ x2 → v_X12_findMust_L46 x1 x2 (fun (σ_4 : Mem) => v_X12_findMust_L34 x1 K132 P n (x2 + 1) σ_4) P 5000 0 σ))

def v_X12_findMust_L24 (P : Mem → Prop) : Nat → Int32 → Mem → Prop
  | 0, _, _ => False
  | n + 1, x1, σ => ((σ.1 33 33) ≤ x1 → P σ) ∧ (¬ (σ.1 33 33) ≤ x1 → v_X12_findMust_L34 x1 (fun (σ_6 : Mem) => v_X12_findMust_L24 P n (x1 + 1) σ_6) P 5000 0 σ)

def v_X12_findMust (σ : Mem) (P : Mem → Prop) : Prop := v_X12_findMust_L2 (fun (σ_2 : Mem) => v_X12_findMust_L24 P 5000 0 σ_2) P 5000 0 σ

def v_X12_mayBeWhole_L5 (x1 : Int32) (x2 : Int32) (P : Int32 → Mem → Prop) : Nat → Int32 → Int32 → Mem → Prop
  | 0, _, _, _ => False
  | n + 1, x3, x4, σ => ((σ.1 33 5) ≤ x4 → P x3 σ) ∧ (¬ (σ.1 33 5) ≤ x4 → vp_in x1 20 ∧ (((((σ.1 60 (Int32.toNatClampNeg x1)) >>> (x4 &&& 31)) &&& 1) = 1 → vp_in ((36 * x4) + x2) 432 ∧ (((σ.1 39 (Int32.toNatClampNeg ((36 * x4) + x2))) ≤ 0 → v_X12_mayBeWhole_L5 x1 x2 P n (x3 + 0) (x4 + 1) σ) ∧ (¬ (σ.1 39 (Int32.toNatClampNeg ((36 * x4) + x2))) ≤ 0 → vp_in ((36 * x4) + x2) 432 ∧ (((σ.1 63 (Int32.toNatClampNeg ((36 * x4) + x2))) = 0 → v_X12_mayBeWhole_L5 x1 x2 P n (x3 + 1) (x4 + 1) σ) ∧ (¬ (σ.1 63 (Int32.toNatClampNeg ((36 * x4) + x2))) = 0 → v_X12_mayBeWhole_L5 x1 x2 P n (x3 + 0) (x4 + 1) σ))))) ∧ (¬ (((σ.1 60 (Int32.toNatClampNeg x1)) >>> (x4 &&& 31)) &&& 1) = 1 → v_X12_mayBeWhole_L5 x1 x2 P n (x3 + 0) (x4 + 1) σ)))

def v_X12_mayBeWhole (a1 : Int32) (a2 : Int32) (σ : Mem) (P : Int32 → Mem → Prop) : Prop := v_X12_mayBeWhole_L5 a1 a2 P 5000 0 0 σ

def v_X12_isExplained_L16 (x1 : Int32) (K57 : Mem → Prop) (P : Int32 → Mem → Prop) : Nat → Int32 → Mem → Prop
  | 0, _, _ => False
  | n + 1, x2, σ => vp_in x1 20 ∧ (((σ.1 61 (Int32.toNatClampNeg x1)) ≤ x2 → K57 σ) ∧ (¬ (σ.1 61 (Int32.toNatClampNeg x1)) ≤ x2 → vp_in ((36 * x1) + x2) 720 ∧ (((σ.1 62 (Int32.toNatClampNeg ((36 * x1) + x2))) = 0 → v_X12_mayBeWhole x1 x2 σ (fun (r_2 : Int32) (σ_3 : Mem) => (r_2 = 0 → P 0 σ_3) ∧ (¬ r_2 = 0 → v_X12_isExplained_L16 x1 K57 P n (x2 + 1) σ_3))) ∧ (¬ (σ.1 62 (Int32.toNatClampNeg ((36 * x1) + x2))) = 0 → v_X12_isExplained_L16 x1 K57 P n (x2 + 1) σ))))

def v_X12_isExplained_L6 (P : Int32 → Mem → Prop) : Nat → Int32 → Mem → Prop
  | 0, _, _ => False
  | n + 1, x1, σ => ((σ.1 33 33) ≤ x1 → P 1 σ) ∧ (¬ (σ.1 33 33) ≤ x1 → v_X12_isExplained_L16 x1 (fun (σ_5 : Mem) => v_X12_isExplained_L6 P n (x1 + 1) σ_5) P 5000 0 σ)

def v_X12_isExplained (σ : Mem) (P : Int32 → Mem → Prop) : Prop := v_X12_findMust σ (fun (σ_1 : Mem) => v_X12_isExplained_L6 P 5000 0 σ_1)

def v_X12_worn_L14 (P : Int32 → Mem → Prop) : Nat → Int32 → Int32 → Mem → Prop
  | 0, _, _, _ => False
  | n + 1, x1, x2, σ => (432 ≤ x2 → P x1 σ) ∧ (¬ 432 ≤ x2 → vp_in x2 432 ∧ (((σ.1 63 (Int32.toNatClampNeg x2)) = 0 → v_X12_worn_L14 P n (x1 + 0) (x2 + 1) σ) ∧ (¬ (σ.1 63 (Int32.toNatClampNeg x2)) = 0 → v_X12_worn_L14 P n (x1 + 1) (x2 + 1) σ)))

def v_X12_worn (σ : Mem) (P : Int32 → Mem → Prop) : Prop := v_X12_isExplained σ (fun (r_1 : Int32) (σ_2 : Mem) => (r_1 = 0 → P (-9) σ_2) ∧ (¬ r_1 = 0 → v_X12_worn_L14 P 5000 0 0 σ_2))

def v_X12_sure_J111 (kb : Int32 → Mem → Prop) (P : Int32 → Mem → Prop) (x1 : Int32) (x2 : Int32) (x3 : Int32) (xs0 : Int32) (σ : Mem) : Prop := (xs0 = 0 → kb (x3 + 1) σ) ∧ (¬ xs0 = 0 → v_X12_mayBeWhole x3 x2 σ (fun (r_7 : Int32) (σ_8 : Mem) => (r_7 = 1 → P 0 σ_8) ∧ (¬ r_7 = 1 → kb (x3 + 1) σ_8)))

def v_X12_sure_J110 (kb : Int32 → Mem → Prop) (P : Int32 → Mem → Prop) (x1 : Int32) (x2 : Int32) (x3 : Int32) (σ : Mem) : Prop := v_X12_sure_J111 kb P x1 x2 x3 0 σ

def v_X12_sure_L60 (x1 : Int32) (x2 : Int32) (P : Int32 → Mem → Prop) : Nat → Int32 → Mem → Prop
  | 0, _, _ => False
  | n + 1, x3, σ => ((σ.1 33 33) ≤ x3 → P 2 σ) ∧ (¬ (σ.1 33 33) ≤ x3 → vp_in x3 20 ∧ (((σ.1 61 (Int32.toNatClampNeg x3)) ≤ x2 → v_X12_sure_J110 (v_X12_sure_L60 x1 x2 P n) P x1 x2 x3 σ) ∧ (¬ (σ.1 61 (Int32.toNatClampNeg x3)) ≤ x2 → vp_in ((36 * x3) + x2) 720 ∧ (((σ.1 62 (Int32.toNatClampNeg ((36 * x3) + x2))) = 0 → vp_in x3 20 ∧ (((((σ.1 60 (Int32.toNatClampNeg x3)) >>> (x1 &&& 31)) &&& 1) = 1 → v_X12_sure_J111 (v_X12_sure_L60 x1 x2 P n) P x1 x2 x3 1 σ) ∧ (¬ (((σ.1 60 (Int32.toNatClampNeg x3)) >>> (x1 &&& 31)) &&& 1) = 1 → v_X12_sure_J110 (v_X12_sure_L60 x1 x2 P n) P x1 x2 x3 σ))) ∧ (¬ (σ.1 62 (Int32.toNatClampNeg ((36 * x3) + x2))) = 0 → v_X12_sure_J110 (v_X12_sure_L60 x1 x2 P n) P x1 x2 x3 σ)))))

def v_X12_sure (a1 : Int32) (a2 : Int32) (σ : Mem) (P : Int32 → Mem → Prop) : Prop := v_X12_isBar a1 σ (fun (r_1 : Int32) (σ_2 : Mem) => (r_1 = 0 → P (-1) σ_2) ∧ (¬ r_1 = 0 → v_X12_isString a2 σ_2 (fun (r_3 : Int32) (σ_4 : Mem) => (r_3 = 0 → P (-1) σ_4) ∧ (¬ r_3 = 0 → vp_in ((36 * a1) + a2) 432 ∧ (((σ_4.1 39 (Int32.toNatClampNeg ((36 * a1) + a2))) = 0 → P (-1) σ_4) ∧ (¬ (σ_4.1 39 (Int32.toNatClampNeg ((36 * a1) + a2))) = 0 → v_X12_isExplained σ_4 (fun (r_5 : Int32) (σ_6 : Mem) => (r_5 = 0 → P (-3) σ_6) ∧ (¬ r_5 = 0 → vp_in ((36 * a1) + a2) 432 ∧ (((σ_6.1 63 (Int32.toNatClampNeg ((36 * a1) + a2))) = 0 → v_X12_sure_L60 a1 a2 P 5000 0 σ_6) ∧ (¬ (σ_6.1 63 (Int32.toNatClampNeg ((36 * a1) + a2))) = 0 → P 1 σ_6))))))))))

def v_X12_unhear (σ : Mem) (P : Int32 → Mem → Prop) : Prop := P (σ.1 33 33) (wI σ 33 33 0)

def v_X12_songsWith (a1 : Int32) (a2 : Int32) (σ : Mem) (P : Int32 → Mem → Prop) : Prop := vp_in a1 36 ∧ (vp_in a1 36 ∧ (v_X12_played (wI σ 34 (Int32.toNatClampNeg a1) ((σ.1 34 (Int32.toNatClampNeg a1)) + a2)) (fun (r_1 : Int32) (σ_2 : Mem) => v_X12_countOf r_1 σ_2 (fun (r_3 : Int32) (σ_4 : Mem) => vp_in a1 36 ∧ (vp_in a1 36 ∧ (P r_3 (wI σ_4 34 (Int32.toNatClampNeg a1) ((σ_4.1 34 (Int32.toNatClampNeg a1)) - a2))))))))

def v_X12_isTurn (a0 : Int32) (σ : Mem) (P : Int32 → Mem → Prop) : Prop := (a0 = (-2) → P 1 σ) ∧ (¬ a0 = (-2) → (a0 = (-1) → P 1 σ) ∧ (¬ a0 = (-1) → (a0 = 1 → P 1 σ) ∧ (¬ a0 = 1 → (a0 = 2 → P 1 σ) ∧ (¬ a0 = 2 → P 0 σ))))

def v_X12_otherwise (a1 : Int32) (a2 : Int32) (σ : Mem) (P : Int32 → Mem → Prop) : Prop := v_X12_isString a1 σ (fun (r_1 : Int32) (σ_2 : Mem) => (r_1 = 0 → P (-1) σ_2) ∧ (¬ r_1 = 0 → v_X12_isTurn a2 σ_2 (fun (r_3 : Int32) (σ_4 : Mem) => (r_3 = 0 → P (-2) σ_4) ∧ (¬ r_3 = 0 → vp_in a1 36 ∧ (v_X12_within ((σ_4.1 34 (Int32.toNatClampNeg a1)) + a2) 0 60 σ_4 (fun (r_5 : Int32) (σ_6 : Mem) => (r_5 = 0 → P (-2) σ_6) ∧ (¬ r_5 = 0 → v_X12_songsWith a1 a2 σ_6 (fun (r_7 : Int32) (σ_8 : Mem) => P r_7 σ_8))))))))

def v_X12_best_L42 (x1 : Int32) (x5 : Int32) (K108 : Int32 → Int32 → Int32 → Mem → Prop) (P : Int32 → Mem → Prop) : Nat → Int32 → Int32 → Int32 → Int32 → Mem → Prop
  | 0, _, _, _, _, _ => False
  | n + 1, x2, x3, x4, x6, σ => (2 < x6 → K108 x2 x3 x4 σ) ∧ (¬ 2 < x6 → (x6 = 0 → v_X12_best_L42 x1 x5 K108 P n x2 x3 x4 (x6 + 1) σ) ∧ (¬ x6 = 0 → vp_in x5 36 ∧ (v_X12_within ((σ.1 34 (Int32.toNatClampNeg x5)) + x6) 0 60 σ (fun (r_7 : Int32) (σ_8 : Mem) => (r_7 = 0 → v_X12_best_L42 x1 x5 K108 P n x2 x3 x4 (x6 + 1) σ_8) ∧ (¬ r_7 = 0 → v_X12_songsWith x5 x6 σ_8 (fun (r_9 : Int32) (σ_10 : Mem) => (r_9 ≤ x4 → v_X12_best_L42 x1 x5 K108 P n x2 x3 x4 (x6 + 1) σ_10) ∧ (¬ r_9 ≤ x4 → v_X12_best_L42 x1 x5 K108 P n x5 x6 r_9 (x6 + 1) σ_10)))))))

def v_X12_best_L29 (x1 : Int32) (K114 : Int32 → Int32 → Int32 → Mem → Prop) (P : Int32 → Mem → Prop) : Nat → Int32 → Int32 → Int32 → Int32 → Mem → Prop
  | 0, _, _, _, _, _ => False
  | n + 1, x2, x3, x4, x5, σ => ((σ.1 33 2) ≤ x5 → K114 x2 x3 x4 σ) ∧ (¬ (σ.1 33 2) ≤ x5 → v_X12_best_L42 x1 x5 (fun (x2_11 : Int32) (x3_11 : Int32) (x4_11 : Int32) (σ_12 : Mem) => v_X12_best_L29 x1 K114 P n x2_11 x3_11 x4_11 (x5 + 1) σ_12) P 5000 x2 x3 x4 (-2) σ)

def v_X12_best (a1 : Int32) (σ : Mem) (P : Int32 → Mem → Prop) : Prop := v_X12_within a1 0 2 σ (fun (r_1 : Int32) (σ_2 : Mem) => (r_1 = 0 → P 99 σ_2) ∧ (¬ r_1 = 0 → v_X12_played σ_2 (fun (r_3 : Int32) (σ_4 : Mem) => v_X12_countOf r_3 σ_4 (fun (r_5 : Int32) (σ_6 : Mem) => v_X12_best_L29 a1 (fun (x2_13 : Int32) (x3_13 : Int32) (x4_13 : Int32) (σ_14 : Mem) => (a1 = 0 → P x2_13 σ_14) ∧ (¬ a1 = 0 → (a1 = 1 → P x3_13 σ_14) ∧ (¬ a1 = 1 → (x2_13 = (-9) → P (-9) σ_14) ∧ (¬ x2_13 = (-9) → P x4_13 σ_14)))) P 5000 (-9) 0 r_5 0 σ_6))))

def v_X12_sheet_L61 (x1 : Int32) (P : Int32 → Mem → Prop) : Nat → Int32 → Mem → Prop
  | 0, _, _ => False
  | n + 1, x4, σ => (64 ≤ x4 → P 1 σ) ∧ (¬ 64 ≤ x4 → vp_in ((64 * x1) + x4) 256 ∧ (v_X12_sheet_L61 x1 P n (x4 + 1) (wI σ 50 (Int32.toNatClampNeg ((64 * x1) + x4)) 0)))

def v_X12_sheet (a1 : Int32) (a2 : Int32) (a3 : Int32) (σ : Mem) (P : Int32 → Mem → Prop) : Prop := v_X12_within a1 0 3 (wI σ 33 0 0) (fun (r_1 : Int32) (σ_2 : Mem) => (r_1 = 0 → P (-1) σ_2) ∧ (¬ r_1 = 0 → v_X12_within a2 0 2 σ_2 (fun (r_3 : Int32) (σ_4 : Mem) => (r_3 = 0 → P (-2) σ_4) ∧ (¬ r_3 = 0 → (a3 ≤ 64 → (0 ≤ a3 → vp_in a1 4 ∧ (vp_in a1 4 ∧ (v_X12_sheet_L61 a1 P 5000 0 (wI (wI σ_4 48 (Int32.toNatClampNeg a1) a2) 49 (Int32.toNatClampNeg a1) a3)))) ∧ (¬ 0 ≤ a3 → v_X12_fails 4 σ_4 (fun (r_5 : Int32) (σ_6 : Mem) => P r_5 σ_6))) ∧ (¬ a3 ≤ 64 → P (-2) σ_4)))))

def v_X12_lose (a1 : Int32) (σ : Mem) (P : Int32 → Mem → Prop) : Prop := v_X12_within a1 0 3 σ (fun (r_1 : Int32) (σ_2 : Mem) => (r_1 = 0 → P (-1) σ_2) ∧ (¬ r_1 = 0 → vp_in a1 4 ∧ (((σ_2.1 48 (Int32.toNatClampNeg a1)) = (-9) → vp_in a1 4 ∧ (P 0 (wI σ_2 48 (Int32.toNatClampNeg a1) (-9)))) ∧ (¬ (σ_2.1 48 (Int32.toNatClampNeg a1)) = (-9) → vp_in a1 4 ∧ (P 1 (wI σ_2 48 (Int32.toNatClampNeg a1) (-9)))))))

def v_X12_put (a1 : Int32) (a2 : Int32) (a3 : Int32) (σ : Mem) (P : Int32 → Mem → Prop) : Prop := v_X12_within a1 0 3 (wI σ 33 0 0) (fun (r_1 : Int32) (σ_2 : Mem) => (r_1 = 0 → P (-1) σ_2) ∧ (¬ r_1 = 0 → vp_in a1 4 ∧ (((σ_2.1 48 (Int32.toNatClampNeg a1)) = (-9) → v_X12_fails 1 σ_2 (fun (r_3 : Int32) (σ_4 : Mem) => P r_3 σ_4)) ∧ (¬ (σ_2.1 48 (Int32.toNatClampNeg a1)) = (-9) → vp_in a1 4 ∧ (v_X12_within a2 0 ((σ_2.1 49 (Int32.toNatClampNeg a1)) - 1) σ_2 (fun (r_5 : Int32) (σ_6 : Mem) => (r_5 = 0 → v_X12_fails 3 σ_6 (fun (r_7 : Int32) (σ_8 : Mem) => P r_7 σ_8)) ∧ (¬ r_5 = 0 → vp_in a1 4 ∧ (((σ_6.1 48 (Int32.toNatClampNeg a1)) = 0 → vp_in ((64 * a1) + a2) 256 ∧ (P 1 (wI σ_6 50 (Int32.toNatClampNeg ((64 * a1) + a2)) ((Int32.toInt8 a3).toInt32)))) ∧ (¬ (σ_6.1 48 (Int32.toNatClampNeg a1)) = 0 → vp_in a1 4 ∧ (((σ_6.1 48 (Int32.toNatClampNeg a1)) = 1 → vp_in ((64 * a1) + a2) 256 ∧ (P 1 (wI σ_6 50 (Int32.toNatClampNeg ((64 * a1) + a2)) ((Int32.toInt16 a3).toInt32)))) ∧ (¬ (σ_6.1 48 (Int32.toNatClampNeg a1)) = 1 → vp_in ((64 * a1) + a2) 256 ∧ (P 1 (wI σ_6 50 (Int32.toNatClampNeg ((64 * a1) + a2)) a3)))))))))))))

def v_X12_at_J54 (P : Int64 → Mem → Prop) (x1 : Int32) (x2 : Int32) (σ : Mem) : Prop := vp_in x1 4 ∧ (((σ.1 48 (Int32.toNatClampNeg x1)) = (-9) → v_X12_lost 1 σ (fun (r_5 : Int64) (σ_6 : Mem) => P r_5 σ_6)) ∧ (¬ (σ.1 48 (Int32.toNatClampNeg x1)) = (-9) → vp_in x1 4 ∧ (v_X12_within x2 0 ((σ.1 49 (Int32.toNatClampNeg x1)) - 1) σ (fun (r_7 : Int32) (σ_8 : Mem) => (r_7 = 0 → v_X12_lost 3 σ_8 (fun (r_9 : Int64) (σ_10 : Mem) => P r_9 σ_10)) ∧ (¬ r_7 = 0 → vp_in ((64 * x1) + x2) 256 ∧ (P (Int32.toInt64 (σ_8.1 50 (Int32.toNatClampNeg ((64 * x1) + x2)))) σ_8))))))

def v_X12_at (a1 : Int32) (a2 : Int32) (a3 : Int32) (σ : Mem) (P : Int64 → Mem → Prop) : Prop := v_X12_within a1 0 3 (wI σ 33 0 0) (fun (r_1 : Int32) (σ_2 : Mem) => (r_1 = 0 → P (-9223372036854775808) σ_2) ∧ (¬ r_1 = 0 → v_X12_within a3 0 2 σ_2 (fun (r_3 : Int32) (σ_4 : Mem) => (r_3 = 0 → P (-9223372036854775808) σ_4) ∧ (¬ r_3 = 0 → vp_in a1 4 ∧ (((σ_4.1 48 (Int32.toNatClampNeg a1)) = (-9) → v_X12_at_J54 P a1 a2 σ_4) ∧ (¬ (σ_4.1 48 (Int32.toNatClampNeg a1)) = (-9) → vp_in a1 4 ∧ (((σ_4.1 48 (Int32.toNatClampNeg a1)) = a3 → v_X12_at_J54 P a1 a2 σ_4) ∧ (¬ (σ_4.1 48 (Int32.toNatClampNeg a1)) = a3 → v_X12_lost 2 σ_4 (fun (r_11 : Int64) (σ_12 : Mem) => P r_11 σ_12)))))))))

def v_X12_begins (a1 : Int32) (σ : Mem) (P : Mem → Prop) : Prop := P (wI σ 33 1 ((31 * (σ.1 33 1)) + a1))

def v_X12_tell (a1 : Int32) (σ : Mem) (P : Int32 → Mem → Prop) : Prop := v_X12_isBar a1 σ (fun (r_1 : Int32) (σ_2 : Mem) => (r_1 = 0 → P (-1) σ_2) ∧ (¬ r_1 = 0 → v_X12_feltsOf a1 2 σ_2 (fun (r_3 : Int32) (σ_4 : Mem) => vp_in a1 12 ∧ (((σ_4.1 36 (Int32.toNatClampNeg a1)) = 1 → v_X12_begins 2 σ_4 (fun (σ_5 : Mem) => v_X12_begins 1 σ_5 (fun (σ_6 : Mem) => vp_in a1 12 ∧ (P (r_3 + (σ_6.1 37 (Int32.toNatClampNeg a1))) σ_6)))) ∧ (¬ (σ_4.1 36 (Int32.toNatClampNeg a1)) = 1 → ((σ_4.1 36 (Int32.toNatClampNeg a1)) = 2 → v_X12_begins 3 σ_4 (fun (σ_7 : Mem) => v_X12_begins 2 σ_7 (fun (σ_8 : Mem) => v_X12_begins 1 σ_8 (fun (σ_9 : Mem) => v_X12_begins 1 σ_9 (fun (σ_10 : Mem) => vp_in a1 12 ∧ (P ((2 * r_3) + (σ_10.1 37 (Int32.toNatClampNeg a1))) σ_10)))))) ∧ (¬ (σ_4.1 36 (Int32.toNatClampNeg a1)) = 2 → v_X12_begins 1 σ_4 (fun (σ_11 : Mem) => P r_3 σ_11)))))))

def v_X12_name_J26 (P : Int32 → Mem → Prop) (x1 : Int32) (xs0 : Int32) (σ : Mem) : Prop := v_X12_begins xs0 σ (fun (σ_3 : Mem) => vp_in x1 12 ∧ (((σ_3.1 36 (Int32.toNatClampNeg x1)) = 2 → P 77 σ_3) ∧ (¬ (σ_3.1 36 (Int32.toNatClampNeg x1)) = 2 → P (x1 + 10) σ_3)))

def v_X12_name (a1 : Int32) (σ : Mem) (P : Int32 → Mem → Prop) : Prop := v_X12_isBar a1 σ (fun (r_1 : Int32) (σ_2 : Mem) => (r_1 = 0 → P (-1) σ_2) ∧ (¬ r_1 = 0 → vp_in a1 12 ∧ (((σ_2.1 36 (Int32.toNatClampNeg a1)) = 2 → v_X12_name_J26 P a1 5 σ_2) ∧ (¬ (σ_2.1 36 (Int32.toNatClampNeg a1)) = 2 → v_X12_name_J26 P a1 4 σ_2))))

def v_X12_as (a1 : Int32) (a2 : Int32) (σ : Mem) (P : Int32 → Mem → Prop) : Prop := v_X12_isBar a1 (wI σ 33 0 0) (fun (r_1 : Int32) (σ_2 : Mem) => (r_1 = 0 → P (-1) σ_2) ∧ (¬ r_1 = 0 → v_X12_within a2 0 2 σ_2 (fun (r_3 : Int32) (σ_4 : Mem) => (r_3 = 0 → P (-2) σ_4) ∧ (¬ r_3 = 0 → vp_in a1 12 ∧ (((σ_4.1 36 (Int32.toNatClampNeg a1)) < a2 → v_X12_fails 2 σ_4 (fun (r_5 : Int32) (σ_6 : Mem) => P r_5 σ_6)) ∧ (¬ (σ_4.1 36 (Int32.toNatClampNeg a1)) < a2 → P 1 σ_4))))))

def v_X12_trace (σ : Mem) (P : Int32 → Mem → Prop) : Prop := P (σ.1 33 1) σ

def v_X12_fault (σ : Mem) (P : Int32 → Mem → Prop) : Prop := P (σ.1 33 0) σ

def v_X12_told_L53 (P : Int32 → Mem → Prop) : Nat → Int32 → Int32 → Mem → Prop
  | 0, _, _, _ => False
  | n + 1, x2, x3, σ => ((σ.1 33 2) ≤ x3 → P x2 σ) ∧ (¬ (σ.1 33 2) ≤ x3 → vp_in x3 36 ∧ (((σ.1 35 (Int32.toNatClampNeg x3)) = 0 → v_X12_told_L53 P n (x2 + 0) (x3 + 1) σ) ∧ (¬ (σ.1 35 (Int32.toNatClampNeg x3)) = 0 → v_X12_told_L53 P n (x2 + 1) (x3 + 1) σ)))

def v_X12_told (a1 : Int32) (σ : Mem) (P : Int32 → Mem → Prop) : Prop := (a1 = 0 → P (σ.1 33 2) σ) ∧ (¬ a1 = 0 → (a1 = 1 → v_X12_told_L53 P 5000 0 0 σ) ∧ (¬ a1 = 1 → (a1 = 2 → P (σ.1 33 5) σ) ∧ (¬ a1 = 2 → (a1 = 3 → P (σ.1 33 15) σ) ∧ (¬ a1 = 3 → (a1 = 4 → P (σ.1 33 23) σ) ∧ (¬ a1 = 4 → (a1 = 5 → P (σ.1 33 33) σ) ∧ (¬ a1 = 5 → (a1 = 6 → v_X12_allClasses σ (fun (r_1 : Int32) (σ_2 : Mem) => v_X12_countOf r_1 σ_2 (fun (r_3 : Int32) (σ_4 : Mem) => P r_3 σ_4))) ∧ (¬ a1 = 6 → P (-2) σ)))))))

