-- ===== Long.bitCount, up to forty places: byte by byte =====
def bc64 (a0 : Int64) : Int32 :=
  let y_1 := a0 - (((Int64.toUInt64 a0 >>> ((Int32.toInt64 1).toUInt64 &&& Int64.toUInt64 63)).toInt64) &&& 6148914691236517205)
  let y_2 := (y_1 &&& 3689348814741910323) + (((Int64.toUInt64 y_1 >>> ((Int32.toInt64 2).toUInt64 &&& Int64.toUInt64 63)).toInt64) &&& 3689348814741910323)
  let y_3 := (y_2 + ((Int64.toUInt64 y_2 >>> ((Int32.toInt64 4).toUInt64 &&& Int64.toUInt64 63)).toInt64)) &&& 1085102592571150095
  let y_4 := y_3 + ((Int64.toUInt64 y_3 >>> ((Int32.toInt64 8).toUInt64 &&& Int64.toUInt64 63)).toInt64)
  let y_5 := y_4 + ((Int64.toUInt64 y_4 >>> ((Int32.toInt64 16).toUInt64 &&& Int64.toUInt64 63)).toInt64)
  let y_6 := y_5 + ((Int64.toUInt64 y_5 >>> ((Int32.toInt64 32).toUInt64 &&& Int64.toUInt64 63)).toInt64)
  (Int64.toInt32 y_6) &&& 127
theorem q_bc64 {σ : Mem} {P : Int32 → Mem → Prop} {a : Int64} : v_J13_bitCount_95d88 a σ P = P (bc64 a) σ := by
  unfold v_J13_bitCount_95d88 bc64; simp only [forall_eq]
/-- the low byte of a masked shift does not see the bytes above -/
theorem by_and {b m q M : Nat} (hb : b < 256) (hm : m < 256) : (256 * q + b) &&& (256 * M + m) = 256 * (q &&& M) + (b &&& m) := by
  apply Nat.eq_of_testBit_eq
  intro j
  have h1 : b &&& m < 2 ^ 8 := Nat.and_lt_two_pow _ hm
  rw [Nat.testBit_and, show 256 = 2 ^ 8 from rfl, Nat.testBit_two_pow_mul_add _ hb, Nat.testBit_two_pow_mul_add _ hm, Nat.testBit_two_pow_mul_add _ h1]
  split <;> rw [Nat.testBit_and]
theorem by_sh {b m q M : Nat} (k : Nat) (hb : b < 256) (hm : m < 2 ^ (8 - k)) (hk : k ≤ 8) : (256 * q + b) / 2 ^ k &&& (256 * M + m) = 256 * (q / 2 ^ k &&& M) + (b / 2 ^ k &&& m) := by
  have hm8 : m < 2 ^ 8 := Nat.lt_of_lt_of_le hm (Nat.pow_le_pow_right (by decide) (by omega))
  apply Nat.eq_of_testBit_eq
  intro j
  have h1 : b / 2 ^ k &&& m < 2 ^ 8 := Nat.and_lt_two_pow _ hm8
  rw [Nat.testBit_and, Nat.testBit_div_two_pow, show 256 = 2 ^ 8 from rfl, Nat.testBit_two_pow_mul_add _ hb, Nat.testBit_two_pow_mul_add _ hm8, Nat.testBit_two_pow_mul_add _ h1]
  by_cases q1 : j < 8
  · rw [if_pos q1, if_pos q1, Nat.testBit_and, Nat.testBit_div_two_pow]
    by_cases q2 : j + k < 8
    · rw [if_pos q2]
    · rw [if_neg q2, Nat.testBit_lt_two_pow (x := m) (Nat.lt_of_lt_of_le hm (Nat.pow_le_pow_right (by decide) (by omega)))]
      simp
  · rw [if_neg q1, if_neg q1, if_neg (by omega), Nat.testBit_and, Nat.testBit_div_two_pow, show j + k - 8 = j - 8 + k by omega]
def sb1 (b : Nat) : Nat := b - (b / 2 &&& 0x55)
def sb2 (b : Nat) : Nat := (b &&& 0x33) + (b / 4 &&& 0x33)
def sb3 (b : Nat) : Nat := (b + b / 16) &&& 0x0f
theorem sb_t : ∀ b, b < 256 → sb1 b < 256 ∧ sb2 (sb1 b) < 256 ∧ sb3 (sb2 (sb1 b)) = pc 8 b ∧ (b / 2 &&& 0x55) ≤ b ∧ sb2 (sb1 b) % 16 ≤ 4 ∧ sb2 (sb1 b) / 16 ≤ 4 := by decide +kernel
/-- five bytes -/
def b5 (a b c d e : Nat) : Nat := 256 * (256 * (256 * (256 * e + d) + c) + b) + a
theorem b5_1 {a b c d e : Nat} (ha : a < 256) (hb : b < 256) (hc : c < 256) (hd : d < 256) (he : e < 256) : b5 a b c d e / 2 &&& 6148914691236517205 = b5 (a / 2 &&& 0x55) (b / 2 &&& 0x55) (c / 2 &&& 0x55) (d / 2 &&& 0x55) (e / 2 &&& 0x55) := by
  unfold b5
  rw [show (6148914691236517205 : Nat) = 256 * (256 * (256 * (256 * 0x55555555 + 0x55) + 0x55) + 0x55) + 0x55 from rfl]
  rw [show (2 : Nat) = 2 ^ 1 from rfl, by_sh 1 ha (by decide) (by decide), by_sh 1 hb (by decide) (by decide), by_sh 1 hc (by decide) (by decide), by_sh 1 hd (by decide) (by decide)]
  have : e / 2 ^ 1 &&& 0x55555555 = e / 2 ^ 1 &&& 0x55 := by
    have h := (by decide +kernel : ∀ x, x < 256 → x / 2 ^ 1 &&& 0x55555555 = x / 2 ^ 1 &&& 0x55)
    exact h e he
  rw [this]
theorem b5_2 {a b c d e : Nat} (ha : a < 256) (hb : b < 256) (hc : c < 256) (hd : d < 256) (he : e < 256) : (b5 a b c d e &&& 3689348814741910323) + (b5 a b c d e / 4 &&& 3689348814741910323) = b5 (sb2 a) (sb2 b) (sb2 c) (sb2 d) (sb2 e) := by
  unfold b5
  rw [show (3689348814741910323 : Nat) = 256 * (256 * (256 * (256 * 0x33333333 + 0x33) + 0x33) + 0x33) + 0x33 from rfl]
  rw [show (4 : Nat) = 2 ^ 2 from rfl, by_sh 2 ha (by decide) (by decide), by_sh 2 hb (by decide) (by decide), by_sh 2 hc (by decide) (by decide), by_sh 2 hd (by decide) (by decide)]
  rw [by_and ha (by decide), by_and hb (by decide), by_and hc (by decide), by_and hd (by decide)]
  have h := (by decide +kernel : ∀ x, x < 256 → (x / 2 ^ 2 &&& 0x33333333 = x / 2 ^ 2 &&& 0x33) ∧ (x &&& 0x33333333 = x &&& 0x33))
  rw [(h e he).1, (h e he).2]
  unfold sb2
  rw [show (4 : Nat) = 2 ^ 2 from rfl]
  omega
theorem b5_3 {a b c d e : Nat} (ha : a % 16 ≤ 4 ∧ a / 16 ≤ 4) (hb : b % 16 ≤ 4 ∧ b / 16 ≤ 4) (hc : c % 16 ≤ 4 ∧ c / 16 ≤ 4) (hd : d % 16 ≤ 4 ∧ d / 16 ≤ 4) (he : e % 16 ≤ 4 ∧ e / 16 ≤ 4) : (b5 a b c d e + b5 a b c d e / 16) &&& 1085102592571150095 = b5 (sb3 a) (sb3 b) (sb3 c) (sb3 d) (sb3 e) := by
  have e1 : b5 a b c d e + b5 a b c d e / 16 = b5 (a + a / 16 + 16 * (b % 16)) (b + b / 16 + 16 * (c % 16)) (c + c / 16 + 16 * (d % 16)) (d + d / 16 + 16 * (e % 16)) (e + e / 16) := by
    unfold b5; omega
  have k : ∀ x y, (x % 16 ≤ 4 ∧ x / 16 ≤ 4) → (y % 16 ≤ 4 ∧ y / 16 ≤ 4) → x + x / 16 + 16 * (y % 16) < 256 := fun x y hx hy => by omega
  have m : ∀ x y, (x % 16 ≤ 4 ∧ x / 16 ≤ 4) → (x + x / 16 + 16 * (y % 16)) &&& 15 = sb3 x := fun x y hx => by
    unfold sb3
    rw [show (15 : Nat) = 2 ^ 4 - 1 from rfl, Nat.and_two_pow_sub_one_eq_mod, Nat.and_two_pow_sub_one_eq_mod]
    omega
  rw [e1]
  unfold b5
  rw [show (1085102592571150095 : Nat) = 256 * (256 * (256 * (256 * 0x0f0f0f0f + 15) + 15) + 15) + 15 from rfl]
  rw [by_and (k a b ha hb) (by decide), by_and (k b c hb hc) (by decide), by_and (k c d hc hd) (by decide), by_and (k d e hd he) (by decide)]
  rw [m a b ha, m b c hb, m c d hc, m d e hd]
  have h := (by decide +kernel : ∀ x, x < 256 → x % 16 ≤ 4 ∧ x / 16 ≤ 4 → (x + x / 16) &&& 0x0f0f0f0f = sb3 x)
  rw [h e (by omega) he]
theorem pc_split (n m x : Nat) : pc (m + n) x = pc m (x % 2 ^ m) + pc n (x / 2 ^ m) := by
  unfold pc
  rw [fb_ct_split]
  congr 1
  · apply fb_ct_cong
    intro k hk
    rw [Nat.testBit_mod_two_pow]; simp [hk]
  · apply fb_ct_cong
    intro k hk
    rw [Nat.testBit_div_two_pow, Nat.add_comm]
theorem bc64_N {n : Nat} (hn : n < 2 ^ 40) : bc64 (lN n) = nI (pc 40 n) := by
  obtain ⟨a, b, c, d, e, ha, hb, hc, hd, he, rfl⟩ : ∃ a b c d e, a < 256 ∧ b < 256 ∧ c < 256 ∧ d < 256 ∧ e < 256 ∧ n = b5 a b c d e :=
    ⟨n % 256, n / 256 % 256, n / 65536 % 256, n / 16777216 % 256, n / 4294967296, by omega, by omega, by omega, by omega, by omega, by unfold b5; omega⟩
  have sa := sb_t a ha
  have sb := sb_t b hb
  have sc := sb_t c hc
  have sd := sb_t d hd
  have se := sb_t e he
  have e1 : lN (b5 a b c d e) - (((Int64.toUInt64 (lN (b5 a b c d e)) >>> ((Int32.toInt64 1).toUInt64 &&& Int64.toUInt64 63)).toInt64) &&& 6148914691236517205) = lN (b5 (sb1 a) (sb1 b) (sb1 c) (sb1 d) (sb1 e)) := by
    rw [show ((Int64.toUInt64 (lN (b5 a b c d e)) >>> ((Int32.toInt64 1).toUInt64 &&& Int64.toUInt64 63)).toInt64) = lN (b5 a b c d e / 2 ^ 1) from wb_shr (k := 1) (by omega) (by omega)]
    rw [show (6148914691236517205 : Int64) = lN 6148914691236517205 from rfl, fb_andL, Nat.pow_one, b5_1 ha hb hc hd he]
    have h : b5 (a / 2 &&& 0x55) (b / 2 &&& 0x55) (c / 2 &&& 0x55) (d / 2 &&& 0x55) (e / 2 &&& 0x55) ≤ b5 a b c d e := by unfold b5; omega
    rw [lN_sub h]
    congr 1
    unfold b5 sb1
    omega
  generalize hy1 : b5 (sb1 a) (sb1 b) (sb1 c) (sb1 d) (sb1 e) = y1 at e1
  have l1 : y1 < 2 ^ 64 := by rw [← hy1]; unfold b5; omega
  have e2 : (lN y1 &&& 3689348814741910323) + (((Int64.toUInt64 (lN y1) >>> ((Int32.toInt64 2).toUInt64 &&& Int64.toUInt64 63)).toInt64) &&& 3689348814741910323) = lN (b5 (sb2 (sb1 a)) (sb2 (sb1 b)) (sb2 (sb1 c)) (sb2 (sb1 d)) (sb2 (sb1 e))) := by
    rw [show ((Int64.toUInt64 (lN y1) >>> ((Int32.toInt64 2).toUInt64 &&& Int64.toUInt64 63)).toInt64) = lN (y1 / 2 ^ 2) from wb_shr (k := 2) l1 (by omega)]
    rw [show (3689348814741910323 : Int64) = lN 3689348814741910323 from rfl, fb_andL, fb_andL, lN_add, ← hy1, show (2 ^ 2 : Nat) = 4 from rfl, b5_2 sa.1 sb.1 sc.1 sd.1 se.1]
  generalize hy2 : b5 (sb2 (sb1 a)) (sb2 (sb1 b)) (sb2 (sb1 c)) (sb2 (sb1 d)) (sb2 (sb1 e)) = y2 at e2
  have l2 : y2 < 2 ^ 64 := by rw [← hy2]; unfold b5; omega
  have e3 : (lN y2 + ((Int64.toUInt64 (lN y2) >>> ((Int32.toInt64 4).toUInt64 &&& Int64.toUInt64 63)).toInt64)) &&& 1085102592571150095 = lN (b5 (pc 8 a) (pc 8 b) (pc 8 c) (pc 8 d) (pc 8 e)) := by
    rw [show ((Int64.toUInt64 (lN y2) >>> ((Int32.toInt64 4).toUInt64 &&& Int64.toUInt64 63)).toInt64) = lN (y2 / 2 ^ 4) from wb_shr (k := 4) l2 (by omega)]
    rw [show (1085102592571150095 : Int64) = lN 1085102592571150095 from rfl, lN_add, fb_andL, ← hy2, show (2 ^ 4 : Nat) = 16 from rfl, b5_3 sa.2.2.2.2 sb.2.2.2.2 sc.2.2.2.2 sd.2.2.2.2 se.2.2.2.2, sa.2.2.1, sb.2.2.1, sc.2.2.1, sd.2.2.1, se.2.2.1]
  have pa := pc_le 8 a
  have pb := pc_le 8 b
  have pcc := pc_le 8 c
  have pd := pc_le 8 d
  have pe := pc_le 8 e
  have hsum : pc 40 (b5 a b c d e) = pc 8 a + (pc 8 b + (pc 8 c + (pc 8 d + pc 8 e))) := by
    rw [show 40 = 8 + 32 from rfl, pc_split, show b5 a b c d e % 2 ^ 8 = a by unfold b5; omega, show b5 a b c d e / 2 ^ 8 = 256 * (256 * (256 * e + d) + c) + b by unfold b5; omega]
    rw [show 32 = 8 + 24 from rfl, pc_split, show (256 * (256 * (256 * e + d) + c) + b) % 2 ^ 8 = b by omega, show (256 * (256 * (256 * e + d) + c) + b) / 2 ^ 8 = 256 * (256 * e + d) + c by omega]
    rw [show 24 = 8 + 16 from rfl, pc_split, show (256 * (256 * e + d) + c) % 2 ^ 8 = c by omega, show (256 * (256 * e + d) + c) / 2 ^ 8 = 256 * e + d by omega]
    rw [show 16 = 8 + 8 from rfl, pc_split, show (256 * e + d) % 2 ^ 8 = d by omega, show (256 * e + d) / 2 ^ 8 = e by omega]
  rw [hsum]
  unfold bc64
  dsimp only
  rw [e1, e2, e3]
  generalize pc 8 a = p1 at *
  generalize pc 8 b = p2 at *
  generalize pc 8 c = p3 at *
  generalize pc 8 d = p4 at *
  generalize pc 8 e = p5 at *
  have l3 : b5 p1 p2 p3 p4 p5 < 2 ^ 64 := by unfold b5; omega
  have e4 : lN (b5 p1 p2 p3 p4 p5) + ((Int64.toUInt64 (lN (b5 p1 p2 p3 p4 p5)) >>> ((Int32.toInt64 8).toUInt64 &&& Int64.toUInt64 63)).toInt64) = lN (b5 (p1 + p2) (p2 + p3) (p3 + p4) (p4 + p5) p5) := by
    rw [show ((Int64.toUInt64 (lN (b5 p1 p2 p3 p4 p5)) >>> ((Int32.toInt64 8).toUInt64 &&& Int64.toUInt64 63)).toInt64) = lN (b5 p1 p2 p3 p4 p5 / 2 ^ 8) from wb_shr (k := 8) l3 (by omega), lN_add]
    congr 1
    unfold b5; omega
  have l4 : b5 (p1 + p2) (p2 + p3) (p3 + p4) (p4 + p5) p5 < 2 ^ 64 := by unfold b5; omega
  have e5 : lN (b5 (p1 + p2) (p2 + p3) (p3 + p4) (p4 + p5) p5) + ((Int64.toUInt64 (lN (b5 (p1 + p2) (p2 + p3) (p3 + p4) (p4 + p5) p5)) >>> ((Int32.toInt64 16).toUInt64 &&& Int64.toUInt64 63)).toInt64) = lN (b5 (p1 + p2 + (p3 + p4)) (p2 + p3 + (p4 + p5)) (p3 + p4 + p5) (p4 + p5) p5) := by
    rw [show ((Int64.toUInt64 (lN (b5 (p1 + p2) (p2 + p3) (p3 + p4) (p4 + p5) p5)) >>> ((Int32.toInt64 16).toUInt64 &&& Int64.toUInt64 63)).toInt64) = lN (b5 (p1 + p2) (p2 + p3) (p3 + p4) (p4 + p5) p5 / 2 ^ 16) from wb_shr (k := 16) l4 (by omega), lN_add]
    congr 1
    unfold b5; omega
  have l5 : b5 (p1 + p2 + (p3 + p4)) (p2 + p3 + (p4 + p5)) (p3 + p4 + p5) (p4 + p5) p5 < 2 ^ 64 := by unfold b5; omega
  have e6 : lN (b5 (p1 + p2 + (p3 + p4)) (p2 + p3 + (p4 + p5)) (p3 + p4 + p5) (p4 + p5) p5) + ((Int64.toUInt64 (lN (b5 (p1 + p2 + (p3 + p4)) (p2 + p3 + (p4 + p5)) (p3 + p4 + p5) (p4 + p5) p5)) >>> ((Int32.toInt64 32).toUInt64 &&& Int64.toUInt64 63)).toInt64) = lN (b5 (p1 + p2 + (p3 + p4) + p5) (p2 + p3 + (p4 + p5)) (p3 + p4 + p5) (p4 + p5) p5) := by
    rw [show ((Int64.toUInt64 (lN (b5 (p1 + p2 + (p3 + p4)) (p2 + p3 + (p4 + p5)) (p3 + p4 + p5) (p4 + p5) p5)) >>> ((Int32.toInt64 32).toUInt64 &&& Int64.toUInt64 63)).toInt64) = lN (b5 (p1 + p2 + (p3 + p4)) (p2 + p3 + (p4 + p5)) (p3 + p4 + p5) (p4 + p5) p5 / 2 ^ 32) from wb_shr (k := 32) l5 (by omega), lN_add]
    congr 1
    unfold b5; omega
  have l6 : b5 (p1 + p2 + (p3 + p4) + p5) (p2 + p3 + (p4 + p5)) (p3 + p4 + p5) (p4 + p5) p5 < 2 ^ 64 := by unfold b5; omega
  rw [e4, e5, e6, l_lo l6, show (127 : Int32) = nI (2 ^ 7 - 1) from rfl, fa_mask]
  congr 1
  unfold b5; omega
theorem q_bcL {σ : Mem} {P : Int32 → Mem → Prop} {n : Nat} (hn : n < 2 ^ 40) : v_J13_bitCount_95d88 (lN n) σ P = P (nI (pc 40 n)) σ := by
  rw [q_bc64, bc64_N hn]
theorem pc_more {n m x : Nat} (h : x < 2 ^ n) (hm : n ≤ m) : pc m x = pc n x := by
  obtain ⟨k, rfl⟩ : ∃ k, m = n + k := ⟨m - n, by omega⟩
  have z : fb_ct (fun i => x.testBit (n + i)) k = 0 := fb_ct_zero.mpr (fun i _ => nb_0 (Nat.lt_of_lt_of_le h (Nat.pow_le_pow_right (by decide) (by omega))))
  unfold pc
  rw [fb_ct_split, z, Nat.add_zero]
theorem pc_nb (p : Nat → Bool) (n : Nat) : pc n (nb p n) = fb_ct p n := by
  unfold pc
  exact fb_ct_cong (fun k hk => by rw [nb_tb]; simp [hk])
