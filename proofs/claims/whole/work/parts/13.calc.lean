-- ===== the JDK's counting of bits; least and greatest =====
section
variable {σ : Mem} {P : Int32 → Mem → Prop}
theorem q_max {a b : Int32} : v_J9_max_7cf53 a b σ P = P (if a < b then b else a) σ := by
  unfold v_J9_max_7cf53; rw [w_ite]; split <;> rfl
theorem q_min {a b : Int32} : v_J9_min_7cf53 a b σ P = P (if b < a then b else a) σ := by
  unfold v_J9_min_7cf53; rw [w_ite]; split <;> rfl
theorem q_abs {a : Int32} : v_J9_abs_0f7a4 a σ P = P (if 0 ≤ a then a else -a) σ := by
  unfold v_J9_abs_0f7a4; rw [w_ite]; split <;> rfl
theorem q_maxN {a b : Nat} (ha : a < 2 ^ 31) (hb : b < 2 ^ 31) : v_J9_max_7cf53 (nI a) (nI b) σ P = P (nI (max a b)) σ := by
  rw [q_max]; simp only [i_lt ha hb]
  by_cases h : a < b
  · rw [if_pos h, Nat.max_eq_right (by omega)]
  · rw [if_neg h, Nat.max_eq_left (by omega)]
theorem q_minN {a b : Nat} (ha : a < 2 ^ 31) (hb : b < 2 ^ 31) : v_J9_min_7cf53 (nI a) (nI b) σ P = P (nI (min a b)) σ := by
  rw [q_min]; simp only [i_lt hb ha]
  by_cases h : b < a
  · rw [if_pos h, Nat.min_eq_right (by omega)]
  · rw [if_neg h, Nat.min_eq_left (by omega)]
-- floorMod by 12
def fmf (a : Int32) : Int32 := if 0 ≤ (a ^^^ 12) then a - a / 12 * 12 else if (a - a / 12 * 12) = 0 then a - a / 12 * 12 else (a - a / 12 * 12) + 12
theorem q_fm {a : Int32} : v_J9_floorMod_7cf53 a 12 σ P = P (fmf a) σ := by
  unfold v_J9_floorMod_7cf53 fmf
  rw [w_ne (by decide), w_ite, w_ite]
  split
  · rfl
  · split <;> rfl
theorem fmf_t : ∀ r, r < 12 → ∀ j, j < 12 → fmf (nI r + kI j) = nI ((r + j + 6) % 12) := by decide +kernel
theorem q_fmk {r j : Nat} (hr : r < 12) (hj : j < 12) : v_J9_floorMod_7cf53 (nI r + kI j) 12 σ P = P (nI ((r + j + 6) % 12)) σ := by
  rw [q_fm, fmf_t r hr j hj]
-- bits of an int
def bc32 (a0 : Int32) : Int32 :=
  let y_1 := a0 - (((Int32.toUInt32 a0 >>> (Int32.toUInt32 1 &&& Int32.toUInt32 31)).toInt32) &&& 1431655765)
  let y_2 := (y_1 &&& 858993459) + (((Int32.toUInt32 y_1 >>> (Int32.toUInt32 2 &&& Int32.toUInt32 31)).toInt32) &&& 858993459)
  let y_3 := (y_2 + ((Int32.toUInt32 y_2 >>> (Int32.toUInt32 4 &&& Int32.toUInt32 31)).toInt32)) &&& 252645135
  let y_4 := y_3 + ((Int32.toUInt32 y_3 >>> (Int32.toUInt32 8 &&& Int32.toUInt32 31)).toInt32)
  let y_5 := y_4 + ((Int32.toUInt32 y_4 >>> (Int32.toUInt32 16 &&& Int32.toUInt32 31)).toInt32)
  y_5 &&& 63
theorem q_bc32 {a : Int32} : v_J6_bitCount_0f7a4 a σ P = P (bc32 a) σ := by
  unfold v_J6_bitCount_0f7a4 bc32; simp only [forall_eq]
/-- how many of the first n places a number has -/
def pc (n x : Nat) : Nat := fb_ct (fun i => x.testBit i) n
theorem pc_le (n x : Nat) : pc n x ≤ n := fb_ct_le _ n
theorem bc32_t : ∀ a, a < 64 → ∀ b, b < 64 → bc32 (nI (64 * a + b)) = nI (pc 12 (64 * a + b)) := by decide +kernel
theorem q_bcN {n : Nat} (hn : n < 4096) : v_J6_bitCount_0f7a4 (nI n) σ P = P (nI (pc 12 n)) σ := by
  have h := bc32_t (n / 64) (by omega) (n % 64) (by omega)
  rw [show 64 * (n / 64) + n % 64 = n by omega] at h
  rw [q_bc32, h]
-- the lowest place of an int
def z62 (x0 x1 : Int32) : Int32 := if x0 ≤ 4 then x1 + ((Int32.toUInt32 x0 >>> (Int32.toUInt32 1 &&& Int32.toUInt32 31)).toInt32) else
  let y := (Int32.toUInt32 x0 >>> (Int32.toUInt32 2 &&& Int32.toUInt32 31)).toInt32
  (x1 + 2) + ((Int32.toUInt32 y >>> (Int32.toUInt32 1 &&& Int32.toUInt32 31)).toInt32)
def z49 (x0 x1 : Int32) : Int32 := if x0 ≤ 16 then z62 x0 x1 else z62 (Int32.toUInt32 x0 >>> (Int32.toUInt32 4 &&& Int32.toUInt32 31)).toInt32 (x1 + 4)
def z34 (x0 x1 : Int32) : Int32 := if x0 ≤ 256 then z49 x0 x1 else z49 (Int32.toUInt32 x0 >>> (Int32.toUInt32 8 &&& Int32.toUInt32 31)).toInt32 (x1 + 8)
def zG (y : Int32) : Int32 := if 0 < y then (if y ≤ 65536 then z34 y 1 else z34 (Int32.toUInt32 y >>> (Int32.toUInt32 16 &&& Int32.toUInt32 31)).toInt32 (1 + 16)) else y &&& 32
theorem q_z62 {x0 x1 : Int32} : v_J6_numberOfTrailingZeros_0f7a4_J62 P x0 x1 σ = P (z62 x0 x1) σ := by
  unfold v_J6_numberOfTrailingZeros_0f7a4_J62 z62; rw [w_ite]; simp only [forall_eq]; split <;> rfl
theorem q_z49 {x0 x1 : Int32} : v_J6_numberOfTrailingZeros_0f7a4_J49 P x0 x1 σ = P (z49 x0 x1) σ := by
  unfold v_J6_numberOfTrailingZeros_0f7a4_J49 z49; rw [w_ite]; simp only [forall_eq, q_z62]; split <;> rfl
theorem q_z34 {x0 x1 : Int32} : v_J6_numberOfTrailingZeros_0f7a4_J34 P x0 x1 σ = P (z34 x0 x1) σ := by
  unfold v_J6_numberOfTrailingZeros_0f7a4_J34 z34; rw [w_ite]; simp only [forall_eq, q_z49]; split <;> rfl
theorem q_zG {a : Int32} : v_J6_numberOfTrailingZeros_0f7a4 a σ P = P (zG ((a ^^^ (-1)) &&& (a - 1))) σ := by
  unfold v_J6_numberOfTrailingZeros_0f7a4 zG; rw [w_ite, w_ite]; simp only [forall_eq, q_z34]
  split
  · split <;> rfl
  · rfl
theorem zG_t : ∀ t, t < 32 → zG (nI (2 ^ t - 1)) = nI t := by decide +kernel
/-- t is the lowest place of n -/
def Lo (n t : Nat) : Prop := n.testBit t = true ∧ ∀ i, i < t → n.testBit i = false
theorem Lo_ex {n k : Nat} (h0 : n ≠ 0) (hk : n < 2 ^ k) : ∃ t, t < k ∧ Lo n t := by
  have h : fa_first (fun i => n.testBit i) k < k := by
    rcases Nat.lt_or_ge (fa_first (fun i => n.testBit i) k) k with h | h
    · exact h
    · exfalso
      apply h0
      have h2 := fa_first_le (fun i => n.testBit i) k
      exact tb_ext hk (Nat.two_pow_pos k) (fun i hi => by rw [Nat.zero_testBit]; exact fa_first_no (fun i => n.testBit i) k i (by omega))
  exact ⟨_, h, fa_first_yes (fun i => n.testBit i) k h, fun i hi => fa_first_no (fun i => n.testBit i) k i hi⟩
theorem Lo_one {n t u : Nat} (h : Lo n t) (h2 : Lo n u) : t = u := by
  rcases Nat.lt_trichotomy t u with q | q | q
  · have := h2.2 t q; rw [h.1] at this; cases this
  · exact q
  · have := h.2 u q; rw [h2.1] at this; cases this
theorem Lo_lt {n t k : Nat} (h : Lo n t) (hk : n < 2 ^ k) : t < k := by
  refine Nat.lt_of_not_le (fun q => ?_)
  have := nb_0 (n := n) (i := t) (Nat.lt_of_lt_of_le hk (Nat.pow_le_pow_right (by decide) q))
  rw [h.1] at this; cases this
theorem Lo_div {n t : Nat} (h : Lo n t) : ∃ q, n = 2 ^ t * (2 * q + 1) := by
  have h1 : n % 2 ^ t = 0 := tb_ext (Nat.mod_lt _ (Nat.two_pow_pos t)) (Nat.two_pow_pos t) (fun i hi => by
    rw [Nat.testBit_mod_two_pow, Nat.zero_testBit, h.2 i hi]; simp)
  have h2 : n / 2 ^ t % 2 = 1 := by
    have := h.1
    rw [Nat.testBit_eq_decide_div_mod_eq] at this
    simpa using this
  refine ⟨n / 2 ^ t / 2, ?_⟩
  have h3 := Nat.div_add_mod n (2 ^ t)
  rw [h1] at h3
  rw [show 2 * (n / 2 ^ t / 2) + 1 = n / 2 ^ t by omega]
  exact h3.symm
theorem Lo_pred {n t : Nat} (h : Lo n t) (j : Nat) : (!n.testBit j && (n - 1).testBit j) = decide (j < t) := by
  obtain ⟨q, hq⟩ := Lo_div h
  have hp := Nat.two_pow_pos t
  have e1 : n = 2 ^ t * (2 * q + 1) + 0 := by omega
  have e2 : n - 1 = 2 ^ t * (2 * q) + (2 ^ t - 1) := by rw [hq, Nat.mul_add]; omega
  rw [e2]
  conv => lhs; lhs; rw [e1]
  rw [Nat.testBit_two_pow_mul_add _ hp, Nat.testBit_two_pow_mul_add _ (by omega)]
  by_cases a : j < t
  · simp [a]
  · rw [if_neg a, if_neg a]
    cases hd : j - t with
    | zero => simp [a]
    | succ d =>
      rw [Nat.testBit_succ, Nat.testBit_succ, show (2 * q + 1) / 2 = q from by omega, show 2 * q / 2 = q from by omega]
      simp [a]
theorem Lo_mask {n t : Nat} (hn : n < 2 ^ 32) (h : Lo n t) : ((nI n ^^^ (-1)) &&& (nI n - 1)) = nI (2 ^ t - 1) := by
  have ht := Lo_lt h hn
  have h1 : 1 ≤ n := by
    rcases Nat.eq_zero_or_pos n with q | q
    · exfalso; subst q; have := h.1; simp at this
    · exact q
  have e1 : nI n - 1 = nI (n - 1) := pk_sub (b := 1) h1
  rw [e1, show (-1 : Int32) = nI (2 ^ 32 - 1) from rfl, fb_xorI, fa_and]
  congr 1
  apply tb_ext (k := 32)
  · exact Nat.and_lt_two_pow _ (by omega)
  · have := Nat.pow_le_pow_right (n := 2) (by decide) (show t ≤ 32 by omega); have := Nat.two_pow_pos t; omega
  · intro i hi
    rw [Nat.testBit_and, Nat.testBit_xor, Nat.testBit_two_pow_sub_one, Nat.testBit_two_pow_sub_one, ← Lo_pred h i]
    simp [hi]
theorem q_ntz {n t : Nat} (hn : n < 2 ^ 32) (h : Lo n t) : v_J6_numberOfTrailingZeros_0f7a4 (nI n) σ P = P (nI t) σ := by
  rw [q_zG, Lo_mask hn h, zG_t t (Lo_lt h hn)]
-- the highest place of an int
def y61 (x0 x1 : Int32) : Int32 := if x0 < 4 then x1 - ((Int32.toUInt32 x0 >>> (Int32.toUInt32 1 &&& Int32.toUInt32 31)).toInt32) else
  let y := (Int32.toUInt32 x0 >>> (Int32.toUInt32 2 &&& Int32.toUInt32 31)).toInt32
  (x1 + (-2)) - ((Int32.toUInt32 y >>> (Int32.toUInt32 1 &&& Int32.toUInt32 31)).toInt32)
theorem q_y61 {x0 x1 : Int32} : v_J6_numberOfLeadingZeros_0f7a4_J61 P x0 x1 σ = P (y61 x0 x1) σ := by
  unfold v_J6_numberOfLeadingZeros_0f7a4_J61 y61; rw [w_ite]; simp only [forall_eq]; split <;> rfl
/-- t is the highest place of n -/
def Hi (n t : Nat) : Prop := 2 ^ t ≤ n ∧ n < 2 ^ (t + 1)
theorem Hi_ex {n k : Nat} (h0 : n ≠ 0) (hk : n < 2 ^ k) : ∃ t, t < k ∧ Hi n t :=
  ⟨n.log2, (Nat.log2_lt h0).mpr hk, Nat.log2_self_le h0, Nat.lt_log2_self⟩
theorem Hi_div {n t k : Nat} (h : Hi n t) (hk : k ≤ t) : Hi (n / 2 ^ k) (t - k) := by
  refine ⟨(Nat.le_div_iff_mul_le (Nat.two_pow_pos k)).mpr ?_, (Nat.div_lt_iff_lt_mul (Nat.two_pow_pos k)).mpr ?_⟩
  · rw [← Nat.pow_add, show t - k + k = t by omega]; exact h.1
  · rw [← Nat.pow_add, show t - k + 1 + k = t + 1 by omega]; exact h.2
theorem Hi_ge {n t k : Nat} (h : Hi n t) (hk : 2 ^ k ≤ n) : k ≤ t := by
  refine Nat.le_of_not_lt (fun q => ?_)
  have := Nat.pow_le_pow_right (n := 2) (by decide) (show t + 1 ≤ k by omega)
  have := h.2
  omega
theorem Hi_lt {n t k : Nat} (h : Hi n t) (hk : n < 2 ^ k) : t < k := by
  refine Nat.lt_of_not_le (fun q => ?_)
  have := Nat.pow_le_pow_right (n := 2) (by decide) q
  have := h.1
  omega
theorem y61_t : ∀ x, x < 16 → ∀ c, c < 32 → 3 ≤ c → 1 ≤ x → y61 (nI x) (nI c) = nI (c - x.log2) := by decide +kernel
theorem Hi_log {n t : Nat} (h : Hi n t) : n.log2 = t := by
  have h0 : n ≠ 0 := by have := h.1; have := Nat.two_pow_pos t; omega
  have h1 := Nat.log2_self_le h0
  have h2 := Nat.lt_log2_self (n := n)
  have := Hi_ge h h1
  have : t < n.log2 + 1 := Hi_lt h h2
  omega
theorem us_k {n : Nat} (hn : n < 2 ^ 32) {s : Int32} (k : Nat) (hs : ((s.toUInt32 &&& Int32.toUInt32 31).toBitVec % 32).toNat = k) : (Int32.toUInt32 (nI n) >>> (s.toUInt32 &&& Int32.toUInt32 31)).toInt32 = nI (n / 2 ^ k) := pk_ushrN hn s k hs
theorem q_nl61 {x t c : Nat} (h : Hi x t) (hx : x < 16) (hc : c < 32) (hc3 : 3 ≤ c) : v_J6_numberOfLeadingZeros_0f7a4_J61 P (nI x) (nI c) σ = P (nI (c - t)) σ := by
  have h0 : 1 ≤ x := by have := h.1; have := Nat.two_pow_pos t; omega
  rw [q_y61, y61_t x hx c hc hc3 h0, Hi_log h]
theorem c_m {a b : Nat} (h : b ≤ a) : nI a + -nI b = nI (a - b) := by
  rw [← pk_sub h, Int32.sub_eq_add_neg]
theorem q_nl48 {x t c : Nat} (h : Hi x t) (hx : x < 256) (hc : c < 32) (hc3 : 7 ≤ c) : v_J6_numberOfLeadingZeros_0f7a4_J48 P (nI x) (nI c) σ = P (nI (c - t)) σ := by
  unfold v_J6_numberOfLeadingZeros_0f7a4_J48
  rw [w_ite]; simp only [forall_eq]
  rw [us_k (by omega) 4 (by decide), show (nI c + (-4)) = nI (c - 4) from c_m (b := 4) (by omega)]
  by_cases q : x < 16
  · rw [if_pos (show nI x < 16 from (nI_ltI (b := 16) (by omega) (by omega)).mpr q), q_nl61 h q hc (by omega)]
  · have h4 : 4 ≤ t := Hi_ge h (by omega)
    rw [if_neg (show ¬ nI x < 16 from fun z => q ((nI_ltI (b := 16) (by omega) (by omega)).mp z)), q_nl61 (Hi_div h h4) (by omega) (by omega) (by omega)]
    rw [show c - 4 - (t - 4) = c - t by omega]
theorem q_nl33 {x t c : Nat} (h : Hi x t) (hx : x < 65536) (hc : c < 32) (hc3 : 15 ≤ c) : v_J6_numberOfLeadingZeros_0f7a4_J33 P (nI x) (nI c) σ = P (nI (c - t)) σ := by
  unfold v_J6_numberOfLeadingZeros_0f7a4_J33
  rw [w_ite]; simp only [forall_eq]
  rw [us_k (by omega) 8 (by decide), show (nI c + (-8)) = nI (c - 8) from c_m (b := 8) (by omega)]
  by_cases q : x < 256
  · rw [if_pos (show nI x < 256 from (nI_ltI (b := 256) (by omega) (by omega)).mpr q), q_nl48 h q hc (by omega)]
  · have h4 : 8 ≤ t := Hi_ge h (by omega)
    rw [if_neg (show ¬ nI x < 256 from fun z => q ((nI_ltI (b := 256) (by omega) (by omega)).mp z)), q_nl48 (Hi_div h h4) (by omega) (by omega) (by omega)]
    rw [show c - 8 - (t - 8) = c - t by omega]
theorem q_nlz {n t : Nat} (hn : n < 2 ^ 31) (h : Hi n t) : v_J6_numberOfLeadingZeros_0f7a4 (nI n) σ P = P (nI (31 - t)) σ := by
  have h0 : 1 ≤ n := by have := h.1; have := Nat.two_pow_pos t; omega
  unfold v_J6_numberOfLeadingZeros_0f7a4
  rw [w_t (show 0 < nI n from (nI_ltI (a := 0) (by omega) hn).mpr h0), w_ite]; simp only [forall_eq]
  rw [us_k (by omega) 16 (by decide), show (31 + (-16) : Int32) = nI 15 from rfl, show (31 : Int32) = nI 31 from rfl]
  by_cases q : n < 65536
  · rw [if_pos (show nI n < 65536 from (nI_ltI (b := 65536) hn (by omega)).mpr q), q_nl33 h q (by omega) (by omega)]
  · have h4 : 16 ≤ t := Hi_ge h (by omega)
    rw [if_neg (show ¬ nI n < 65536 from fun z => q ((nI_ltI (b := 65536) hn (by omega)).mp z)), q_nl33 (Hi_div h h4) (by omega) (by omega) (by omega)]
    rw [show 15 - (t - 16) = 31 - t by omega]
theorem hob_t : ∀ t, t < 31 → ((Int32.toUInt32 (-2147483648) >>> (Int32.toUInt32 (nI (31 - t)) &&& Int32.toUInt32 31)).toInt32) = nI (2 ^ t) := by decide +kernel
theorem Hi_tb {n t : Nat} (h : Hi n t) : n.testBit t = true ∧ ∀ i, t < i → n.testBit i = false := by
  refine ⟨?_, fun i hi => nb_0 (Nat.lt_of_lt_of_le h.2 (Nat.pow_le_pow_right (by decide) hi))⟩
  rw [Nat.testBit_eq_decide_div_mod_eq]
  have h1 : n / 2 ^ t = 1 := by
    have a := (Nat.le_div_iff_mul_le (Nat.two_pow_pos t)).mpr (show 1 * 2 ^ t ≤ n by rw [Nat.one_mul]; exact h.1)
    have b := (Nat.div_lt_iff_lt_mul (Nat.two_pow_pos t)).mpr (show n < 2 * 2 ^ t by have := h.2; rw [Nat.pow_succ] at this; omega)
    omega
  simp [h1]
theorem q_hob {n t : Nat} (hn : n < 2 ^ 31) (h : Hi n t) : v_J6_highestOneBit_0f7a4 (nI n) σ P = P (nI (2 ^ t)) σ := by
  have ht : t < 31 := Hi_lt h hn
  unfold v_J6_highestOneBit_0f7a4
  rw [q_nlz hn h, hob_t t ht, fa_and]
  congr 2
  apply tb_ext (k := 32)
  · exact Nat.and_lt_two_pow _ (Nat.pow_lt_pow_right (by decide) (by omega))
  · exact Nat.pow_lt_pow_right (by decide) (by omega)
  · intro i hi
    rw [Nat.testBit_and, Nat.testBit_two_pow]
    by_cases q : t = i
    · subst q; simp [(Hi_tb h).1]
    · simp [q]
-- longs: lowest and highest place
theorem l_lo {n : Nat} (hn : n < 2 ^ 64) : Int64.toInt32 (lN n) = nI (n % 2 ^ 32) := by
  rw [lN_i]
  apply Int32.toBitVec_inj.mp
  apply BitVec.eq_of_toNat_eq
  show n % 2 ^ 32 = (n % 2 ^ 32) % 2 ^ 32
  rw [Nat.mod_mod]
theorem l_hi {n : Nat} (hn : n < 2 ^ 64) : ((lN n).toUInt64 >>> ((Int32.toInt64 32).toUInt64 &&& Int64.toUInt64 63)).toInt64 = lN (n / 2 ^ 32) := wb_shr (k := 32) hn (by omega)
theorem q_ntzL {n t : Nat} (hn : n < 2 ^ 64) (h : Lo n t) : v_J13_numberOfTrailingZeros_95d88 (lN n) σ P = P (nI t) σ := by
  unfold v_J13_numberOfTrailingZeros_95d88
  rw [l_lo hn, l_hi hn, l_lo (by omega)]
  by_cases q : t < 32
  · have hl : Lo (n % 2 ^ 32) t := ⟨by rw [Nat.testBit_mod_two_pow, h.1]; simp [q], fun i hi => by rw [Nat.testBit_mod_two_pow, h.2 i hi]; simp⟩
    rw [w_f, q_ntz (by omega) hl]
    intro z
    have z2 : n % 2 ^ 32 = 0 := by
      have z3 := congrArg (fun x : Int32 => x.toBitVec.toNat) z
      have z4 : (nI (n % 2 ^ 32)).toBitVec.toNat = n % 2 ^ 32 := pk_tn (by omega)
      have z5 : (nI (n % 2 ^ 32)).toBitVec.toNat = 0 := z3
      omega
    have := hl.1
    rw [z2] at this
    simp at this
  · have z2 : n % 2 ^ 32 = 0 := tb_ext (k := 32) (by omega) (by omega) (fun i hi => by rw [Nat.testBit_mod_two_pow, h.2 i (by omega)]; simp)
    have hl : Lo (n / 2 ^ 32 % 2 ^ 32) (t - 32) := by
      have e : n / 2 ^ 32 % 2 ^ 32 = n / 2 ^ 32 := by omega
      rw [e]
      refine ⟨by rw [Nat.testBit_div_two_pow, show t - 32 + 32 = t by omega]; exact h.1, fun i hi => by rw [Nat.testBit_div_two_pow]; exact h.2 _ (by omega)⟩
    rw [z2, w_t (by rfl), q_ntz (by omega) hl]
    have := Lo_lt h hn
    rw [show (32 : Int32) = nI 32 from rfl, nI_add, show 32 + (t - 32) = t by omega]
theorem q_nlzL {n t : Nat} (hn : n < 2 ^ 63) (h : Hi n t) : v_J13_numberOfLeadingZeros_95d88 (lN n) σ P = P (nI (63 - t)) σ := by
  unfold v_J13_numberOfLeadingZeros_95d88
  simp only [forall_eq]
  rw [l_hi (by omega), l_lo (by omega), l_lo (by omega)]
  by_cases q : 32 ≤ t
  · have h2 := Hi_div h q
    have e : n / 2 ^ 32 % 2 ^ 32 = n / 2 ^ 32 := by omega
    have h3 : 1 ≤ n / 2 ^ 32 := by have := h2.1; have := Nat.two_pow_pos (t - 32); omega
    rw [e, w_f (by rw [i_eq0 (by omega)]; omega), q_nlz (by omega) h2, show 31 - (t - 32) = 63 - t by omega]
  · have hlt : n < 2 ^ 32 := Nat.lt_of_lt_of_le h.2 (Nat.pow_le_pow_right (by decide) (by omega))
    have e : n / 2 ^ 32 % 2 ^ 32 = 0 := by omega
    rw [e, w_t (by rfl), Nat.mod_eq_of_lt hlt]
    by_cases q2 : t < 31
    · have hlt2 : n < 2 ^ 31 := Nat.lt_of_lt_of_le h.2 (Nat.pow_le_pow_right (by decide) (by omega))
      rw [q_nlz hlt2 h, show (32 : Int32) = nI 32 from rfl, nI_add, show 32 + (31 - t) = 63 - t by omega]
    · have ht : t = 31 := by omega
      subst ht
      unfold v_J6_numberOfLeadingZeros_0f7a4
      have hneg : nI n < 0 := by
        rw [fa_lt]
        have e2 : (nI n).toInt = (n : Int) - 2 ^ 32 := by
          show (BitVec.ofNat 32 n).toInt = _
          rw [BitVec.toInt_eq_toNat_cond, BitVec.toNat_ofNat, Nat.mod_eq_of_lt hlt, if_neg (by have := h.1; omega)]
          rfl
        rw [e2]
        show (n : Int) - 2 ^ 32 < 0
        omega
      have hn0 := fa_of_lt hneg
      rw [w_f hn0.2.2.1, w_f hn0.2.2.2.1]
      rfl
end
