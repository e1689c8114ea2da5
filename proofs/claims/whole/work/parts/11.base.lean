-- ===== the shapes that the predicates take; numbers; bits; memory; loops =====
theorem w_ite {c A B : Prop} [Decidable c] : ((c → A) ∧ (¬ c → B)) = (if c then A else B) := by
  by_cases h : c <;> simp [h]
theorem w_t {c A B : Prop} (h : c) : ((c → A) ∧ (¬ c → B)) = A := by simp [h]
theorem w_f {c A B : Prop} (h : ¬ c) : ((c → A) ∧ (¬ c → B)) = B := by simp [h]
theorem w_in {i : Int32} {n : Nat} {A : Prop} (h : vp_in i n) : (vp_in i n ∧ A) = A := by simp [h]
theorem w_ne {i k : Int32} {A : Prop} (h : ¬ i = k) : (¬ i = k ∧ A) = A := by simp [h]
theorem w_nm {α : Sort _} {e : α} {P : α → Prop} : (∀ x, x = e → P x) = P e := by simp
def bI (b : Bool) : Int32 := if b then 1 else 0
theorem bI_t : bI true = 1 := rfl
theorem bI_f : bI false = 0 := rfl
theorem bI_0 {b : Bool} : (bI b = 0) = (b = false) := by cases b <;> simp [bI]
theorem bI_1 {b : Bool} : (bI b = 1) = (b = true) := by cases b <;> simp [bI]
theorem bI_isB {b : Bool} : isB (bI b) := by cases b <;> simp [bI, isB]
theorem w_isB {b : Bool} {A : Prop} : (isB (bI b) ∧ A) = A := by simp [bI_isB]
theorem isB_0 {A : Prop} : (isB 0 ∧ A) = A := by simp [isB]
theorem isB_1 {A : Prop} : (isB 1 ∧ A) = A := by simp [isB]
theorem w_b1 {c : Prop} [Decidable c] {P : Int32 → Prop} : (if c then P 1 else P 0) = P (bI (decide c)) := by by_cases h : c <;> simp [h, bI]
theorem w_b0 {c : Prop} [Decidable c] {P : Int32 → Prop} : (if c then P 0 else P 1) = P (bI (!decide c)) := by by_cases h : c <;> simp [h, bI]
theorem bI_inj {a b : Bool} : (bI a = bI b) = (a = b) := by cases a <;> cases b <;> simp [bI]
-- ranges
def oo (a : Int32) (n : Nat) : Prop := a < 0 ∨ nI n ≤ a
theorem rg (a : Int32) (n : Nat) (hn : n < 2 ^ 31) : (∃ j, j < n ∧ a = nI j) ∨ oo a n := by
  rcases pk_ix a hn with h | h | h
  · exact Or.inr (Or.inl h)
  · exact Or.inr (Or.inr h)
  · exact Or.inl h
theorem oo_no {a : Int32} {n : Nat} (h : oo a n) (hn : n < 2 ^ 31) {j : Nat} (hj : j < n) : a ≠ nI j := by
  rintro rfl
  rcases h with h | h
  · exact nI_pos (by omega) h
  · rw [nI_leI hn (by omega)] at h; omega
theorem w_oo {a : Int32} {n : Nat} {A B : Prop} (h : oo a n) : ((a < 0 → A) ∧ (¬ a < 0 → (nI n ≤ a → A) ∧ (¬ nI n ≤ a → B))) = A := by
  rcases h with h | h
  · simp [h]
  · by_cases q : a < 0 <;> simp [h, q]
theorem w_rg {n j : Nat} {A B C : Prop} (h : j < n) (hn : n < 2 ^ 31) : ((nI j < 0 → A) ∧ (¬ nI j < 0 → (nI n ≤ nI j → C) ∧ (¬ nI n ≤ nI j → B))) = B := by
  rw [w_f (nI_pos (by omega)), w_f (nI_ge h hn)]
theorem i_lt0 {n : Nat} (h : n < 2 ^ 31) : (nI n < 0) = False := by simp [nI_pos h]
theorem i_le0 {n : Nat} (h : n < 2 ^ 31) : (0 ≤ nI n) = True := by simp [nI_pos' h]
theorem i_le {a b : Nat} (ha : a < 2 ^ 31) (hb : b < 2 ^ 31) : (nI a ≤ nI b) = (a ≤ b) := propext (nI_leI ha hb)
theorem i_lt {a b : Nat} (ha : a < 2 ^ 31) (hb : b < 2 ^ 31) : (nI a < nI b) = (a < b) := propext (nI_ltI ha hb)
theorem i_eq {a b : Nat} (ha : a < 2 ^ 31) (hb : b < 2 ^ 31) : (nI a = nI b) = (a = b) := propext (nI_eq ha hb)
theorem i_eq0 {a : Nat} (ha : a < 2 ^ 31) : (nI a = 0) = (a = 0) := i_eq (b := 0) ha (by omega)
theorem i_eqm {a : Nat} {k : Int32} (ha : a < 2 ^ 31) (hk : k < 0) : (nI a = k) = False := by
  simp only [eq_iff_iff, iff_false]
  rintro rfl
  exact nI_pos ha hk
theorem l_eq0 {a : Nat} (ha : a < 2 ^ 64) : (lN a = 0) = (a = 0) := by
  have h : (lN a = lN 0) = (a = 0) := by
    apply propext
    constructor
    · intro q
      have q2 := congrArg (fun x => x.toBitVec.toNat) q
      simpa [wb_tn ha, wb_tn (show 0 < 2 ^ 64 by decide)] using q2
    · rintro rfl; rfl
  exact h
theorem vi {n N : Nat} (h : n < N) (hN : N < 2 ^ 31) : vp_in (nI n) N := vp_in_nI h hN
theorem i_12d {a : Nat} (ha : a < 2 ^ 31) : nI a / 12 = nI (a / 12) := pk_div ha (by decide) (by decide)
theorem i_12r {a : Nat} (ha : a < 2 ^ 31) : nI a - nI a / 12 * 12 = nI (a % 12) := pk_rem ha (by decide) (by decide)
-- one bit
theorem ic31 : ∀ k, k < 32 → (nI k &&& 31) = nI k := by decide +kernel
theorem ish1 : ∀ k, k < 31 → ((1 : Int32) <<< (nI k &&& 31)) = nI (2 ^ k) := by decide +kernel
theorem i_shr {n k : Nat} (hn : n < 2 ^ 31) (hk : k < 31) : (nI n >>> (nI k &&& 31)) = nI (n / 2 ^ k) := pk_shrN hn _ k (s_l k (by omega))
theorem i_bit {n k : Nat} (hn : n < 2 ^ 31) (hk : k < 31) : ((nI n >>> (nI k &&& 31)) &&& 1) = bI (n.testBit k) := by
  rw [i_shr hn hk, show (1 : Int32) = nI (2 ^ 1 - 1) from rfl, fa_mask, Nat.testBit_eq_decide_div_mod_eq]
  rcases Nat.mod_two_eq_zero_or_one (n / 2 ^ k) with h | h
  · rw [show n / 2 ^ k % 2 ^ 1 = 0 from h]; rfl
  · rw [show n / 2 ^ k % 2 ^ 1 = 1 from h]; rfl
theorem l_sh1 {k : Nat} (hk : k < 64) : ((1 : Int64) <<< ((nI k).toInt64 &&& 63)) = lN (2 ^ k) := by
  have := wb_shl 1 hk
  rw [Nat.one_mul] at this
  exact this
theorem l_bit {n k : Nat} (hn : n < 2 ^ 64) (hk : k < 64) : ((((lN n).toUInt64 >>> ((nI k).toInt64.toUInt64 &&& Int64.toUInt64 63)).toInt64 &&& 1) = 0) = (n.testBit k = false) := by
  rw [wb_bit hn hk, l_eq0 (by omega), Nat.testBit_eq_decide_div_mod_eq]
  rcases Nat.mod_two_eq_zero_or_one (n / 2 ^ k) with h | h <;> simp [h]
def not64 (n : Nat) : Nat := 2 ^ 64 - (n + 1)
theorem not64_lt {n : Nat} : not64 n < 2 ^ 64 := by unfold not64; omega
theorem not64_tb {n : Nat} (hn : n < 2 ^ 64) (i : Nat) : (not64 n).testBit i = (decide (i < 64) && !n.testBit i) := Nat.testBit_two_pow_sub_succ hn i
theorem l_not {n : Nat} (hn : n < 2 ^ 64) : lN n ^^^ -1 = lN (not64 n) := by
  rw [show (-1 : Int64) = lN (2 ^ 64 - 1) from rfl, fb_xorL]
  congr 1
  apply Nat.eq_of_testBit_eq
  intro i
  rw [Nat.testBit_xor, Nat.testBit_two_pow_sub_one, not64_tb hn]
  by_cases h : i < 64
  · simp [h]
  · simp [h, Nat.testBit_lt_two_pow (Nat.lt_of_lt_of_le hn (Nat.pow_le_pow_right (by decide) (Nat.not_lt.mp h)))]
-- a set of places as a number
def nb (p : Nat → Bool) : Nat → Nat
  | 0 => 0
  | n + 1 => nb p n ||| (if p n then 2 ^ n else 0)
theorem nb_lt (p : Nat → Bool) : ∀ n, nb p n < 2 ^ n
  | 0 => by simp [nb]
  | n + 1 => by
    have h1 : nb p n < 2 ^ (n + 1) := Nat.lt_of_lt_of_le (nb_lt p n) (Nat.pow_le_pow_right (by decide) (Nat.le_succ n))
    have h2 : (if p n then 2 ^ n else 0) < 2 ^ (n + 1) := by
      have := Nat.two_pow_pos n
      rw [Nat.pow_succ]
      split <;> omega
    exact Nat.or_lt_two_pow h1 h2
theorem nb_lt' (p : Nat → Bool) {n m : Nat} (h : n ≤ m) : nb p n < 2 ^ m := Nat.lt_of_lt_of_le (nb_lt p n) (Nat.pow_le_pow_right (by decide) h)
theorem nb_tb (p : Nat → Bool) (i : Nat) : ∀ n, (nb p n).testBit i = (decide (i < n) && p i)
  | 0 => by simp [nb]
  | n + 1 => by
    unfold nb
    rw [Nat.testBit_or, nb_tb p i n]
    by_cases q : i = n
    · subst q
      cases h : p i <;> simp [Nat.testBit_two_pow]
    · have h2 : (if p n then 2 ^ n else 0).testBit i = false := by
        split
        · rw [Nat.testBit_two_pow]; simp; omega
        · simp
      rw [h2, Bool.or_false]
      congr 1
      apply decide_eq_decide.mpr
      omega
theorem nb_0 {n i : Nat} (h : n < 2 ^ i) : n.testBit i = false := Nat.testBit_lt_two_pow h
theorem tb_ext {x y k : Nat} (hx : x < 2 ^ k) (hy : y < 2 ^ k) (h : ∀ i, i < k → x.testBit i = y.testBit i) : x = y := by
  apply Nat.eq_of_testBit_eq
  intro i
  by_cases q : i < k
  · exact h i q
  · rw [Nat.testBit_lt_two_pow (Nat.lt_of_lt_of_le hx (Nat.pow_le_pow_right (by decide) (Nat.not_lt.mp q))), Nat.testBit_lt_two_pow (Nat.lt_of_lt_of_le hy (Nat.pow_le_pow_right (by decide) (Nat.not_lt.mp q)))]
theorem nb_of {x k : Nat} {p : Nat → Bool} (hx : x < 2 ^ k) (h : ∀ i, i < k → x.testBit i = p i) : x = nb p k :=
  tb_ext hx (nb_lt p k) (fun i hi => by rw [nb_tb, h i hi]; simp [hi])
theorem nb_cong {p q : Nat → Bool} {n : Nat} (h : ∀ i, i < n → p i = q i) : nb p n = nb q n :=
  tb_ext (nb_lt p n) (nb_lt q n) (fun i hi => by rw [nb_tb, nb_tb, h i hi])
theorem nb_and0 {x : Nat} (p : Nat → Bool) (n : Nat) : (nb p n &&& x = 0) = (∀ i, i < n → p i = true → x.testBit i = false) := by
  apply propext
  constructor
  · intro h i hi hp
    have := congrArg (fun z => z.testBit i) h
    simpa [Nat.testBit_and, nb_tb, hi, hp] using this
  · intro h
    apply Nat.eq_of_testBit_eq
    intro i
    rw [Nat.testBit_and, nb_tb, Nat.zero_testBit]
    by_cases hi : i < n
    · cases hp : p i
      · simp
      · simp [h i hi hp]
    · simp [hi]
theorem nb_xor (p : Nat → Bool) (n : Nat) {k : Nat} (hk : k < n) : nb p n ^^^ 2 ^ k = nb (fun i => p i ^^ decide (i = k)) n := by
  apply nb_of
  · exact Nat.xor_lt_two_pow (nb_lt p n) (Nat.pow_lt_pow_right (by decide) hk)
  · intro i hi
    rw [Nat.testBit_xor, nb_tb, Nat.testBit_two_pow]
    simp only [hi, decide_true, Bool.true_and]
    congr 1
    apply decide_eq_decide.mpr
    omega
theorem nb_more (p : Nat → Bool) {n m : Nat} (h : n ≤ m) (hp : ∀ i, n ≤ i → i < m → p i = false) : nb p m = nb p n := by
  apply tb_ext (nb_lt p m) (nb_lt' p h)
  intro i hi
  rw [nb_tb, nb_tb]
  by_cases q : i < n
  · simp [q, hi]
  · simp [q, hi, hp i (by omega) hi]
-- memory
theorem m_I1 {σ : Mem} {o k a j : Nat} {v : Int32} : (wI σ o k v).1 a j = if a = o ∧ j = k then v else σ.1 a j := by
  unfold wI wIr
  by_cases h : a = o
  · subst h; by_cases q : j = k <;> simp [upd, q]
  · simp [h]
theorem m_I2 {σ : Mem} {o k : Nat} {v : Int32} : (wI σ o k v).2 = σ.2 := rfl
theorem m_J1 {σ : Mem} {o k : Nat} {v : Int64} : (wJ σ o k v).1 = σ.1 := rfl
theorem m_J2 {σ : Mem} {o k a j : Nat} {v : Int64} : (wJ σ o k v).2 a j = if a = o ∧ j = k then v else σ.2 a j := by
  unfold wJ wJr
  by_cases h : a = o
  · subst h; by_cases q : j = k <;> simp [vp_updL, q]
  · simp [h]
theorem m_Ir1 {σ : Mem} {o a j : Nat} {f : Nat → Int32} : (wIr σ o f).1 a j = if a = o then f j else σ.1 a j := by
  unfold wIr
  by_cases h : a = o <;> simp [h]
theorem m_Jr2 {σ : Mem} {o a j : Nat} {f : Nat → Int64} : (wJr σ o f).2 a j = if a = o then f j else σ.2 a j := by
  unfold wJr
  by_cases h : a = o <;> simp [h]
theorem m_Jr1 {σ : Mem} {o : Nat} {f : Nat → Int64} : (wJr σ o f).1 = σ.1 := rfl
theorem m_Ir2 {σ : Mem} {o : Nat} {f : Nat → Int32} : (wIr σ o f).2 = σ.2 := rfl
-- loops
theorem lp_c (W : Nat → Nat → Prop) (F : Prop) (e : Nat) (hx : ∀ n, W (n + 1) e = F) (hs : ∀ n k, k < e → W (n + 1) k = W n (k + 1)) : ∀ n k, k ≤ e → e < n + k → W n k = F := by
  intro n
  induction n with
  | zero => intro k h1 h2; omega
  | succ n ih =>
    intro k h1 h2
    by_cases q : k = e
    · rw [q, hx]
    · rw [hs n k (by omega), ih (k + 1) (by omega) (by omega)]
theorem lp_s (W : Nat → Nat → Prop) (F : Prop) (Fk : Nat → Prop) (p : Nat → Bool) (e : Nat) (hx : ∀ n, W (n + 1) e = F) (ht : ∀ n k, k < e → p k = true → W (n + 1) k = Fk k) (hf : ∀ n k, k < e → p k = false → W (n + 1) k = W n (k + 1)) : ∀ n k, k ≤ e → e < n + k → (∀ j, j < k → p j = false) → W n k = if fa_first p e < e then Fk (fa_first p e) else F := by
  intro n
  induction n with
  | zero => intro k h1 h2; omega
  | succ n ih =>
    intro k h1 h2 h3
    by_cases q : k = e
    · rw [q, hx, if_neg]
      intro h
      have h4 := fa_first_yes p e h
      rw [h3 _ (by omega)] at h4
      cases h4
    · cases hp : p k
      · rw [hf n k (by omega) hp]
        refine ih (k + 1) (by omega) (by omega) (fun j hj => ?_)
        by_cases hjk : j = k
        · rw [hjk, hp]
        · exact h3 j (by omega)
      · have h5 : fa_first p e = k := by
          rcases Nat.lt_trichotomy (fa_first p e) k with h | h | h
          · have h4 := fa_first_yes p e (by omega)
            rw [h3 _ h] at h4; cases h4
          · exact h
          · have h4 := fa_first_no p e k h
            rw [hp] at h4; cases h4
        rw [ht n k (by omega) hp, h5, if_pos (by omega)]
theorem lp_i (W : Nat → Nat → Mem → Prop) (I : Nat → Mem → Prop) (e : Nat) (hx : ∀ n s, I e s → W (n + 1) e s) (hs : ∀ n k s, k < e → I k s → (∀ s', I (k + 1) s' → W n (k + 1) s') → W (n + 1) k s) : ∀ n k s, k ≤ e → e < n + k → I k s → W n k s := by
  intro n
  induction n with
  | zero => intro k s h1 h2; omega
  | succ n ih =>
    intro k s h1 h2 h3
    by_cases q : k = e
    · subst q; exact hx n s h3
    · exact hs n k s (by omega) h3 (fun s' h4 => ih (k + 1) s' (by omega) (by omega) h4)
/-- downwards: from k to 0 -/
theorem lp_d (W : Nat → Nat → Mem → Prop) (I : Nat → Mem → Prop) (hx : ∀ n s, I 0 s → W (n + 1) 0 s) (hs : ∀ n k s, I (k + 1) s → (∀ s', I k s' → W n k s') → W (n + 1) (k + 1) s) : ∀ n k s, k < n → I k s → W n k s := by
  intro n
  induction n with
  | zero => intro k s h1; omega
  | succ n ih =>
    intro k s h1 h3
    cases k with
    | zero => exact hx n s h3
    | succ k => exact hs n k s h3 (fun s' h4 => ih k s' (by omega) h4)
