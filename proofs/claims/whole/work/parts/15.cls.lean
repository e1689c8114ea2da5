-- ===== tests of numbers; sets; what sounds; classes =====
theorem w_bI {b : Bool} {X Y : Prop} : ((bI b = 0 → X) ∧ (¬ bI b = 0 → Y)) = (if b = true then Y else X) := by cases b <;> simp [bI]
theorem w_0 {X Y : Prop} : (((0 : Int32) = 0 → X) ∧ (¬ (0 : Int32) = 0 → Y)) = X := w_t rfl
theorem w_1 {X Y : Prop} : (((1 : Int32) = 0 → X) ∧ (¬ (1 : Int32) = 0 → Y)) = Y := w_f (by decide)
def ex (p : Nat → Bool) : Nat → Bool
  | 0 => false
  | n + 1 => ex p n || p n
theorem ex_iff {p : Nat → Bool} : ∀ {n : Nat}, ex p n = true ↔ ∃ i, i < n ∧ p i = true
  | 0 => by simp [ex]
  | n + 1 => by
    rw [ex, Bool.or_eq_true, ex_iff (n := n)]
    constructor
    · rintro (⟨i, h1, h2⟩ | h)
      · exact ⟨i, by omega, h2⟩
      · exact ⟨n, by omega, h⟩
    · rintro ⟨i, h1, h2⟩
      by_cases q : i = n
      · subst q; exact Or.inr h2
      · exact Or.inl ⟨i, by omega, h2⟩
theorem ex_no {p : Nat → Bool} {n : Nat} : ex p n = false ↔ ∀ i, i < n → p i = false := by
  rw [← Bool.not_eq_true, ex_iff]
  constructor
  · intro h i hi
    cases q : p i
    · rfl
    · exact absurd ⟨i, hi, q⟩ h
  · rintro h ⟨i, h1, h2⟩
    rw [h i h1] at h2; cases h2
theorem ex_cong {p q : Nat → Bool} {n : Nat} (h : ∀ i, i < n → p i = q i) : ex p n = ex q n := by
  cases e : ex q n
  · rw [ex_no] at e ⊢
    exact fun i hi => (h i hi).trans (e i hi)
  · rw [ex_iff] at e ⊢
    obtain ⟨i, h1, h2⟩ := e
    exact ⟨i, h1, (h i h1).trans h2⟩
theorem ex_first {p : Nat → Bool} {n : Nat} : (fa_first p n < n) = (ex p n = true) := by
  apply propext
  constructor
  · intro h; exact ex_iff.mpr ⟨_, h, fa_first_yes p n h⟩
  · intro h
    obtain ⟨i, h1, h2⟩ := ex_iff.mp h
    rcases Nat.lt_or_ge (fa_first p n) n with q | q
    · exact q
    · have := fa_first_no p n i (by omega)
      rw [h2] at this; cases this
theorem nb_f {p : Nat → Bool} {n : Nat} (h : ∀ i, i < n → p i = false) : nb p n = 0 :=
  tb_ext (nb_lt p n) (Nat.two_pow_pos n) (fun i hi => by rw [nb_tb, h i hi]; simp)
def hsh (S : St) (set s : Nat) : Bool := ex (fun b => set.testBit b && fe S b s == 2) (nB S)
def who (S : St) (b : Nat) : Nat := nb (fun s => fe S b s == 2) 36
def hus (S : St) (set : Nat) : Nat := nb (fun s => hsh S set s) 36
theorem fls_lt (S : St) (b : Nat) : fls S b < 2 ^ 64 := nb_lt' _ (by omega)
theorem wos_lt (S : St) (b : Nat) : wos S b < 2 ^ 64 := nb_lt' _ (by omega)
theorem who_lt (S : St) (b : Nat) : who S b < 2 ^ 64 := nb_lt' _ (by omega)
theorem hus_lt (S : St) (set : Nat) : hus S set < 2 ^ 64 := nb_lt' _ (by omega)
theorem frs_lt {S : St} (hk : ok S) : frs S < 2 ^ 64 := nb_lt' _ (by have := hk.znS; omega)
theorem ofC_lt {S : St} (hk : ok S) (k : Nat) : ofC S k < 2 ^ 64 := nb_lt' _ (by have := hk.znS; omega)
theorem ofT_lt {S : St} (hk : ok S) (k : Nat) : ofT S k < 2 ^ 64 := nb_lt' _ (by have := hk.znS; omega)
section
variable {σ : Mem} {S : St} {P : Int32 → Mem → Prop} {PJ : Int64 → Mem → Prop}
-- the class' tests
theorem q_isTone_n {j : Nat} (h : j < 61) : v_X11_isTone (nI j) σ P = P 1 σ := w_rg (n := 61) h (by decide)
theorem q_isTone_o {a : Int32} (h : oo a 61) : v_X11_isTone a σ P = P 0 σ := w_oo (n := 61) h
theorem q_isChord_n {j : Nat} (h : j < 96) : v_X11_isChord (nI j) σ P = P 1 σ := w_rg (n := 96) h (by decide)
theorem q_isChord_o {a : Int32} (h : oo a 96) : v_X11_isChord a σ P = P 0 σ := w_oo (n := 96) h
theorem q_isSheet_n {j : Nat} (h : j < 4) : v_X11_isSheet (nI j) σ P = P 1 σ := w_rg (n := 4) h (by decide)
theorem q_isSheet_o {a : Int32} (h : oo a 4) : v_X11_isSheet a σ P = P 0 σ := w_oo (n := 4) h
theorem q_isLane_n {j : Nat} (h : j < 3) : v_X11_isLane (nI j) σ P = P 1 σ := w_rg (n := 3) h (by decide)
theorem q_isLane_o {a : Int32} (h : oo a 3) : v_X11_isLane a σ P = P 0 σ := w_oo (n := 3) h
theorem q_asNumber {b : Bool} : v_X11_asNumber (bI b) σ P = P (bI b) σ := by cases b <;> simp [v_X11_asNumber, bI]
theorem q_asNumber_0 : v_X11_asNumber 0 σ P = P 0 σ := by simp [v_X11_asNumber]
theorem q_asNumber_1 : v_X11_asNumber 1 σ P = P 1 σ := by simp [v_X11_asNumber]
theorem q_hasBit {n k : Nat} (hn : n < 2 ^ 64) (hk : k < 64) : v_X11_hasBit (lN n) (nI k) σ P = P (bI (n.testBit k)) σ := by
  unfold v_X11_hasBit
  rw [w_ite]
  simp only [l_bit hn hk]
  cases h : n.testBit k <;> simp [bI]
theorem q_hasBitI {n k : Nat} (hn : n < 2 ^ 31) (hk : k < 64) : v_X11_hasBit (Int32.toInt64 (nI n)) (nI k) σ P = P (bI (n.testBit k)) σ := by
  rw [nI_l hn, q_hasBit (by omega) hk]
theorem q_knowsS_n (h : A σ S) (hk : ok S) {j : Nat} (hj : j < nS S) : v_X10_knows (nI j) σ P = P 1 σ := by
  have := hk.znS
  unfold v_X10_knows
  rw [h.znS]
  exact w_rg hj (by omega)
theorem q_knowsS_o (h : A σ S) {a : Int32} (ho : oo a (nS S)) : v_X10_knows a σ P = P 0 σ := by
  unfold v_X10_knows
  rw [h.znS]
  exact w_oo ho
theorem q_knowsB_n (h : A σ S) (hk : ok S) {j : Nat} (hj : j < nB S) : v_X7_knows (nI j) σ P = P 1 σ := by
  have := hk.znB
  unfold v_X7_knows
  rw [h.znB]
  exact w_rg hj (by omega)
theorem q_knowsB_o (h : A σ S) {a : Int32} (ho : oo a (nB S)) : v_X7_knows a σ P = P 0 σ := by
  unfold v_X7_knows
  rw [h.znB]
  exact w_oo ho
theorem q_knowsG_n (h : A σ S) (hk : ok S) {j : Nat} (hj : j < nG S) : v_X1_knows (nI j) σ P = P 1 σ := by
  have := hk.znG
  unfold v_X1_knows
  rw [h.znG]
  exact w_rg hj (by omega)
theorem q_knowsG_o (h : A σ S) {a : Int32} (ho : oo a (nG S)) : v_X1_knows a σ P = P 0 σ := by
  unfold v_X1_knows
  rw [h.znG]
  exact w_oo ho
theorem q_isFree (h : A σ S) (hk : ok S) {s : Nat} (hs : s < nS S) : v_X10_isFree (nI s) σ P = P (bI (fr S s == 1)) σ := by
  have := hk.znS
  unfold v_X10_isFree
  rw [h.zfrs, q_hasBit (frs_lt hk) (by omega)]
  unfold frs
  rw [nb_tb]
  simp only [hs, decide_true, Bool.true_and, w_isB]
theorem ush_0 {n k : Nat} (hn : n < 2 ^ 32) (hk : k ≤ 12) : (((nI n).toUInt32 >>> ((nI k).toUInt32 &&& Int32.toUInt32 31)).toInt32 = 0) = (n < 2 ^ k) := by
  rw [pk_ushrN hn _ k (s_u k (by omega))]
  have hp := Nat.two_pow_pos k
  have hd : n / 2 ^ k < 2 ^ 32 := Nat.lt_of_le_of_lt (Nat.div_le_self _ _) hn
  apply propext
  constructor
  · intro h
    have h2 : (nI (n / 2 ^ k)).toBitVec.toNat = 0 := congrArg (fun x : Int32 => x.toBitVec.toNat) h
    rw [pk_tn hd] at h2
    rcases Nat.div_eq_zero_iff.mp h2 with q | q
    · omega
    · exact q
  · intro h
    rw [Nat.div_eq_of_lt h]; rfl
theorem oo_N {a : Int32} {n : Nat} (h : oo a n) (hn : n < 2 ^ 31) : ∃ m, m < 2 ^ 32 ∧ n ≤ m ∧ a = nI m := by
  refine ⟨a.toBitVec.toNat, a.toBitVec.isLt, ?_, Int32.toBitVec_inj.mp (by show _ = BitVec.ofNat 32 _; simp)⟩
  have e : a.toInt = if 2 * a.toBitVec.toNat < 2 ^ 32 then (a.toBitVec.toNat : Int) else (a.toBitVec.toNat : Int) - (2 ^ 32 : Nat) := BitVec.toInt_eq_toNat_cond _
  have hl := a.toBitVec.isLt
  rcases h with h | h
  · rw [fa_lt] at h
    have h2 : a.toInt < 0 := h
    split at e <;> omega
  · rw [fa_le, nI_toInt hn] at h
    split at e <;> omega
theorem q_isSetA_n (h : A σ S) (hk : ok S) {j : Nat} (hj : j < 2 ^ nB S) : v_X7_isSet (nI j) σ P = P 1 σ := by
  have := hk.znB
  have h2 : 2 ^ nB S ≤ 2 ^ 12 := Nat.pow_le_pow_right (by decide) this
  unfold v_X7_isSet
  rw [h.znB, w_ite]
  simp only [ush_0 (n := j) (show j < 2 ^ 32 by omega) this, if_pos hj]
theorem q_isSetA_o (h : A σ S) (hk : ok S) {a : Int32} (ho : oo a (2 ^ nB S)) : v_X7_isSet a σ P = P 0 σ := by
  have := hk.znB
  have h2 : 2 ^ nB S ≤ 2 ^ 12 := Nat.pow_le_pow_right (by decide) this
  obtain ⟨m, m1, m2, rfl⟩ := oo_N ho (by omega)
  unfold v_X7_isSet
  rw [h.znB, w_ite]
  simp only [ush_0 m1 this, if_neg (show ¬ m < 2 ^ nB S by omega)]
theorem q_isSetO_n (h : A σ S) (hk : ok S) {j : Nat} (hj : j < 2 ^ nF S) : v_X5_isSet (nI j) σ P = P 1 σ := by
  have := hk.znO
  have h2 : 2 ^ nF S ≤ 2 ^ 12 := Nat.pow_le_pow_right (by decide) this
  unfold v_X5_isSet
  rw [h.znO, w_ite]
  simp only [ush_0 (n := j) (show j < 2 ^ 32 by omega) this, if_pos hj]
theorem q_isSetO_o (h : A σ S) (hk : ok S) {a : Int32} (ho : oo a (2 ^ nF S)) : v_X5_isSet a σ P = P 0 σ := by
  have := hk.znO
  have h2 : 2 ^ nF S ≤ 2 ^ 12 := Nat.pow_le_pow_right (by decide) this
  obtain ⟨m, m1, m2, rfl⟩ := oo_N ho (by omega)
  unfold v_X5_isSet
  rw [h.znO, w_ite]
  simp only [ush_0 m1 this, if_neg (show ¬ m < 2 ^ nF S by omega)]
-- the reference's tests
theorem q_within_n {j n : Nat} (h : j ≤ n) (hn : n < 2 ^ 31) : v_X12_within (nI j) 0 (nI n) σ P = P 1 σ := by
  unfold v_X12_within
  rw [w_f (nI_pos (by omega)), w_f (nI_nlt h (by omega))]
theorem q_within_o {a : Int32} {n : Nat} (h : oo a (n + 1)) (hn : n + 1 < 2 ^ 31) : v_X12_within a 0 (nI n) σ P = P 0 σ := by
  unfold v_X12_within
  rw [w_ite, w_ite]
  rcases h with h | h
  · rw [if_pos h]
  · have h2 : nI n < a := by
      rw [fa_le, nI_toInt hn] at h
      rw [fa_lt, nI_toInt (by omega)]
      omega
    rw [if_pos h2]; split <;> rfl
theorem q_w60_n {j : Nat} (h : j < 61) : v_X12_within (nI j) 0 60 σ P = P 1 σ := q_within_n (n := 60) (by omega) (by omega)
theorem q_w60_o {a : Int32} (h : oo a 61) : v_X12_within a 0 60 σ P = P 0 σ := q_within_o (n := 60) h (by omega)
theorem q_w3_n {j : Nat} (h : j < 4) : v_X12_within (nI j) 0 3 σ P = P 1 σ := q_within_n (n := 3) (by omega) (by omega)
theorem q_w3_o {a : Int32} (h : oo a 4) : v_X12_within a 0 3 σ P = P 0 σ := q_within_o (n := 3) h (by omega)
theorem q_w2_n {j : Nat} (h : j < 3) : v_X12_within (nI j) 0 2 σ P = P 1 σ := q_within_n (n := 2) (by omega) (by omega)
theorem q_w2_o {a : Int32} (h : oo a 3) : v_X12_within a 0 2 σ P = P 0 σ := q_within_o (n := 2) h (by omega)
theorem q_w4_n {j : Nat} (h : j < 5) : v_X12_within (nI j) 0 4 σ P = P 1 σ := q_within_n (n := 4) (by omega) (by omega)
theorem q_w4_o {a : Int32} (h : oo a 5) : v_X12_within a 0 4 σ P = P 0 σ := q_within_o (n := 4) h (by omega)
theorem q_w12_n {j : Nat} (h : j < 13) : v_X12_within (nI j) 0 12 σ P = P 1 σ := q_within_n (n := 12) (by omega) (by omega)
theorem q_w12_o {a : Int32} (h : oo a 13) : v_X12_within a 0 12 σ P = P 0 σ := q_within_o (n := 12) h (by omega)
theorem q_isChordM_n {j : Nat} (h : j < 96) : v_X12_isChord (nI j) σ P = P 1 σ := by
  unfold v_X12_isChord
  rw [show v_X12_within (nI j) 0 95 σ (fun (r_1 : Int32) (σ : Mem) => isB r_1 ∧ P r_1 σ) = _ from q_within_n (n := 95) (by omega) (by omega), isB_1]
theorem q_isChordM_o {a : Int32} (h : oo a 96) : v_X12_isChord a σ P = P 0 σ := by
  unfold v_X12_isChord
  rw [show v_X12_within a 0 95 σ (fun (r_1 : Int32) (σ : Mem) => isB r_1 ∧ P r_1 σ) = _ from q_within_o (n := 95) h (by omega), isB_0]
theorem q_isString_n (h : B σ S) (hk : ok S) {j : Nat} (hj : j < nS S) : v_X12_isString (nI j) σ P = P 1 σ := by
  have := hk.znS
  unfold v_X12_isString
  rw [h.znS]
  exact w_rg hj (by omega)
theorem q_isString_o (h : B σ S) {a : Int32} (ho : oo a (nS S)) : v_X12_isString a σ P = P 0 σ := by
  unfold v_X12_isString
  rw [h.znS]
  exact w_oo ho
theorem q_isBar_n (h : B σ S) (hk : ok S) {j : Nat} (hj : j < nB S) : v_X12_isBar (nI j) σ P = P 1 σ := by
  have := hk.znB
  unfold v_X12_isBar
  rw [h.znB]
  exact w_rg hj (by omega)
theorem q_isBar_o (h : B σ S) {a : Int32} (ho : oo a (nB S)) : v_X12_isBar a σ P = P 0 σ := by
  unfold v_X12_isBar
  rw [h.znB]
  exact w_oo ho
theorem q_isSong_n (h : B σ S) (hk : ok S) {j : Nat} (hj : j < nG S) : v_X12_isSong (nI j) σ P = P 1 σ := by
  have := hk.znG
  unfold v_X12_isSong
  rw [h.znG]
  exact w_rg hj (by omega)
theorem q_isSong_o (h : B σ S) {a : Int32} (ho : oo a (nG S)) : v_X12_isSong a σ P = P 0 σ := by
  unfold v_X12_isSong
  rw [h.znG]
  exact w_oo ho
theorem top_m {n : Nat} (hn : n ≤ 12) : ((1 : Int32) <<< (nI n &&& 31)) - 1 = nI (2 ^ n - 1) := by
  rw [ish1 n (by omega)]
  exact pk_sub (b := 1) (Nat.two_pow_pos n)
theorem q_isSetB_n (h : B σ S) (hk : ok S) {j : Nat} (hj : j < 2 ^ nB S) : v_X12_isSet (nI j) σ P = P 1 σ := by
  have := hk.znB
  have h2 : 2 ^ nB S ≤ 2 ^ 12 := Nat.pow_le_pow_right (by decide) this
  unfold v_X12_isSet
  rw [h.znB, top_m this, q_within_n (by omega) (by omega), isB_1]
theorem q_isSetB_o (h : B σ S) (hk : ok S) {a : Int32} (ho : oo a (2 ^ nB S)) : v_X12_isSet a σ P = P 0 σ := by
  have := hk.znB
  have h2 : 2 ^ nB S ≤ 2 ^ 12 := Nat.pow_le_pow_right (by decide) this
  have h3 := Nat.two_pow_pos (nB S)
  unfold v_X12_isSet
  rw [h.znB, top_m this, q_within_o (by rw [show 2 ^ nB S - 1 + 1 = 2 ^ nB S by omega]; exact ho) (by omega), isB_0]
theorem q_areOffers_n (h : B σ S) (hk : ok S) {j : Nat} (hj : j < 2 ^ nF S) : v_X12_areOffers (nI j) σ P = P 1 σ := by
  have := hk.znO
  have h2 : 2 ^ nF S ≤ 2 ^ 12 := Nat.pow_le_pow_right (by decide) this
  unfold v_X12_areOffers
  rw [h.znO, top_m this, q_within_n (by omega) (by omega), isB_1]
theorem q_areOffers_o (h : B σ S) (hk : ok S) {a : Int32} (ho : oo a (2 ^ nF S)) : v_X12_areOffers a σ P = P 0 σ := by
  have := hk.znO
  have h2 : 2 ^ nF S ≤ 2 ^ 12 := Nat.pow_le_pow_right (by decide) this
  have h3 := Nat.two_pow_pos (nF S)
  unfold v_X12_areOffers
  rw [h.znO, top_m this, q_within_o (by rw [show 2 ^ nF S - 1 + 1 = 2 ^ nF S by omega]; exact ho) (by omega), isB_0]
theorem q_classOf (h : B σ S) (hk : ok S) {s : Nat} (hs : s < 36) : v_X12_classOf (nI s) σ P = P (nI (tn S s % 12)) σ := by
  have := hk.ztn s
  unfold v_X12_classOf
  simp only [w_in (vi hs (by omega)), nI_clamp (show s < 2 ^ 31 by omega), h.ztn hs, i_12r (show tn S s < 2 ^ 31 by omega)]
-- what sounds
theorem who_eq (hk : ok S) {b : Nat} : fls S b &&& not64 (wos S b) = who S b := by
  apply nb_of
  · exact Nat.lt_of_le_of_lt Nat.and_le_left (nb_lt _ 36)
  · intro i hi
    have h := hk.zfe b i
    rw [Nat.testBit_and, not64_tb (wos_lt S b)]
    unfold fls wos
    rw [nb_tb, nb_tb]
    simp only [hi, decide_true, Bool.true_and, show i < 64 by omega]
    rcases (show fe S b i = 0 ∨ fe S b i = 1 ∨ fe S b i = 2 by omega) with e | e | e <;> rw [e] <;> rfl
theorem q_wholeOnes (h : A σ S) (hk : ok S) {b : Nat} (hb : b < nB S) : v_X0_wholeOnes (bB + b) σ PJ = PJ (lN (who S b)) σ := by
  unfold v_X0_wholeOnes
  rw [h.zfls hb, h.zwos hb, l_not (wos_lt S b), fb_andL, who_eq hk]
theorem q_hushed (h : A σ S) (hk : ok S) {set : Nat} (hs : set < 2 ^ 31) : v_X7_hushed (nI set) σ PJ = PJ (lN (hus S set)) σ := by
  have hnB := hk.znB
  unfold v_X7_hushed
  have h0 : nb (fun s => ex (fun b => set.testBit b && fe S b s == 2) 0) 36 = 0 := nb_f (fun i _ => rfl)
  have := lp_c (fun n k => v_X7_hushed_L5 (nI set) PJ n (lN (nb (fun s => ex (fun b => set.testBit b && fe S b s == 2) k) 36)) (nI k) σ) (PJ (lN (hus S set)) σ) (nB S) (fun n => ?_) (fun n k hk2 => ?_) 5000 0 (by omega) (by omega)
  · (try dsimp only at this)
    rw [h0] at this
    exact this
  · (try dsimp only)
    rw [v_X7_hushed_L5, h.znB, w_t (nI_le (Nat.le_refl _) (by omega))]
    rfl
  · (try dsimp only)
    rw [v_X7_hushed_L5, h.znB, w_f (nI_ge hk2 (by omega)), q_hasBitI hs (by omega), w_bI, nI_1]
    cases e : set.testBit k
    · rw [if_neg (by decide)]
      congr 2
      apply nb_cong
      intro i _
      simp [ex, e]
    · rw [if_pos rfl, w_in (vi (show k < 12 by omega) (by omega)), nI_clamp (by omega), q_wholeOnes h hk hk2, fb_orL]
      congr 2
      apply nb_of
      · exact Nat.or_lt_two_pow (nb_lt _ 36) (nb_lt _ 36)
      · intro i hi
        unfold who
        rw [Nat.testBit_or, nb_tb, nb_tb]
        simp [ex, e, hi]
/-- the classes that those of some strings (as bits) have that are not free -/
def cam (S : St) (x : Nat) : Nat := nb (fun k => ex (fun s => fr S s == 0 && tn S s % 12 == k && x.testBit s) (nS S)) 12
theorem q_classesAmong (h : A σ S) (hk : ok S) {x : Nat} (hx : x < 2 ^ 64) : v_X10_classesAmong (lN x) σ P = P (nI (cam S x)) σ := by
  have hnS := hk.znS
  unfold v_X10_classesAmong cam
  rw [show (0 : Int32) = nI (nb (fun k => ex (fun s => fr S s == 0 && tn S s % 12 == k && x.testBit s) (nS S)) 0) from rfl]
  refine lp_c (fun n k => v_X10_classesAmong_L5 (lN x) P n (nI (nb (fun k => ex (fun s => fr S s == 0 && tn S s % 12 == k && x.testBit s) (nS S)) k)) (nI k) σ) _ 12 (fun n => ?_) (fun n k hk2 => ?_) 5000 0 (by omega) (by omega)
  · (try dsimp only)
    rw [v_X10_classesAmong_L5, w_t (show (12 : Int32) ≤ nI 12 by decide)]
  · (try dsimp only)
    have e : ((lN (ofC S k) &&& lN x) = 0) = (ex (fun s => fr S s == 0 && tn S s % 12 == k && x.testBit s) (nS S) = false) := by
      rw [fb_andL, l_eq0 (Nat.lt_of_le_of_lt Nat.and_le_right hx)]
      unfold ofC
      rw [nb_and0]
      apply propext
      rw [ex_no]
      constructor
      · intro q i hi
        cases z : (fr S i == 0 && tn S i % 12 == k)
        · rfl
        · rw [q i hi z]; rfl
      · intro q i hi z
        have := q i hi
        rw [z] at this
        exact this
    rw [v_X10_classesAmong_L5, w_f (show ¬ (12 : Int32) ≤ nI k from nI_ge (b := 12) hk2 (by omega)), w_in (vi hk2 (by omega)), nI_clamp (by omega), h.zofC hk2, w_ite, nI_1, ish1 k (by omega), fa_or]
    simp only [e]
    rw [nb]
    cases ex (fun s => fr S s == 0 && tn S s % 12 == k && x.testBit s) (nS S) <;> simp
/-- the classes of a set of bars -/
def cw (S : St) (set : Nat) : Nat := nb (fun k => ex (fun s => fr S s == 0 && tn S s % 12 == k && !hsh S set s) (nS S)) 12
theorem cam_cw (hk : ok S) {set : Nat} : cam S (not64 (hus S set)) = cw S set := by
  have hnS := hk.znS
  unfold cam cw
  apply nb_cong
  intro k _
  apply ex_cong
  intro s hs
  rw [not64_tb (hus_lt S set)]
  unfold hus
  rw [nb_tb]
  simp only [show s < 64 by omega, show s < 36 by omega, decide_true, Bool.true_and]
theorem q_doesSound (h : B σ S) (hk : ok S) {set s : Nat} (hs : s < 36) (hset : set < 2 ^ 31) : v_X12_doesSound (nI set) (nI s) σ P = P (bI (!hsh S set s)) σ := by
  have hnB := hk.znB
  unfold v_X12_doesSound
  have := lp_s (fun n k => v_X12_doesSound_L2 (nI set) (nI s) P n (nI k) σ) (P 1 σ) (fun _ => P 0 σ) (fun b => set.testBit b && fe S b s == 2) (nB S) (fun n => ?_) (fun n k hk2 hp => ?_) (fun n k hk2 hp => ?_) 5000 0 (by omega) (by omega) (by omega)
  · rw [show (0 : Int32) = nI 0 from rfl] 
    rw [this]
    simp only [ex_first]
    unfold hsh
    cases ex (fun b => set.testBit b && fe S b s == 2) (nB S) <;> rfl
  · (try dsimp only)
    rw [v_X12_doesSound_L2, h.znB, w_t (nI_le (Nat.le_refl _) (by omega))]
  · (try dsimp only)
    rw [Bool.and_eq_true, beq_iff_eq] at hp
    rw [v_X12_doesSound_L2, h.znB, w_f (nI_ge hk2 (by omega)), i_bit hset (by omega), hp.1, w_t (by rfl), show (36 : Int32) * nI k + nI s = nI (36 * k + s) by rw [← nI_add, ← pk_mul]; rfl, w_in (vi (by omega) (by omega)), nI_clamp (by omega), h.zfe hk2 hs, hp.2, w_t (by rfl)]
  · (try dsimp only)
    rw [v_X12_doesSound_L2, h.znB, w_f (nI_ge hk2 (by omega)), i_bit hset (by omega), nI_1]
    cases e : set.testBit k
    · rw [w_f (by decide)]
    · rw [e, Bool.true_and, beq_eq_false_iff_ne] at hp
      have h2 := hk.zfe k s
      rw [w_t (by rfl), show (36 : Int32) * nI k + nI s = nI (36 * k + s) by rw [← nI_add, ← pk_mul]; rfl, w_in (vi (by omega) (by omega)), nI_clamp (by omega), h.zfe hk2 hs, w_f]
      intro z
      exact hp ((nI_eq (b := 2) (by omega) (by omega)).mp z)
theorem q_classesWith (h : B σ S) (hk : ok S) {set : Nat} (hset : set < 2 ^ 31) : v_X12_classesWith (nI set) σ P = P (nI (cw S set)) σ := by
  have hnS := hk.znS
  unfold v_X12_classesWith cw
  have h0 : nb (fun k => ex (fun s => fr S s == 0 && tn S s % 12 == k && !hsh S set s) 0) 12 = 0 := nb_f (fun i _ => rfl)
  have := lp_c (fun n t => v_X12_classesWith_L4 (nI set) P n (nI (nb (fun k => ex (fun s => fr S s == 0 && tn S s % 12 == k && !hsh S set s) t) 12)) (nI t) σ) (P (nI (nb (fun k => ex (fun s => fr S s == 0 && tn S s % 12 == k && !hsh S set s) (nS S)) 12)) σ) (nS S) (fun n => ?_) (fun n t ht => ?_) 5000 0 (by omega) (by omega)
  · (try dsimp only at this)
    rw [h0] at this
    exact this
  · (try dsimp only)
    rw [v_X12_classesWith_L4, h.znS, w_t (nI_le (Nat.le_refl _) (by omega))]
  · (try dsimp only)
    have hf := hk.zfr t
    have hm : tn S t % 12 < 12 := Nat.mod_lt _ (by decide)
    have z0 : ∀ x : Int32, x ||| 0 = x := fun x => by simp
    rw [v_X12_classesWith_L4, h.znS, w_f (nI_ge ht (by omega)), w_in (vi (show t < 36 by omega) (by omega)), nI_clamp (by omega), h.zfr (show t < 36 by omega), nI_1, z0]
    by_cases e : fr S t = 0
    · rw [e, w_t (by rfl), q_doesSound h hk (by omega) hset, w_bI]
      cases e2 : hsh S set t
      · rw [if_pos (by rfl), q_classOf h hk (by omega), ish1 _ (by omega), fa_or]
        congr 2
        apply nb_of
        · exact Nat.or_lt_two_pow (nb_lt _ 12) (Nat.pow_lt_pow_right (by decide) hm)
        · intro i hi
          rw [Nat.testBit_or, nb_tb, Nat.testBit_two_pow]
          simp [ex, e, e2, hi] <;> rfl
      · rw [if_neg (by decide)]
        congr 2
        apply nb_cong
        intro i _
        simp [ex, e2]
    · rw [w_f (by rw [i_eq0 (by omega)]; exact e)]
      congr 2
      apply nb_cong
      intro i _
      simp [ex, e]
end
