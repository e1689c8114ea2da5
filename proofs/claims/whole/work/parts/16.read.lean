-- ===== questions of strings, bars, sets, chords =====
/-- the classes of a chord -/
def clo (c : Nat) : Nat := nb (fun k => ([[0, 4, 7], [0, 3, 7], [0, 4, 7, 10], [0, 3, 7, 10], [0, 3, 6], [0, 5, 7], [0, 4, 7, 11], [0, 4, 8]].getD (c / 12) ([] : List Nat)).any (fun a => (c % 12 + a) % 12 == k)) 12
theorem clo_lt (c : Nat) : clo c < 4096 := nb_lt _ 12
def coA (a0 : Int32) : Int32 := ((((tSorts (Int32.toNatClampNeg (a0 / 12))) <<< ((a0 - a0 / 12 * 12) &&& 31)) ||| ((Int32.toUInt32 (tSorts (Int32.toNatClampNeg (a0 / 12))) >>> (Int32.toUInt32 (12 - (a0 - a0 / 12 * 12)) &&& Int32.toUInt32 31)).toInt32)) &&& 4095)
theorem coA_t : ∀ c, c < 96 → coA (nI c) = nI (clo c) := by decide +kernel
def abv (a0 a1 : Int32) : Int32 := ((1 : Int32) <<< (((a0 + a1) - (a0 + a1) / 12 * 12) &&& 31))
def coB (a : Int32) : Int32 :=
  let r := a - a / 12 * 12
  if a / 12 = 0 then (abv r 0 ||| abv r 4) ||| abv r 7 else if a / 12 = 1 then (abv r 0 ||| abv r 3) ||| abv r 7 else
  if a / 12 = 2 then ((abv r 0 ||| abv r 4) ||| abv r 7) ||| abv r 10 else if a / 12 = 3 then ((abv r 0 ||| abv r 3) ||| abv r 7) ||| abv r 10 else
  if a / 12 = 4 then (abv r 0 ||| abv r 3) ||| abv r 6 else if a / 12 = 5 then (abv r 0 ||| abv r 5) ||| abv r 7 else
  if a / 12 = 6 then ((abv r 0 ||| abv r 4) ||| abv r 7) ||| abv r 11 else (abv r 0 ||| abv r 4) ||| abv r 8
theorem coB_t : ∀ c, c < 96 → coB (nI c) = nI (clo c) := by decide +kernel
theorem w_P {c : Prop} [Decidable c] {α : Type} {P : α → Mem → Prop} {a b : α} {σ : Mem} : (if c then P a σ else P b σ) = P (if c then a else b) σ := by split <;> rfl
theorem w_iti {c : Prop} [Decidable c] {b : Bool} (h : c ↔ b = true) : (if c then (1 : Int32) else 0) = bI b := by
  cases b
  · rw [if_neg (by simpa using h)]; rfl
  · rw [if_pos (by simpa using h)]; rfl
section
variable {σ : Mem} {S : St} {P : Int32 → Mem → Prop} {PJ : Int64 → Mem → Prop}
theorem q_classesOfA {c : Nat} (h : c < 96) : v_X11_classesOf (nI c) σ P = P (nI (clo c)) σ := by
  have h2 : vp_in (nI c / 12) 8 := by rw [i_12d (by omega)]; exact vi (by omega) (by omega)
  unfold v_X11_classesOf
  rw [q_isChord_n h, w_1, w_in h2, ← coA_t c h]
  rfl
theorem q_classesOfB {c : Nat} (h : c < 96) : v_X12_classesOf (nI c) σ P = P (nI (clo c)) σ := by
  rw [← coB_t c h]
  unfold v_X12_classesOf v_X12_above coB
  simp only [w_ite, w_P]
  rfl
theorem q_kind (h : A σ S) (hk : ok S) {b : Nat} (hb : b < nB S) : v_X0_kind (bB + b) σ P = P (nI (kdo (bk S b))) σ := by
  have hle := hk.zbk b
  unfold v_X0_kind kdo
  rw [h.zbk hb]
  unfold bcI
  by_cases q : bk S b < 96
  · rw [if_pos q, if_pos q, q_isChord_n q, w_1, h.zbk hb]
    unfold bcI
    rw [if_pos q, i_12d (by omega)]
    simp only [w_ite]
    have e2 : (nI (bk S b / 12) = 2) = (bk S b / 12 = 2) := i_eq (b := 2) (by omega) (by omega)
    have e3 : (nI (bk S b / 12) = 3) = (bk S b / 12 = 3) := i_eq (b := 3) (by omega) (by omega)
    have e6 : (nI (bk S b / 12) = 6) = (bk S b / 12 = 6) := i_eq (b := 6) (by omega) (by omega)
    simp only [e2, e3, e6]
    by_cases c2 : bk S b / 12 = 2
    · simp [c2]; rfl
    · by_cases c3 : bk S b / 12 = 3
      · simp [c3]; rfl
      · by_cases c6 : bk S b / 12 = 6
        · simp [c6]; rfl
        · simp [c2, c3, c6]; rfl
  · rw [if_neg q, if_neg q, q_isChord_o (Or.inl (by decide)), w_0]
    rfl
theorem q_hasFelt (h : A σ S) (hk : ok S) {b s : Nat} (hb : b < nB S) (hs : s < 36) : v_X0_hasFelt (bB + b) (nI s) σ P = P (bI (fe S b s != 0)) σ := by
  unfold v_X0_hasFelt
  rw [h.zfls hb, q_hasBit (fls_lt S b) (by omega), w_isB]
  unfold fls
  rw [nb_tb]
  simp [hs]
theorem q_isWorn (h : A σ S) (hk : ok S) {b s : Nat} (hb : b < nB S) (hs : s < 36) : v_X0_isWorn (bB + b) (nI s) σ P = P (bI (fe S b s == 1)) σ := by
  unfold v_X0_isWorn
  rw [h.zwos hb, q_hasBit (wos_lt S b) (by omega), w_isB]
  unfold wos
  rw [nb_tb]
  simp [hs]
theorem q_hasFeltF (h : A σ S) (hk : ok S) {b s : Nat} (hb : b < nB S) (hs : s < nS S) : v_X11_hasFelt (nI b) (nI s) σ P = P (bI (fe S b s != 0)) σ := by
  have := hk.znB
  have := hk.znS
  unfold v_X11_hasFelt
  rw [q_knowsB_n h hk hb, w_1, q_knowsS_n h hk hs, w_1, w_in (vi (by omega) (by omega)), nI_clamp (by omega), q_hasFelt h hk hb (by omega), w_bI]
  cases fe S b s != 0 <;> simp [isB, bI]
theorem q_wholeFeltsOn (h : A σ S) (hk : ok S) {s : Nat} (hs : s < 36) : v_X7_wholeFeltsOn (nI s) σ P = P (nI (fb_ct (fun b => fe S b s == 2) (nB S))) σ := by
  have hnB := hk.znB
  unfold v_X7_wholeFeltsOn
  refine lp_c (fun n k => v_X7_wholeFeltsOn_L4 (nI s) P n (nI (fb_ct (fun b => fe S b s == 2) k)) (nI k) σ) _ (nB S) (fun n => ?_) (fun n k hk2 => ?_) 5000 0 (by omega) (by omega)
  · (try dsimp only)
    rw [v_X7_wholeFeltsOn_L4, h.znB, w_t (nI_le (Nat.le_refl _) (by omega))]
  · (try dsimp only)
    rw [v_X7_wholeFeltsOn_L4, h.znB, w_f (nI_ge hk2 (by omega)), w_in (vi (show k < 12 by omega) (by omega)), nI_clamp (by omega), q_wholeOnes h hk hk2, q_hasBit (who_lt S k) (by omega), w_bI, nI_1, nI_1, fb_ct_succ]
    unfold who
    rw [nb_tb]
    simp only [hs, decide_true, Bool.true_and]
    cases fe S k s == 2 <;> rfl
theorem q_wholeFeltsB (h : B σ S) (hk : ok S) {s : Nat} (hs : s < 36) : v_X12_ofString_L73 (nI s) P 5000 0 0 σ = P (nI (fb_ct (fun b => fe S b s == 2) (nB S))) σ := by
  have hnB := hk.znB
  refine lp_c (fun n k => v_X12_ofString_L73 (nI s) P n (nI (fb_ct (fun b => fe S b s == 2) k)) (nI k) σ) _ (nB S) (fun n => ?_) (fun n k hk2 => ?_) 5000 0 (by omega) (by omega)
  · (try dsimp only)
    rw [v_X12_ofString_L73, h.znB, w_t (nI_le (Nat.le_refl _) (by omega))]
  · (try dsimp only)
    have h2 := hk.zfe k s
    rw [v_X12_ofString_L73, h.znB, w_f (nI_ge hk2 (by omega)), show (36 : Int32) * nI k + nI s = nI (36 * k + s) by rw [← nI_add, ← pk_mul]; rfl, w_in (vi (by omega) (by omega)), nI_clamp (by omega), h.zfe hk2 hs, w_ite, nI_1, nI_1, fb_ct_succ, show nI (fb_ct (fun b => fe S b s == 2) k) + 0 = nI (fb_ct (fun b => fe S b s == 2) k + 0) from nI_add _ 0]
    simp only [show (nI (fe S k s) = 2) = (fe S k s = 2) from i_eq (b := 2) (by omega) (by omega)]
    by_cases e : fe S k s = 2 <;> simp [e]
/-- strings that there are, as bits -/
theorem q_all (h : A σ S) (hk : ok S) : v_X10_all σ PJ = PJ (lN (2 ^ nS S - 1)) σ := by
  have := hk.znS
  unfold v_X10_all
  rw [h.znS, l_sh1 (by omega), show (1 : Int64) = lN 1 from rfl, lN_sub (Nat.two_pow_pos _)]
/-- the classes that strings not free have -/
def cal (S : St) : Nat := nb (fun k => ex (fun s => fr S s == 0 && tn S s % 12 == k) (nS S)) 12
theorem cam_cal : cam S (2 ^ nS S - 1) = cal S := by
  unfold cam cal
  apply nb_cong
  intro k _
  apply ex_cong
  intro s hs
  rw [Nat.testBit_two_pow_sub_one]
  simp [hs]
theorem q_allClassesA (h : A σ S) (hk : ok S) : v_X10_classesAmong (lN (2 ^ nS S - 1)) σ P = P (nI (cal S)) σ := by
  have := hk.znS
  have h2 : 2 ^ nS S ≤ 2 ^ 36 := Nat.pow_le_pow_right (by decide) this
  rw [q_classesAmong h hk (by omega), cam_cal]
theorem q_allClassesB (h : B σ S) (hk : ok S) : v_X12_allClasses σ P = P (nI (cal S)) σ := by
  have hnS := hk.znS
  unfold v_X12_allClasses cal
  have h0 : nb (fun k => ex (fun s => fr S s == 0 && tn S s % 12 == k) 0) 12 = 0 := nb_f (fun i _ => rfl)
  have := lp_c (fun n t => v_X12_allClasses_L4 P n (nI (nb (fun k => ex (fun s => fr S s == 0 && tn S s % 12 == k) t) 12)) (nI t) σ) (P (nI (nb (fun k => ex (fun s => fr S s == 0 && tn S s % 12 == k) (nS S)) 12)) σ) (nS S) (fun n => ?_) (fun n t ht => ?_) 5000 0 (by omega) (by omega)
  · (try dsimp only at this)
    rw [h0] at this
    exact this
  · (try dsimp only)
    rw [v_X12_allClasses_L4, h.znS, w_t (nI_le (Nat.le_refl _) (by omega))]
  · (try dsimp only)
    have hf := hk.zfr t
    have hm : tn S t % 12 < 12 := Nat.mod_lt _ (by decide)
    have z0 : ∀ x : Int32, x ||| 0 = x := fun x => by simp
    rw [v_X12_allClasses_L4, h.znS, w_f (nI_ge ht (by omega)), w_in (vi (show t < 36 by omega) (by omega)), nI_clamp (by omega), h.zfr (show t < 36 by omega), nI_1, z0]
    by_cases e : fr S t = 0
    · rw [e, w_t (by rfl), q_classOf h hk (by omega), ish1 _ (by omega), fa_or]
      congr 2
      apply nb_of
      · exact Nat.or_lt_two_pow (nb_lt _ 12) (Nat.pow_lt_pow_right (by decide) hm)
      · intro i hi
        rw [Nat.testBit_or, nb_tb, Nat.testBit_two_pow]
        simp [ex, e, hi] <;> rfl
    · rw [w_f (by rw [i_eq0 (by omega)]; exact e)]
      congr 2
      apply nb_cong
      intro i _
      simp [ex, e]
theorem q_countOf {x : Nat} (hx : x < 2 ^ 31) : v_X12_countOf (nI x) σ P = P (nI (pc 12 x)) σ := by
  unfold v_X12_countOf pc
  refine lp_c (fun n k => v_X12_countOf_L4 (nI x) P n (nI (fb_ct (fun i => x.testBit i) k)) (nI k) σ) _ 12 (fun n => ?_) (fun n k hk2 => ?_) 5000 0 (by omega) (by omega)
  · (try dsimp only)
    rw [v_X12_countOf_L4, w_t (show (12 : Int32) ≤ nI 12 by decide)]
  · (try dsimp only)
    rw [v_X12_countOf_L4, w_f (show ¬ (12 : Int32) ≤ nI k from nI_ge (b := 12) hk2 (by omega)), i_bit hx (by omega), nI_1, fb_ct_succ]
    cases x.testBit k
    · rw [show bI false = nI 0 from rfl, nI_add]; rfl
    · rw [show bI true = nI 1 from rfl, nI_add]; rfl
/-- how many felts (c: of what is 1 to c) -/
theorem q_feltsOf (h : B σ S) (hk : ok S) {b c : Nat} (hb : b < nB S) (hc : c ≤ 2) : v_X12_feltsOf (nI b) (nI c) σ P = P (nI (fb_ct (fun s => decide (0 < fe S b s ∧ fe S b s ≤ c)) (nS S))) σ := by
  have hnS := hk.znS
  have hnB := hk.znB
  unfold v_X12_feltsOf
  refine lp_c (fun n k => v_X12_feltsOf_L5 (nI b) (nI c) P n (nI (fb_ct (fun s => decide (0 < fe S b s ∧ fe S b s ≤ c)) k)) (nI k) σ) _ (nS S) (fun n => ?_) (fun n k hk2 => ?_) 5000 0 (by omega) (by omega)
  · (try dsimp only)
    rw [v_X12_feltsOf_L5, h.znS, w_t (nI_le (Nat.le_refl _) (by omega))]
  · (try dsimp only)
    have h2 := hk.zfe b k
    rw [v_X12_feltsOf_L5, h.znS, w_f (nI_ge hk2 (by omega)), show (36 : Int32) * nI b + nI k = nI (36 * b + k) by rw [← nI_add, ← pk_mul]; rfl, w_in (vi (by omega) (by omega)), nI_clamp (by omega), h.zfe hb (by omega), w_ite, w_ite, nI_1, nI_1, fb_ct_succ, show nI (fb_ct (fun s => decide (0 < fe S b s ∧ fe S b s ≤ c)) k) + 0 = nI (fb_ct (fun s => decide (0 < fe S b s ∧ fe S b s ≤ c)) k + 0) from nI_add _ 0]
    simp only [show (nI (fe S b k) ≤ 0) = (fe S b k ≤ 0) from i_le (b := 0) (by omega) (by omega), i_lt (show c < 2 ^ 31 by omega) (show fe S b k < 2 ^ 31 by omega)]
    by_cases e : fe S b k ≤ 0
    · rw [if_pos e, if_neg (by simp; omega)]
    · rw [if_neg e]
      by_cases e2 : c < fe S b k
      · rw [if_pos e2, if_neg (by simp; omega)]
      · rw [if_neg e2, if_pos (by simp; omega)]
theorem fe_ct (hk : ok S) {b : Nat} (hb : b < nB S) (p : Nat → Bool) (hp : p 0 = false) : pc 40 (nb (fun s => p (fe S b s)) 36) = fb_ct (fun s => p (fe S b s)) (nS S) := by
  have hnS := hk.znS
  have e : nb (fun s => p (fe S b s)) 36 = nb (fun s => p (fe S b s)) (nS S) := nb_more _ hnS (fun i h1 _ => by
    show p (fe S b i) = false
    rw [hk.zfe0 hb h1]; exact hp)
  rw [e, pc_more (nb_lt _ _) (show nS S ≤ 40 by omega), pc_nb]
theorem q_feltsA (h : A σ S) (hk : ok S) {b : Nat} (hb : b < nB S) : v_J13_bitCount_95d88 (lN (fls S b)) σ P = P (nI (fb_ct (fun s => decide (0 < fe S b s ∧ fe S b s ≤ 2)) (nS S))) σ := by
  have e := fe_ct hk hb (fun x => x != 0) rfl
  unfold fls
  rw [q_bcL (nb_lt' _ (by omega)), e]
  congr 2
  apply fb_ct_cong
  intro s _
  have := hk.zfe b s
  rcases (show fe S b s = 0 ∨ fe S b s = 1 ∨ fe S b s = 2 by omega) with e | e | e <;> simp [e]
theorem q_wornA (h : A σ S) (hk : ok S) {b : Nat} (hb : b < nB S) : v_J13_bitCount_95d88 (lN (wos S b)) σ P = P (nI (fb_ct (fun s => decide (0 < fe S b s ∧ fe S b s ≤ 1)) (nS S))) σ := by
  have e := fe_ct hk hb (fun x => x == 1) rfl
  unfold wos
  rw [q_bcL (nb_lt' _ (by omega)), e]
  congr 2
  apply fb_ct_cong
  intro s _
  have := hk.zfe b s
  rcases (show fe S b s = 0 ∨ fe S b s = 1 ∨ fe S b s = 2 by omega) with e | e | e <;> simp [e]
end
