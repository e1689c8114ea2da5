-- ===== strum, both sides =====
/-- the greatest step among the tones below n that T holds -/
def lst (T : Nat → Bool) : Nat → Nat
  | 0 => 0
  | t + 1 => if T t then t + 1 else lst T t
def gm (T : Nat → Bool) : Nat → Nat
  | 0 => 0
  | t + 1 => if T t && lst T t != 0 then max (gm T t) (t + 1 - lst T t) else gm T t
def GG (T : Nat → Bool) (n G : Nat) : Prop := (∀ x y, x < y → y < n → T x = true → T y = true → (∀ z, x < z → z < y → T z = false) → y - x ≤ G) ∧ (G = 0 ∨ ∃ x y, x < y ∧ y < n ∧ T x = true ∧ T y = true ∧ (∀ z, x < z → z < y → T z = false) ∧ y - x = G)
theorem GG_le {T : Nat → Bool} {n G H : Nat} (h : GG T n G) (h2 : GG T n H) : G ≤ H := by
  rcases h.2 with e | ⟨x, y, a, b, c, d, e, f⟩
  · omega
  · rw [← f]; exact h2.1 x y a b c d e
theorem GG_one {T : Nat → Bool} {n G H : Nat} (h : GG T n G) (h2 : GG T n H) : G = H := Nat.le_antisymm (GG_le h h2) (GG_le h2 h)
theorem lst_s (T : Nat → Bool) : ∀ n, (lst T n = 0 ∧ ∀ x, x < n → T x = false) ∨ (∃ v, lst T n = v + 1 ∧ v < n ∧ T v = true ∧ ∀ z, v < z → z < n → T z = false)
  | 0 => Or.inl ⟨rfl, fun x h => by omega⟩
  | n + 1 => by
    rw [lst]
    cases e : T n
    · rw [if_neg (by decide)]
      rcases lst_s T n with ⟨a, b⟩ | ⟨v, a, b, c, d⟩
      · refine Or.inl ⟨a, fun x hx => ?_⟩
        by_cases q : x = n
        · rw [q]; exact e
        · exact b x (by omega)
      · refine Or.inr ⟨v, a, by omega, c, fun z h1 h2 => ?_⟩
        by_cases q : z = n
        · rw [q]; exact e
        · exact d z h1 (by omega)
    · rw [if_pos (by rfl)]
      exact Or.inr ⟨n, rfl, by omega, e, fun z h1 h2 => by omega⟩
theorem gm_G (T : Nat → Bool) : ∀ n, GG T n (gm T n)
  | 0 => ⟨fun x y h1 h2 => by omega, Or.inl rfl⟩
  | n + 1 => by
    obtain ⟨i1, i2⟩ := gm_G T n
    have up : ∀ G, (∃ x y, x < y ∧ y < n ∧ T x = true ∧ T y = true ∧ (∀ z, x < z → z < y → T z = false) ∧ y - x = G) → ∃ x y, x < y ∧ y < n + 1 ∧ T x = true ∧ T y = true ∧ (∀ z, x < z → z < y → T z = false) ∧ y - x = G := fun G ⟨x, y, a, b, c⟩ => ⟨x, y, a, by omega, c⟩
    rw [gm]
    cases e : T n
    · rw [Bool.false_and, if_neg (by decide)]
      refine ⟨fun x y h1 h2 h3 h4 h5 => ?_, i2.imp id (up _)⟩
      by_cases q : y = n
      · rw [q, e] at h4; cases h4
      · exact i1 x y h1 (by omega) h3 h4 h5
    · rcases lst_s T n with ⟨a, b⟩ | ⟨v, a, b, c, d⟩
      · rw [a, if_neg (by decide)]
        refine ⟨fun x y h1 h2 h3 h4 h5 => ?_, i2.imp id (up _)⟩
        by_cases q : y = n
        · rw [b x (by omega)] at h3; cases h3
        · exact i1 x y h1 (by omega) h3 h4 h5
      · rw [a, if_pos (by simp), show n + 1 - (v + 1) = n - v by omega]
        refine ⟨fun x y h1 h2 h3 h4 h5 => ?_, ?_⟩
        · by_cases q : y = n
          · subst q
            have : x = v := by
              rcases Nat.lt_trichotomy x v with q | q | q
              · rw [h5 v q b] at c; cases c
              · exact q
              · rw [d x q h1] at h3; cases h3
            omega
          · have := i1 x y h1 (by omega) h3 h4 h5
            omega
        · by_cases q : gm T n ≤ n - v
          · rw [Nat.max_eq_right q]
            exact Or.inr ⟨v, n, b, by omega, c, e, d, rfl⟩
          · rw [Nat.max_eq_left (by omega)]
            exact i2.imp id (up _)
/-- the same of a sorted list -/
def srt (a : Nat → Nat) (c : Nat) : Prop := ∀ i j, i < j → j < c → a i ≤ a j
def ga (a : Nat → Nat) : Nat → Nat
  | 0 => 0
  | 1 => 0
  | i + 2 => max (ga a (i + 1)) (a (i + 1) - a i)
theorem srt_le {a : Nat → Nat} {c i j : Nat} (h : srt a c) (hij : i ≤ j) (hj : j < c) : a i ≤ a j := by
  by_cases q : i = j
  · rw [q]; exact Nat.le_refl _
  · exact h i j (by omega) hj
theorem ga_up (a : Nat → Nat) : ∀ c i, i + 1 < c → a (i + 1) - a i ≤ ga a c
  | 0, i, h => by omega
  | 1, i, h => by omega
  | c + 2, i, h => by
    rw [ga]
    by_cases q : i = c
    · rw [q]; exact Nat.le_max_right _ _
    · exact Nat.le_trans (ga_up a (c + 1) i (by omega)) (Nat.le_max_left _ _)
theorem ga_ex (a : Nat → Nat) : ∀ c, ga a c = 0 ∨ ∃ i, i + 1 < c ∧ a (i + 1) - a i = ga a c
  | 0 => Or.inl rfl
  | 1 => Or.inl rfl
  | c + 2 => by
    rw [ga]
    by_cases q : ga a (c + 1) ≤ a (c + 1) - a c
    · rw [Nat.max_eq_right q]; exact Or.inr ⟨c, by omega, rfl⟩
    · rw [Nat.max_eq_left (by omega)]
      rcases ga_ex a (c + 1) with e | ⟨i, h, e⟩
      · exact Or.inl e
      · exact Or.inr ⟨i, by omega, e⟩
theorem ga_G {T : Nat → Bool} {a : Nat → Nat} {c n : Nat} (hs : srt a c) (hn : ∀ i, i < c → a i < n) (hT : ∀ t, (∃ i, i < c ∧ a i = t) ↔ T t = true) : GG T n (ga a c) := by
  constructor
  · intro x y h1 h2 h3 h4 h5
    obtain ⟨i, hi, ei⟩ := (hT x).mpr h3
    obtain ⟨j, hj, ej, hm⟩ := fb_first (p := fun j => a j = y) ((hT y).mpr h4)
    have hij : i < j := by
      rcases Nat.lt_or_ge i j with q | q
      · exact q
      · have := srt_le hs q hi; omega
    have l1 := srt_le hs (show i ≤ j - 1 by omega) (show j - 1 < c by omega)
    have l2 := srt_le hs (show j - 1 ≤ j by omega) hj
    have l3 : a (j - 1) ≠ y := hm (j - 1) (by omega)
    have l4 : a (j - 1) = x := by
      rcases Nat.lt_or_ge x (a (j - 1)) with q | q
      · have t1 := h5 (a (j - 1)) q (by omega)
        rw [(hT _).mp ⟨j - 1, by omega, rfl⟩] at t1; cases t1
      · omega
    have := ga_up a c (j - 1) (by omega)
    rw [show j - 1 + 1 = j by omega, ej, l4] at this
    exact this
  · rcases ga_ex a c with e | ⟨i, hi, e⟩
    · exact Or.inl e
    · by_cases z : ga a c = 0
      · exact Or.inl z
      · refine Or.inr ⟨a i, a (i + 1), by omega, hn _ hi, (hT _).mp ⟨i, by omega, rfl⟩, (hT _).mp ⟨i + 1, hi, rfl⟩, fun t h1 h2 => ?_, e⟩
        cases q : T t
        · rfl
        · obtain ⟨k, hk, ek⟩ := (hT t).mpr q
          rcases Nat.lt_or_ge i k with w | w
          · have := srt_le hs (show i + 1 ≤ k by omega) hk; omega
          · have := srt_le hs w (show i < c by omega); omega
section
variable {σ : Mem} {S : St} {P : Int32 → Mem → Prop} {PV : Mem → Prop} {PJ : Int64 → Mem → Prop}
def sgd (S : St) (set s : Nat) : Bool := !hsh S set s
def sou (S : St) (set : Nat) : Nat := nb (sgd S set) (nS S)
def tnd (S : St) (set t : Nat) : Bool := ex (fun s => tn S s == t && sgd S set s) (nS S)
theorem tnd_iff {set t : Nat} : tnd S set t = true ↔ ∃ s, s < nS S ∧ tn S s = t ∧ sgd S set s = true := by
  unfold tnd
  rw [ex_iff]
  simp
theorem tnd_60 (hk : ok S) {set t : Nat} (h : tnd S set t = true) : t < 61 := by
  obtain ⟨s, _, e, _⟩ := tnd_iff.mp h
  have := hk.ztn s
  omega
theorem sou_e (hk : ok S) {set : Nat} : (2 ^ nS S - 1) &&& not64 (hus S set) = sou S set := by
  have h36 := hk.znS
  have h2 : 2 ^ nS S ≤ 2 ^ 36 := Nat.pow_le_pow_right (by decide) h36
  apply nb_of
  · exact Nat.lt_of_le_of_lt Nat.and_le_left (by have := Nat.two_pow_pos (nS S); omega)
  · intro i hi
    rw [Nat.testBit_and, Nat.testBit_two_pow_sub_one, not64_tb (hus_lt _ _), hus_tb _ _ (by omega)]
    unfold sgd
    simp [hi, show i < 64 by omega]
theorem q_tonesAmong (hA : A σ S) (hk : ok S) {set : Nat} : v_X10_tonesAmong (lN (sou S set)) σ PJ = PJ (lN (nb (tnd S set) 61)) σ := by
  have h36 := hk.znS
  unfold v_X10_tonesAmong
  refine lp_c (fun m t => v_X10_tonesAmong_L5 (lN (sou S set)) PJ m (lN (nb (tnd S set) t)) (nI t) σ) _ 61 (fun m => ?_) (fun m t ht => ?_) 5000 0 (by omega) (by omega)
  · (try dsimp only)
    rw [v_X10_tonesAmong_L5, w_t (by decide)]
  · (try dsimp only)
    have l1 : ofT S t &&& sou S set < 2 ^ 64 := Nat.lt_of_le_of_lt Nat.and_le_left (ofT_lt hk _)
    have e2 : (ofT S t &&& sou S set = 0) = (tnd S set t = false) := by
      unfold ofT
      rw [nb_and0]
      unfold tnd sou
      apply propext
      rw [ex_no]
      constructor
      · intro a s hs
        by_cases z : tn S s = t
        · have a2 := a s hs (by simpa using z)
          rw [nb_tb] at a2
          simp only [hs, decide_true, Bool.true_and] at a2
          rw [a2, Bool.and_false]
        · rw [beq_false_of_ne z]; rfl
      · intro a s hs z
        have a2 := a s hs
        rw [z, Bool.true_and] at a2
        rw [nb_tb, a2, Bool.and_false]
    rw [v_X10_tonesAmong_L5, w_f (show ¬ (61 : Int32) ≤ nI t from nI_ge (b := 61) ht (by omega)), w_in (vi ht (by omega)), nI_clamp (by omega), hA.zofT ht, fb_andL, w_ite, nI_1, l_sh1 (by omega), fb_orL, nb]
    simp only [l_eq0 l1, e2]
    cases tnd S set t
    · rw [if_pos (by rfl), if_neg (by decide), Nat.or_zero]
    · rw [if_neg (by decide), if_pos (by rfl)]
theorem q_greatest {T : Nat → Bool} : v_X11_greatestStep (lN (nb T 61)) σ P = P (nI (gm T 61)) σ := by
  have h61 : nb T 61 < 2 ^ 64 := nb_lt' _ (by omega)
  have gb : ∀ t, gm T t ≤ t := fun t => by
    induction t with
    | zero => exact Nat.le_refl _
    | succ t ih =>
      rw [gm]
      split
      · omega
      · omega
  unfold v_X11_greatestStep
  refine lp_c (fun m t => v_X11_greatestStep_L8 (lN (nb T 61)) P m (nI (gm T t)) (if lst T t = 0 then -9 else nI (lst T t - 1)) (nI t) σ) _ 61 (fun m => ?_) (fun m t ht => ?_) 5000 0 (by omega) (by omega)
  · (try dsimp only)
    rw [v_X11_greatestStep_L8, w_t (by decide)]
  · (try dsimp only)
    have g1 := gb t
    rw [v_X11_greatestStep_L8, w_f (show ¬ (61 : Int32) ≤ nI t from nI_ge (b := 61) ht (by omega)), q_hasBit h61 (by omega), w_bI, nb_tb, nI_1, gm, lst]
    simp only [ht, decide_true, Bool.true_and]
    cases e : T t
    · simp only [Bool.false_and, Bool.false_eq_true, if_false]
    · simp only [Bool.true_and, if_true]
      rw [if_neg (show ¬ t + 1 = 0 by omega), Nat.add_sub_cancel]
      rcases lst_s T t with ⟨a, b⟩ | ⟨v, a, b, c, d⟩
      · rw [a, if_pos (by rfl), w_t rfl]; rfl
      · rw [a, if_neg (by omega), Nat.add_sub_cancel, w_f (by rw [i_eqm (by omega) (by decide)]; exact id), pk_sub (by omega), q_maxN (by omega) (by omega), if_pos (by simp), show t + 1 - (v + 1) = t - v by omega]
-- the reference's list
theorem k_insert {σ0 : Mem} (hB : B σ0 S) (hk : ok S) {x1 x2 : Int32} {kb : Int32 → Int32 → Mem → Prop} {K119 : Int32 → Mem → Prop} {s c : Nat} {a : Nat → Nat} (h0 : bS σ0 σ) (hs : s < nS S) (hc : c ≤ s) (h : ∀ i, i < c → σ.1 43 i = nI (a i)) (ha : ∀ i, i < c → a i < 61) (hsrt : srt a c) (K : ∀ σ' a', bS σ0 σ' → (∀ i, i < c + 1 → σ'.1 43 i = nI (a' i)) → (∀ i, i < c + 1 → a' i < 61) → srt a' (c + 1) → (∀ t, (∃ i, i < c + 1 ∧ a' i = t) ↔ (t = tn S s ∨ ∃ i, i < c ∧ a i = t)) → kb (nI (c + 1)) (nI (s + 1)) σ') : v_X12_strum_L50 x1 x2 (nI c) (nI s) (fun x5 σ' => v_X12_strum_J96 kb K119 P x1 x2 (nI c) (nI s) x5 σ') P 5000 (nI c) σ := by
  have h36 := hk.znS
  have h60 := hk.ztn s
  have ends : ∀ k m, bS σ0 m → k ≤ c → (∀ i, i < k → m.1 43 i = nI (a i)) → (∀ i, k < i → i ≤ c → m.1 43 i = nI (a (i - 1))) → (∀ i, k ≤ i → i < c → tn S s < a i) → (∀ i, i < k → a i ≤ tn S s) → v_X12_strum_J96 kb K119 P x1 x2 (nI c) (nI s) (nI k) m := fun k m b1 hkc f1 f2 f3 f4 => by
    unfold v_X12_strum_J96
    rw [w_in (vi (show s < 36 by omega) (by omega)), w_in (vi (show k < 36 by omega) (by omega)), nI_clamp (show s < 2 ^ 31 by omega), nI_clamp (show k < 2 ^ 31 by omega), (hB.bS b1).ztn (by omega), nI_1, nI_1]
    refine K _ (fun i => if i < k then a i else if i = k then tn S s else a (i - 1)) (b1.I (by omega)) (fun i hi => ?_) (fun i hi => ?_) (fun i j hij hj => ?_) (fun t => ?_)
    · (try dsimp only)
      rw [m_I1]
      rcases Nat.lt_trichotomy i k with q | q | q
      · rw [if_neg (by omega), if_pos q, f1 i q]
      · rw [if_pos ⟨rfl, q⟩, if_neg (by omega), if_pos q]
      · rw [if_neg (by omega), if_neg (by omega), if_neg (by omega), f2 i q (by omega)]
    · (try dsimp only)
      rcases Nat.lt_trichotomy i k with q | q | q
      · rw [if_pos q]; exact ha i (by omega)
      · rw [if_neg (by omega), if_pos q]; omega
      · rw [if_neg (by omega), if_neg (by omega)]; exact ha _ (by omega)
    · (try dsimp only)
      rcases Nat.lt_trichotomy i k with q | q | q
      · rw [if_pos q]
        have l1 := f4 i q
        rcases Nat.lt_trichotomy j k with w | w | w
        · rw [if_pos w]; exact hsrt i j hij (by omega)
        · rw [if_neg (by omega), if_pos w]; exact l1
        · rw [if_neg (by omega), if_neg (by omega)]
          have := f3 (j - 1) (by omega) (by omega)
          omega
      · rw [if_neg (by omega), if_pos q, if_neg (by omega), if_neg (by omega)]
        have := f3 (j - 1) (by omega) (by omega)
        omega
      · rw [if_neg (by omega), if_neg (by omega), if_neg (by omega), if_neg (by omega)]
        exact hsrt _ _ (by omega) (by omega)
    · constructor
      · rintro ⟨i, hi, e⟩
        (try dsimp only at e)
        rcases Nat.lt_trichotomy i k with q | q | q
        · rw [if_pos q] at e; exact Or.inr ⟨i, by omega, e⟩
        · rw [if_neg (by omega), if_pos q] at e; exact Or.inl e.symm
        · rw [if_neg (by omega), if_neg (by omega)] at e; exact Or.inr ⟨i - 1, by omega, e⟩
      · rintro (e | ⟨i, hi, e⟩)
        · refine ⟨k, by omega, ?_⟩
          (try dsimp only)
          rw [if_neg (by omega), if_pos (by rfl), e]
        · by_cases q : i < k
          · refine ⟨i, by omega, ?_⟩
            (try dsimp only)
            rw [if_pos q, e]
          · refine ⟨i + 1, by omega, ?_⟩
            (try dsimp only)
            rw [if_neg (by omega), if_neg (by omega), Nat.add_sub_cancel, e]
  refine lp_d (fun n k m => v_X12_strum_L50 x1 x2 (nI c) (nI s) (fun x5 σ' => v_X12_strum_J96 kb K119 P x1 x2 (nI c) (nI s) x5 σ') P n (nI k) m) (fun k m => bS σ0 m ∧ k ≤ c ∧ (∀ i, i < k → m.1 43 i = nI (a i)) ∧ (∀ i, k < i → i ≤ c → m.1 43 i = nI (a (i - 1))) ∧ (∀ i, k ≤ i → i < c → tn S s < a i)) (fun n m hI => ?_) (fun n k m hI ih => ?_) 5000 c σ (by omega) ⟨h0, Nat.le_refl _, h, fun i h1 h2 => by omega, fun i h1 h2 => by omega⟩
  · obtain ⟨b1, hkc, f1, f2, f3⟩ := hI
    (try dsimp only)
    rw [v_X12_strum_L50, w_t (by decide)]
    exact ends 0 m b1 hkc f1 f2 f3 (fun i hi => by omega)
  · obtain ⟨b1, hkc, f1, f2, f3⟩ := hI
    have hak := ha k (by omega)
    (try dsimp only)
    rw [v_X12_strum_L50, w_f (show ¬ nI (k + 1) ≤ 0 from nI_nle (by omega) (by omega)), pk_m1, nI_pred, w_in (vi (show k < 36 by omega) (by omega)), w_in (vi (show s < 36 by omega) (by omega)), nI_clamp (show k < 2 ^ 31 by omega), nI_clamp (show s < 2 ^ 31 by omega), f1 k (by omega), (hB.bS b1).ztn (by omega)]
    by_cases q : a k ≤ tn S s
    · rw [w_t (nI_le q (by omega))]
      exact ends (k + 1) m b1 hkc f1 f2 f3 (fun i hi => Nat.le_trans (srt_le hsrt (show i ≤ k by omega) (by omega)) q)
    · rw [w_f (nI_ge (by omega) (by omega)), w_in (vi (show k < 36 by omega) (by omega)), w_in (vi (show k + 1 < 36 by omega) (by omega)), nI_clamp (show k + 1 < 2 ^ 31 by omega)]
      refine ih _ ⟨b1.I (by omega), by omega, fun i hi => ?_, fun i h1 h2 => ?_, fun i h1 h2 => ?_⟩
      · rw [m_I1, if_neg (by omega)]; exact f1 i (by omega)
      · rw [m_I1]
        by_cases z : i = k + 1
        · rw [if_pos ⟨rfl, z⟩, z, Nat.add_sub_cancel]
        · rw [if_neg (fun y => z y.2)]; exact f2 i (by omega) h2
      · by_cases z : i = k
        · rw [z]; omega
        · exact f3 i (by omega) h2
theorem k_list (hB : B σ S) (hk : ok S) {x2 : Int32} {set : Nat} (hset : set < 2 ^ 31) {K119 : Int32 → Mem → Prop} (K : ∀ σ' a, bS σ σ' → (∀ i, i < fb_ct (sgd S set) (nS S) → σ'.1 43 i = nI (a i)) → (∀ i, i < fb_ct (sgd S set) (nS S) → a i < 61) → srt a (fb_ct (sgd S set) (nS S)) → (∀ t, (∃ i, i < fb_ct (sgd S set) (nS S) ∧ a i = t) ↔ tnd S set t = true) → K119 (nI (fb_ct (sgd S set) (nS S))) σ') : v_X12_strum_L25 (nI set) x2 K119 P 5000 0 0 σ := by
  have h36 := hk.znS
  refine lp_i (fun m s mem => v_X12_strum_L25 (nI set) x2 K119 P m (nI (fb_ct (sgd S set) s)) (nI s) mem) (fun s mem => bS σ mem ∧ ∃ a : Nat → Nat, (∀ i, i < fb_ct (sgd S set) s → mem.1 43 i = nI (a i)) ∧ (∀ i, i < fb_ct (sgd S set) s → a i < 61) ∧ srt a (fb_ct (sgd S set) s) ∧ (∀ t, (∃ i, i < fb_ct (sgd S set) s ∧ a i = t) ↔ ∃ u, u < s ∧ tn S u = t ∧ sgd S set u = true)) (nS S) (fun m mem hI => ?_) (fun m s mem hs hI ih => ?_) 5000 0 _ (by omega) (by omega) ⟨bS.rf, fun _ => 0, fun i hi => by simp [fb_ct] at hi, fun i hi => by simp [fb_ct] at hi, fun i j h1 h2 => by simp [fb_ct] at h2, fun t => ⟨fun ⟨i, hi, _⟩ => by simp [fb_ct] at hi, fun ⟨u, hu, _⟩ => by omega⟩⟩
  · obtain ⟨b1, a, f1, f2, f3, f4⟩ := hI
    (try dsimp only)
    rw [v_X12_strum_L25, (hB.bS b1).znS, w_t (nI_le (Nat.le_refl _) (by omega))]
    exact K mem a b1 f1 f2 f3 (fun t => by rw [f4 t, tnd_iff])
  · obtain ⟨b1, a, f1, f2, f3, f4⟩ := hI
    have hct := fb_ct_le (sgd S set) s
    (try dsimp only)
    rw [v_X12_strum_L25, (hB.bS b1).znS, w_f (nI_ge hs (by omega)), q_doesSound (hB.bS b1) hk (by omega) hset, w_bI]
    cases e : hsh S set s
    · have e1 : sgd S set s = true := by unfold sgd; rw [e]; rfl
      have es : fb_ct (sgd S set) (s + 1) = fb_ct (sgd S set) s + 1 := by rw [fb_ct_succ, e1]; rfl
      rw [if_pos (by rfl)]
      refine k_insert hB hk b1 hs hct f1 f2 f3 (fun mem2 a2 b2 g1 g2 g3 g4 => ?_)
      have k1 := ih mem2 ⟨b2, a2, by rw [es]; exact g1, by rw [es]; exact g2, by rw [es]; exact g3, fun t => by
        rw [es, g4 t, f4 t]
        constructor
        · rintro (z | ⟨u, h1, h2, h3⟩)
          · exact ⟨s, by omega, z.symm, e1⟩
          · exact ⟨u, by omega, h2, h3⟩
        · rintro ⟨u, h1, h2, h3⟩
          by_cases z : u = s
          · exact Or.inl (by rw [← h2, z])
          · exact Or.inr ⟨u, by omega, h2, h3⟩⟩
      (try dsimp only at k1)
      rw [es] at k1
      exact k1
    · have e1 : sgd S set s = false := by unfold sgd; rw [e]; rfl
      have es : fb_ct (sgd S set) (s + 1) = fb_ct (sgd S set) s := by rw [fb_ct_succ, e1]; rfl
      rw [if_neg (by decide), nI_1]
      have k1 := ih mem ⟨b1, a, by rw [es]; exact f1, by rw [es]; exact f2, by rw [es]; exact f3, fun t => by
        rw [es, f4 t]
        constructor
        · rintro ⟨u, h1, h2, h3⟩; exact ⟨u, by omega, h2, h3⟩
        · rintro ⟨u, h1, h2, h3⟩
          by_cases z : u = s
          · rw [z, e1] at h3; cases h3
          · exact ⟨u, by omega, h2, h3⟩⟩
      (try dsimp only at k1)
      rw [es] at k1
      exact k1
theorem q_gaps {x2 : Int32} {K172 : Int32 → Mem → Prop} {a : Nat → Nat} {c : Nat} (hc : c ≤ 36) (h : ∀ i, i < c → σ.1 43 i = nI (a i)) (ha : ∀ i, i < c → a i < 61) (hs : srt a c) : v_X12_strum_L125 x2 (nI c) K172 P 5000 0 1 σ = K172 (nI (ga a c)) σ := by
  have gb : ∀ k, k ≤ c → ga a k ≤ 61 := fun k hk => by
    rcases ga_ex a k with e | ⟨i, h1, e⟩
    · omega
    · have := ha (i + 1) (by omega); omega
  by_cases q : c = 0
  · subst q
    rw [show (5000 : Nat) = 4999 + 1 from rfl, v_X12_strum_L125, w_t (by decide)]; rfl
  · have := lp_c (fun m k => v_X12_strum_L125 x2 (nI c) K172 P m (nI (ga a (k + 1))) (nI (k + 1)) σ) (K172 (nI (ga a c)) σ) (c - 1) (fun m => ?_) (fun m k hk => ?_) 5000 0 (by omega) (by omega)
    · exact this
    · (try dsimp only)
      rw [v_X12_strum_L125, show c - 1 + 1 = c by omega, w_t (nI_le (Nat.le_refl _) (by omega))]
    · have l1 := srt_le hs (show k ≤ k + 1 by omega) (by omega)
      have l2 := ha (k + 1) (by omega)
      have l3 := gb (k + 1) (by omega)
      (try dsimp only)
      rw [v_X12_strum_L125, w_f (nI_ge (show k + 1 < c by omega) (by omega)), nI_pred, w_in (vi (show k + 1 < 36 by omega) (by omega)), w_in (vi (show k < 36 by omega) (by omega)), nI_clamp (show k + 1 < 2 ^ 31 by omega), nI_clamp (show k < 2 ^ 31 by omega), h (k + 1) (by omega), h k (by omega), pk_sub l1, nI_1]
      simp only [forall_eq]
      rw [ga]
      by_cases z : a (k + 1) - a k ≤ ga a (k + 1)
      · rw [w_t (nI_le z (by omega)), Nat.max_eq_left z]
      · rw [w_f (nI_ge (by omega) (by omega)), Nat.max_eq_right (by omega)]
theorem t_strum (h : RR σ) (a1 a2 : Int32) : v_X11_strum a1 a2 σ (fun r σ => v_X12_strum a1 a2 σ (fun r2 σ => r = r2 ∧ RR σ)) := by
  obtain ⟨S, hA, hB, hk⟩ := h
  have h12 := p12 hk
  have h36 := hk.znS
  have fin : RR σ := ⟨S, hA, hB, hk⟩
  unfold v_X11_strum
  rcases rg a1 (2 ^ nB S) (by omega) with ⟨set, hset, rfl⟩ | ho
  · rw [q_isSetA_n hA hk hset, w_1, q_all hA hk, q_hushed hA hk (by omega), l_not (hus_lt S set), fb_andL, sou_e hk, q_tonesAmong hA hk]
    have hct := fb_ct_le (sgd S set) (nS S)
    have t61 : nb (tnd S set) 61 < 2 ^ 61 := nb_lt _ _
    have tb : ∀ t, (nb (tnd S set) 61).testBit t = tnd S set t := fun t => by
      rw [nb_tb]
      by_cases q : t < 61
      · simp [q]
      · cases e : tnd S set t
        · simp
        · exact absurd (tnd_60 hk e) q
    rcases rg a2 4 (by omega) with ⟨w, hw, rfl⟩ | ho
    · -- the reference's answer
      have model : ∀ r : Int32, (∀ (σ' : Mem) (a : Nat → Nat), (∀ i, i < fb_ct (sgd S set) (nS S) → σ'.1 43 i = nI (a i)) → (∀ i, i < fb_ct (sgd S set) (nS S) → a i < 61) → srt a (fb_ct (sgd S set) (nS S)) → (∀ t, (∃ i, i < fb_ct (sgd S set) (nS S) ∧ a i = t) ↔ tnd S set t = true) → r = (if w = 0 then nI (fb_ct (sgd S set) (nS S)) else if w = 1 then (if fb_ct (sgd S set) (nS S) = 0 then -9 else nI (a 0)) else if w = 2 then (if fb_ct (sgd S set) (nS S) = 0 then -9 else nI (a (fb_ct (sgd S set) (nS S) - 1))) else nI (ga a (fb_ct (sgd S set) (nS S))))) → v_X12_strum (nI set) (nI w) σ (fun r2 σ => r = r2 ∧ RR σ) := fun r hr => by
        unfold v_X12_strum
        rw [q_isSetB_n hB hk hset, w_1, q_w3_n hw, w_1]
        refine k_list hB hk (by omega) (fun σ' a b1 f1 f2 f3 f4 => ?_)
        have e := hr σ' a f1 f2 f3 f4
        have f : RR σ' := RRf hA b1.c (hB.bS b1) hk
        (try dsimp only)
        rw [q_gaps (by omega) f1 f2 f3]
        generalize fb_ct (sgd S set) (nS S) = c at *
        rcases (show w = 0 ∨ w = 1 ∨ w = 2 ∨ w = 3 by omega) with q | q | q | q
        · subst q
          rw [w_t (by decide)]
          exact ⟨e, f⟩
        · subst q
          rw [w_f (by decide), w_t (by decide), w_ite]
          rw [if_neg (by decide), if_pos (by rfl)] at e
          by_cases z : c = 0
          · rw [if_pos (by rw [z]; rfl)]; rw [if_pos z] at e; exact ⟨e, f⟩
          · rw [if_neg (by rw [i_eq0 (by omega)]; exact z), w_in (show vp_in (0 : Int32) 36 from by have t := vi (show 0 < 36 by omega) (by omega); exact t)]; rw [if_neg z] at e
            refine ⟨?_, f⟩
            rw [e, show Int32.toNatClampNeg 0 = 0 from rfl, f1 0 (by omega)]
        · subst q
          rw [w_f (by decide), w_f (by decide), w_t (by decide), w_ite]
          rw [if_neg (by decide), if_neg (by decide), if_pos (by rfl)] at e
          by_cases z : c = 0
          · rw [if_pos (by rw [z]; rfl)]; rw [if_pos z] at e; exact ⟨e, f⟩
          · obtain ⟨d, rfl⟩ : ∃ d, c = d + 1 := ⟨c - 1, by omega⟩
            rw [if_neg (by rw [i_eq0 (by omega)]; exact z), nI_pred, w_in (vi (show d < 36 by omega) (by omega)), nI_clamp (show d < 2 ^ 31 by omega)]; rw [if_neg z] at e
            refine ⟨?_, f⟩
            rw [e, f1 d (by omega)]; rfl
        · subst q
          rw [w_f (by decide), w_f (by decide), w_f (by decide)]
          exact ⟨e, f⟩
      have c0 : ∀ a : Nat → Nat, (∀ t, (∃ i, i < fb_ct (sgd S set) (nS S) ∧ a i = t) ↔ tnd S set t = true) → (fb_ct (sgd S set) (nS S) = 0 ↔ nb (tnd S set) 61 = 0) := fun a f4 => by
        constructor
        · intro z
          apply nb_f
          intro i _
          cases e : tnd S set i
          · rfl
          · obtain ⟨j, hj, _⟩ := (f4 i).mpr e
            omega
        · intro z
          by_cases y : fb_ct (sgd S set) (nS S) = 0
          · exact y
          · have := (f4 (a 0)).mp ⟨0, by omega, rfl⟩
            rw [← tb, z] at this
            simp at this
      rcases (show w = 0 ∨ w = 1 ∨ w = 2 ∨ w = 3 by omega) with q | q | q | q
      · subst q
        have l40 : sou S set < 2 ^ 40 := nb_lt' _ (by omega)
        rw [w_t (by decide), q_bcL l40]
        refine model _ (fun σ' a _ _ _ _ => ?_)
        rw [if_pos (by rfl)]
        unfold sou
        rw [pc_more (nb_lt _ _) (by omega), pc_nb]
      · subst q
        rw [w_f (by decide), w_t (by decide), w_ite]
        by_cases z : nb (tnd S set) 61 = 0
        · rw [if_pos (by rw [z]; rfl)]
          refine model _ (fun σ' a _ _ _ f4 => ?_)
          rw [if_neg (by decide), if_pos (by rfl), if_pos ((c0 a f4).mpr z)]
        · obtain ⟨t, ht, hlo⟩ := Lo_ex z t61
          rw [if_neg (by rw [l_eq0 (by omega)]; exact z), q_ntzL (by omega) hlo]
          refine model _ (fun σ' a _ f2 f3 f4 => ?_)
          have cn : ¬ fb_ct (sgd S set) (nS S) = 0 := fun y => z ((c0 a f4).mp y)
          rw [if_neg (by decide), if_pos (by rfl), if_neg cn]
          have h1 : tnd S set t = true := by rw [← tb]; exact hlo.1
          obtain ⟨i, hi, ei⟩ := (f4 t).mpr h1
          have h2 := srt_le f3 (show 0 ≤ i by omega) hi
          have h3 := (f4 (a 0)).mp ⟨0, by omega, rfl⟩
          rcases Nat.lt_or_ge (a 0) t with y | y
          · have := hlo.2 _ y
            rw [tb, h3] at this; cases this
          · rw [show a 0 = t by omega]
      · subst q
        rw [w_f (by decide), w_f (by decide), w_t (by decide), w_ite]
        by_cases z : nb (tnd S set) 61 = 0
        · rw [if_pos (by rw [z]; rfl)]
          refine model _ (fun σ' a _ _ _ f4 => ?_)
          rw [if_neg (by decide), if_neg (by decide), if_pos (by rfl), if_pos ((c0 a f4).mpr z)]
        · obtain ⟨t, ht, hhi⟩ := Hi_ex z t61
          rw [if_neg (by rw [l_eq0 (by omega)]; exact z), q_nlzL (by omega) hhi, show (63 : Int32) = nI 63 from rfl, pk_sub (by omega), show 63 - (63 - t) = t by omega]
          refine model _ (fun σ' a _ f2 f3 f4 => ?_)
          have cn : ¬ fb_ct (sgd S set) (nS S) = 0 := fun y => z ((c0 a f4).mp y)
          rw [if_neg (by decide), if_neg (by decide), if_pos (by rfl), if_neg cn]
          have hb := Hi_tb hhi
          have h1 : tnd S set t = true := by rw [← tb]; exact hb.1
          obtain ⟨i, hi, ei⟩ := (f4 t).mpr h1
          have h2 := srt_le f3 (show i ≤ fb_ct (sgd S set) (nS S) - 1 by omega) (by omega)
          have h3 := (f4 _).mp ⟨fb_ct (sgd S set) (nS S) - 1, by omega, rfl⟩
          rcases Nat.lt_or_ge t (a (fb_ct (sgd S set) (nS S) - 1)) with y | y
          · have := hb.2 _ y
            rw [tb, h3] at this; cases this
          · rw [show a (fb_ct (sgd S set) (nS S) - 1) = t by omega]
      · subst q
        rw [w_f (by decide), w_f (by decide), w_f (by decide), w_t (by decide), q_greatest]
        refine model _ (fun σ' a _ f2 f3 f4 => ?_)
        rw [if_neg (by decide), if_neg (by decide), if_neg (by decide)]
        rw [GG_one (gm_G (tnd S set) 61) (ga_G f3 f2 f4)]
    · have o : ∀ j, j < 4 → ¬ a2 = nI j := fun j hj => oo_no ho (by omega) hj
      rw [w_f (show ¬ a2 = 0 from o 0 (by omega)), w_f (show ¬ a2 = 1 from o 1 (by omega)), w_f (show ¬ a2 = 2 from o 2 (by omega)), w_f (show ¬ a2 = 3 from o 3 (by omega))]
      (try dsimp only)
      unfold v_X12_strum
      rw [q_isSetB_n hB hk hset, w_1, q_w3_o ho, w_0]
      exact ⟨rfl, fin⟩
  · rw [q_isSetA_o hA hk ho, w_0]
    (try dsimp only)
    unfold v_X12_strum
    rw [q_isSetB_o hB hk ho, w_0]
    exact ⟨rfl, fin⟩
end
