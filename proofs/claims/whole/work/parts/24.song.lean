-- ===== songs and rows heard, taken from a sheet =====
section
variable {σ : Mem} {S : St} {P : Int32 → Mem → Prop} {PV : Mem → Prop} {PJ : Int64 → Mem → Prop}
theorem i_n1 (x : Int32) : x + 1 = x + nI 1 := rfl
theorem i_2m (m : Nat) : (2 : Int64) * lN m = lN (2 * m) := by rw [← lN_mul]; rfl
/-- are there n cells from i on, both sides alike: m as a long -/
theorem q_hasCells_n (h : A σ S) (hk : ok S) {k i m : Nat} (hk4 : k < 4) (hl : la S k < 3) (hi : i + m ≤ sl S k) : v_X8_hasCells (bT + k) (nI i) (lN m) σ P = P 1 σ := by
  have := hk.zsl k
  unfold v_X8_hasCells
  rw [h.zsl hk4, if_pos hl, w_f (nI_pos (by omega)), w_f (nI_nlt (by omega) (by omega)), pk_sub (by omega), nI_l (by omega), w_f]
  rw [lN_lt (by omega) (by omega)]
  omega
theorem q_hasCells_o (h : A σ S) (hk : ok S) {k i m : Nat} (hk4 : k < 4) (hl : la S k < 3) (hi : i < 2 ^ 31) (hm : m < 2 ^ 62) (ho : ¬ i + m ≤ sl S k) : v_X8_hasCells (bT + k) (nI i) (lN m) σ P = P 0 σ := by
  have := hk.zsl k
  unfold v_X8_hasCells
  rw [h.zsl hk4, if_pos hl, w_f (nI_pos (by omega))]
  by_cases q : sl S k < i
  · rw [w_t (nI_lt q (by omega))]
  · rw [w_f (nI_nlt (by omega) (by omega)), pk_sub (by omega), nI_l (by omega), w_t]
    rw [pk_lLT (by omega) (by omega)]
    omega
theorem q_hasCells_neg {o : Nat} {a : Int32} {x : Int64} (h : a < 0) : v_X8_hasCells o a x σ P = P 0 σ := by
  unfold v_X8_hasCells
  rw [w_t h]
/-- a step's two cells are a chord and a note -/
def gdc (x : Int32) : Bool := decide (0 ≤ x.toInt ∧ x.toInt < 96)
def gdn (x : Int32) : Bool := decide (-1 ≤ x.toInt ∧ x.toInt ≤ 60)
theorem gdc_n {x : Int32} (h : gdc x = true) : x.toNatClampNeg < 96 ∧ x = nI x.toNatClampNeg := by
  have h2 : 0 ≤ x.toInt ∧ x.toInt < 96 := by simpa [gdc] using h
  have e : x.toNatClampNeg = x.toInt.toNat := rfl
  refine ⟨by omega, Int32.toInt_inj.mp ?_⟩
  rw [nI_toInt (by omega)]
  omega
theorem gdc_o {x : Int32} (h : gdc x = false) : oo x 96 := by
  have h2 : ¬ (0 ≤ x.toInt ∧ x.toInt < 96) := by simpa [gdc] using h
  by_cases q : x.toInt < 0
  · left; rw [fa_lt]; exact q
  · right; rw [fa_le, nI_toInt (by omega)]; omega
theorem gdn_n {x : Int32} (h : gdn x = true) : (x + 1).toNatClampNeg < 62 ∧ x = tI (x + 1).toNatClampNeg := by
  have h2 : -1 ≤ x.toInt ∧ x.toInt ≤ 60 := by simpa [gdn] using h
  have e1 : (x + 1).toInt = x.toInt + 1 := by
    rw [fb_addI]
    · rfl
    · show _ ≤ x.toInt + 1; omega
    · show x.toInt + 1 < _; omega
  have e : (x + 1).toNatClampNeg = (x + 1).toInt.toNat := rfl
  refine ⟨by omega, Int32.toInt_inj.mp ?_⟩
  unfold tI
  rw [pk_sub_toInt (by omega) (by omega)]
  omega
theorem q_chordG {x : Int32} : v_X11_isChord x σ P = P (bI (gdc x)) σ := by
  cases h : gdc x
  · rw [q_isChord_o (gdc_o h)]; rfl
  · obtain ⟨h1, h2⟩ := gdc_n h
    rw [h2, q_isChord_n h1]; rfl
theorem q_chordGM {x : Int32} : v_X12_isChord x σ P = P (bI (gdc x)) σ := by
  cases h : gdc x
  · rw [q_isChordM_o (gdc_o h)]; rfl
  · obtain ⟨h1, h2⟩ := gdc_n h
    rw [h2, q_isChordM_n h1]; rfl
/-- the class: none (-1), or a tone -/
theorem q_noteG {x : Int32} {X Y : Mem → Prop} : ((x = (-1) → Y σ) ∧ (¬ x = (-1) → v_X11_isTone x σ (fun (r : Int32) (s : Mem) => (r = 0 → X s) ∧ (¬ r = 0 → Y s)))) = (if gdn x = true then Y σ else X σ) := by
  have e1 : (-1 : Int32).toInt = -1 := by decide
  by_cases h : x = (-1)
  · rw [w_t h, h, if_pos (by decide)]
  · rw [w_f h]
    have hne : x.toInt ≠ -1 := fun q => h (Int32.toInt_inj.mp (q.trans e1.symm))
    rcases rg x 61 (by omega) with ⟨t, ht, rfl⟩ | ho
    · rw [q_isTone_n ht, w_1, if_pos]
      unfold gdn
      rw [nI_toInt (by omega)]
      simp; omega
    · rw [q_isTone_o ho, w_0, if_neg]
      unfold gdn
      rcases ho with ho | ho
      · rw [fa_lt, show (0 : Int32).toInt = 0 from by decide] at ho
        simp; omega
      · rw [fa_le, nI_toInt (by omega)] at ho
        simp; omega
theorem q_noteGM {x : Int32} : v_X12_within x (-1) 60 σ P = P (bI (gdn x)) σ := by
  unfold v_X12_within gdn
  rw [w_ite, w_ite]
  simp only [fa_lt, show (-1 : Int32).toInt = -1 from by decide, show (60 : Int32).toInt = 60 from by decide]
  by_cases h1 : x.toInt < -1
  · rw [if_pos h1, show decide (-1 ≤ x.toInt ∧ x.toInt ≤ 60) = false by simp; omega]; rfl
  · rw [if_neg h1]
    by_cases h2 : 60 < x.toInt
    · rw [if_pos h2, show decide (-1 ≤ x.toInt ∧ x.toInt ≤ 60) = false by simp; omega]; rfl
    · rw [if_neg h2, show decide (-1 ≤ x.toInt ∧ x.toInt ≤ 60) = true by simp; omega]; rfl
/-- a step of those that would be a song's isn't one -/
def bad (S : St) (k i j : Nat) : Bool := !(gdc (ce S k (i + 2 * j)) && gdn (ce S k (i + 2 * j + 1)))
theorem i_i2 (i j : Nat) : nI i + (2 : Int32) * nI j = nI (i + 2 * j) := by
  rw [← nI_add, ← pk_mul]; rfl
theorem q_hasSong (h : A σ S) {k i n : Nat} (hk4 : k < 4) (hn : i + 2 * n ≤ 64) : v_X11_hasSong (bT + k) (nI i) (nI n) σ P = P (bI (!ex (bad S k i) n)) σ := by
  unfold v_X11_hasSong
  have := lp_s (fun m j => v_X11_hasSong_L2 (bT + k) (nI i) (nI n) P m (nI j) σ) (P 1 σ) (fun _ => P 0 σ) (bad S k i) n (fun m => ?_) (fun m j hj hp => ?_) (fun m j hj hp => ?_) 5000 0 (by omega) (by omega) (by omega)
  · simp only [ex_first] at this
    rw [show (0 : Int32) = nI 0 from rfl, this]
    cases ex (bad S k i) n <;> rfl
  · (try dsimp only)
    rw [v_X11_hasSong_L2, w_t (nI_le (Nat.le_refl _) (by omega))]
  · (try dsimp only)
    rw [v_X11_hasSong_L2, w_f (nI_ge hj (by omega)), i_i2, nI_1, w_in (vi (by omega) (by omega)), w_in (vi (by omega) (by omega)), nI_clamp (by omega), nI_clamp (by omega), h.zce hk4 (by omega), h.zce hk4 (by omega), q_chordG, w_bI, q_noteG]
    unfold bad at hp
    cases h1 : gdc (ce S k (i + 2 * j))
    · rw [if_neg (by decide)]
    · cases h2 : gdn (ce S k (i + 2 * j + 1))
      · rw [if_pos rfl, if_neg (by decide)]
      · rw [h1, h2] at hp; cases hp
  · (try dsimp only)
    rw [v_X11_hasSong_L2, w_f (nI_ge hj (by omega)), i_i2, nI_1, w_in (vi (by omega) (by omega)), w_in (vi (by omega) (by omega)), nI_clamp (by omega), nI_clamp (by omega), h.zce hk4 (by omega), h.zce hk4 (by omega), q_chordG, w_bI, q_noteG, nI_1]
    unfold bad at hp
    cases h1 : gdc (ce S k (i + 2 * j))
    · rw [h1] at hp; cases hp
    · cases h2 : gdn (ce S k (i + 2 * j + 1))
      · rw [h1, h2] at hp; cases hp
      · rw [if_pos rfl, if_pos rfl]
theorem i_cell (k i j : Nat) : ((64 : Int32) * nI k + nI i) + (2 : Int32) * nI j = nI (64 * k + (i + 2 * j)) := by
  rw [i_64, i_i2]; congr 1; omega
theorem q_songL140 (h : B σ S) {k i n : Nat} (hk4 : k < 4) (hn : i + 2 * n ≤ 64) {K : Mem → Prop} : v_X12_song_L140 (nI k) (nI i) (nI n) K P 5000 0 σ = if ex (bad S k i) n = true then P (-2) σ else K σ := by
  have := lp_s (fun m j => v_X12_song_L140 (nI k) (nI i) (nI n) K P m (nI j) σ) (K σ) (fun _ => P (-2) σ) (bad S k i) n (fun m => ?_) (fun m j hj hp => ?_) (fun m j hj hp => ?_) 5000 0 (by omega) (by omega) (by omega)
  · simp only [ex_first] at this
    exact this
  · (try dsimp only)
    rw [v_X12_song_L140, w_t (nI_le (Nat.le_refl _) (by omega))]
  · (try dsimp only)
    have e : (64 * k + (i + 2 * j)) + 1 = 64 * k + (i + 2 * j + 1) := by omega
    rw [v_X12_song_L140, w_f (nI_ge hj (by omega)), i_cell, nI_1, e, w_in (vi (by omega) (by omega)), nI_clamp (by omega), h.zce hk4 (by omega), q_chordGM, w_bI]
    unfold bad at hp
    cases h1 : gdc (ce S k (i + 2 * j))
    · rw [if_neg (by decide)]
    · rw [if_pos rfl, w_in (vi (by omega) (by omega)), nI_clamp (by omega), h.zce hk4 (by omega), q_noteGM, w_bI]
      cases h2 : gdn (ce S k (i + 2 * j + 1))
      · rw [if_neg (by decide)]
      · rw [h1, h2] at hp; cases hp
  · (try dsimp only)
    have e : (64 * k + (i + 2 * j)) + 1 = 64 * k + (i + 2 * j + 1) := by omega
    rw [v_X12_song_L140, w_f (nI_ge hj (by omega)), i_cell, nI_1, e, w_in (vi (by omega) (by omega)), nI_clamp (by omega), h.zce hk4 (by omega), q_chordGM, w_bI]
    unfold bad at hp
    cases h1 : gdc (ce S k (i + 2 * j))
    · rw [h1] at hp; cases hp
    · rw [if_pos rfl, w_in (vi (by omega) (by omega)), nI_clamp (by omega), h.zce hk4 (by omega), q_noteGM, w_bI, nI_1]
      cases h2 : gdn (ce S k (i + 2 * j + 1))
      · rw [h1, h2] at hp; cases hp
      · rw [if_pos rfl]
-- the song comes
def cN (S : St) (k i j : Nat) : Nat := (ce S k (i + 2 * j)).toNatClampNeg
def cT (S : St) (k i j : Nat) : Nat := (ce S k (i + 2 * j + 1) + 1).toNatClampNeg
/-- m of the n steps are written -/
def stW (S : St) (k i m : Nat) : St := uR (uR S 10 (nG S) (fun j => if j < m then cN S k i j else gc S (nG S) j)) 11 (nG S) (fun j => if j < m then cT S k i j else gn S (nG S) j)
def stG (S : St) (k i n : Nat) : St := uN (uN (stW S k i n) 7 0 0 (nG S + 1)) 8 (nG S) 0 n
theorem stG_nG {k i n : Nat} : nG (stG S k i n) = nG S + 1 := by simp [nG, stG, stW, uN_1, uR_1]
theorem stG_gl {k i n g : Nat} : gl (stG S k i n) g = if g = nG S then n else gl S g := by simp [gl, stG, stW, uN_1, uR_1]
theorem stG_gk {k i n g : Nat} : gk (stG S k i n) g = gk S g := by simp [gk, stG, stW, uN_1, uR_1]
theorem stG_gc {k i n g j : Nat} : gc (stG S k i n) g j = if g = nG S then (if j < n then cN S k i j else gc S (nG S) j) else gc S g j := by simp [gc, stG, stW, uN_1, uR_1]
theorem stG_gn {k i n g j : Nat} : gn (stG S k i n) g j = if g = nG S then (if j < n then cT S k i j else gn S (nG S) j) else gn S g j := by simp [gn, stG, stW, uN_1, uR_1]
theorem stG_o {k i n : Nat} (a b c : Nat) (h : ¬ (7 ≤ a ∧ a ≤ 11)) : (stG S k i n).1 a b c = S.1 a b c := by
  unfold stG stW
  rw [uN_1, if_neg (by omega), uN_1, if_neg (by omega), uR_1, if_neg (by omega), uR_1, if_neg (by omega)]
theorem good_c {k i n j : Nat} (hb : ex (bad S k i) n = false) (hj : j < n) : cN S k i j < 96 ∧ ce S k (i + 2 * j) = nI (cN S k i j) ∧ cT S k i j < 62 ∧ ce S k (i + 2 * j + 1) = tI (cT S k i j) := by
  have h := ex_no.mp hb j hj
  unfold bad at h
  have h2 : gdc (ce S k (i + 2 * j)) = true ∧ gdn (ce S k (i + 2 * j + 1)) = true := by
    cases h1 : gdc (ce S k (i + 2 * j)) <;> cases h2 : gdn (ce S k (i + 2 * j + 1)) <;> simp [h1, h2] at h ⊢
  exact ⟨(gdc_n h2.1).1, (gdc_n h2.1).2, (gdn_n h2.2).1, (gdn_n h2.2).2⟩
theorem ok_stG (hk : ok S) {k i n : Nat} (hg : nG S < 8) (hn : n ≤ 24) (hn1 : 1 ≤ n) (hb : ex (bad S k i) n = false) : ok (stG S k i n) := by
  obtain ⟨hs, hb2, ⟨g1, g2, g3, g4, g5, g6, g7⟩, hr⟩ := hk
  refine ⟨hs, hb2, ⟨by rw [stG_nG]; omega, fun g => ?_, fun g hg2 => ?_, fun g => ?_, fun g j => ?_, fun g j => ?_, fun g hg2 => ?_⟩, hr⟩
  · rw [stG_gl]; split
    · exact hn
    · exact g2 g
  · rw [stG_nG] at hg2
    rw [stG_gl]; split
    · exact hn1
    · exact g3 g (by omega)
  · rw [stG_gk]; exact g4 g
  · rw [stG_gc]; split
    · split
      · next h => exact (good_c hb h).1
      · exact g5 _ j
    · exact g5 g j
  · rw [stG_gn]; split
    · split
      · next h => have := (good_c hb h).2.2.1; omega
      · exact g6 _ j
    · exact g6 g j
  · rw [stG_nG] at hg2
    rw [stG_gk]; exact g7 g (by omega)
theorem k_addG (hA : A σ S) (hk : ok S) {k i n : Nat} (hk4 : k < 4) (hg : nG S < 8) (hn : n ≤ 24) (hin : i + 2 * n ≤ 64) (hb : ex (bad S k i) n = false) (K : ∀ σ', A σ' (stG S k i n) → mS σ σ' → P (nI (nG S)) σ') : v_X1_add (bT + k) (nI i) (nI n) σ P := by
  have e1 : bG = 76 := rfl
  have e3 : bT = 100 := rfl
  unfold v_X1_add
  rw [hA.znG, w_in (vi hg (by omega)), nI_clamp (by omega), nI_1]
  refine lp_i (fun m j s => v_X1_add_L30 (bT + k) (nI i) (nI n) (nI (nG S)) P m (nI j) s) (fun j s => Fg σ s ∧ s.1 13 1 = nI (nG S + 1) ∧ (∀ g, g < 8 → s.1 (bG + g) 2 = nI (if g = nG S then n else gl S g) ∧ s.1 (bG + g) 3 = kI (gk S g) ∧ ∀ q, q < 24 → s.1 (bG + g + 8) q = nI (if g = nG S ∧ q < j then cN S k i q else gc S g q) ∧ s.1 (bG + g + 16) q = tI (if g = nG S ∧ q < j then cT S k i q else gn S g q))) n (fun m s hI => ?_) (fun m j s hj hI ih => ?_) 5000 0 _ (by omega) (by omega) ?_
  · obtain ⟨c0, c1, c2⟩ := hI
    (try dsimp only)
    rw [v_X1_add_L30, w_t (nI_le (Nat.le_refl _) (by omega))]
    refine K s (hA.g_upd hk.znB c0 stG_o rfl ⟨by rw [c1, stG_nG], fun g hg8 => ?_⟩) c0.m
    obtain ⟨d1, d2, d3⟩ := c2 g hg8
    refine ⟨by rw [d1, stG_gl], by rw [d2, stG_gk], fun q hq => ⟨?_, ?_⟩⟩
    · rw [(d3 q hq).1, stG_gc]
      congr 1
      by_cases z : g = nG S
      · subst z; simp
      · simp [z]
    · rw [(d3 q hq).2, stG_gn]
      congr 1
      by_cases z : g = nG S
      · subst z; simp
      · simp [z]
  · obtain ⟨c0, c1, c2⟩ := hI
    obtain ⟨g1, g2, g3, g4⟩ := good_c hb hj
    have hce : ∀ x, x < 64 → s.1 (bT + k + 4) x = ce S k x := fun x hx => by rw [(c0 _ _ (by omega)).1, hA.zce hk4 hx]
    (try dsimp only)
    rw [v_X1_add_L30, w_f (nI_ge hj (by omega)), i_i2, nI_1, nI_1, w_in (vi hg (by omega)), w_in (vi (by omega) (by omega)), w_in (vi (by omega) (by omega)), w_in (vi hg (by omega)), w_in (vi (by omega) (by omega)), w_in (vi (by omega) (by omega)), nI_clamp (show nG S < 2 ^ 31 by omega), nI_clamp (show j < 2 ^ 31 by omega), nI_clamp (show i + 2 * j < 2 ^ 31 by omega), nI_clamp (show i + 2 * j + 1 < 2 ^ 31 by omega)]
    have x1 : (wI s (bG + nG S + 8) j (s.1 (bT + k + 4) (i + 2 * j))).1 (bT + k + 4) (i + 2 * j + 1) = tI (cT S k i j) := by
      rw [m_I1, if_neg (by omega), hce _ (by omega), g4]
    rw [x1, hce _ (by omega), g2]
    refine ih _ ⟨(c0.I (by omega)).I (by omega), ?_, fun g hg8 => ?_⟩
    · rw [m_I1, if_neg (by omega), m_I1, if_neg (by omega), c1]
    · obtain ⟨d1, d2, d3⟩ := c2 g hg8
      refine ⟨?_, ?_, fun q hq => ⟨?_, ?_⟩⟩
      · rw [m_I1, if_neg (by omega), m_I1, if_neg (by omega), d1]
      · rw [m_I1, if_neg (by omega), m_I1, if_neg (by omega), d2]
      · rw [m_I1, if_neg (by omega), m_I1]
        by_cases z : g = nG S ∧ q = j
        · rw [if_pos ⟨by omega, z.2⟩, if_pos ⟨z.1, by omega⟩, z.2]
        · rw [if_neg (by omega), (d3 q hq).1]
          by_cases y : g = nG S ∧ q < j
          · rw [if_pos y, if_pos ⟨y.1, by omega⟩]
          · rw [if_neg y, if_neg (by omega)]
      · rw [m_I1]
        by_cases z : g = nG S ∧ q = j
        · rw [if_pos ⟨by omega, z.2⟩, if_pos ⟨z.1, by omega⟩, z.2]
        · rw [if_neg (by omega), m_I1, if_neg (by omega), (d3 q hq).2]
          by_cases y : g = nG S ∧ q < j
          · rw [if_pos y, if_pos ⟨y.1, by omega⟩]
          · rw [if_neg y, if_neg (by omega)]
  · refine ⟨(Fg.rf.I (by omega)).I (by omega), ?_, fun g hg8 => ⟨?_, ?_, fun q hq => ⟨?_, ?_⟩⟩⟩
    · rw [m_I1, if_neg (by omega), m_I1, if_pos ⟨rfl, rfl⟩]
    · rw [m_I1]
      by_cases z : g = nG S
      · rw [if_pos ⟨by omega, rfl⟩, if_pos z]
      · rw [if_neg (by omega), m_I1, if_neg (by omega), if_neg z, hA.zgl hg8]
    · rw [m_I1, if_neg (by omega), m_I1, if_neg (by omega), hA.zgk hg8]
    · rw [m_I1, if_neg (by omega), m_I1, if_neg (by omega), if_neg (by omega), hA.zgc hg8 hq]
    · rw [m_I1, if_neg (by omega), m_I1, if_neg (by omega), if_neg (by omega), hA.zgn hg8 hq]
theorem kI6 : kI 6 = 0 := by decide
theorem k_songB (hB : B σ S) (hk : ok S) {k i n : Nat} (hk4 : k < 4) (hg : nG S < 8) (hn : n ≤ 24) (hin : i + 2 * n ≤ 64) (hb : ex (bad S k i) n = false) (K : ∀ σ', B σ' (stG S k i n) → cS σ σ' → P (nI (nG S)) σ') : v_X12_song_L215 (nI k) (nI i) (nI n) (fun (σ_18 : Mem) => vp_in (σ_18.1 33 15) 8 ∧ (vp_in ((wI σ_18 44 (Int32.toNatClampNeg (σ_18.1 33 15)) (nI n)).1 33 15) 8 ∧ (P (((wI (wI (wI σ_18 44 (Int32.toNatClampNeg (σ_18.1 33 15)) (nI n)) 45 (Int32.toNatClampNeg ((wI σ_18 44 (Int32.toNatClampNeg (σ_18.1 33 15)) (nI n)).1 33 15)) 0) 33 15 (((wI (wI σ_18 44 (Int32.toNatClampNeg (σ_18.1 33 15)) (nI n)) 45 (Int32.toNatClampNeg ((wI σ_18 44 (Int32.toNatClampNeg (σ_18.1 33 15)) (nI n)).1 33 15)) 0).1 33 15) + 1)).1 33 15) - 1) (wI (wI (wI σ_18 44 (Int32.toNatClampNeg (σ_18.1 33 15)) (nI n)) 45 (Int32.toNatClampNeg ((wI σ_18 44 (Int32.toNatClampNeg (σ_18.1 33 15)) (nI n)).1 33 15)) 0) 33 15 (((wI (wI σ_18 44 (Int32.toNatClampNeg (σ_18.1 33 15)) (nI n)) 45 (Int32.toNatClampNeg ((wI σ_18 44 (Int32.toNatClampNeg (σ_18.1 33 15)) (nI n)).1 33 15)) 0).1 33 15) + 1))))) P 5000 0 σ := by
  refine lp_i (fun m j s => v_X12_song_L215 (nI k) (nI i) (nI n) _ P m (nI j) s) (fun j s => Gg σ s ∧ s.1 33 15 = nI (nG S) ∧ (∀ g, s.1 44 g = σ.1 44 g) ∧ (∀ g, s.1 45 g = σ.1 45 g) ∧ (∀ g, g < 8 → ∀ q, q < 24 → s.1 46 (24 * g + q) = nI (if g = nG S ∧ q < j then cN S k i q else gc S g q) ∧ s.1 47 (24 * g + q) = tI (if g = nG S ∧ q < j then cT S k i q else gn S g q))) n (fun m s hI => ?_) (fun m j s hj hI ih => ?_) 5000 0 _ (by omega) (by omega) ⟨Gg.rf, hB.znG, fun _ => rfl, fun _ => rfl, fun g hg8 q hq => ?_⟩
  · obtain ⟨c0, c1, c2, c3, c4⟩ := hI
    (try dsimp only)
    rw [v_X12_song_L215, w_t (nI_le (Nat.le_refl _) (by omega))]
    (try dsimp only)
    rw [c1, w_in (vi hg (by omega)), nI_clamp (by omega)]
    have f1 : (wI s 44 (nG S) (nI n)).1 33 15 = nI (nG S) := by rw [m_I1, if_neg (by omega), c1]
    rw [f1, w_in (vi hg (by omega)), nI_clamp (by omega)]
    have f2 : (wI (wI s 44 (nG S) (nI n)) 45 (nG S) 0).1 33 15 = nI (nG S) := by rw [m_I1, if_neg (by omega), f1]
    rw [f2, nI_1, m_I1, if_pos ⟨rfl, rfl⟩, nI_pred]
    have hF : Gg σ (wI (wI (wI s 44 (nG S) (nI n)) 45 (nG S) 0) 33 15 (nI (nG S + 1))) := ((c0.I (by omega)).I (by omega)).I (by omega)
    refine K _ (hB.g_upd hF stG_o rfl ⟨?_, fun g hg8 => ⟨?_, ?_, fun q hq => ⟨?_, ?_⟩⟩⟩) hF.c
    · rw [m_I1, if_pos ⟨rfl, rfl⟩, stG_nG]
    · rw [m_I1, if_neg (by omega), m_I1, if_neg (by omega), m_I1, stG_gl]
      by_cases z : g = nG S
      · rw [if_pos ⟨rfl, z⟩, if_pos z]
      · rw [if_neg (fun q => z q.2), if_neg z, c2, hB.zgl hg8]
    · rw [m_I1, if_neg (by omega), m_I1, stG_gk]
      by_cases z : g = nG S
      · rw [if_pos ⟨rfl, z⟩, hk.zgk6 (by omega), kI6]
      · rw [if_neg (fun q => z q.2), m_I1, if_neg (by omega), c3, hB.zgk hg8]
    · rw [m_I1, if_neg (by omega), m_I1, if_neg (by omega), m_I1, if_neg (by omega), (c4 g hg8 q hq).1, stG_gc]
      congr 1
      by_cases z : g = nG S
      · subst z; simp
      · simp [z]
    · rw [m_I1, if_neg (by omega), m_I1, if_neg (by omega), m_I1, if_neg (by omega), (c4 g hg8 q hq).2, stG_gn]
      congr 1
      by_cases z : g = nG S
      · subst z; simp
      · simp [z]
  · obtain ⟨c0, c1, c2, c3, c4⟩ := hI
    obtain ⟨g1, g2, g3, g4⟩ := good_c hb hj
    have hce : ∀ x, x < 64 → s.1 50 (64 * k + x) = ce S k x := fun x hx => by rw [c0.1 _ _ (by omega), hB.zce hk4 hx]
    (try dsimp only)
    rw [v_X12_song_L215, w_f (nI_ge hj (by omega)), i_cell, nI_1, nI_1, c1, i_24, w_in (vi (by omega) (by omega)), w_in (vi (by omega) (by omega)), w_in (vi (by omega) (by omega)), nI_clamp (show 24 * nG S + j < 2 ^ 31 by omega), nI_clamp (show 64 * k + (i + 2 * j) < 2 ^ 31 by omega), nI_clamp (show 64 * k + (i + 2 * j) + 1 < 2 ^ 31 by omega)]
    have x0 : (wI s 46 (24 * nG S + j) (s.1 50 (64 * k + (i + 2 * j)))).1 33 15 = nI (nG S) := by rw [m_I1, if_neg (by omega), c1]
    have x1 : (wI s 46 (24 * nG S + j) (s.1 50 (64 * k + (i + 2 * j)))).1 50 (64 * k + (i + 2 * j) + 1) = tI (cT S k i j) := by
      rw [m_I1, if_neg (by omega), show 64 * k + (i + 2 * j) + 1 = 64 * k + (i + 2 * j + 1) by omega, hce _ (by omega), g4]
    rw [x0, i_24, w_in (vi (by omega) (by omega)), nI_clamp (show 24 * nG S + j < 2 ^ 31 by omega), x1, hce _ (by omega), g2]
    refine ih _ ⟨(c0.I (by omega)).I (by omega), ?_, fun g => ?_, fun g => ?_, fun g hg8 q hq => ⟨?_, ?_⟩⟩
    · rw [m_I1, if_neg (by omega), m_I1, if_neg (by omega), c1]
    · rw [m_I1, if_neg (by omega), m_I1, if_neg (by omega), c2]
    · rw [m_I1, if_neg (by omega), m_I1, if_neg (by omega), c3]
    · rw [m_I1, if_neg (by omega), m_I1]
      by_cases z : g = nG S ∧ q = j
      · rw [if_pos ⟨rfl, by omega⟩, if_pos ⟨z.1, by omega⟩, z.2]
      · rw [if_neg (by omega), (c4 g hg8 q hq).1]
        by_cases y : g = nG S ∧ q < j
        · rw [if_pos y, if_pos ⟨y.1, by omega⟩]
        · rw [if_neg y, if_neg (by omega)]
    · rw [m_I1]
      by_cases z : g = nG S ∧ q = j
      · rw [if_pos ⟨rfl, by omega⟩, if_pos ⟨z.1, by omega⟩, z.2]
      · rw [if_neg (by omega), m_I1, if_neg (by omega), (c4 g hg8 q hq).2]
        by_cases y : g = nG S ∧ q < j
        · rw [if_pos y, if_pos ⟨y.1, by omega⟩]
        · rw [if_neg y, if_neg (by omega)]
  · rw [if_neg (by omega), if_neg (by omega)]
    exact ⟨hB.zgc hg8 hq, hB.zgn hg8 hq⟩
end
