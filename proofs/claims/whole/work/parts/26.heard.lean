-- ===== heard, both sides =====
section
variable {σ : Mem} {S : St} {P : Int32 → Mem → Prop} {PV : Mem → Prop} {PJ : Int64 → Mem → Prop}
def gd2 (x : Int32) : Bool := decide (0 ≤ x.toInt ∧ x.toInt ≤ 2)
theorem gd2_n {x : Int32} (h : gd2 x = true) : x.toNatClampNeg < 3 ∧ x = nI x.toNatClampNeg := by
  have h2 : 0 ≤ x.toInt ∧ x.toInt ≤ 2 := by simpa [gd2] using h
  have e : x.toNatClampNeg = x.toInt.toNat := rfl
  refine ⟨by omega, Int32.toInt_inj.mp ?_⟩
  rw [nI_toInt (by omega)]
  omega
theorem gd2_o {x : Int32} (h : gd2 x = false) : oo x 3 := by
  have h2 : ¬ (0 ≤ x.toInt ∧ x.toInt ≤ 2) := by simpa [gd2] using h
  by_cases q : x.toInt < 0
  · left; rw [fa_lt]; exact q
  · right; rw [fa_le, nI_toInt (by omega)]; omega
def bah (S : St) (k i j : Nat) : Bool := !gd2 (ce S k (i + j))
theorem q_w2G {x : Int32} : v_X12_within x 0 2 σ P = P (bI (gd2 x)) σ := by
  cases h : gd2 x
  · rw [q_w2_o (gd2_o h)]; rfl
  · obtain ⟨h1, h2⟩ := gd2_n h
    rw [h2, q_w2_n h1]; rfl
theorem w_2G {x : Int32} {X Y : Prop} : ((x < 0 → X) ∧ (¬ x < 0 → (x ≤ 2 → Y) ∧ (¬ x ≤ 2 → X))) = (if gd2 x = true then Y else X) := by
  rw [w_ite, w_ite]
  simp only [fa_lt, fa_le, show (0 : Int32).toInt = 0 from by decide, show (2 : Int32).toInt = 2 from by decide]
  unfold gd2
  by_cases h1 : x.toInt < 0
  · rw [if_pos h1, if_neg (by simp; omega)]
  · rw [if_neg h1]
    by_cases h2 : x.toInt ≤ 2
    · rw [if_pos h2, if_pos (by simp; omega)]
    · rw [if_neg h2, if_neg (by simp; omega)]
theorem q_hasHearing (h : A σ S) {k i n : Nat} (hk4 : k < 4) (hn : i + n ≤ 64) : v_X11_hasHearing (bT + k) (nI i) (nI n) σ P = P (bI (!ex (bah S k i) n)) σ := by
  unfold v_X11_hasHearing
  have := lp_s (fun m j => v_X11_hasHearing_L2 (bT + k) (nI i) (nI n) P m (nI j) σ) (P 1 σ) (fun _ => P 0 σ) (bah S k i) n (fun m => ?_) (fun m j hj hp => ?_) (fun m j hj hp => ?_) 5000 0 (by omega) (by omega) (by omega)
  · simp only [ex_first] at this
    rw [show (0 : Int32) = nI 0 from rfl, this]
    cases ex (bah S k i) n <;> rfl
  · (try dsimp only)
    rw [v_X11_hasHearing_L2, w_t (nI_le (Nat.le_refl _) (by omega))]
  · (try dsimp only)
    unfold bah at hp
    rw [v_X11_hasHearing_L2, w_f (nI_ge hj (by omega)), nI_add, w_in (vi (by omega) (by omega)), nI_clamp (by omega), h.zce hk4 (by omega), w_2G, if_neg (by simpa using hp)]
  · (try dsimp only)
    unfold bah at hp
    rw [v_X11_hasHearing_L2, w_f (nI_ge hj (by omega)), nI_add, w_in (vi (by omega) (by omega)), nI_clamp (by omega), h.zce hk4 (by omega), w_2G, if_pos (by simpa using hp), nI_1]
theorem i_cell1 (k i j : Nat) : ((64 : Int32) * nI k + nI i) + nI j = nI (64 * k + (i + j)) := by
  rw [i_64, nI_add]; congr 1; omega
theorem q_heardL110 (h : B σ S) (hk : ok S) {k i : Nat} {x : Int32} (hk4 : k < 4) (hn : i + nS S ≤ 64) {K : Mem → Prop} : v_X12_heard_L110 x (nI k) (nI i) K P 5000 0 σ = if ex (bah S k i) (nS S) = true then P (-2) σ else K σ := by
  have := lp_s (fun m j => v_X12_heard_L110 x (nI k) (nI i) K P m (nI j) σ) (K σ) (fun _ => P (-2) σ) (bah S k i) (nS S) (fun m => ?_) (fun m j hj hp => ?_) (fun m j hj hp => ?_) 5000 0 (by omega) (by omega) (by omega)
  · simp only [ex_first] at this
    exact this
  · (try dsimp only)
    rw [v_X12_heard_L110, h.znS, w_t (nI_le (Nat.le_refl _) (by omega))]
  · (try dsimp only)
    unfold bah at hp
    rw [v_X12_heard_L110, h.znS, w_f (nI_ge hj (by omega)), i_cell1, w_in (vi (by omega) (by omega)), nI_clamp (by omega), h.zce hk4 (by omega), q_w2G, w_bI, if_neg (by simpa using hp)]
  · (try dsimp only)
    unfold bah at hp
    rw [v_X12_heard_L110, h.znS, w_f (nI_ge hj (by omega)), i_cell1, w_in (vi (by omega) (by omega)), nI_clamp (by omega), h.zce hk4 (by omega), q_w2G, w_bI, if_pos (by simpa using hp), nI_1]
theorem q_bitsWhere {k : Nat} (h : ∀ x, x < 64 → σ.1 (bT + k + 4) x = ce S k x) {i n : Nat} {v : Int32} (hn : i + n ≤ 64) (hn2 : n ≤ 36) : v_X8_bitsWhere (bT + k) v (nI i) (nI n) σ PJ = PJ (lN (nb (fun j => ce S k (i + j) == v) n)) σ := by
  unfold v_X8_bitsWhere
  refine lp_c (fun m j => v_X8_bitsWhere_L6 (bT + k) v (nI i) (nI n) PJ m (lN (nb (fun j => ce S k (i + j) == v) j)) (nI j) σ) _ n (fun m => ?_) (fun m j hj => ?_) 5000 0 (by omega) (by omega)
  · (try dsimp only)
    rw [v_X8_bitsWhere_L6, w_t (nI_le (Nat.le_refl _) (by omega))]
  · (try dsimp only)
    rw [v_X8_bitsWhere_L6, w_f (nI_ge hj (by omega)), nI_add, w_in (vi (by omega) (by omega)), nI_clamp (by omega), h _ (by omega), w_ite, nI_1, l_sh1 (by omega), fb_orL, nb]
    by_cases e : ce S k (i + j) = v
    · rw [if_pos e, if_pos (by simpa using e)]
    · rw [if_neg e, if_neg (by simpa using e), Nat.or_zero]
def hN (S : St) (k i j : Nat) : Nat := (ce S k (i + j)).toNatClampNeg
def stH (S : St) (set k i : Nat) : St := uR (uN (uN (uN S 14 0 0 (nR S + 1)) 15 (nR S) 0 set) 16 (nR S) 0 (nS S)) 17 (nR S) (fun j => if j < nS S then hN S k i j else rc S (nR S) j)
theorem stH_nR {set k i : Nat} : nR (stH S set k i) = nR S + 1 := by simp [nR, stH, uN_1, uR_1]
theorem stH_rs {set k i r : Nat} : rs (stH S set k i) r = if r = nR S then set else rs S r := by simp [rs, stH, uN_1, uR_1]
theorem stH_rl {set k i r : Nat} : rl (stH S set k i) r = if r = nR S then nS S else rl S r := by simp [rl, stH, uN_1, uR_1]
theorem stH_rc {set k i r j : Nat} : rc (stH S set k i) r j = if r = nR S then (if j < nS S then hN S k i j else rc S (nR S) j) else rc S r j := by simp [rc, stH, uN_1, uR_1]
theorem stH_o {set k i : Nat} (a b c : Nat) (h : ¬ (14 ≤ a ∧ a ≤ 17)) : (stH S set k i).1 a b c = S.1 a b c := by
  unfold stH
  rw [uR_1, if_neg (by omega), uN_1, if_neg (by omega), uN_1, if_neg (by omega), uN_1, if_neg (by omega)]
theorem good_h {S : St} {k i n j : Nat} (hb : ex (bah S k i) n = false) (hj : j < n) : hN S k i j < 3 ∧ ce S k (i + j) = nI (hN S k i j) := by
  have h := ex_no.mp hb j hj
  unfold bah at h
  exact gd2_n (by simpa using h)
theorem ok_stH (hk : ok S) {set k i : Nat} (hr : nR S < 20) (hset : set < 2 ^ nB S) (hb : ex (bah S k i) (nS S) = false) : ok (stH S set k i) := by
  obtain ⟨hs, hb2, hg, ho, ⟨r1, r2, r3, r4⟩, ht⟩ := hk
  have eB : nB (stH S set k i) = nB S := stH_o 3 0 0 (by omega)
  have eS : nS (stH S set k i) = nS S := stH_o 0 0 0 (by omega)
  refine ⟨hs, hb2, hg, ho, ⟨by rw [stH_nR]; omega, fun r hr2 => ?_, fun r hr2 => ?_, fun r j => ?_⟩, ht⟩
  · rw [stH_nR] at hr2
    rw [stH_rs, eB]; split
    · exact hset
    · exact r2 r (by omega)
  · rw [stH_nR] at hr2
    rw [stH_rl, eS]; split
    · omega
    · exact r3 r (by omega)
  · rw [stH_rc]; split
    · split
      · next h => have := (good_h hb h).1; omega
      · exact r4 _ j
    · exact r4 r j
theorem k_addR (hA : A σ S) (hk : ok S) {set k i : Nat} (hk4 : k < 4) (hr : nR S < 20) (hin : i + nS S ≤ 64) (hb : ex (bah S k i) (nS S) = false) (K : ∀ σ', A σ' (stH S set k i) → mS σ σ' → P (nI (nR S)) σ') : v_X2_add (nI set) (bT + k) (nI i) (nI (nS S)) σ P := by
  have e3 : bT = 100 := rfl
  have h36 := hk.znS
  unfold v_X2_add
  rw [hA.znR, w_in (vi hr (by omega)), nI_clamp (by omega), nI_1]
  have c1 : ∀ x, x < 64 → (wI (wI σ 27 4 (nI (nR S + 1))) 28 (nR S) (nI set)).1 (bT + k + 4) x = ce S k x := fun x hx => by
    rw [m_I1, if_neg (by omega), m_I1, if_neg (by omega), hA.zce hk4 hx]
  rw [q_bitsWhere c1 hin h36, w_in (vi hr (by omega))]
  rw [q_bitsWhere (S := S) (k := k) (fun x hx => by rw [m_J1]; exact c1 x hx) hin h36, w_in (vi hr (by omega))]
  have hF : Fr σ (wJ (wJ (wI (wI σ 27 4 (nI (nR S + 1))) 28 (nR S) (nI set)) 29 (nR S) (lN (nb (fun j => ce S k (i + j) == 0) (nS S)))) 30 (nR S) (lN (nb (fun j => ce S k (i + j) == 1) (nS S)))) := (((Fr.rf.I (by omega)).I (by omega)).J (by omega)).J (by omega)
  have bits : ∀ v : Nat, v < 3 → ∀ x : Int32, x = nI v → nb (fun j => ce S k (i + j) == x) (nS S) = nb (fun s => rc (stH S set k i) (nR S) s == v) (rl (stH S set k i) (nR S)) := fun v hv x hx => by
    rw [stH_rl, if_pos (by rfl)]
    apply nb_cong
    intro j hj
    rw [stH_rc, if_pos rfl, if_pos hj, (good_h hb hj).2, hx]
    have := (good_h hb hj).1
    rw [Bool.eq_iff_iff, beq_iff_eq, beq_iff_eq]
    exact nI_eq (by omega) (by omega)
  refine K _ (hA.r_upd hk.znB hF stH_o rfl ⟨?_, fun r hr2 => ⟨?_, ?_, ?_⟩⟩) hF.m
  · rw [m_J1, m_J1, m_I1, if_neg (by omega), m_I1, if_pos ⟨rfl, rfl⟩, stH_nR]
  · rw [stH_nR] at hr2
    rw [m_J1, m_J1, m_I1, stH_rs]
    by_cases z : r = nR S
    · rw [if_pos ⟨rfl, z⟩, if_pos z]
    · rw [if_neg (fun q => z q.2), if_neg z, m_I1, if_neg (by omega), hA.zrs (by omega)]
  · rw [stH_nR] at hr2
    rw [m_J2, if_neg (by omega), m_J2]
    by_cases z : r = nR S
    · rw [if_pos ⟨rfl, z⟩, z, bits 0 (by omega) 0 rfl]
    · rw [if_neg (fun q => z q.2), m_I2, m_I2, hA.zr0 (by omega), stH_rl, if_neg z]
      congr 1
      exact nb_cong (fun j _ => by rw [stH_rc, if_neg z])
  · rw [stH_nR] at hr2
    rw [m_J2]
    by_cases z : r = nR S
    · rw [if_pos ⟨rfl, z⟩, z, bits 1 (by omega) 1 rfl]
    · rw [if_neg (fun q => z q.2), m_J2, if_neg (by omega), m_I2, m_I2, hA.zr1 (by omega), stH_rl, if_neg z]
      congr 1
      exact nb_cong (fun j _ => by rw [stH_rc, if_neg z])
theorem k_heardB (hB : B σ S) (hk : ok S) {set k i : Nat} (hk4 : k < 4) (hr : nR S < 20) (hin : i + nS S ≤ 64) (hb : ex (bah S k i) (nS S) = false) (K : ∀ σ', B σ' (stH S set k i) → cS σ σ' → P (nI (nR S)) σ') : v_X12_heard_L189 (nI k) (nI i) (fun (σ_16 : Mem) => P (((wI σ_16 33 33 ((σ_16.1 33 33) + 1)).1 33 33) - 1) (wI σ_16 33 33 ((σ_16.1 33 33) + 1))) P 5000 0 (wI (wI σ 60 (nR S) (nI set)) 61 (nR S) (nI (nS S))) := by
  have h36 := hk.znS
  refine lp_i (fun m j s => v_X12_heard_L189 (nI k) (nI i) _ P m (nI j) s) (fun j s => Gr σ s ∧ s.1 33 33 = nI (nR S) ∧ (∀ r, s.1 60 r = if r = nR S then nI set else σ.1 60 r) ∧ (∀ r, s.1 61 r = if r = nR S then nI (nS S) else σ.1 61 r) ∧ (∀ x, s.1 62 x = if 36 * nR S ≤ x ∧ x < 36 * nR S + j then nI (hN S k i (x - 36 * nR S)) else σ.1 62 x)) (nS S) (fun m s hI => ?_) (fun m j s hj hI ih => ?_) 5000 0 _ (by omega) (by omega) ⟨(Gr.rf.I (by omega)).I (by omega), ?_, fun r => ?_, fun r => ?_, fun x => ?_⟩
  · obtain ⟨c0, c1, c2, c3, c4⟩ := hI
    (try dsimp only)
    rw [v_X12_heard_L189, c0.1 33 2 (by omega), hB.znS, w_t (nI_le (Nat.le_refl _) (by omega))]
    (try dsimp only)
    rw [c1, nI_1, m_I1, if_pos ⟨rfl, rfl⟩, nI_pred]
    have hF : Gr σ (wI s 33 33 (nI (nR S + 1))) := c0.I (by omega)
    refine K _ (hB.r_upd hF stH_o rfl ⟨?_, fun r hr2 => ⟨?_, ?_, fun j hj => ?_⟩⟩) hF.c
    · rw [m_I1, if_pos ⟨rfl, rfl⟩, stH_nR]
    · rw [stH_nR] at hr2
      rw [m_I1, if_neg (by omega), c2, stH_rs]
      by_cases z : r = nR S
      · rw [if_pos z, if_pos z]
      · rw [if_neg z, if_neg z, hB.zrs (by omega)]
    · rw [stH_nR] at hr2
      rw [m_I1, if_neg (by omega), c3, stH_rl]
      by_cases z : r = nR S
      · rw [if_pos z, if_pos z]
      · rw [if_neg z, if_neg z, hB.zrl (by omega)]
    · rw [stH_nR] at hr2
      rw [stH_rl] at hj
      rw [m_I1, if_neg (by omega), c4, stH_rc]
      by_cases z : r = nR S
      · rw [if_pos z] at hj
        rw [if_pos z]
        subst z
        rw [if_pos (by omega), if_pos hj, show 36 * nR S + j - 36 * nR S = j by omega]
      · rw [if_neg z] at hj
        have h1 := hk.zrl (r := r) (by omega)
        rw [if_neg z, if_neg (by omega), hB.zrc (by omega) hj]
  · obtain ⟨c0, c1, c2, c3, c4⟩ := hI
    obtain ⟨g1, g2⟩ := good_h hb hj
    have hce : s.1 50 (64 * k + (i + j)) = nI (hN S k i j) := by rw [c0.1 _ _ (by omega), hB.zce hk4 (by omega), g2]
    (try dsimp only)
    rw [v_X12_heard_L189, c0.1 33 2 (by omega), hB.znS, w_f (nI_ge hj (by omega)), i_cell1, nI_1, c1, i_36, w_in (vi (by omega) (by omega)), w_in (vi (by omega) (by omega)), nI_clamp (by omega), nI_clamp (by omega), hce]
    refine ih _ ⟨c0.I (by omega), ?_, fun r => ?_, fun r => ?_, fun x => ?_⟩
    · rw [m_I1, if_neg (by omega), c1]
    · rw [m_I1, if_neg (by omega), c2]
    · rw [m_I1, if_neg (by omega), c3]
    · rw [m_I1, c4]
      by_cases z : x = 36 * nR S + j
      · rw [if_pos ⟨rfl, z⟩, if_pos (by omega), z, show 36 * nR S + j - 36 * nR S = j by omega]
      · rw [if_neg (fun q => z q.2)]
        by_cases y : 36 * nR S ≤ x ∧ x < 36 * nR S + j
        · rw [if_pos y, if_pos (by omega)]
        · rw [if_neg y, if_neg (by omega)]
  · rw [m_I1, if_neg (by omega), m_I1, if_neg (by omega), hB.znR]
  · simp only [m_I1]; simp
  · simp only [m_I1]; simp
  · simp only [m_I1]; rw [if_neg (by omega), if_neg (by omega), if_neg (by omega)]
theorem c_H77 {o : Nat} {x1 x4 f : Int32} (hf : ¬ f = 0) : v_X11_heard_J77 P x1 x4 o f σ = P ((-10) - f) (wI σ 0 10 f) := by
  unfold v_X11_heard_J77
  rw [w_f hf, q_fail]
theorem q_isFullR_n (hA : A σ S) (hk : ok S) (hn : nR S < 20) : v_X2_isFull σ P = P 0 σ := by
  unfold v_X2_isFull
  rw [hA.znR, w_t (show nI (nR S) < 20 from (nI_ltI (b := 20) (by omega) (by omega)).mpr hn)]
theorem q_isFullR_y (hA : A σ S) (hk : ok S) (hn : ¬ nR S < 20) : v_X2_isFull σ P = P 1 σ := by
  have := hk.znR
  unfold v_X2_isFull
  rw [hA.znR, w_f (show ¬ nI (nR S) < 20 from fun z => hn ((nI_ltI (b := 20) (by omega) (by omega)).mp z))]
theorem le_sub {i a b : Nat} (hi : i < 2 ^ 31) (ha : a < 2 ^ 30) (hb : b < 2 ^ 30) : (nI i ≤ nI a - nI b) = (i + b ≤ a) := by
  rw [fa_le, nI_toInt hi, pk_sub_toInt ha hb]
  apply propext
  omega
theorem m_heard_eq (hB : B (wI σ 33 0 0) S) (hk : ok S) {set k l : Nat} {a4 : Int32} (hset : set < 2 ^ nB S) (hk4 : k < 4) (hl : l < 3) (hla : la S k = l) : v_X12_heard (nI set) (nI k) (nI l) a4 σ P = v_X12_heard_J63 P (nI set) (nI k) a4 (wI σ 33 0 0) := by
  have vk := vi hk4 (show 4 < 2 ^ 31 by omega)
  have nz : ¬ (if la S k < 3 then nI (la S k) else (-9 : Int32)) = -9 := by rw [la_m9 hk]; omega
  unfold v_X12_heard
  rw [q_w3_n hk4, w_1, q_isSetB_n hB hk hset, w_1, q_w2_n hl, w_1, w_in vk, nI_clamp (by omega), hB.zla hk4, w_f nz, w_in vk, w_t (by rw [if_pos (by omega), hla])]
theorem m_heard_3 (hB : B (wI σ 33 0 0) S) (hk : ok S) {set k l : Nat} {a4 : Int32} (hset : set < 2 ^ nB S) (hk4 : k < 4) (hl : l < 3) (hla : la S k = 3) : v_X12_heard (nI set) (nI k) (nI l) a4 σ P = P ((-10) - 1) (wI (wI σ 33 0 0) 33 0 1) := by
  have vk := vi hk4 (show 4 < 2 ^ 31 by omega)
  have z : (if la S k < 3 then nI (la S k) else (-9 : Int32)) = -9 := by rw [la_m9 hk]; exact hla
  unfold v_X12_heard v_X12_heard_J63
  rw [q_w3_n hk4, w_1, q_isSetB_n hB hk hset, w_1, q_w2_n hl, w_1, w_in vk, nI_clamp (by omega), hB.zla hk4, w_t z, w_in vk, w_t z, q_fails]
theorem m_heard_ne (hB : B (wI σ 33 0 0) S) (hk : ok S) {set k l : Nat} {a4 : Int32} (hset : set < 2 ^ nB S) (hk4 : k < 4) (hl : l < 3) (hl3 : la S k < 3) (hla : ¬ la S k = l) : v_X12_heard (nI set) (nI k) (nI l) a4 σ P = P ((-10) - 2) (wI (wI σ 33 0 0) 33 0 2) := by
  have vk := vi hk4 (show 4 < 2 ^ 31 by omega)
  have nz : ¬ (if la S k < 3 then nI (la S k) else (-9 : Int32)) = -9 := by rw [la_m9 hk]; omega
  unfold v_X12_heard
  rw [q_w3_n hk4, w_1, q_isSetB_n hB hk hset, w_1, q_w2_n hl, w_1, w_in vk, nI_clamp (by omega), hB.zla hk4, w_f nz, w_in vk, w_f (by rw [if_pos hl3]; exact fun q => hla ((nI_eq (by omega) (by omega)).mp q)), q_fails]
theorem m_heard_l (hB : B (wI σ 33 0 0) S) (hk : ok S) {set k : Nat} {a3 a4 : Int32} (hset : set < 2 ^ nB S) (hk4 : k < 4) (ho : oo a3 3) : v_X12_heard (nI set) (nI k) a3 a4 σ P = P (-2) (wI σ 33 0 0) := by
  unfold v_X12_heard
  rw [q_w3_n hk4, w_1, q_isSetB_n hB hk hset, w_1, q_w2_o ho, w_0]
theorem m_heard_s (hB : B (wI σ 33 0 0) S) (hk : ok S) {k : Nat} {a1 a3 a4 : Int32} (hk4 : k < 4) (ho : oo a1 (2 ^ nB S)) : v_X12_heard a1 (nI k) a3 a4 σ P = P (-2) (wI σ 33 0 0) := by
  unfold v_X12_heard
  rw [q_w3_n hk4, w_1, q_isSetB_o hB hk ho, w_0]
theorem m_heard_o {a1 a2 a3 a4 : Int32} (ho : oo a2 4) : v_X12_heard a1 a2 a3 a4 σ P = P (-1) (wI σ 33 0 0) := by
  unfold v_X12_heard
  rw [q_w3_o ho, w_0]
theorem m_J63_i (hB : B σ S) (hk : ok S) {k : Nat} {x a4 : Int32} (hk4 : k < 4) (hl3 : la S k < 3) (q3 : a4 < 0) : v_X12_heard_J63 P x (nI k) a4 σ = P ((-10) - 3) (wI σ 33 0 3) := by
  have vk := vi hk4 (show 4 < 2 ^ 31 by omega)
  have nz : ¬ (if la S k < 3 then nI (la S k) else (-9 : Int32)) = -9 := by rw [la_m9 hk]; omega
  unfold v_X12_heard_J63 v_X12_heard_J101
  rw [w_in vk, nI_clamp (by omega), hB.zla hk4, w_f nz, w_t q3, q_fails]
theorem m_J63_o (hB : B σ S) (hk : ok S) {k i : Nat} {x : Int32} (hk4 : k < 4) (hl3 : la S k < 3) (hi : i < 2 ^ 31) (hc : ¬ i + nS S ≤ sl S k) : v_X12_heard_J63 P x (nI k) (nI i) σ = P ((-10) - 3) (wI σ 33 0 3) := by
  have vk := vi hk4 (show 4 < 2 ^ 31 by omega)
  have hsl := hk.zsl k
  have h36 := hk.znS
  have nz : ¬ (if la S k < 3 then nI (la S k) else (-9 : Int32)) = -9 := by rw [la_m9 hk]; omega
  unfold v_X12_heard_J63 v_X12_heard_J101
  rw [w_in vk, nI_clamp (by omega), hB.zla hk4, w_f nz, w_f (nI_pos hi), w_in vk, hB.zsl hk4, hB.znS, w_f (by rw [le_sub (by omega) (by omega) (by omega)]; exact hc), q_fails]
theorem m_J63_b (hB : B σ S) (hk : ok S) {k i : Nat} {x : Int32} (hk4 : k < 4) (hl3 : la S k < 3) (hc : i + nS S ≤ sl S k) (hb : ex (bah S k i) (nS S) = true) : v_X12_heard_J63 P x (nI k) (nI i) σ = P (-2) σ := by
  have vk := vi hk4 (show 4 < 2 ^ 31 by omega)
  have hsl := hk.zsl k
  have h36 := hk.znS
  have nz : ¬ (if la S k < 3 then nI (la S k) else (-9 : Int32)) = -9 := by rw [la_m9 hk]; omega
  unfold v_X12_heard_J63
  rw [w_in vk, nI_clamp (by omega), hB.zla hk4, w_f nz, w_f (nI_pos (by omega)), w_in vk, hB.zsl hk4, hB.znS, w_t (by rw [le_sub (by omega) (by omega) (by omega)]; exact hc), q_heardL110 hB hk hk4 (by omega), hb, if_pos (by rfl)]
theorem m_J63_f (hB : B σ S) (hk : ok S) {k i : Nat} {x : Int32} (hk4 : k < 4) (hl3 : la S k < 3) (hc : i + nS S ≤ sl S k) (hb : ex (bah S k i) (nS S) = false) (hr : ¬ nR S < 20) : v_X12_heard_J63 P x (nI k) (nI i) σ = P (-4) σ := by
  have vk := vi hk4 (show 4 < 2 ^ 31 by omega)
  have hsl := hk.zsl k
  have h36 := hk.znS
  have h20 := hk.znR
  have nz : ¬ (if la S k < 3 then nI (la S k) else (-9 : Int32)) = -9 := by rw [la_m9 hk]; omega
  unfold v_X12_heard_J63
  rw [w_in vk, nI_clamp (by omega), hB.zla hk4, w_f nz, w_f (nI_pos (by omega)), w_in vk, hB.zsl hk4, hB.znS, w_t (by rw [le_sub (by omega) (by omega) (by omega)]; exact hc), q_heardL110 hB hk hk4 (by omega), hb, if_neg (by decide), hB.znR, w_t (show nI (nR S) = 20 from (nI_eq (b := 20) (by omega) (by omega)).mpr (by omega))]
theorem m_J63_y (hB : B σ S) (hk : ok S) {set k i : Nat} (hk4 : k < 4) (hl3 : la S k < 3) (hc : i + nS S ≤ sl S k) (hb : ex (bah S k i) (nS S) = false) (hr : nR S < 20) (K : ∀ σ', B σ' (stH S set k i) → cS σ σ' → P (nI (nR S)) σ') : v_X12_heard_J63 P (nI set) (nI k) (nI i) σ := by
  have vk := vi hk4 (show 4 < 2 ^ 31 by omega)
  have hsl := hk.zsl k
  have h36 := hk.znS
  have nz : ¬ (if la S k < 3 then nI (la S k) else (-9 : Int32)) = -9 := by rw [la_m9 hk]; omega
  unfold v_X12_heard_J63
  rw [w_in vk, nI_clamp (by omega), hB.zla hk4, w_f nz, w_f (nI_pos (by omega)), w_in vk, hB.zsl hk4, hB.znS, w_t (by rw [le_sub (by omega) (by omega) (by omega)]; exact hc), q_heardL110 hB hk hk4 (by omega), hb, if_neg (by decide), hB.znR, w_f (fun q => by have := (nI_eq (b := 20) (by omega) (by omega)).mp q; omega), w_in (vi hr (by omega)), nI_clamp (by omega)]
  have f1 : (wI σ 60 (nR S) (nI set)).1 33 33 = nI (nR S) := by rw [m_I1, if_neg (by omega), hB.znR]
  have f2 : (wI σ 60 (nR S) (nI set)).1 33 2 = nI (nS S) := by rw [m_I1, if_neg (by omega), hB.znS]
  rw [f1, f2, w_in (vi hr (by omega)), nI_clamp (by omega)]
  exact k_heardB hB hk hk4 hr (by omega) hb K
theorem t_heard (h : RR σ) (a1 a2 a3 a4 : Int32) : v_X11_heard a1 a2 a3 a4 σ (fun r σ => v_X12_heard a1 a2 a3 a4 σ (fun r2 σ => r = r2 ∧ RR σ)) := by
  obtain ⟨S1, hA, hB, hk1⟩ := h
  have h12 := hk1.znB
  unfold v_X11_heard
  have hA0 := A_fa hA h12 0
  have hB0 := hB.mS (mS_fa (σ := σ) 0 10)
  generalize wI σ 0 10 0 = σ0 at hA0 hB0 ⊢
  have hk : ok (uI S1 2 0 0 0) := hk1
  have p12 := p12 hk
  have h36 := hk.znS
  have hB00 : ∀ σ1, mS σ0 σ1 → B (wI σ1 33 0 0) (uI S1 2 0 0 0) := fun σ1 m1 => B_fa (hB0.mS m1) 0
  have hB01 := hB00 σ0 mS.rf
  have fin : RR (wI σ0 33 0 0) := RRf hA0 (cS_33 _ _) hB01 hk
  have finf : ∀ v : Int32, RR (wI (wI (wI σ0 0 10 v) 33 0 0) 33 0 v) := fun v =>
    RRf (A_fa2 hA0 h12) ((cS_33 _ _).tr (cS_33 _ _)) (B_fa2 (hB00 _ (mS_fa v 10))) (S := uI S1 2 0 0 v) hk1
  rcases rg a2 4 (by omega) with ⟨k, hk4, rfl⟩ | ho
  · have vk := vi hk4 (show 4 < 2 ^ 31 by omega)
    have hla := hk.zla k
    have hsl := hk.zsl k
    rcases rg a1 (2 ^ nB (uI S1 2 0 0 0)) (by omega) with ⟨set, hset, rfl⟩ | ho
    · rcases rg a3 3 (by omega) with ⟨l, hl, rfl⟩ | ho
      · rw [q_isSheet_n hk4, w_1, q_isSetA_n hA0 hk hset, w_1, q_isLane_n hl, w_1, w_in vk, nI_clamp (by omega), q_faultAs hA0 hk hk4 hl]
        by_cases z : la (uI S1 2 0 0 0) k = 3
        · rw [if_pos z, w_f (by decide), c_H77 (by decide)]; (try dsimp only)
          rw [m_heard_3 (hB00 _ (mS_fa _ _)) hk hset hk4 hl z]
          exact ⟨rfl, finf 1⟩
        · have hl3 : la (uI S1 2 0 0 0) k < 3 := by omega
          rw [if_neg z]
          by_cases y : la (uI S1 2 0 0 0) k = l
          · rw [if_pos y, w_t rfl, hA0.znS, nI_l (by omega)]
            by_cases q3 : a4 < 0
            · rw [q_hasCells_neg q3, w_0, c_H77 (by decide)]; (try dsimp only)
              rw [m_heard_eq (hB00 _ (mS_fa _ _)) hk hset hk4 hl y, m_J63_i (hB00 _ (mS_fa _ _)) hk hk4 hl3 q3]
              exact ⟨rfl, finf 3⟩
            · obtain ⟨i, hi, rfl⟩ := nI_of q3
              by_cases hc : i + nS (uI S1 2 0 0 0) ≤ sl (uI S1 2 0 0 0) k
              · rw [q_hasCells_n hA0 hk hk4 hl3 hc, w_1]
                unfold v_X11_heard_J77
                rw [w_t rfl, hA0.znS, q_hasHearing hA0 hk4 (by omega), w_bI]
                cases hb : ex (bah (uI S1 2 0 0 0) k i) (nS (uI S1 2 0 0 0))
                · rw [if_pos (by rfl)]
                  by_cases hr : nR (uI S1 2 0 0 0) < 20
                  · rw [q_isFullR_n hA0 hk hr, w_0, hA0.znS]
                    refine k_addR hA0 hk hk4 hr (by omega) hb (fun σ1 hA1 m1 => ?_)
                    (try dsimp only)
                    rw [m_heard_eq (hB00 _ m1) hk hset hk4 hl y]
                    exact m_J63_y (hB00 _ m1) hk hk4 hl3 hc hb hr (fun σ2 hB2 c2 => ⟨rfl, RRf hA1 ((cS_33 _ _).tr c2) hB2 (ok_stH hk hr hset hb)⟩)
                  · rw [q_isFullR_y hA0 hk hr, w_1]; (try dsimp only)
                    rw [m_heard_eq hB01 hk hset hk4 hl y, m_J63_f hB01 hk hk4 hl3 hc hb hr]
                    exact ⟨rfl, fin⟩
                · rw [if_neg (by decide)]; (try dsimp only)
                  rw [m_heard_eq hB01 hk hset hk4 hl y, m_J63_b hB01 hk hk4 hl3 hc hb]
                  exact ⟨rfl, fin⟩
              · rw [q_hasCells_o hA0 hk hk4 hl3 hi (by omega) hc, w_0, c_H77 (by decide)]; (try dsimp only)
                rw [m_heard_eq (hB00 _ (mS_fa _ _)) hk hset hk4 hl y, m_J63_o (hB00 _ (mS_fa _ _)) hk hk4 hl3 hi hc]
                exact ⟨rfl, finf 3⟩
          · rw [if_neg y, w_f (by decide), c_H77 (by decide)]; (try dsimp only)
            rw [m_heard_ne (hB00 _ (mS_fa _ _)) hk hset hk4 hl hl3 y]
            exact ⟨rfl, finf 2⟩
      · rw [q_isSheet_n hk4, w_1, q_isSetA_n hA0 hk hset, w_1, q_isLane_o ho, w_0]; (try dsimp only)
        rw [m_heard_l hB01 hk hset hk4 ho]
        exact ⟨rfl, fin⟩
    · rw [q_isSheet_n hk4, w_1, q_isSetA_o hA0 hk ho, w_0]; (try dsimp only)
      rw [m_heard_s hB01 hk hk4 ho]
      exact ⟨rfl, fin⟩
  · rw [q_isSheet_o ho, w_0]; (try dsimp only)
    rw [m_heard_o ho]
    exact ⟨rfl, fin⟩
end
