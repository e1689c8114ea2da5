-- ===== otherwise, best: both sides =====
def dv (u : Nat) : Nat := ([0, 1, 3, 4] : List Nat).getD u 0
theorem sh_t : ∀ t, t < 61 → ∀ u, u < 4 → if 2 ≤ t + dv u ∧ t + dv u < 63 then nI t + tShifts u = nI (t + dv u - 2) else (nI t + tShifts u < 0 ∨ nI 61 ≤ nI t + tShifts u) := by decide +kernel
theorem sh_b : ∀ t, t < 61 → ∀ u, u < 4 → 2 ≤ t + dv u → nI (t + dv u - 2) - tShifts u = nI t := by decide +kernel
def uk (k : Nat) : Nat := if k ≤ 2 then k else k - 1
theorem sh_k : ∀ k, k < 5 → ¬ 2 < nI k - nI 2 ∧ (nI k - nI 2 = 0 ↔ k = 2) ∧ (k ≠ 2 → nI k - nI 2 = tShifts (uk k) ∧ uk k < 4 ∧ uk (k + 1) = uk k + 1) ∧ nI k - nI 2 + 1 = nI (k + 1) - nI 2 := by decide +kernel
/-- a string tuned by a shift stays a tone; the songs played then -/
abbrev inr (S : St) (s u : Nat) : Prop := 2 ≤ tn S s + dv u ∧ tn S s + dv u < 63
def swp (S : St) (s u : Nat) : Nat := pc 12 (plb (uN S 1 s 0 (tn S s + dv u - 2)))
def st1 (S : St) (s u : Nat) (x : Nat × Int32 × Int32) : Nat × Int32 × Int32 := if inr S s u ∧ x.1 < swp S s u then (swp S s u, nI s, tShifts u) else x
def itS (S : St) (s : Nat) (x : Nat × Int32 × Int32) : Nat → Nat × Int32 × Int32
  | 0 => x
  | u + 1 => st1 S s u (itS S s x u)
def bsS (S : St) : Nat → Nat × Int32 × Int32
  | 0 => (pc 12 (plb S), -9, 0)
  | s + 1 => itS S s (bsS S s) 4
theorem itS_12 {S : St} {s : Nat} {x : Nat × Int32 × Int32} (h : x.1 ≤ 12) : ∀ u, (itS S s x u).1 ≤ 12
  | 0 => h
  | u + 1 => by
    rw [itS]; unfold st1
    split
    · exact pc_le 12 _
    · exact itS_12 h u
theorem bsS_12 (S : St) : ∀ s, (bsS S s).1 ≤ 12
  | 0 => pc_le 12 _
  | s + 1 => itS_12 (bsS_12 S s) 4
section
variable {σ : Mem} {S : St} {P : Int32 → Mem → Prop} {PV : Mem → Prop} {PJ : Int64 → Mem → Prop}
theorem plb_lt (hk : ok S) : plb S < 4096 := Nat.lt_of_lt_of_le (nb_lt' (m := 8) _ hk.znG) (by decide)
theorem k_songsA (hA : A σ S) (hk : ok S) {s u : Nat} (hs : s < nS S) (hu : u < 4) (hi : inr S s u) (K : ∀ σ', mS σ σ' → A σ' S → P (nI (swp S s u)) σ') : v_X11_songsWith (nI s) (tShifts u) σ P := by
  have h36 := hk.znS
  have h60 := hk.ztn s
  have e := sh_t (tn S s) (by omega) u hu
  rw [if_pos hi] at e
  have hi1 := hi.1
  have hi2 := hi.2
  have ht : tn S s + dv u - 2 < 61 := by omega
  unfold v_X11_songsWith
  rw [w_in (vi (show s < 36 by omega) (by omega)), nI_clamp (show s < 2 ^ 31 by omega), hA.ztn (by omega), e]
  refine k_retune hA hk hs ht (fun σ1 hA1 F1 => ?_)
  have hk1 := ok_tn hk (s := s) ht
  refine k_look hA1 hk1 (fun σ2 a2 hA2 g2 => k_playedA ⟨hA2, g2⟩ hk1 (fun σ3 q3 h3 => ?_))
  rw [q_bcN (plb_lt hk1)]
  refine k_retune (s := s) (t := tn S s) h3.1 hk1 hs (by omega) (fun σ4 hA4 F4 => ?_)
  rw [uN_twice, uN_same rfl] at hA4
  exact K σ4 (((F1.m.tr a2.m).tr q3.a.m).tr F4.m) hA4
theorem k_songsB (hB : B σ S) (hk : ok S) {s u : Nat} (hs : s < nS S) (hu : u < 4) (hi : inr S s u) (K : ∀ σ', cS σ σ' → B σ' S → P (nI (swp S s u)) σ') : v_X12_songsWith (nI s) (tShifts u) σ P := by
  have h36 := hk.znS
  have h60 := hk.ztn s
  have e := sh_t (tn S s) (by omega) u hu
  rw [if_pos hi] at e
  have hi1 := hi.1
  have hi2 := hi.2
  have ht : tn S s + dv u - 2 < 61 := by omega
  have eb := sh_b (tn S s) (by omega) u hu hi1
  unfold v_X12_songsWith
  rw [w_in (vi (show s < 36 by omega) (by omega)), w_in (vi (show s < 36 by omega) (by omega)), nI_clamp (show s < 2 ^ 31 by omega), hB.ztn (by omega), e]
  have hk1 := ok_tn hk (s := s) ht
  have g1 : Gs σ (wI σ 34 s (nI (tn S s + dv u - 2))) := Gs.rf.I (by omega)
  refine k_playedB (k_tuneB hB (by omega) ht) hk1 (fun σ3 b3 hB3 _ => ?_)
  have p := plb_lt hk1
  rw [q_countOf (by omega), w_in (vi (show s < 36 by omega) (by omega)), w_in (vi (show s < 36 by omega) (by omega)), hB3.ztn (by omega), tn_uN, if_pos rfl, eb]
  have hB4 := k_tuneB (s := s) (t := tn S s) hB3 (by omega) (by omega)
  have g4 : Gs σ3 (wI σ3 34 s (nI (tn S s))) := Gs.rf.I (by omega)
  rw [uN_twice, uN_same rfl] at hB4
  exact K _ ((g1.c.tr b3.c).tr g4.c) hB4
theorem q_isShift_n {u : Nat} (hu : u < 4) : v_X11_isShift (tShifts u) σ P = P 1 σ := by
  unfold v_X11_isShift
  rcases (show u = 0 ∨ u = 1 ∨ u = 2 ∨ u = 3 by omega) with q | q | q | q <;> subst q <;> rw [w_f (by decide), w_f (by decide), w_f (by decide)]
theorem q_isTurn_n {u : Nat} (hu : u < 4) : v_X12_isTurn (tShifts u) σ P = P 1 σ := by
  unfold v_X12_isTurn
  rcases (show u = 0 ∨ u = 1 ∨ u = 2 ∨ u = 3 by omega) with q | q | q | q
  · subst q; rw [w_t (by decide)]
  · subst q; rw [w_f (by decide), w_t (by decide)]
  · subst q; rw [w_f (by decide), w_f (by decide), w_t (by decide)]
  · subst q; rw [w_f (by decide), w_f (by decide), w_f (by decide), w_t (by decide)]
theorem q_isTurn_o {a : Int32} (h : ∀ u, u < 4 → a ≠ tShifts u) : v_X12_isTurn a σ P = P 0 σ := by
  unfold v_X12_isTurn
  rw [w_f (show ¬ a = -2 from h 0 (by omega)), w_f (show ¬ a = -1 from h 1 (by omega)), w_f (show ¬ a = 1 from h 2 (by omega)), w_f (show ¬ a = 2 from h 3 (by omega))]
theorem q_isShift_o {a : Int32} (h : ∀ u, u < 4 → a ≠ tShifts u) : v_X11_isShift a σ P = P 0 σ := by
  unfold v_X11_isShift
  by_cases q1 : a < -2
  · rw [w_t q1]
  · rw [w_f q1]
    by_cases q2 : 2 < a
    · rw [w_t q2]
    · rw [w_f q2, w_t]
      have n : ∀ x : Int32, a ≠ x → a.toInt ≠ x.toInt := fun x hx z => hx (Int32.toInt_inj.mp z)
      have n0 := n (-2) (h 0 (by omega))
      have n1 := n (-1) (h 1 (by omega))
      have n2 := n 1 (h 2 (by omega))
      have n3 := n 2 (h 3 (by omega))
      rw [fa_lt] at q1 q2
      rw [← Int32.toInt_inj]
      have c0 : (-2 : Int32).toInt = -2 := by decide
      have c1 : (-1 : Int32).toInt = -1 := by decide
      have c2 : (1 : Int32).toInt = 1 := by decide
      have c3 : (2 : Int32).toInt = 2 := by decide
      have c4 : (0 : Int32).toInt = 0 := by decide
      rw [c0] at n0 q1
      rw [c1] at n1
      rw [c2] at n2
      rw [c3] at n3 q2
      rw [c4]
      omega
theorem t_otherwise (h : RR σ) (a1 a2 : Int32) : v_X11_otherwise a1 a2 σ (fun r σ => v_X12_otherwise a1 a2 σ (fun r2 σ => r = r2 ∧ RR σ)) := by
  obtain ⟨S, hA, hB, hk⟩ := h
  have h36 := hk.znS
  have fin : RR σ := ⟨S, hA, hB, hk⟩
  unfold v_X11_otherwise
  rcases rg a1 (nS S) (by omega) with ⟨s, hs, rfl⟩ | ho
  · have h60 := hk.ztn s
    rw [q_knowsS_n hA hk hs, w_1]
    by_cases q : ∃ u, u < 4 ∧ a2 = tShifts u
    · obtain ⟨u, hu, rfl⟩ := q
      have e := sh_t (tn S s) (by omega) u hu
      rw [q_isShift_n hu, w_1, w_in (vi (show s < 36 by omega) (by omega)), nI_clamp (show s < 2 ^ 31 by omega), hA.ztn (by omega)]
      by_cases hi : inr S s u
      · rw [if_pos hi] at e
        have hi1 := hi.1
        have hi2 := hi.2
        rw [e, q_isTone_n (by omega), w_1]
        refine k_songsA hA hk hs hu hi (fun σ1 m1 hA1 => ?_)
        (try dsimp only)
        unfold v_X12_otherwise
        have hB1 := hB.mS m1
        rw [q_isString_n hB1 hk hs, w_1, q_isTurn_n hu, w_1, w_in (vi (show s < 36 by omega) (by omega)), nI_clamp (show s < 2 ^ 31 by omega), hB1.ztn (by omega), e, q_w60_n (by omega), w_1]
        exact k_songsB hB1 hk hs hu hi (fun σ2 c2 hB2 => ⟨rfl, RRf hA1 c2 hB2 hk⟩)
      · rw [if_neg hi] at e
        rw [q_isTone_o e, w_0]
        (try dsimp only)
        unfold v_X12_otherwise
        rw [q_isString_n hB hk hs, w_1, q_isTurn_n hu, w_1, w_in (vi (show s < 36 by omega) (by omega)), nI_clamp (show s < 2 ^ 31 by omega), hB.ztn (by omega), q_w60_o e, w_0]
        exact ⟨rfl, fin⟩
    · have q2 : ∀ u, u < 4 → a2 ≠ tShifts u := fun u hu z => q ⟨u, hu, z⟩
      rw [q_isShift_o q2, w_0]
      (try dsimp only)
      unfold v_X12_otherwise
      rw [q_isString_n hB hk hs, w_1, q_isTurn_o q2, w_0]
      exact ⟨rfl, fin⟩
  · rw [q_knowsS_o hA ho, w_0]
    (try dsimp only)
    unfold v_X12_otherwise
    rw [q_isString_o hB ho, w_0]
    exact ⟨rfl, fin⟩
theorem k_bestA2 (hA : A σ S) (hk : ok S) {w : Int32} {K140 : Int32 → Int32 → Int32 → Mem → Prop} (K : ∀ σ', mS σ σ' → A σ' S → K140 (nI (bsS S (nS S)).1) (bsS S (nS S)).2.1 (bsS S (nS S)).2.2 σ') : v_X11_best_L40 w K140 P 5000 (nI (pc 12 (plb S))) (-9) 0 0 σ := by
  have h36 := hk.znS
  refine lp_i (fun m s mem => v_X11_best_L40 w K140 P m (nI (bsS S s).1) (bsS S s).2.1 (bsS S s).2.2 (nI s) mem) (fun s mem => mS σ mem ∧ A mem S) (nS S) (fun m mem hI => ?_) (fun m s mem hs hI ih => ?_) 5000 0 _ (by omega) (by omega) ⟨mS.rf, hA⟩
  · obtain ⟨m1, hA1⟩ := hI
    (try dsimp only)
    rw [v_X11_best_L40, hA1.znS, w_t (nI_le (Nat.le_refl _) (by omega))]
    exact K mem m1 hA1
  · obtain ⟨m1, hA1⟩ := hI
    have h60 := hk.ztn s
    (try dsimp only)
    rw [v_X11_best_L40, hA1.znS, w_f (nI_ge hs (by omega)), nI_1]
    refine lp_i (fun n u mem => v_X11_best_L65 w (nI s) (nI 4) _ P n (nI (itS S s (bsS S s) u).1) (itS S s (bsS S s) u).2.1 (itS S s (bsS S s) u).2.2 (nI u) mem) (fun u mem => mS σ mem ∧ A mem S) 4 (fun n mem hI => ?_) (fun n u mem hu hI ih2 => ?_) 5000 0 _ (by omega) (by omega) ⟨m1, hA1⟩
    · obtain ⟨m2, hA2⟩ := hI
      (try dsimp only)
      rw [v_X11_best_L65, w_t (by decide)]
      exact ih mem ⟨m2, hA2⟩
    · obtain ⟨m2, hA2⟩ := hI
      have b12 := itS_12 (S := S) (s := s) (bsS_12 S s) u
      have e := sh_t (tn S s) (by omega) u hu
      have nx : itS S s (bsS S s) (u + 1) = st1 S s u (itS S s (bsS S s) u) := rfl
      unfold st1 at nx
      (try dsimp only)
      rw [v_X11_best_L65, w_f (nI_ge hu (by omega)), w_in (vi hu (by omega)), w_in (vi (show s < 36 by omega) (by omega)), nI_clamp (show u < 2 ^ 31 by omega), nI_clamp (show s < 2 ^ 31 by omega), hA2.ztn (by omega)]
      by_cases hi : inr S s u
      · rw [if_pos hi] at e
        have hi1 := hi.1
        have hi2 := hi.2
        rw [e, q_isTone_n (by omega), w_1]
        refine k_songsA hA2 hk hs hu hi (fun mem3 m3 hA3 => ?_)
        have k1 := ih2 mem3 ⟨m2.tr m3, hA3⟩
        (try dsimp only at k1)
        rw [nx] at k1
        have s12 : swp S s u ≤ 12 := pc_le 12 _
        unfold v_X11_best_J110
        by_cases z : swp S s u ≤ (itS S s (bsS S s) u).1
        · rw [w_t (nI_le z (by omega)), nI_1]
          rw [if_neg (fun q => by omega)] at k1
          exact k1
        · rw [w_f (nI_ge (by omega) (by omega)), nI_1]
          rw [if_pos ⟨hi, by omega⟩] at k1
          exact k1
      · rw [if_neg hi] at e
        have k1 := ih2 mem ⟨m2, hA2⟩
        (try dsimp only at k1)
        rw [nx, if_neg (fun q => hi q.1)] at k1
        rw [q_isTone_o e, w_0]
        unfold v_X11_best_J110
        rw [w_t (show (0 : Int32) ≤ _ from nI_pos' (by omega)), nI_1]
        exact k1
theorem k_bestB2 (hB : B σ S) (hk : ok S) {w : Int32} {K114 : Int32 → Int32 → Int32 → Mem → Prop} (K : ∀ σ', cS σ σ' → B σ' S → K114 (bsS S (nS S)).2.1 (bsS S (nS S)).2.2 (nI (bsS S (nS S)).1) σ') : v_X12_best_L29 w K114 P 5000 (-9) 0 (nI (pc 12 (plb S))) 0 σ := by
  have h36 := hk.znS
  refine lp_i (fun m s mem => v_X12_best_L29 w K114 P m (bsS S s).2.1 (bsS S s).2.2 (nI (bsS S s).1) (nI s) mem) (fun s mem => cS σ mem ∧ B mem S) (nS S) (fun m mem hI => ?_) (fun m s mem hs hI ih => ?_) 5000 0 _ (by omega) (by omega) ⟨bS.rf.c, hB⟩
  · obtain ⟨m1, hB1⟩ := hI
    (try dsimp only)
    rw [v_X12_best_L29, hB1.znS, w_t (nI_le (Nat.le_refl _) (by omega))]
    exact K mem m1 hB1
  · obtain ⟨m1, hB1⟩ := hI
    have h60 := hk.ztn s
    (try dsimp only)
    rw [v_X12_best_L29, hB1.znS, w_f (nI_ge hs (by omega)), nI_1]
    refine lp_i (fun n k mem => v_X12_best_L42 w (nI s) _ P n (itS S s (bsS S s) (uk k)).2.1 (itS S s (bsS S s) (uk k)).2.2 (nI (itS S s (bsS S s) (uk k)).1) (nI k - nI 2) mem) (fun k mem => cS σ mem ∧ B mem S) 5 (fun n mem hI => ?_) (fun n k mem hk2 hI ih2 => ?_) 5000 0 _ (by omega) (by omega) ⟨m1, hB1⟩
    · obtain ⟨m2, hB2⟩ := hI
      (try dsimp only)
      rw [v_X12_best_L42, w_t (by decide)]
      exact ih mem ⟨m2, hB2⟩
    · obtain ⟨m2, hB2⟩ := hI
      obtain ⟨t1, t2, t3, t4⟩ := sh_k k hk2
      have b12 := itS_12 (S := S) (s := s) (bsS_12 S s) (uk k)
      (try dsimp only)
      rw [v_X12_best_L42, w_f t1, t4]
      by_cases y : k = 2
      · rw [w_t (t2.mpr y)]
        have k1 := ih2 mem ⟨m2, hB2⟩
        (try dsimp only at k1)
        rw [show uk (k + 1) = uk k from by rw [y]; rfl] at k1
        exact k1
      · rw [w_f (fun q => y (t2.mp q))]
        obtain ⟨t5, hu, t6⟩ := t3 y
        have e := sh_t (tn S s) (by omega) (uk k) hu
        have nx : itS S s (bsS S s) (uk k + 1) = st1 S s (uk k) (itS S s (bsS S s) (uk k)) := rfl
        unfold st1 at nx
        rw [t5, w_in (vi (show s < 36 by omega) (by omega)), nI_clamp (show s < 2 ^ 31 by omega), hB2.ztn (by omega)]
        by_cases hi : inr S s (uk k)
        · rw [if_pos hi] at e
          have hi1 := hi.1
          have hi2 := hi.2
          rw [e, q_w60_n (by omega), w_1]
          refine k_songsB hB2 hk hs hu hi (fun mem3 m3 hB3 => ?_)
          have k1 := ih2 mem3 ⟨m2.tr m3, hB3⟩
          (try dsimp only at k1)
          rw [t6, nx] at k1
          have s12 : swp S s (uk k) ≤ 12 := pc_le 12 _
          by_cases z : swp S s (uk k) ≤ (itS S s (bsS S s) (uk k)).1
          · rw [w_t (nI_le z (by omega))]
            rw [if_neg (fun q => by omega)] at k1
            exact k1
          · rw [w_f (nI_ge (by omega) (by omega))]
            rw [if_pos ⟨hi, by omega⟩] at k1
            exact k1
        · rw [if_neg hi] at e
          have k1 := ih2 mem ⟨m2, hB2⟩
          (try dsimp only at k1)
          rw [t6, nx, if_neg (fun q => hi q.1)] at k1
          rw [q_w60_o e, w_0]
          exact k1
theorem t_best (h : RR σ) (a1 : Int32) : v_X11_best a1 σ (fun r σ => v_X12_best a1 σ (fun r2 σ => r = r2 ∧ RR σ)) := by
  obtain ⟨S, hA, hB, hk⟩ := h
  unfold v_X11_best
  rw [w_2G]
  cases e : gd2 a1
  · rw [if_neg (by decide)]
    (try dsimp only)
    unfold v_X12_best
    rw [q_w2_o (gd2_o e), w_0]
    exact ⟨rfl, S, hA, hB, hk⟩
  · obtain ⟨hw, e2⟩ := gd2_n e
    generalize a1.toNatClampNeg = w at hw e2
    subst e2
    rw [if_pos (by rfl)]
    refine k_look hA hk (fun σ1 a1 hA1 g1 => k_playedA ⟨hA1, g1⟩ hk (fun σ2 q2 h2 => ?_))
    rw [q_bcN (plb_lt hk)]
    refine k_bestA2 h2.1 hk (fun σ3 m3 hA3 => ?_)
    have hB3 := hB.mS ((a1.m.tr q2.a.m).tr m3)
    have p := plb_lt hk
    have model : ∀ r : Int32, r = (if w = 0 then (bsS S (nS S)).2.1 else if w = 1 then (bsS S (nS S)).2.2 else if (bsS S (nS S)).2.1 = -9 then -9 else nI (bsS S (nS S)).1) → v_X12_best (nI w) σ3 (fun r2 σ => r = r2 ∧ RR σ) := fun r hr => by
      unfold v_X12_best
      rw [q_w2_n hw, w_1]
      refine k_playedB hB3 hk (fun σ4 b4 hB4 _ => ?_)
      rw [q_countOf (by omega)]
      refine k_bestB2 hB4 hk (fun σ5 c5 hB5 => ?_)
      have f : RR σ5 := RRf hA3 (b4.c.tr c5) hB5 hk
      rcases (show w = 0 ∨ w = 1 ∨ w = 2 by omega) with q | q | q
      · subst q
        rw [w_t (by decide)]
        exact ⟨hr, f⟩
      · subst q
        rw [w_f (by decide), w_t (by decide)]
        exact ⟨hr, f⟩
      · subst q
        rw [w_f (by decide), w_f (by decide), w_ite]
        rw [if_neg (by decide), if_neg (by decide)] at hr
        split
        · next z => rw [if_pos z] at hr; exact ⟨hr, f⟩
        · next z => rw [if_neg z] at hr; exact ⟨hr, f⟩
    rcases (show w = 0 ∨ w = 1 ∨ w = 2 by omega) with q | q | q
    · subst q
      rw [w_t (by decide)]
      exact model _ rfl
    · subst q
      rw [w_f (by decide), w_t (by decide)]
      exact model _ rfl
    · subst q
      rw [w_f (by decide), w_f (by decide), w_ite]
      split
      · next z => exact model _ (by rw [if_neg (by decide), if_neg (by decide), if_pos z])
      · next z => exact model _ (by rw [if_neg (by decide), if_neg (by decide), if_neg z])
end
