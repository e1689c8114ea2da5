-- ===== hold, holds, step, misses, bestKey: both sides =====
def hpc (S : St) (c : Nat) : Nat := if hof S c = 0 then 0 else if nB S < hof S c then 2 else 1
theorem gls_pc : ∀ n, n ≤ 12 → ∀ g, g < 79 → g < (gls n).length → pc 12 ((gls n).getD g 0) = if g = 0 then 0 else if n < g then 2 else 1 := by decide +kernel
/-- what step answers -/
def stp (S : St) (g i w : Nat) : Int32 := if w = 0 then nI (trn (gc S g i) (gk S g)) else if w = 1 then (if gn S g i = 0 then -9 else tI (gn S g i) + kI (gk S g)) else if w = 2 then bI (mc S g (gk S g) i) else bI (mn S g (gk S g) i)
def bsk (S : St) (g a b : Nat) : Nat := if msw S g b 2 < msw S g a 2 then b else a
def bkj (S : St) (g : Nat) : Nat → Nat
  | 0 => 6
  | n + 1 => bsk S g (if n + 1 ≤ 5 then bsk S g (bkj S g n) (6 + (n + 1)) else bkj S g n) (6 - (n + 1))
theorem bsk_lt {S : St} {g a b : Nat} (ha : a < 12) (hb : b < 12) : bsk S g a b < 12 := by
  unfold bsk; split <;> omega
theorem bkj_lt (S : St) (g : Nat) : ∀ n, n ≤ 6 → bkj S g n < 12
  | 0, _ => by show 6 < 12; omega
  | n + 1, h => by
    have := bkj_lt S g n (by omega)
    rw [bkj]
    by_cases q : n + 1 ≤ 5
    · rw [if_pos q]; exact bsk_lt (bsk_lt this (by omega)) (by omega)
    · rw [if_neg q]; exact bsk_lt this (by omega)
theorem kI_neg : ∀ n, n < 6 → -nI (n + 1) = kI (6 - (n + 1)) := by decide
theorem kI_pos : ∀ n, n < 5 → nI (n + 1) = kI (6 + (n + 1)) := by decide
section
variable {σ : Mem} {S : St} {P : Int32 → Mem → Prop} {PV : Mem → Prop} {PJ : Int64 → Mem → Prop}
theorem t_hold (h : RR σ) (a1 : Int32) : v_X11_hold a1 σ (fun r σ => v_X12_hold a1 σ (fun r2 σ => r = r2 ∧ RR σ)) := by
  obtain ⟨S, hA, hB, hk⟩ := h
  unfold v_X11_hold
  rcases rg a1 96 (by omega) with ⟨c, hc, rfl⟩ | ho
  · have h79 := hof_79 hk c
    rw [q_isChord_n hc, w_1]
    refine k_look hA hk (fun σ1 a1 hA1 g1 => k_holdOf ⟨hA1, g1⟩ hk hc (fun σ2 q2 h2 => ?_))
    have hB2 := hB.mS (a1.m.tr q2.a.m)
    by_cases e : hof S c = 0
    · rw [w_t (by rw [e]; rfl)]
      (try dsimp only)
      unfold v_X12_hold
      rw [q_isChordM_n hc, w_1]
      refine k_findHolds hB2 hk (fun σ3 b3 hB3 g3 => ?_)
      rw [w_in (vi hc (by omega)), nI_clamp (show c < 2 ^ 31 by omega), g3.2 c hc, if_pos e, w_t (by decide)]
      exact ⟨rfl, RRf h2.1 b3.c hB3 hk⟩
    · rw [w_f (by rw [i_eq0 (by omega)]; exact e), w_in (vi h79 (by omega)), nI_clamp (show hof S c < 2 ^ 31 by omega), (h2.2.1.2 _ (hof_lt S c)).1]
      (try dsimp only)
      unfold v_X12_hold
      rw [q_isChordM_n hc, w_1]
      refine k_findHolds hB2 hk (fun σ3 b3 hB3 g3 => ?_)
      rw [w_in (vi hc (by omega)), nI_clamp (show c < 2 ^ 31 by omega), g3.2 c hc, if_neg e, w_f (by rw [i_eqm (by omega) (by decide)]; exact id), w_in (vi hc (by omega)), w_in (vi h79 (by omega)), nI_clamp (show hof S c < 2 ^ 31 by omega), (g3.1.2 _ (hof_lt S c)).1]
      exact ⟨rfl, RRf h2.1 b3.c hB3 hk⟩
  · rw [q_isChord_o ho, w_0]
    (try dsimp only)
    unfold v_X12_hold
    rw [q_isChordM_o ho, w_0]
    exact ⟨rfl, S, hA, hB, hk⟩
theorem k_holdsA (h : AG σ S) (hk : ok S) {w : Nat} (hw : w < 3) (K : ∀ σ', hS σ σ' → AG σ' S → P (nI (fb_ct (fun c => hpc S c == w) 96)) σ') : v_X11_holds_L20 (nI w) P 5000 0 0 σ := by
  refine lp_i (fun m c s => v_X11_holds_L20 (nI w) P m (nI (fb_ct (fun c => hpc S c == w) c)) (nI c) s) (fun c s => hS σ s ∧ AG s S) 96 (fun m s hI => ?_) (fun m c s hc hI ih => ?_) 5000 0 _ (by omega) (by omega) ⟨hS.rf, h⟩
  · obtain ⟨q1, h1⟩ := hI
    (try dsimp only)
    rw [v_X11_holds_L20, w_t (by decide)]
    exact K s q1 h1
  · obtain ⟨q1, h1⟩ := hI
    have h79 := hof_79 hk c
    (try dsimp only)
    rw [v_X11_holds_L20, w_f (show ¬ (96 : Int32) ≤ nI c from nI_ge (b := 96) hc (by omega))]
    refine k_holdOf h1 hk hc (fun σ2 q2 h2 => ?_)
    have k1 := ih σ2 ⟨q1.tr q2, h2⟩
    (try dsimp only at k1)
    have epc : pc 12 (gst S (hof S c)) = hpc S c := gls_pc _ hk.znB _ h79 (hof_lt S c)
    have l3 : hpc S c < 3 := by unfold hpc; split <;> (try split) <;> omega
    rw [fb_ct_succ] at k1
    rw [w_in (vi h79 (by omega)), nI_clamp (show hof S c < 2 ^ 31 by omega), (h2.2.1.2 _ (hof_lt S c)).1, show (gls (nB S)).getD (hof S c) 0 = gst S (hof S c) from rfl, q_bcN (gst_lt hk h79), epc]
    by_cases e : hpc S c = w
    · rw [w_t (by rw [e]), nI_1, nI_1]
      rw [show (hpc S c == w) = true from beq_iff_eq.mpr e] at k1
      exact k1
    · rw [w_f (by rw [i_eq (by omega) (by omega)]; exact e), nI_1]
      rw [show (hpc S c == w) = false from beq_false_of_ne e] at k1
      exact k1
theorem q_holdsB (hB : B σ S) (hG : gpB σ S) (hk : ok S) {w : Nat} (hw : w < 3) : v_X12_holds_L20 (nI w) P 5000 0 0 σ = P (nI (fb_ct (fun c => hpc S c == w) 96)) σ := by
  refine lp_c (fun m c => v_X12_holds_L20 (nI w) P m (nI (fb_ct (fun c => hpc S c == w) c)) (nI c) σ) _ 96 (fun m => ?_) (fun m c hc => ?_) 5000 0 (by omega) (by omega)
  · (try dsimp only)
    rw [v_X12_holds_L20, w_t (by decide)]
  · have h79 := hof_79 hk c
    have h12 := hk.znB
    (try dsimp only)
    rw [v_X12_holds_L20, w_f (show ¬ (96 : Int32) ≤ nI c from nI_ge (b := 96) hc (by omega)), w_in (vi hc (by omega)), nI_clamp (show c < 2 ^ 31 by omega), hG.2 c hc, hB.znB]
    have J : ∀ x : Nat, x < 3 → hpc S c = x → v_X12_holds_J59 (v_X12_holds_L20 (nI w) P m) P (nI w) (nI (fb_ct (fun c => hpc S c == w) c)) (nI c) (nI x) σ = v_X12_holds_L20 (nI w) P m (nI (fb_ct (fun c => hpc S c == w) (c + 1))) (nI (c + 1)) σ := fun x hx e => by
      unfold v_X12_holds_J59
      rw [fb_ct_succ, e]
      by_cases q : x = w
      · rw [w_t (by rw [q]), nI_1, nI_1, show (x == w) = true from beq_iff_eq.mpr q]; rfl
      · rw [w_f (by rw [i_eq (by omega) (by omega)]; exact q), show (x == w) = false from beq_false_of_ne q, show ∀ x : Int32, x + 0 = x from fun x => by simp, nI_1]; rfl
    by_cases e : hof S c = 0
    · rw [if_pos e, w_t (by decide)]
      exact J 0 (by omega) (by unfold hpc; rw [if_pos e])
    · rw [if_neg e, w_f (by rw [i_eqm (by omega) (by decide)]; exact id)]
      by_cases q : nB S < hof S c
      · rw [w_t (nI_lt q (by omega))]
        exact J 2 (by omega) (by unfold hpc; rw [if_neg e, if_pos q])
      · rw [w_f (nI_nlt (by omega) (by omega))]
        exact J 1 (by omega) (by unfold hpc; rw [if_neg e, if_neg q])
theorem t_holds (h : RR σ) (a1 : Int32) : v_X11_holds a1 σ (fun r σ => v_X12_holds a1 σ (fun r2 σ => r = r2 ∧ RR σ)) := by
  obtain ⟨S, hA, hB, hk⟩ := h
  unfold v_X11_holds
  rw [w_2G]
  cases e : gd2 a1
  · rw [if_neg (by decide)]
    (try dsimp only)
    unfold v_X12_holds
    rw [q_w2_o (gd2_o e), w_0]
    exact ⟨rfl, S, hA, hB, hk⟩
  · obtain ⟨hw, e2⟩ := gd2_n e
    generalize a1.toNatClampNeg = w at hw e2
    subst e2
    rw [if_pos (by rfl)]
    refine k_look hA hk (fun σ1 a1 hA1 g1 => k_holdsA ⟨hA1, g1⟩ hk hw (fun σ2 q2 h2 => ?_))
    (try dsimp only)
    unfold v_X12_holds
    rw [q_w2_n hw, w_1]
    refine k_findHolds (hB.mS (a1.m.tr q2.a.m)) hk (fun σ3 b3 hB3 g3 => ?_)
    rw [q_holdsB hB3 g3 hk hw]
    exact ⟨rfl, RRf h2.1 b3.c hB3 hk⟩
-- step
theorem q_stepA_n (h : A σ S) (hk : ok S) {g i : Nat} (hg : g < nG S) (hi : i < gl S g) : v_X11_hasStep (nI g) (nI i) σ P = P 1 σ := by
  have hn := hk.znG
  have h24 := hk.zgl g
  unfold v_X11_hasStep
  rw [q_knowsG_n h hk hg, w_1, w_f (nI_pos (by omega)), w_in (vi (show g < 8 by omega) (by omega)), nI_clamp (by omega), h.zgl (by omega), w_f (nI_ge hi (by omega))]
theorem q_stepA_o (h : A σ S) (hk : ok S) {g : Nat} {a : Int32} (hg : g < nG S) (ho : oo a (gl S g)) : v_X11_hasStep (nI g) a σ P = P 0 σ := by
  have hn := hk.znG
  unfold v_X11_hasStep
  rw [q_knowsG_n h hk hg, w_1, w_in (vi (show g < 8 by omega) (by omega)), nI_clamp (by omega), h.zgl (by omega), w_oo ho]
theorem q_stepA_g (h : A σ S) (hk : ok S) {a b : Int32} (ho : oo a (nG S)) : v_X11_hasStep a b σ P = P 0 σ := by
  unfold v_X11_hasStep
  rw [q_knowsG_o h ho, w_0]
theorem q_stepB_n (h : B σ S) (hk : ok S) {g i : Nat} (hg : g < nG S) (hi : i < gl S g) : v_X12_isStep (nI g) (nI i) σ P = P 1 σ := by
  have hn := hk.znG
  have h24 := hk.zgl g
  unfold v_X12_isStep
  rw [q_isSong_n h hk hg, w_1, w_f (nI_pos (by omega)), w_in (vi (show g < 8 by omega) (by omega)), nI_clamp (by omega), h.zgl (by omega), w_f (nI_ge hi (by omega))]
theorem q_stepB_o (h : B σ S) (hk : ok S) {g : Nat} {a : Int32} (hg : g < nG S) (ho : oo a (gl S g)) : v_X12_isStep (nI g) a σ P = P 0 σ := by
  have hn := hk.znG
  unfold v_X12_isStep
  rw [q_isSong_n h hk hg, w_1, w_in (vi (show g < 8 by omega) (by omega)), nI_clamp (by omega), h.zgl (by omega), w_oo ho]
theorem q_stepB_g (h : B σ S) {a b : Int32} (ho : oo a (nG S)) : v_X12_isStep a b σ P = P 0 σ := by
  unfold v_X12_isStep
  rw [q_isSong_o h ho, w_0]
theorem m_step (hB : B σ S) (hk : ok S) {g i w : Nat} (hg : g < nG S) (hi : i < gl S g) (hw : w < 4) (K : ∀ σ', bS σ σ' → B σ' S → P (stp S g i w) σ') : v_X12_step (nI g) (nI i) (nI w) σ P := by
  have hn := hk.znG
  have h24 := hk.zgl g
  have hgk := hk.zgk g
  unfold v_X12_step
  rw [q_stepB_n hB hk hg hi, w_1, q_w3_n hw, w_1]
  refine k_findHolds hB hk (fun σ3 b3 hB3 g3 => ?_)
  have k1 := K σ3 b3 hB3
  unfold stp at k1
  rw [w_in (vi (show g < 8 by omega) (by omega)), nI_clamp (by omega), hB3.zgk (by omega)]
  unfold v_X12_step_J111
  rcases (show w = 0 ∨ w = 1 ∨ w = 2 ∨ w = 3 by omega) with q | q | q | q
  · subst q
    rw [w_t (by decide), q_chordAt hB3 hk (by omega) (by omega) (by omega)]
    exact k1
  · subst q
    rw [w_f (by decide), w_t (by decide), q_hasNoteB hB3 hk (by omega) (by omega), w_ite]
    rw [if_neg (by omega), if_pos (by rfl)] at k1
    by_cases e : gn S g i = 0
    · rw [if_pos (by rw [e]; rfl)]; rw [if_pos e] at k1; exact k1
    · rw [if_neg (by rw [show (gn S g i != 0) = true by simpa using e]; decide), q_noteAt hB3 (by omega) (by omega)]; rw [if_neg e] at k1; exact k1
  · subst q
    rw [w_f (by decide), w_f (by decide), w_f (by decide), q_missC hB3 g3 hk (by omega) (by omega) (by omega)]
    exact k1
  · subst q
    rw [w_f (by decide), w_f (by decide), w_t (by decide), q_missN hB3 g3 hk (by omega) (by omega) (by omega)]
    exact k1
theorem t_step (h : RR σ) (a1 a2 a3 : Int32) : v_X11_step a1 a2 a3 σ (fun r σ => v_X12_step a1 a2 a3 σ (fun r2 σ => r = r2 ∧ RR σ)) := by
  obtain ⟨S, hA, hB, hk⟩ := h
  have hn := hk.znG
  have fin : RR σ := ⟨S, hA, hB, hk⟩
  unfold v_X11_step
  rcases rg a1 (nG S) (by omega) with ⟨g, hg, rfl⟩ | ho
  · have h24 := hk.zgl g
    have hgk := hk.zgk g
    rcases rg a2 (gl S g) (by omega) with ⟨i, hi, rfl⟩ | ho
    · rw [q_stepA_n hA hk hg hi, w_1, w_in (vi (show g < 8 by omega) (by omega)), nI_clamp (by omega)]
      rcases rg a3 4 (by omega) with ⟨w, hw, rfl⟩ | ho
      · rcases (show w = 0 ∨ w = 1 ∨ w = 2 ∨ w = 3 by omega) with q | q | q | q
        · subst q
          rw [w_t (by decide), hA.zgk (by omega), q_chordIn hA hk (by omega) (by omega) (by omega)]
          exact m_step hB hk hg hi (by omega) (fun σ3 b3 hB3 => ⟨rfl, RRf hA b3.c hB3 hk⟩)
        · subst q
          rw [w_f (by decide), w_t (by decide), q_hasNoteA hA hk (by omega) (by omega), w_ite]
          by_cases e : gn S g i = 0
          · rw [if_pos (by rw [e]; rfl)]
            exact m_step hB hk hg hi (w := 1) (by omega) (fun σ3 b3 hB3 => ⟨by unfold stp; rw [if_neg (by omega), if_pos rfl, if_pos e], RRf hA b3.c hB3 hk⟩)
          · rw [if_neg (by rw [show (gn S g i != 0) = true by simpa using e]; decide), hA.zgk (by omega), q_noteIn hA (by omega) (by omega)]
            exact m_step hB hk hg hi (w := 1) (by omega) (fun σ3 b3 hB3 => ⟨by unfold stp; rw [if_neg (by omega), if_pos rfl, if_neg e], RRf hA b3.c hB3 hk⟩)
        · subst q
          rw [w_f (by decide), w_f (by decide), w_t (by decide)]
          refine k_look hA hk (fun σ1 a1 hA1 g1 => ?_)
          rw [hA1.zgk (by omega)]
          refine k_missC ⟨hA1, g1⟩ hk (by omega) (by omega) (by omega) (fun σ2 q2 h2 => ?_)
          rw [q_asNumber]
          exact m_step (hB.mS (a1.m.tr q2.a.m)) hk hg hi (w := 2) (by omega) (fun σ3 b3 hB3 => ⟨rfl, RRf h2.1 b3.c hB3 hk⟩)
        · subst q
          rw [w_f (by decide), w_f (by decide), w_f (by decide), w_t (by decide)]
          refine k_look hA hk (fun σ1 a1 hA1 g1 => ?_)
          rw [hA1.zgk (by omega)]
          refine k_missN ⟨hA1, g1⟩ hk (by omega) (by omega) (by omega) (fun σ2 q2 h2 => ?_)
          rw [q_asNumber]
          exact m_step (hB.mS (a1.m.tr q2.a.m)) hk hg hi (w := 3) (by omega) (fun σ3 b3 hB3 => ⟨rfl, RRf h2.1 b3.c hB3 hk⟩)
      · have o : ∀ j, j < 4 → ¬ a3 = nI j := fun j hj => oo_no ho (by omega) hj
        rw [w_f (show ¬ a3 = 0 from o 0 (by omega)), w_f (show ¬ a3 = 1 from o 1 (by omega)), w_f (show ¬ a3 = 2 from o 2 (by omega)), w_f (show ¬ a3 = 3 from o 3 (by omega))]
        (try dsimp only)
        unfold v_X12_step
        rw [q_stepB_n hB hk hg hi, w_1, q_w3_o ho, w_0]
        exact ⟨rfl, fin⟩
    · rw [q_stepA_o hA hk hg ho, w_0]
      (try dsimp only)
      unfold v_X12_step
      rw [q_stepB_o hB hk hg ho, w_0]
      exact ⟨rfl, fin⟩
  · rw [q_stepA_g hA hk ho, w_0]
    (try dsimp only)
    unfold v_X12_step
    rw [q_stepB_g hB ho, w_0]
    exact ⟨rfl, fin⟩
-- misses
theorem m_misses (hB : B σ S) (hk : ok S) {g w : Nat} (hg : g < nG S) (hw : w < 3) (K : ∀ σ', bS σ σ' → B σ' S → P (nI (msw S g (gk S g) w)) σ') : v_X12_misses (nI g) (nI w) σ P := by
  have hn := hk.znG
  have hgk := hk.zgk g
  unfold v_X12_misses
  rw [q_isSong_n hB hk hg, w_1, q_w4_n (by omega), w_1, w_t (show nI w ≤ (2 : Int32) from nI_le (b := 2) (by omega) (by omega))]
  refine k_findHolds hB hk (fun σ3 b3 hB3 g3 => ?_)
  rw [w_in (vi (show g < 8 by omega) (by omega)), nI_clamp (by omega), hB3.zgk (by omega), q_missesOf hB3 g3 hk (by omega) (by omega) hw]
  exact K σ3 b3 hB3
theorem t_misses (h : RR σ) (a1 a2 : Int32) : v_X11_misses a1 a2 σ (fun r σ => v_X12_misses a1 a2 σ (fun r2 σ => r = r2 ∧ RR σ)) := by
  obtain ⟨S, hA, hB, hk⟩ := h
  have hn := hk.znG
  unfold v_X11_misses
  rcases rg a1 (nG S) (by omega) with ⟨g, hg, rfl⟩ | ho
  · have h24 := hk.zgl g
    have hgk := hk.zgk g
    rw [q_knowsG_n hA hk hg, w_1, w_in (vi (show g < 8 by omega) (by omega)), nI_clamp (by omega)]
    refine k_look hA hk (fun σ1 a1 hA1 g1 => ?_)
    have hB1 := hB.mS a1.m
    rw [hA1.zgk (by omega), hA1.zgl (by omega)]
    rcases rg a2 5 (by omega) with ⟨w, hw, rfl⟩ | ho
    · rcases (show w = 0 ∨ w = 1 ∨ w = 2 ∨ w = 3 ∨ w = 4 by omega) with q | q | q | q | q
      · subst q
        rw [w_t (by decide)]
        exact k_missedC ⟨hA1, g1⟩ hk (by omega) (by omega) (fun σ2 q2 h2 => m_misses (hB1.mS q2.a.m) hk hg (w := 0) (by omega) (fun σ3 b3 hB3 => ⟨by unfold msw; rw [if_pos (by omega), if_neg (by omega), Nat.add_zero], RRf h2.1 b3.c hB3 hk⟩))
      · subst q
        rw [w_f (by decide), w_t (by decide)]
        exact k_missedN ⟨hA1, g1⟩ hk (by omega) (by omega) (fun σ2 q2 h2 => m_misses (hB1.mS q2.a.m) hk hg (w := 1) (by omega) (fun σ3 b3 hB3 => ⟨by unfold msw; rw [if_neg (by omega), if_pos (by omega), Nat.zero_add], RRf h2.1 b3.c hB3 hk⟩))
      · subst q
        rw [w_f (by decide), w_f (by decide), w_t (by decide)]
        exact k_missed ⟨hA1, g1⟩ hk (by omega) (by omega) (fun σ2 q2 h2 => m_misses (hB1.mS q2.a.m) hk hg (w := 2) (by omega) (fun σ3 b3 hB3 => ⟨rfl, RRf h2.1 b3.c hB3 hk⟩))
      · subst q
        rw [w_f (by decide), w_f (by decide), w_f (by decide), w_t (by decide)]
        (try dsimp only)
        unfold v_X12_misses
        rw [q_isSong_n hB1 hk hg, w_1, q_w4_n (by omega), w_1, w_f (by decide), w_t (by decide), w_in (vi (show g < 8 by omega) (by omega)), nI_clamp (by omega), hB1.zgl (by omega)]
        exact ⟨rfl, S, hA1, hB1, hk⟩
      · subst q
        rw [w_f (by decide), w_f (by decide), w_f (by decide), w_f (by decide), w_t (by decide)]
        (try dsimp only)
        unfold v_X12_misses
        rw [q_isSong_n hB1 hk hg, w_1, q_w4_n (by omega), w_1, w_f (by decide), w_f (by decide), w_in (vi (show g < 8 by omega) (by omega)), nI_clamp (by omega), hB1.zgk (by omega)]
        exact ⟨rfl, S, hA1, hB1, hk⟩
    · have o : ∀ j, j < 5 → ¬ a2 = nI j := fun j hj => oo_no ho (by omega) hj
      rw [w_f (show ¬ a2 = 0 from o 0 (by omega)), w_f (show ¬ a2 = 1 from o 1 (by omega)), w_f (show ¬ a2 = 2 from o 2 (by omega)), w_f (show ¬ a2 = 3 from o 3 (by omega)), w_f (show ¬ a2 = 4 from o 4 (by omega))]
      (try dsimp only)
      unfold v_X12_misses
      rw [q_isSong_n hB1 hk hg, w_1, q_w4_o ho, w_0]
      exact ⟨rfl, S, hA1, hB1, hk⟩
  · rw [q_knowsG_o hA ho, w_0]
    (try dsimp only)
    unfold v_X12_misses
    rw [q_isSong_o hB ho, w_0]
    exact ⟨rfl, S, hA, hB, hk⟩
-- bestKey
theorem msw_lt (hk : ok S) (g j w : Nat) : msw S g j w < 2 ^ 31 := by
  have a := fb_ct_le (mc S g j) (gl S g)
  have b := fb_ct_le (mn S g j) (gl S g)
  have c := hk.zgl g
  unfold msw
  split <;> split <;> omega
theorem k_cmp (h : AG σ S) (hk : ok S) {g a b : Nat} (hg : g < 8) (ha : a < 12) (hb : b < 12) {X Y : Mem → Prop} (K : ∀ σ', hS σ σ' → AG σ' S → (if msw S g b 2 < msw S g a 2 then Y σ' else X σ')) : v_X4_missed (bG + g) (kI b) σ (fun r s => v_X4_missed (bG + g) (kI a) s (fun r2 s => (r2 ≤ r → X s) ∧ (¬ r2 ≤ r → Y s))) := by
  refine k_missed h hk hg hb (fun σ1 q1 h1 => k_missed h1 hk hg ha (fun σ2 q2 h2 => ?_))
  have k1 := K σ2 (q1.tr q2) h2
  have := msw_lt hk g a 2
  have := msw_lt hk g b 2
  by_cases q : msw S g b 2 < msw S g a 2
  · rw [w_f (nI_ge q (by omega))]; rw [if_pos q] at k1; exact k1
  · rw [w_t (nI_le (by omega) (by omega))]; rw [if_neg q] at k1; exact k1
theorem k_bestA (h : AG σ S) (hk : ok S) {g : Nat} (hg : g < 8) (K : ∀ σ', hS σ σ' → AG σ' S → P (kI (bkj S g 6)) σ') : v_X4_bestKeyOf (bG + g) σ P := by
  unfold v_X4_bestKeyOf
  rw [show (0 : Int32) = kI (bkj S g 0) from kI6.symm]
  refine lp_i (fun m n s => v_X4_bestKeyOf_L4 (bG + g) P m (kI (bkj S g n)) (nI (n + 1)) s) (fun n s => hS σ s ∧ AG s S) 6 (fun m s hI => ?_) (fun m n s hn hI ih => ?_) 5000 0 _ (by omega) (by omega) ⟨hS.rf, h⟩
  · obtain ⟨q1, h1⟩ := hI
    (try dsimp only)
    rw [v_X4_bestKeyOf_L4, w_t (by decide)]
    exact K s q1 h1
  · obtain ⟨q1, h1⟩ := hI
    have l := bkj_lt S g n (by omega)
    have J : ∀ a, a < 12 → ∀ s1, hS s s1 → AG s1 S → bsk S g a (6 - (n + 1)) = bkj S g (n + 1) → v_X4_bestKeyOf_J32 (v_X4_bestKeyOf_L4 (bG + g) P m) P (bG + g) (kI a) (nI (n + 1)) s1 := fun a ha s1 q2 h2 e => by
      unfold v_X4_bestKeyOf_J32
      rw [kI_neg n hn]
      refine k_cmp h2 hk hg ha (by omega) (fun s3 q3 h3 => ?_)
      have k1 := ih s3 ⟨(q1.tr q2).tr q3, h3⟩
      (try dsimp only at k1)
      rw [← e] at k1
      unfold bsk at k1
      rw [nI_1]
      by_cases z : msw S g (6 - (n + 1)) 2 < msw S g a 2
      · rw [if_pos z]; rw [if_pos z] at k1; exact k1
      · rw [if_neg z]; rw [if_neg z] at k1; exact k1
    (try dsimp only)
    rw [v_X4_bestKeyOf_L4, w_f (show ¬ (6 : Int32) < nI (n + 1) from nI_nlt (a := 6) (by omega) (by omega))]
    by_cases q : n + 1 ≤ 5
    · rw [w_f (show ¬ (5 : Int32) < nI (n + 1) from nI_nlt (a := 5) (by omega) (by omega))]
      rw [show v_X4_missed (bG + g) (nI (n + 1)) = v_X4_missed (bG + g) (kI (6 + (n + 1))) from by rw [kI_pos n (by omega)]]
      refine k_cmp h1 hk hg l (by omega) (fun s3 q3 h3 => ?_)
      by_cases z : msw S g (6 + (n + 1)) 2 < msw S g (bkj S g n) 2
      · rw [if_pos z]
        have j1 := J (6 + (n + 1)) (by omega) s3 q3 h3 (by rw [bkj, if_pos q]; congr 1; unfold bsk; rw [if_pos z])
        rw [← kI_pos n (by omega)] at j1
        exact j1
      · rw [if_neg z]
        exact J (bkj S g n) l s3 q3 h3 (by rw [bkj, if_pos q]; congr 1; unfold bsk; rw [if_neg z])
    · rw [w_t (show (5 : Int32) < nI (n + 1) from nI_lt (a := 5) (by omega) (by omega))]
      exact J (bkj S g n) l s hS.rf h1 (by rw [bkj, if_neg q])
theorem q_J57 (hB : B σ S) (hG : gpB σ S) (hk : ok S) {K96 : Int32 → Int32 → Mem → Prop} {x4 x5 : Int32} {g a b : Nat} (hg : g < 8) (hb : b < 12) {kb : Int32 → Int32 → Int32 → Mem → Prop} : v_X12_bestKey_J57 kb K96 P (nI g) (kI a) (nI (msw S g a 2)) x4 x5 (kI b) σ = kb (kI (bsk S g a b)) (nI (msw S g (bsk S g a b) 2)) (x5 + 1) σ := by
  have := msw_lt hk g a 2
  have := msw_lt hk g b 2
  unfold v_X12_bestKey_J57
  rw [w_t (kI_in b hb).2.1, show (2 : Int32) = nI 2 from rfl, q_missesOf hB hG hk hg hb (by omega)]
  unfold bsk
  by_cases z : msw S g b 2 < msw S g a 2
  · rw [w_f (nI_ge z (by omega)), if_pos z]
  · rw [w_t (nI_le (by omega) (by omega)), if_neg z]
theorem q_bestB (hB : B σ S) (hG : gpB σ S) (hk : ok S) {g : Nat} (hg : g < 8) : v_X12_bestKey_L28 (nI g) P 5000 0 (nI (msw S g 6 2)) 1 σ = P (kI (bkj S g 6)) σ := by
  have := lp_c (fun m n => v_X12_bestKey_L28 (nI g) P m (kI (bkj S g n)) (nI (msw S g (bkj S g n) 2)) (nI (n + 1)) σ) (P (kI (bkj S g 6)) σ) 6 (fun m => ?_) (fun m n hn => ?_) 5000 0 (by omega) (by omega)
  · rw [show (0 : Int32) = kI (bkj S g 0) from kI6.symm]; exact this
  · (try dsimp only)
    rw [v_X12_bestKey_L28, w_t (by decide)]
  · have l := bkj_lt S g n (by omega)
    (try dsimp only)
    rw [v_X12_bestKey_L28, w_f (show ¬ (6 : Int32) < nI (n + 1) from nI_nlt (a := 6) (by omega) (by omega)), show (5000 : Nat) = 4997 + 1 + 1 + 1 from rfl, v_X12_bestKey_L38, w_f (by decide), w_t (by decide)]
    by_cases q : n + 1 ≤ 5
    · rw [show v_X12_bestKey_J57 (v_X12_bestKey_L38 (nI g) (nI (n + 1)) (fun x2_8 x3_8 σ_9 => v_X12_bestKey_L28 (nI g) P m x2_8 x3_8 (nI (n + 1) + 1) σ_9) P (4997 + 1 + 1)) (fun x2_8 x3_8 σ_9 => v_X12_bestKey_L28 (nI g) P m x2_8 x3_8 (nI (n + 1) + 1) σ_9) P (nI g) (kI (bkj S g n)) (nI (msw S g (bkj S g n) 2)) (nI (n + 1)) 0 (nI (n + 1)) σ = v_X12_bestKey_J57 (v_X12_bestKey_L38 (nI g) (nI (n + 1)) (fun x2_8 x3_8 σ_9 => v_X12_bestKey_L28 (nI g) P m x2_8 x3_8 (nI (n + 1) + 1) σ_9) P (4997 + 1 + 1)) (fun x2_8 x3_8 σ_9 => v_X12_bestKey_L28 (nI g) P m x2_8 x3_8 (nI (n + 1) + 1) σ_9) P (nI g) (kI (bkj S g n)) (nI (msw S g (bkj S g n) 2)) (nI (n + 1)) 0 (kI (6 + (n + 1))) σ from by rw [← kI_pos n (by omega)]]
      rw [q_J57 hB hG hk hg (by omega), v_X12_bestKey_L38, w_f (by decide), w_f (by decide), kI_neg n hn, q_J57 hB hG hk hg (by omega), v_X12_bestKey_L38, w_t (by decide), nI_1, bkj, if_pos q]
    · have e6 : n = 5 := by omega
      have z : ¬ nI (n + 1) ≤ 5 := by rw [e6]; decide
      rw [show ∀ kb K96 : _, v_X12_bestKey_J57 kb K96 P (nI g) (kI (bkj S g n)) (nI (msw S g (bkj S g n) 2)) (nI (n + 1)) 0 (nI (n + 1)) σ = kb (kI (bkj S g n)) (nI (msw S g (bkj S g n) 2)) (0 + 1) σ from fun kb K96 => by unfold v_X12_bestKey_J57; rw [w_f z]]
      rw [v_X12_bestKey_L38, w_f (by decide), w_f (by decide), kI_neg n hn, q_J57 hB hG hk hg (by omega), v_X12_bestKey_L38, w_t (by decide), nI_1, bkj, if_neg q]
theorem t_bestKey (h : RR σ) (a1 : Int32) : v_X11_bestKey a1 σ (fun r σ => v_X12_bestKey a1 σ (fun r2 σ => r = r2 ∧ RR σ)) := by
  obtain ⟨S, hA, hB, hk⟩ := h
  have hn := hk.znG
  unfold v_X11_bestKey
  rcases rg a1 (nG S) (by omega) with ⟨g, hg, rfl⟩ | ho
  · rw [q_knowsG_n hA hk hg, w_1]
    refine k_look hA hk (fun σ1 a1 hA1 g1 => ?_)
    rw [w_in (vi (show g < 8 by omega) (by omega)), nI_clamp (by omega)]
    refine k_bestA ⟨hA1, g1⟩ hk (by omega) (fun σ2 q2 h2 => ?_)
    (try dsimp only)
    unfold v_X12_bestKey
    rw [q_isSong_n (hB.mS (a1.m.tr q2.a.m)) hk hg, w_1]
    refine k_findHolds (hB.mS (a1.m.tr q2.a.m)) hk (fun σ3 b3 hB3 g3 => ?_)
    rw [show v_X12_missesOf (nI g) 0 2 = v_X12_missesOf (nI g) (kI 6) (nI 2) from by rw [kI6]; rfl, q_missesOf hB3 g3 hk (by omega) (by omega) (by omega), q_bestB hB3 g3 hk (by omega)]
    exact ⟨rfl, RRf h2.1 b3.c hB3 hk⟩
  · rw [q_knowsG_o hA ho, w_0]
    (try dsimp only)
    unfold v_X12_bestKey
    rw [q_isSong_o hB ho, w_0]
    exact ⟨rfl, S, hA, hB, hk⟩
end
