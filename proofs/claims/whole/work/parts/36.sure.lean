-- ===== sure, both sides =====
theorem ct_one (b : Nat) : ∀ n, fb_ct (fun k => decide (k = b)) n = if b < n then 1 else 0
  | 0 => by rw [if_neg (by omega)]; rfl
  | n + 1 => by
    rw [fb_ct_succ, ct_one b n]
    by_cases q : n = b
    · subst q; rw [if_neg (show ¬ n < n by omega), if_pos (show n < n + 1 by omega)]; simp
    · by_cases q2 : b < n
      · rw [if_pos q2, if_pos (show b < n + 1 by omega)]; simp [q]
      · rw [if_neg q2, if_neg (show ¬ b < n + 1 by omega)]; simp [q]
theorem ct_two {p : Nat → Bool} {n a b : Nat} (ha : a < n) (hb : b < n) (hab : a ≠ b) (h1 : p a = true) (h2 : p b = true) : 2 ≤ fb_ct p n := by
  have e : fb_ct (fun k => decide (k = a) || decide (k = b)) n = 2 := by
    rw [fb_ct_or (fun k _ => by simp; omega), ct_one, ct_one, if_pos ha, if_pos hb]
  rw [← e]
  apply fb_ct_sub
  intro k _ h
  rw [Bool.or_eq_true, decide_eq_true_eq, decide_eq_true_eq] at h
  rcases h with h | h
  · rw [h]; exact h1
  · rw [h]; exact h2
def onl (S : St) (b s r : Nat) : Bool := decide (s < rl S r) && rc S r s == 0 && (rs S r).testBit b && decide (fb_ct (whl S (mst S) r s) (nB S) = 1)
def mor (S : St) (b s b' s' : Nat) : Bool := mst S b' s' || (decide (b' = b) && decide (s' = s))
section
variable {σ : Mem} {S : St} {P : Int32 → Mem → Prop} {PV : Mem → Prop} {PJ : Int64 → Mem → Prop}
theorem xpl_mor (hk : ok S) {b s : Nat} (hb : b < nB S) (hs : s < nS S) (hf : fe S b s ≠ 0) (hx : xpl S (mst S) = true) (hm : mst S b s = false) : xpl S (mor S b s) = !ex (onl S b s) (nR S) := by
  unfold xpl at hx ⊢
  rw [Bool.not_eq_true', ex_no] at hx
  congr 1
  apply ex_cong
  intro r hr
  have h0 := hx r hr
  rw [ex_no] at h0
  have wb : (rs S r).testBit b = true → whl S (mst S) r s b = true := fun z => by
    unfold whl; rw [z, hm, show (fe S b s != 0) = true from by simpa using hf]; rfl
  rw [Bool.eq_iff_iff, ex_iff]
  constructor
  · rintro ⟨s', hs', h⟩
    have h1 := h0 s' hs'
    unfold nox at h h1
    rw [Bool.and_eq_true, Bool.not_eq_true', ex_no] at h
    rw [h.1, Bool.true_and, Bool.not_eq_false', ex_iff] at h1
    obtain ⟨b0, hb0, w0⟩ := h1
    have key : ∀ b', b' < 12 → whl S (mst S) r s' b' = true → b' = b ∧ s' = s := fun b' hb' w => by
      have n := h.2 b' hb'
      unfold whl at n w
      rw [Bool.and_eq_true] at w
      rw [w.1, Bool.true_and, Bool.not_eq_false'] at n
      unfold mor at n
      rw [Bool.not_eq_true'] at w
      rw [w.2, Bool.false_or, Bool.and_eq_true, decide_eq_true_eq, decide_eq_true_eq] at n
      exact n
    obtain ⟨e1, e2⟩ := key b0 hb0 w0
    subst e1
    subst e2
    have bt : (rs S r).testBit b0 = true := by
      unfold whl at w0
      rw [Bool.and_eq_true, Bool.and_eq_true] at w0
      exact w0.1.1
    have c1 : fb_ct (whl S (mst S) r s') (nB S) = 1 := by
      rw [fb_ct_cong (q := fun k => decide (k = b0)) (fun k hk2 => ?_), ct_one, if_pos hb]
      have h12 := hk.znB
      cases e : whl S (mst S) r s' k
      · rw [eq_comm, decide_eq_false_iff_not]
        intro z
        rw [z, w0] at e; cases e
      · rw [eq_comm, decide_eq_true_eq]
        exact (key k (by omega) e).1
    unfold onl
    rw [decide_eq_true hs', h.1, bt, decide_eq_true c1]; rfl
  · intro h
    unfold onl at h
    rw [Bool.and_eq_true, Bool.and_eq_true, Bool.and_eq_true, decide_eq_true_eq, decide_eq_true_eq] at h
    obtain ⟨⟨⟨h1, h2⟩, h3⟩, h4⟩ := h
    refine ⟨s, h1, ?_⟩
    unfold nox
    rw [h2, Bool.true_and, Bool.not_eq_true', ex_no]
    intro b' hb'
    cases e : whl S (mor S b s) r s b'
    · rfl
    · exfalso
      unfold whl mor at e
      simp only [Bool.and_eq_true, Bool.not_eq_true', Bool.or_eq_false_iff, decide_true, Bool.and_true, decide_eq_false_iff_not] at e
      have w' : whl S (mst S) r s b' = true := by
        unfold whl
        rw [e.1.1, e.1.2, e.2.1]; rfl
      have hb2 : b' < nB S := by
        rcases Nat.lt_or_ge b' (nB S) with q | q
        · exact q
        · have t := e.1.1; rw [rs_hi hk hr q] at t; cases t
      have := ct_two hb2 hb e.2.2 w' (wb h3)
      omega
theorem q_feltA_n (hA : A σ S) (hk : ok S) {b s : Nat} (hb : b < nB S) (hs : s < nS S) : v_X11_hasFelt (nI b) (nI s) σ P = P (bI (fe S b s != 0)) σ := by
  have h12 := hk.znB
  have h36 := hk.znS
  unfold v_X11_hasFelt
  rw [q_knowsB_n hA hk hb, w_1, q_knowsS_n hA hk hs, w_1, w_in (vi (show b < 12 by omega) (by omega)), nI_clamp (show b < 2 ^ 31 by omega), q_hasFelt hA hk hb (by omega)]
  cases (fe S b s != 0)
  · rw [w_t (by rfl)]; rfl
  · rw [w_f (by decide)]; rfl
theorem q_sureB (hB : B σ S) (hk : ok S) (hM : ∀ b s, b < 12 → s < 36 → σ.1 63 (36 * b + s) = bI (mst S b s)) {b s : Nat} (hb : b < nB S) (hs : s < nS S) : v_X12_sure_L60 (nI b) (nI s) P 5000 0 σ = P (if ex (onl S b s) (nR S) = true then 0 else 2) σ := by
  have hr20 := hk.znR
  have h36 := hk.znS
  have h12 := hk.znB
  have stp : ∀ m r, r < nR S → v_X12_sure_L60 (nI b) (nI s) P (m + 1) (nI r) σ = if onl S b s r = true then P 0 σ else v_X12_sure_L60 (nI b) (nI s) P m (nI (r + 1)) σ := fun m r hr => by
    have hrl := hk.zrl hr
    have hrc := hk.zrc r s
    have hct := fb_ct_le (whl S (mst S) r s) (nB S)
    have j0 : v_X12_sure_J110 (v_X12_sure_L60 (nI b) (nI s) P m) P (nI b) (nI s) (nI r) σ = v_X12_sure_L60 (nI b) (nI s) P m (nI (r + 1)) σ := by
      unfold v_X12_sure_J110 v_X12_sure_J111
      rw [w_t rfl, nI_1]
    rw [v_X12_sure_L60, hB.znR, w_f (nI_ge hr (by omega)), w_in (vi (show r < 20 by omega) (by omega)), nI_clamp (show r < 2 ^ 31 by omega), hB.zrl hr]
    unfold onl
    by_cases q : s < rl S r
    · rw [w_f (nI_ge q (by omega)), i_36, w_in (vi (show 36 * r + s < 720 by omega) (by omega)), nI_clamp (show 36 * r + s < 2 ^ 31 by omega), hB.zrc hr q, w_in (vi (show r < 20 by omega) (by omega)), hB.zrs hr, i_bit (rs_31 hk hr) (by omega), decide_eq_true q, Bool.true_and]
      by_cases q2 : rc S r s = 0
      · rw [w_t (by rw [q2]; rfl), beq_iff_eq.mpr q2, Bool.true_and]
        cases e : (rs S r).testBit b
        · rw [w_f (by decide), j0, Bool.false_and, if_neg (by decide)]
        · rw [w_t (by rfl), Bool.true_and]
          unfold v_X12_sure_J111
          rw [w_f (by decide), q_mayBe hB hk hM hr q, nI_1, w_ite]
          simp only [show (nI (fb_ct (whl S (mst S) r s) (nB S)) = 1) = (fb_ct (whl S (mst S) r s) (nB S) = 1) from i_eq (b := 1) (by omega) (by omega), decide_eq_true_eq]
      · rw [w_f (by rw [i_eq0 (by omega)]; exact q2), j0, beq_false_of_ne q2, Bool.false_and, Bool.false_and, if_neg (by decide)]
    · rw [w_t (nI_le (by omega) (by omega)), j0, decide_eq_false q, Bool.false_and, Bool.false_and, Bool.false_and, if_neg (by decide)]
  have := lp_s (fun m r => v_X12_sure_L60 (nI b) (nI s) P m (nI r) σ) (P 2 σ) (fun _ => P 0 σ) (onl S b s) (nR S) (fun m => ?_) (fun m r hr hp => ?_) (fun m r hr hp => ?_) 5000 0 (by omega) (by omega) (by omega)
  · simp only [ex_first] at this
    rw [show v_X12_sure_L60 (nI b) (nI s) P 5000 0 σ = v_X12_sure_L60 (nI b) (nI s) P 5000 (nI 0) σ from rfl, this]
    cases ex (onl S b s) (nR S) <;> rfl
  · (try dsimp only)
    rw [v_X12_sure_L60, hB.znR, w_t (nI_le (Nat.le_refl _) (by omega))]
  · (try dsimp only)
    rw [stp m r hr, if_pos hp]
  · (try dsimp only)
    rw [stp m r hr, if_neg (by rw [hp]; decide)]
theorem t_sure (h : RR σ) (a1 a2 : Int32) : v_X11_sure a1 a2 σ (fun r σ => v_X12_sure a1 a2 σ (fun r2 σ => r = r2 ∧ RR σ)) := by
  obtain ⟨S, hA, hB, hk⟩ := h
  have h36 := hk.znS
  have h12 := hk.znB
  have fin : RR σ := ⟨S, hA, hB, hk⟩
  unfold v_X11_sure
  rcases rg a1 (nB S) (by omega) with ⟨b, hb, rfl⟩ | ho
  · rcases rg a2 (nS S) (by omega) with ⟨s, hs, rfl⟩ | ho
    · have hfe := hk.zfe b s
      rw [q_feltA_n hA hk hb hs]
      by_cases hf : fe S b s = 0
      · rw [w_t (by rw [hf]; rfl)]
        (try dsimp only)
        unfold v_X12_sure
        rw [q_isBar_n hB hk hb, w_1, q_isString_n hB hk hs, w_1, i_36, w_in (vi (show 36 * b + s < 432 by omega) (by omega)), nI_clamp (show 36 * b + s < 2 ^ 31 by omega), hB.zfe hb (by omega), w_t (by rw [hf]; rfl)]
        exact ⟨rfl, fin⟩
      · rw [w_f (by rw [show (fe S b s != 0) = true from by simpa using hf]; decide)]
        refine k_worn hA hk (fun σ1 a1 hT => ?_)
        have hA1 := hA.aS a1
        have tl : nb (mst S b) 36 < 2 ^ 64 := nb_lt' _ (by omega)
        have model : ∀ (r : Int32) (σ' : Mem), aS σ1 σ' → r = (if xpl S (mst S) = true then (if mst S b s = true then 1 else if ex (onl S b s) (nR S) = true then 0 else 2) else -3) → v_X12_sure (nI b) (nI s) σ' (fun r2 σ => r = r2 ∧ RR σ) := fun r σ' a2 hr => by
          have hB2 := hB.mS (a1.m.tr a2.m)
          have hA2 := hA1.aS a2
          unfold v_X12_sure
          rw [q_isBar_n hB2 hk hb, w_1, q_isString_n hB2 hk hs, w_1, i_36, w_in (vi (show 36 * b + s < 432 by omega) (by omega)), nI_clamp (show 36 * b + s < 2 ^ 31 by omega), hB2.zfe hb (by omega), w_f (by rw [i_eq0 (by omega)]; exact hf)]
          refine k_isExp hB2 hk (fun σ3 b3 hB3 hM => ?_)
          have f : RR σ3 := RRf hA2 b3.c hB3 hk
          cases e : xpl S (mst S)
          · rw [e, if_neg (by decide)] at hr
            rw [w_t (by rfl)]
            exact ⟨hr, f⟩
          · rw [e, if_pos (by rfl)] at hr
            rw [w_f (by decide), w_in (vi (show 36 * b + s < 432 by omega) (by omega)), hM b s (by omega) (by omega)]
            cases e2 : mst S b s
            · rw [e2, if_neg (by decide)] at hr
              rw [w_t (by rfl), q_sureB hB3 hk hM hb hs]
              exact ⟨hr, f⟩
            · rw [e2, if_pos (by rfl)] at hr
              rw [w_f (by decide)]
              exact ⟨hr, f⟩
        rw [q_explains hA1 hk hT, w_bI]
        cases e : xpl S (mst S)
        · rw [if_neg (by decide)]
          exact model _ σ1 aS.rf (by rw [e, if_neg (by decide)])
        · rw [if_pos (by rfl)]
          unfold v_X2_takesAsWorn
          rw [w_in (vi (show b < 12 by omega) (by omega)), nI_clamp (show b < 2 ^ 31 by omega), hT b (by omega), q_hasBit tl (by omega), w_isB]
          (try dsimp only)
          rw [w_bI, nb_tb, decide_eq_true (show s < 36 by omega), Bool.true_and]
          cases e2 : mst S b s
          · rw [if_neg (by decide)]
            unfold v_X2_takeAsWorn
            rw [w_in (vi (show b < 12 by omega) (by omega)), w_in (vi (show b < 12 by omega) (by omega)), nI_clamp (show b < 2 ^ 31 by omega), hT b (by omega), l_sh1 (by omega), fb_orL]
            have a2 : aS σ1 (wJ σ1 31 b (lN (nb (mst S b) 36 ||| 2 ^ s))) := aS.rf.J (by omega)
            have hT2 : ∀ b', b' < 12 → (wJ σ1 31 b (lN (nb (mst S b) 36 ||| 2 ^ s))).2 31 b' = lN (nb (mor S b s b') 36) := fun b' hb' => by
              rw [m_J2]
              by_cases z : b' = b
              · rw [if_pos ⟨rfl, z⟩, z]
                congr 1
                apply nb_of (Nat.or_lt_two_pow (nb_lt _ _) (Nat.pow_lt_pow_right (by decide) (by omega)))
                intro t ht
                unfold mor
                rw [Nat.testBit_or, nb_tb, Nat.testBit_two_pow, decide_eq_true ht, Bool.true_and, decide_eq_true (show b = b from rfl), Bool.true_and]
                congr 1
                rw [Bool.eq_iff_iff, decide_eq_true_eq, decide_eq_true_eq]; omega
              · rw [if_neg (fun q => z q.2), hT b' hb']
                congr 1
                exact nb_cong (fun t _ => by unfold mor; rw [decide_eq_false z]; simp)
            (try dsimp only)
            rw [q_explains (hA1.aS a2) hk hT2, xpl_mor hk hb hs hf e e2, w_bI]
            cases e3 : ex (onl S b s) (nR S)
            · rw [if_pos (by rfl)]
              exact model _ _ a2 (by rw [e, if_pos rfl, e2, if_neg (by decide), e3, if_neg (by decide)])
            · rw [if_neg (by decide)]
              exact model _ _ a2 (by rw [e, if_pos rfl, e2, if_neg (by decide), e3, if_pos rfl])
          · rw [if_pos (by rfl)]
            exact model _ σ1 aS.rf (by rw [e, if_pos rfl, e2, if_pos rfl])
    · have e : v_X11_hasFelt (nI b) a2 σ = fun P => P 0 σ := by
        funext P
        unfold v_X11_hasFelt
        rw [q_knowsB_n hA hk hb, w_1, q_knowsS_o hA ho, w_0]
      rw [e]
      (try dsimp only)
      rw [w_0]
      (try dsimp only)
      unfold v_X12_sure
      rw [q_isBar_n hB hk hb, w_1, q_isString_o hB ho, w_0]
      exact ⟨rfl, fin⟩
  · have e : v_X11_hasFelt a1 a2 σ = fun P => P 0 σ := by
      funext P
      unfold v_X11_hasFelt
      rw [q_knowsB_o hA ho, w_0]
    rw [e]
    (try dsimp only)
    rw [w_0]
    (try dsimp only)
    unfold v_X12_sure
    rw [q_isBar_o hB ho, w_0]
    exact ⟨rfl, fin⟩
end
