-- ===== the ear: worn, sure =====
theorem nar_or (f g : Bool) : vp_nar .boolean (bI f ||| bI g) = bI (f || g) := by cases f <;> cases g <;> decide +kernel
theorem ct_rows (p : Nat → Bool) : ∀ b, fb_ct p (36 * b) = fb_sm (fun b => fb_ct (fun s => p (36 * b + s)) 36) b
  | 0 => rfl
  | b + 1 => by
    rw [show 36 * (b + 1) = 36 * b + 36 by omega, fb_ct_split, ct_rows p b]; rfl
def cnd (S : St) (r b s : Nat) : Bool := (rs S r).testBit b && decide (s < rl S r) && rc S r s == 1 && fe S b s != 0
def msk (S : St) (n b s : Nat) : Bool := ex (fun r => cnd S r b s) n
/-- felts that must be worn -/
def mst (S : St) (b s : Nat) : Bool := msk S (nR S) b s
def whl (S : St) (T : Nat → Nat → Bool) (r s b : Nat) : Bool := (rs S r).testBit b && fe S b s != 0 && !T b s
/-- what was heard goes with these felts worn -/
def nox (S : St) (T : Nat → Nat → Bool) (r s : Nat) : Bool := rc S r s == 0 && !ex (whl S T r s) 12
def xpl (S : St) (T : Nat → Nat → Bool) : Bool := !ex (fun r => ex (nox S T r) (rl S r)) (nR S)
section
variable {σ : Mem} {S : St} {P : Int32 → Mem → Prop} {PV : Mem → Prop} {PJ : Int64 → Mem → Prop}
theorem rs_hi (hk : ok S) {r b : Nat} (hr : r < nR S) (hb : nB S ≤ b) : (rs S r).testBit b = false := by
  have := hk.zrs hr
  exact Nat.testBit_lt_two_pow (Nat.lt_of_lt_of_le this (Nat.pow_le_pow_right (by decide) hb))
theorem rs_31 (hk : ok S) {r : Nat} (hr : r < nR S) : rs S r < 2 ^ 31 := by
  have := hk.zrs hr
  have := p12 hk
  omega
theorem k_worn (hA : A σ S) (hk : ok S) (K : ∀ σ', aS σ σ' → (∀ b, b < 12 → σ'.2 31 b = lN (nb (mst S b) 36)) → PV σ') : v_X2_findWorn σ PV := by
  have hr20 := hk.znR
  have h36 := hk.znS
  unfold v_X2_findWorn
  refine lp_i (fun m b s => v_X2_findWorn_L2 PV m (nI b) s) (fun b s => aS σ s ∧ ∀ b', b' < b → s.2 31 b' = lN (nb (mst S b') 36)) 12 (fun m s hI => ?_) (fun m b s hb hI ih => ?_) 5000 0 _ (by omega) (by omega) ⟨aS.rf, fun b' h => by omega⟩
  · obtain ⟨a1, f1⟩ := hI
    (try dsimp only)
    rw [v_X2_findWorn_L2, w_t (by decide)]
    exact K s a1 f1
  · obtain ⟨a1, f1⟩ := hI
    (try dsimp only)
    rw [v_X2_findWorn_L2, w_f (show ¬ (12 : Int32) ≤ nI b from nI_ge (b := 12) hb (by omega)), w_in (vi hb (by omega)), nI_clamp (show b < 2 ^ 31 by omega), nI_1]
    refine lp_i (fun n r s => v_X2_findWorn_L17 (nI b) _ PV n (nI r) s) (fun r s => aS σ s ∧ (∀ b', b' < b → s.2 31 b' = lN (nb (mst S b') 36)) ∧ s.2 31 b = lN (nb (msk S r b) 36)) (nR S) (fun n s hI => ?_) (fun n r s hr hI ih2 => ?_) 5000 0 _ (by omega) (by omega) ⟨a1.J (by omega), fun b' h => by rw [m_J2, if_neg (by omega)]; exact f1 b' h, by rw [m_J2, if_pos ⟨rfl, rfl⟩, show nb (msk S 0 b) 36 = 0 from nb_f (fun _ _ => rfl)]; rfl⟩
    · obtain ⟨a2, f2, f3⟩ := hI
      (try dsimp only)
      rw [v_X2_findWorn_L17, (hA.aS a2).znR, w_t (nI_le (Nat.le_refl _) (by omega))]
      refine ih s ⟨a2, fun b' h => ?_⟩
      by_cases z : b' = b
      · rw [z, f3]; rfl
      · exact f2 b' (by omega)
    · obtain ⟨a2, f2, f3⟩ := hI
      have hA2 := hA.aS a2
      have es : ∀ s, msk S (r + 1) b s = (msk S r b s || cnd S r b s) := fun s => rfl
      (try dsimp only)
      rw [v_X2_findWorn_L17, hA2.znR, w_f (nI_ge hr (by omega)), w_in (vi (show r < 20 by omega) (by omega)), nI_clamp (show r < 2 ^ 31 by omega), hA2.zrs hr, q_hasBitI (rs_31 hk hr) (by omega), w_bI, nI_1]
      cases e : (rs S r).testBit b
      · rw [if_neg (by decide)]
        refine ih2 s ⟨a2, f2, ?_⟩
        rw [f3]
        congr 1
        exact nb_cong (fun s _ => by rw [es]; unfold cnd; rw [e]; simp)
      · have hbB : b < nB S := by
          rcases Nat.lt_or_ge b (nB S) with q | q
          · exact q
          · rw [rs_hi hk hr q] at e; cases e
        have hrl := hk.zrl hr
        rw [if_pos (by rfl), w_in (vi hb (by omega)), w_in (vi hb (by omega)), nI_clamp (show b < 2 ^ 31 by omega), w_in (vi (show r < 20 by omega) (by omega)), w_in (vi hb (by omega)), hA2.zfls hbB, hA2.zr1 hr, f3, fb_andL, fb_orL]
        refine ih2 _ ⟨a2.J (by omega), fun b' h => by rw [m_J2, if_neg (by omega)]; exact f2 b' h, ?_⟩
        rw [m_J2, if_pos ⟨rfl, rfl⟩]
        congr 1
        apply nb_of
        · exact Nat.or_lt_two_pow (nb_lt _ _) (Nat.lt_of_le_of_lt Nat.and_le_left (nb_lt _ 36))
        · intro s hs
          unfold fls
          rw [Nat.testBit_or, Nat.testBit_and, nb_tb, nb_tb, nb_tb, es]
          unfold cnd
          rw [e]
          simp only [hs, decide_true, Bool.true_and]
          cases msk S r b s <;> cases decide (s < rl S r) <;> cases (rc S r s == 1) <;> cases (fe S b s != 0) <;> rfl
theorem q_explains (hA : A σ S) (hk : ok S) {T : Nat → Nat → Bool} (hT : ∀ b, b < 12 → σ.2 31 b = lN (nb (T b) 36)) : v_X2_explains σ P = P (bI (xpl S T)) σ := by
  have hr20 := hk.znR
  have h36 := hk.znS
  unfold v_X2_explains
  have row : ∀ r, r < nR S → ∀ K68 : Int64 → Mem → Prop, v_X2_explains_L15 (nI r) K68 P 5000 0 0 σ = K68 (lN (nb (fun s => ex (whl S T r s) 12) 36)) σ := fun r hr K68 => by
    have t := lp_c (fun m b => v_X2_explains_L15 (nI r) K68 P m (lN (nb (fun s => ex (whl S T r s) b) 36)) (nI b) σ) (K68 (lN (nb (fun s => ex (whl S T r s) 12) 36)) σ) 12 (fun m => ?_) (fun m b hb => ?_) 5000 0 (by omega) (by omega)
    · (try dsimp only at t)
      rw [show nb (fun s => ex (whl S T r s) 0) 36 = 0 from nb_f (fun _ _ => rfl)] at t
      exact t
    · (try dsimp only)
      rw [v_X2_explains_L15, w_t (by decide)]
    · (try dsimp only)
      have es : ∀ s, ex (whl S T r s) (b + 1) = (ex (whl S T r s) b || whl S T r s b) := fun s => rfl
      rw [v_X2_explains_L15, w_f (show ¬ (12 : Int32) ≤ nI b from nI_ge (b := 12) hb (by omega)), w_in (vi (show r < 20 by omega) (by omega)), nI_clamp (show r < 2 ^ 31 by omega), hA.zrs hr, q_hasBitI (rs_31 hk hr) (by omega), w_bI, nI_1]
      cases e : (rs S r).testBit b
      · rw [if_neg (by decide)]
        congr 2
        exact nb_cong (fun s _ => by rw [es]; unfold whl; rw [e]; simp)
      · have hbB : b < nB S := by
          rcases Nat.lt_or_ge b (nB S) with q | q
          · exact q
          · rw [rs_hi hk hr q] at e; cases e
        have tl : nb (T b) 36 < 2 ^ 64 := nb_lt' _ (by omega)
        rw [if_pos (by rfl), w_in (vi hb (by omega)), w_in (vi hb (by omega)), nI_clamp (show b < 2 ^ 31 by omega), hA.zfls hbB, hT b hb, l_not tl, fb_andL, fb_orL]
        simp only [forall_eq]
        congr 2
        apply nb_of
        · exact Nat.or_lt_two_pow (nb_lt _ _) (Nat.lt_of_le_of_lt Nat.and_le_left (nb_lt _ 36))
        · intro s hs
          unfold fls
          rw [Nat.testBit_or, Nat.testBit_and, nb_tb, nb_tb, not64_tb tl, nb_tb, es]
          unfold whl
          rw [e]
          simp only [hs, decide_true, Bool.true_and, show s < 64 by omega]
  have := lp_s (fun m r => v_X2_explains_L2 P m (nI r) σ) (P 1 σ) (fun _ => P 0 σ) (fun r => ex (nox S T r) (rl S r)) (nR S) (fun m => ?_) (fun m r hr hp => ?_) (fun m r hr hp => ?_) 5000 0 (by omega) (by omega) (by omega)
  · simp only [ex_first] at this
    rw [show (0 : Int32) = nI 0 from rfl, this]
    unfold xpl
    cases ex (fun r => ex (nox S T r) (rl S r)) (nR S) <;> rfl
  · (try dsimp only)
    rw [v_X2_explains_L2, hA.znR, w_t (nI_le (Nat.le_refl _) (by omega))]
  all_goals
    have hrl := hk.zrl hr
    have tl : nb (fun s => ex (whl S T r s) 12) 36 < 2 ^ 64 := nb_lt' _ (by omega)
    have al : nb (fun s => rc S r s == 0) (rl S r) &&& not64 (nb (fun s => ex (whl S T r s) 12) 36) < 2 ^ 64 := Nat.lt_of_le_of_lt Nat.and_le_left (nb_lt' _ (by omega))
    have e2 : (nb (fun s => rc S r s == 0) (rl S r) &&& not64 (nb (fun s => ex (whl S T r s) 12) 36) = 0) = (ex (nox S T r) (rl S r) = false) := by
      rw [nb_and0]
      apply propext
      rw [ex_no]
      refine forall_congr' fun s => forall_congr' fun hs => ?_
      rw [not64_tb tl, nb_tb]
      unfold nox
      simp only [show s < 36 by omega, show s < 64 by omega, decide_true, Bool.true_and]
      cases (rc S r s == 0) <;> cases ex (whl S T r s) 12 <;> simp
    (try dsimp only)
    rw [v_X2_explains_L2, hA.znR, w_f (nI_ge hr (by omega)), row r hr, w_in (vi (show r < 20 by omega) (by omega)), nI_clamp (show r < 2 ^ 31 by omega), hA.zr0 hr, l_not tl, fb_andL, w_ite, nI_1]
    simp only [l_eq0 al, e2]
    (try dsimp only at hp)
    rw [hp]
    first | rw [if_pos rfl] | rw [if_neg (by decide)]
theorem q_howMany (hT : ∀ b, b < 12 → σ.2 31 b = lN (nb (mst S b) 36)) : v_X2_howManyWorn σ P = P (nI (fb_sm (fun b => fb_ct (mst S b) 36) 12)) σ := by
  unfold v_X2_howManyWorn
  refine lp_c (fun m b => v_X2_howManyWorn_L4 P m (nI (fb_sm (fun b => fb_ct (mst S b) 36) b)) (nI b) σ) _ 12 (fun m => ?_) (fun m b hb => ?_) 5000 0 (by omega) (by omega)
  · (try dsimp only)
    rw [v_X2_howManyWorn_L4, w_t (by decide)]
  · (try dsimp only)
    rw [v_X2_howManyWorn_L4, w_f (show ¬ (12 : Int32) ≤ nI b from nI_ge (b := 12) hb (by omega)), w_in (vi hb (by omega)), nI_clamp (show b < 2 ^ 31 by omega), hT b hb, q_bcL (nb_lt' _ (by omega)), pc_more (nb_lt _ _) (show 36 ≤ 40 by omega), pc_nb, nI_add, nI_1, fb_sm_succ]
-- the reference
theorem cnd_hi (hk : ok S) {r b s : Nat} (hr : r < nR S) (hb : nB S ≤ b) : cnd S r b s = false := by
  unfold cnd; rw [rs_hi hk hr hb]; simp
theorem k_must (hB : B σ S) (hk : ok S) (K : ∀ σ', bS σ σ' → (∀ b s, b < 12 → s < 36 → σ'.1 63 (36 * b + s) = bI (mst S b s)) → PV σ') : v_X12_findMust σ PV := by
  have hr20 := hk.znR
  have h36 := hk.znS
  have h12 := hk.znB
  unfold v_X12_findMust
  refine lp_i (fun m i s => v_X12_findMust_L2 _ PV m (nI i) s) (fun i s => bS σ s ∧ ∀ j, j < i → s.1 63 j = 0) 432 (fun m s hI => ?_) (fun m i s hi hI ih => ?_) 5000 0 _ (by omega) (by omega) ⟨bS.rf, fun j h => by omega⟩
  · obtain ⟨b1, f1⟩ := hI
    (try dsimp only)
    rw [v_X12_findMust_L2, w_t (by decide)]
    refine lp_i (fun m r s => v_X12_findMust_L24 PV m (nI r) s) (fun r s => bS σ s ∧ ∀ b t, b < 12 → t < 36 → s.1 63 (36 * b + t) = bI (msk S r b t)) (nR S) (fun m s hI => ?_) (fun m r s hr hI ih => ?_) 5000 0 _ (by omega) (by omega) ⟨b1, fun b t h1 h2 => f1 _ (by omega)⟩
    · obtain ⟨b2, f2⟩ := hI
      (try dsimp only)
      rw [v_X12_findMust_L24, (hB.bS b2).znR, w_t (nI_le (Nat.le_refl _) (by omega))]
      exact K s b2 f2
    · obtain ⟨b2, f2⟩ := hI
      have hrl := hk.zrl hr
      (try dsimp only)
      rw [v_X12_findMust_L24, (hB.bS b2).znR, w_f (nI_ge hr (by omega)), nI_1]
      refine lp_i (fun n t s => v_X12_findMust_L34 (nI r) _ PV n (nI t) s) (fun t s => bS σ s ∧ ∀ b t', b < 12 → t' < 36 → s.1 63 (36 * b + t') = bI (msk S r b t' || (decide (t' < t) && cnd S r b t'))) (rl S r) (fun n s hI => ?_) (fun n t s ht hI ih2 => ?_) 5000 0 _ (by omega) (by omega) ⟨b2, fun b t' h1 h2 => by rw [f2 b t' h1 h2]; simp⟩
      · obtain ⟨b3, f3⟩ := hI
        (try dsimp only)
        rw [v_X12_findMust_L34, w_in (vi (show r < 20 by omega) (by omega)), nI_clamp (show r < 2 ^ 31 by omega), (hB.bS b3).zrl hr, w_t (nI_le (Nat.le_refl _) (by omega))]
        refine ih s ⟨b3, fun b t' h1 h2 => ?_⟩
        rw [f3 b t' h1 h2, show msk S (r + 1) b t' = (msk S r b t' || cnd S r b t') from rfl]
        congr 2
        unfold cnd
        cases decide (t' < rl S r) <;> simp
      · obtain ⟨b3, f3⟩ := hI
        (try dsimp only)
        rw [v_X12_findMust_L34, w_in (vi (show r < 20 by omega) (by omega)), nI_clamp (show r < 2 ^ 31 by omega), (hB.bS b3).zrl hr, w_f (nI_ge ht (by omega)), nI_1]
        refine lp_i (fun k b s => v_X12_findMust_L46 (nI r) (nI t) _ PV k (nI b) s) (fun b s => bS σ s ∧ ∀ b' t', b' < 12 → t' < 36 → s.1 63 (36 * b' + t') = bI (msk S r b' t' || ((decide (t' < t) || (decide (t' = t) && decide (b' < b))) && cnd S r b' t'))) (nB S) (fun k s hI => ?_) (fun k b s hb hI ih3 => ?_) 5000 0 _ (by omega) (by omega) ⟨b3, fun b' t' h1 h2 => by rw [f3 b' t' h1 h2]; simp⟩
        · obtain ⟨b4, f4⟩ := hI
          (try dsimp only)
          rw [v_X12_findMust_L46, (hB.bS b4).znB, w_t (nI_le (Nat.le_refl _) (by omega))]
          refine ih2 s ⟨b4, fun b' t' h1 h2 => ?_⟩
          rw [f4 b' t' h1 h2]
          congr 2
          by_cases z : b' < nB S
          · rw [decide_eq_true z, Bool.and_true]
            congr 1
            rw [Bool.eq_iff_iff]; simp; omega
          · rw [cnd_hi hk hr (by omega), Bool.and_false, Bool.and_false]
        · obtain ⟨b4, f4⟩ := hI
          have hB4 := hB.bS b4
          have hfe := hk.zfe b t
          have hrc := hk.zrc r t
          have fin : ∀ f : Bool, f = cnd S r b t → v_X12_findMust_J102 (v_X12_findMust_L46 (nI r) (nI t) (fun σ_4 => v_X12_findMust_L34 (nI r) (fun σ_6 => v_X12_findMust_L24 PV m (nI (r + 1)) σ_6) PV n (nI (t + 1)) σ_4) PV k) (fun σ_4 => v_X12_findMust_L34 (nI r) (fun σ_6 => v_X12_findMust_L24 PV m (nI (r + 1)) σ_6) PV n (nI (t + 1)) σ_4) PV (nI r) (nI t) (nI b) (bI f) s := fun f hf => by
            unfold v_X12_findMust_J102
            rw [i_36, w_in (vi (show 36 * b + t < 432 by omega) (by omega)), w_in (vi (show 36 * b + t < 432 by omega) (by omega)), nI_clamp (show 36 * b + t < 2 ^ 31 by omega), f4 b t (by omega) (by omega), nar_or, nI_1]
            refine ih3 _ ⟨b4.I (by omega), fun b' t' h1 h2 => ?_⟩
            rw [m_I1]
            by_cases z : b' = b ∧ t' = t
            · rw [if_pos (by omega), z.1, z.2, hf]
              congr 1
              cases msk S r b t <;> cases cnd S r b t <;> simp
            · rw [if_neg (by omega), f4 b' t' h1 h2]
              congr 3
              rw [Bool.eq_iff_iff]; simp; omega
          (try dsimp only)
          rw [v_X12_findMust_L46, hB4.znB, w_f (nI_ge hb (by omega)), i_36, w_in (vi (show 36 * r + t < 720 by omega) (by omega)), nI_clamp (show 36 * r + t < 2 ^ 31 by omega), hB4.zrc hr ht, w_in (vi (show r < 20 by omega) (by omega)), nI_clamp (show r < 2 ^ 31 by omega), hB4.zrs hr, i_bit (rs_31 hk hr) (by omega), i_36, w_in (vi (show 36 * b + t < 432 by omega) (by omega)), nI_clamp (show 36 * b + t < 2 ^ 31 by omega), hB4.zfe hb (by omega), w_ite, w_ite, w_ite]
          unfold v_X12_findMust_J101
          simp only [bI_1, show (nI (rc S r t) = 1) = (rc S r t = 1) from i_eq (b := 1) (by omega) (by omega), show (nI (fe S b t) ≤ 0) = (fe S b t ≤ 0) from i_le (b := 0) (by omega) (by omega)]
          have ec : cnd S r b t = ((rs S r).testBit b && rc S r t == 1 && fe S b t != 0) := by unfold cnd; rw [decide_eq_true ht]; simp
          by_cases z1 : rc S r t = 1
          · rw [if_pos z1]
            by_cases z2 : (rs S r).testBit b = true
            · rw [if_pos z2]
              by_cases z3 : fe S b t ≤ 0
              · rw [if_pos z3]
                exact fin false (by rw [ec, show fe S b t = 0 by omega]; simp)
              · rw [if_neg z3]
                exact fin true (by rw [ec, z1, z2]; simp; omega)
            · rw [if_neg z2]
              exact fin false (by rw [ec, Bool.not_eq_true _ |>.mp z2]; simp)
          · rw [if_neg z1]
            exact fin false (by rw [ec, beq_false_of_ne z1]; simp)
  · obtain ⟨b1, f1⟩ := hI
    (try dsimp only)
    rw [v_X12_findMust_L2, w_f (show ¬ (432 : Int32) ≤ nI i from nI_ge (b := 432) hi (by omega)), w_in (vi hi (by omega)), nI_clamp (show i < 2 ^ 31 by omega), nI_1]
    refine ih _ ⟨b1.I (by omega), fun j h => ?_⟩
    rw [m_I1]
    by_cases z : j = i
    · rw [if_pos ⟨rfl, z⟩]; exact nar_b false
    · rw [if_neg (fun q => z q.2)]; exact f1 j (by omega)
theorem q_mayBe (hB : B σ S) (hk : ok S) (hM : ∀ b s, b < 12 → s < 36 → σ.1 63 (36 * b + s) = bI (mst S b s)) {r s : Nat} (hr : r < nR S) (hs : s < rl S r) : v_X12_mayBeWhole (nI r) (nI s) σ P = P (nI (fb_ct (whl S (mst S) r s) (nB S))) σ := by
  have hr20 := hk.znR
  have h36 := hk.znS
  have h12 := hk.znB
  have hrl := hk.zrl hr
  unfold v_X12_mayBeWhole
  refine lp_c (fun m b => v_X12_mayBeWhole_L5 (nI r) (nI s) P m (nI (fb_ct (whl S (mst S) r s) b)) (nI b) σ) _ (nB S) (fun m => ?_) (fun m b hb => ?_) 5000 0 (by omega) (by omega)
  · (try dsimp only)
    rw [v_X12_mayBeWhole_L5, hB.znB, w_t (nI_le (Nat.le_refl _) (by omega))]
  · have hfe := hk.zfe b s
    (try dsimp only)
    rw [v_X12_mayBeWhole_L5, hB.znB, w_f (nI_ge hb (by omega)), w_in (vi (show r < 20 by omega) (by omega)), nI_clamp (show r < 2 ^ 31 by omega), hB.zrs hr, i_bit (rs_31 hk hr) (by omega), i_36, w_in (vi (show 36 * b + s < 432 by omega) (by omega)), nI_clamp (show 36 * b + s < 2 ^ 31 by omega), hB.zfe hb (by omega), w_in (vi (show 36 * b + s < 432 by omega) (by omega)), hM b s (by omega) (by omega), w_ite, w_ite, w_bI, fb_ct_succ, show ∀ x : Int32, x + 0 = x from fun x => by simp]
    simp only [bI_1, show (nI (fe S b s) ≤ 0) = (fe S b s ≤ 0) from i_le (b := 0) (by omega) (by omega), nI_1]
    unfold whl
    cases e1 : (rs S r).testBit b
    · simp
    · by_cases e2 : fe S b s ≤ 0
      · rw [if_pos rfl, if_pos e2, show fe S b s = 0 by omega]; simp
      · rw [if_pos rfl, if_neg e2, show (fe S b s != 0) = true from by simp; omega]
        cases mst S b s <;> simp
theorem whl_12 (hk : ok S) {T : Nat → Nat → Bool} {r s : Nat} (hr : r < nR S) : ex (whl S T r s) 12 = decide (fb_ct (whl S T r s) (nB S) ≠ 0) := by
  have h12 := hk.znB
  rw [Bool.eq_iff_iff, decide_eq_true_eq, ← Nat.pos_iff_ne_zero, fb_ct_pos, ex_iff]
  constructor
  · rintro ⟨b, hb, h⟩
    refine ⟨b, ?_, h⟩
    rcases Nat.lt_or_ge b (nB S) with q | q
    · exact q
    · unfold whl at h; rw [rs_hi hk hr q] at h; simp at h
  · rintro ⟨b, hb, h⟩; exact ⟨b, by omega, h⟩
theorem k_isExp (hB : B σ S) (hk : ok S) (K : ∀ σ', bS σ σ' → B σ' S → (∀ b s, b < 12 → s < 36 → σ'.1 63 (36 * b + s) = bI (mst S b s)) → P (bI (xpl S (mst S))) σ') : v_X12_isExplained σ P := by
  have hr20 := hk.znR
  have h36 := hk.znS
  have h12 := hk.znB
  unfold v_X12_isExplained
  refine k_must hB hk (fun σ1 b1 hM => ?_)
  have hB1 := hB.bS b1
  have k1 := K σ1 b1 hB1 hM
  have := lp_s (fun m r => v_X12_isExplained_L6 P m (nI r) σ1) (P 1 σ1) (fun _ => P 0 σ1) (fun r => ex (nox S (mst S) r) (rl S r)) (nR S) (fun m => ?_) (fun m r hr hp => ?_) (fun m r hr hp => ?_) 5000 0 (by omega) (by omega) (by omega)
  · simp only [ex_first] at this
    rw [show (0 : Int32) = nI 0 from rfl, this]
    unfold xpl at k1
    cases e : ex (fun r => ex (nox S (mst S) r) (rl S r)) (nR S)
    · rw [e] at k1; exact k1
    · rw [e] at k1; exact k1
  · (try dsimp only)
    rw [v_X12_isExplained_L6, hB1.znR, w_t (nI_le (Nat.le_refl _) (by omega))]
  all_goals
    have hrl := hk.zrl hr
    have row := lp_s (fun n s => v_X12_isExplained_L16 (nI r) (fun σ_5 => v_X12_isExplained_L6 P m (nI (r + 1)) σ_5) P n (nI s) σ1) (v_X12_isExplained_L6 P m (nI (r + 1)) σ1) (fun _ => P 0 σ1) (nox S (mst S) r) (rl S r) (fun n => by
      (try dsimp only)
      rw [v_X12_isExplained_L16, w_in (vi (show r < 20 by omega) (by omega)), nI_clamp (show r < 2 ^ 31 by omega), hB1.zrl hr, w_t (nI_le (Nat.le_refl _) (by omega))]) (fun n s hs hp => by
      (try dsimp only)
      unfold nox at hp
      rw [Bool.and_eq_true, beq_iff_eq, Bool.not_eq_true', whl_12 hk hr] at hp
      rw [v_X12_isExplained_L16, w_in (vi (show r < 20 by omega) (by omega)), nI_clamp (show r < 2 ^ 31 by omega), hB1.zrl hr, w_f (nI_ge hs (by omega)), i_36, w_in (vi (show 36 * r + s < 720 by omega) (by omega)), nI_clamp (show 36 * r + s < 2 ^ 31 by omega), hB1.zrc hr hs, w_t (by rw [hp.1]; rfl), q_mayBe hB1 hk hM hr hs, w_t (by rw [show fb_ct (whl S (mst S) r s) (nB S) = 0 from by simpa using hp.2]; rfl)]) (fun n s hs hp => by
      (try dsimp only)
      have hrc := hk.zrc r s
      have hct := fb_ct_le (whl S (mst S) r s) (nB S)
      unfold nox at hp
      rw [v_X12_isExplained_L16, w_in (vi (show r < 20 by omega) (by omega)), nI_clamp (show r < 2 ^ 31 by omega), hB1.zrl hr, w_f (nI_ge hs (by omega)), i_36, w_in (vi (show 36 * r + s < 720 by omega) (by omega)), nI_clamp (show 36 * r + s < 2 ^ 31 by omega), hB1.zrc hr hs, q_mayBe hB1 hk hM hr hs, nI_1, w_ite, w_ite]
      simp only [i_eq0 (show rc S r s < 2 ^ 31 by omega), i_eq0 (show fb_ct (whl S (mst S) r s) (nB S) < 2 ^ 31 by omega)]
      by_cases z : rc S r s = 0
      · rw [if_pos z]
        rw [beq_iff_eq.mpr z, Bool.true_and, Bool.not_eq_false', whl_12 hk hr, decide_eq_true_eq] at hp
        rw [if_neg hp]
      · rw [if_neg z]) 5000 0 (by omega) (by omega) (by omega)
    simp only [ex_first] at row
    (try dsimp only)
    rw [v_X12_isExplained_L6, hB1.znR, w_f (nI_ge hr (by omega)), nI_1]
    (try dsimp only at hp)
    rw [hp] at row
    first | rw [if_pos rfl] at row | rw [if_neg (by decide)] at row
    exact row
theorem worn_ct : fb_ct (fun i => mst S (i / 36) (i % 36)) 432 = fb_sm (fun b => fb_ct (mst S b) 36) 12 := by
  rw [show 432 = 36 * 12 from rfl, ct_rows]
  refine fb_sm_cong fun b _ => fb_ct_cong fun s hs => ?_
  (try dsimp only)
  rw [show (36 * b + s) / 36 = b by omega, show (36 * b + s) % 36 = s by omega]
theorem q_wornB (hM : ∀ b s, b < 12 → s < 36 → σ.1 63 (36 * b + s) = bI (mst S b s)) : v_X12_worn_L14 P 5000 0 0 σ = P (nI (fb_sm (fun b => fb_ct (mst S b) 36) 12)) σ := by
  rw [← worn_ct]
  refine lp_c (fun m i => v_X12_worn_L14 P m (nI (fb_ct (fun i => mst S (i / 36) (i % 36)) i)) (nI i) σ) _ 432 (fun m => ?_) (fun m i hi => ?_) 5000 0 (by omega) (by omega)
  · (try dsimp only)
    rw [v_X12_worn_L14, w_t (by decide)]
  · (try dsimp only)
    have e := hM (i / 36) (i % 36) (by omega) (by omega)
    rw [show 36 * (i / 36) + i % 36 = i by omega] at e
    rw [v_X12_worn_L14, w_f (show ¬ (432 : Int32) ≤ nI i from nI_ge (b := 432) hi (by omega)), w_in (vi hi (by omega)), nI_clamp (show i < 2 ^ 31 by omega), e, w_bI, fb_ct_succ, show ∀ x : Int32, x + 0 = x from fun x => by simp]
    cases mst S (i / 36) (i % 36)
    · rw [if_neg (by decide), nI_1]; rfl
    · rw [if_pos (by rfl), nI_1, nI_1]; rfl
theorem t_worn (h : RR σ) : v_X11_worn σ (fun r σ => v_X12_worn σ (fun r2 σ => r = r2 ∧ RR σ)) := by
  obtain ⟨S, hA, hB, hk⟩ := h
  unfold v_X11_worn
  refine k_worn hA hk (fun σ1 a1 hT => ?_)
  have hA1 := hA.aS a1
  have hB1 := hB.mS a1.m
  rw [q_explains hA1 hk hT, w_bI]
  cases e : xpl S (mst S)
  · rw [if_neg (by decide)]
    (try dsimp only)
    unfold v_X12_worn
    refine k_isExp hB1 hk (fun σ2 b2 hB2 hM => ?_)
    rw [e, w_t (by rfl)]
    exact ⟨rfl, RRf hA1 b2.c hB2 hk⟩
  · rw [if_pos (by rfl), q_howMany hT]
    (try dsimp only)
    unfold v_X12_worn
    refine k_isExp hB1 hk (fun σ2 b2 hB2 hM => ?_)
    rw [e, w_f (by decide), q_wornB hM]
    exact ⟨rfl, RRf hA1 b2.c hB2 hk⟩
end
