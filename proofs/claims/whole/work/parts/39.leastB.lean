-- ===== least way, the reference's side; least =====
theorem bI_iff {p q : Bool} : (bI p = bI q) = (p = q) := by cases p <;> cases q <;> simp [bI]
section
variable {σ : Mem} {S : St} {P : Int32 → Mem → Prop} {PV : Mem → Prop} {PJ : Int64 → Mem → Prop}
theorem cut_W {W : Nat → Nat} (w : wsp S W 0) {Y : Nat} (hY : Y < 2 ^ nB S) : cut S Y ≤ W Y := by
  by_cases q : Y = 2 ^ nB S - 1
  · rw [q, cut_all]; exact Nat.zero_le _
  · obtain ⟨c, _, e⟩ := w.2.1 Y (Nat.zero_le _) (by omega)
    omega
theorem W_lt (hk : ok S) {W : Nat → Nat} (w : wsp S W 0) {Y : Nat} (hY : Y < 2 ^ nB S) : W Y ≤ 331776 := by
  have := w.2.2 Y (Nat.zero_le _) hY
  have := hk.znB
  omega
def lB (σ : Mem) (S : St) (W : Nat → Nat) : Prop := B σ S ∧ ∀ X, X < 2 ^ nB S → σ.1 56 X = nI (cut S X) ∧ σ.1 57 X = nI (W X - cut S X)
def ofB (σ : Mem) (S : St) : Prop := ∀ a b, a < 12 → b < 12 → σ.1 55 (12 * a + b) = nI (ofd S a b)
theorem k_cutB (hB : B σ S) (hk : ok S) (hf : ofB σ S) {X : Nat} {x1 : Int32} (hX : X < 2 ^ nB S) {K100 : Mem → Prop} (K : ∀ σ', bS σ σ' → (∀ o k, ¬ (o = 56 ∧ k = X) → σ'.1 o k = σ.1 o k) → σ'.1 56 X = nI (cut S X) → K100 σ') : v_X12_findLeast_L29 x1 (nI X) K100 PV 5000 0 (wI σ 56 X 0) := by
  have h12 := hk.znB
  have p12 := p12 hk
  refine lp_i (fun m a s => v_X12_findLeast_L29 x1 (nI X) K100 PV m (nI a) s) (fun a s => bS σ s ∧ (∀ o k, ¬ (o = 56 ∧ k = X) → s.1 o k = σ.1 o k) ∧ s.1 56 X = nI (fb_sm (fun a => fb_sm (fun b => if X.testBit a = X.testBit b then 0 else ofd S a b) (nB S)) a)) (nB S) (fun m s hI => ?_) (fun m a s ha hI ih => ?_) 5000 0 _ (by omega) (by omega) ⟨bS.rf.I (by omega), fun o k h => by rw [m_I1, if_neg h], by rw [m_I1, if_pos ⟨rfl, rfl⟩]; rfl⟩
  · obtain ⟨b1, f1, f2⟩ := hI
    (try dsimp only)
    rw [v_X12_findLeast_L29, (hB.bS b1).znB, w_t (nI_le (Nat.le_refl _) (by omega))]
    exact K s b1 f1 f2
  · obtain ⟨b1, f1, f2⟩ := hI
    (try dsimp only)
    rw [v_X12_findLeast_L29, (hB.bS b1).znB, w_f (nI_ge ha (by omega)), nI_1]
    refine lp_i (fun n b s => v_X12_findLeast_L40 x1 (nI X) (nI a) _ PV n (nI b) s) (fun b s => bS σ s ∧ (∀ o k, ¬ (o = 56 ∧ k = X) → s.1 o k = σ.1 o k) ∧ s.1 56 X = nI (fb_sm (fun a => fb_sm (fun b => if X.testBit a = X.testBit b then 0 else ofd S a b) (nB S)) a + fb_sm (fun b => if X.testBit a = X.testBit b then 0 else ofd S a b) b)) (nB S) (fun n s hI => ?_) (fun n b s hb hI ih2 => ?_) 5000 0 _ (by omega) (by omega) ⟨b1, f1, f2⟩
    · obtain ⟨b2, f3, f4⟩ := hI
      (try dsimp only)
      rw [v_X12_findLeast_L40, (hB.bS b2).znB, w_t (nI_le (Nat.le_refl _) (by omega))]
      exact ih s ⟨b2, f3, f4⟩
    · obtain ⟨b2, f3, f4⟩ := hI
      (try dsimp only)
      rw [v_X12_findLeast_L40, (hB.bS b2).znB, w_f (nI_ge hb (by omega)), w_in (vi (show X < 4096 by omega) (by omega)), i_bit (by omega) (by omega), i_bit (by omega) (by omega), bI_iff, w_in (vi (show X < 4096 by omega) (by omega)), nI_clamp (show X < 2 ^ 31 by omega), i_12, w_in (vi (show 12 * a + b < 144 by omega) (by omega)), nI_clamp (show 12 * a + b < 2 ^ 31 by omega), w_in (vi (show X < 4096 by omega) (by omega)), f4, f3 55 _ (by omega), hf a b (by omega) (by omega), nI_1, nI_add, show ∀ x : Int32, x + 0 = x from fun x => by simp]
      have fin : ∀ v : Nat, v = (if X.testBit a = X.testBit b then 0 else ofd S a b) → v_X12_findLeast_L40 x1 (nI X) (nI a) (fun σ_3 => v_X12_findLeast_L29 x1 (nI X) K100 PV m (nI (a + 1)) σ_3) PV n (nI (b + 1)) (wI s 56 X (nI (fb_sm (fun a => fb_sm (fun b => if X.testBit a = X.testBit b then 0 else ofd S a b) (nB S)) a + fb_sm (fun b => if X.testBit a = X.testBit b then 0 else ofd S a b) b + v))) := fun v hv => by
        refine ih2 _ ⟨b2.I (by omega), fun o k h => by rw [m_I1, if_neg h]; exact f3 o k h, ?_⟩
        rw [m_I1, if_pos ⟨rfl, rfl⟩, fb_sm_succ, hv, Nat.add_assoc]
      by_cases z : X.testBit a = X.testBit b
      · rw [w_t z]
        exact fin 0 (by rw [if_pos z])
      · rw [w_f z]
        exact fin _ (by rw [if_neg z])
theorem k_minB (hk : ok S) (hB : B σ S) {W : Nat → Nat} (w : wsp S W 0) {X : Nat} (hX : X < 2 ^ nB S - 1) (hc : ∀ Y, Y < 2 ^ nB S → σ.1 56 Y = nI (cut S Y)) (hl : ∀ Y, X < Y → Y < 2 ^ nB S → σ.1 57 Y = nI (W Y - cut S Y)) {K205 : Mem → Prop} (K : ∀ σ', bS σ σ' → (∀ o k, ¬ (o = 57 ∧ k = X) → σ'.1 o k = σ.1 o k) → σ'.1 57 X = nI (W X - cut S X) → K205 σ') : v_X12_findLeast_L131 (nI X) K205 PV 5000 0 (wI σ 57 X 1000000) := by
  have h12 := hk.znB
  have p12 := p12 hk
  refine lp_i (fun m b s => v_X12_findLeast_L131 (nI X) K205 PV m (nI b) s) (fun b s => bS σ s ∧ (∀ o k, ¬ (o = 57 ∧ k = X) → s.1 o k = σ.1 o k) ∧ ∃ v, s.1 57 X = nI v ∧ ((v = 1000000 ∧ ∀ c, c < b → X.testBit c = true) ∨ ∃ c, c < b ∧ X.testBit c = false ∧ v = W (X ||| 2 ^ c) ∧ ∀ d, d < b → X.testBit d = false → v ≤ W (X ||| 2 ^ d))) (nB S) (fun m s hI => ?_) (fun m b s hb hI ih => ?_) 5000 0 _ (by omega) (by omega) ⟨bS.rf.I (by omega), fun o k h => by rw [m_I1, if_neg h], 1000000, by rw [m_I1, if_pos ⟨rfl, rfl⟩]; rfl, Or.inl ⟨rfl, fun c hc => by omega⟩⟩
  · obtain ⟨b1, f1, v, f2, f3⟩ := hI
    (try dsimp only)
    rw [v_X12_findLeast_L131, (hB.bS b1).znB, w_t (nI_le (Nat.le_refl _) (by omega))]
    refine K s b1 f1 ?_
    rw [f2]
    obtain ⟨c, hc1, hc2⟩ := w.2.1 X (Nat.zero_le _) hX
    rcases f3 with ⟨rfl, h1⟩ | ⟨d, h1, h2, h3, h4⟩
    · have := h1 c hc1.1
      rw [hc1.2.1] at this; cases this
    · have a1 := h4 c hc1.1 hc1.2.1
      have a2 := (hc1.2.2 d h1 h2).1
      congr 1
      omega
  · obtain ⟨b1, f1, v, f2, f3⟩ := hI
    (try dsimp only)
    rw [v_X12_findLeast_L131, (hB.bS b1).znB, w_f (nI_ge hb (by omega)), i_bit (by omega) (by omega), w_bI, nI_1]
    cases e : X.testBit b
    · have ob := or_lt (S := S) (show X < 2 ^ nB S by omega) hb
      have gb := or_gt e
      have cw := cut_W w ob
      have wl := W_lt hk w ob
      rw [if_neg (by decide), ish1 b (by omega), fa_or, w_in (vi (show X ||| 2 ^ b < 4096 by omega) (by omega)), w_in (vi (show X ||| 2 ^ b < 4096 by omega) (by omega)), nI_clamp (show X ||| 2 ^ b < 2 ^ 31 by omega), f1 56 _ (by omega), hc _ ob, f1 57 _ (by omega), hl _ gb ob, nI_add, show cut S (X ||| 2 ^ b) + (W (X ||| 2 ^ b) - cut S (X ||| 2 ^ b)) = W (X ||| 2 ^ b) by omega]
      simp only [forall_eq]
      rw [w_in (vi (show X < 4096 by omega) (by omega)), nI_clamp (show X < 2 ^ 31 by omega), f2]
      have vl : v ≤ 1000000 := by
        rcases f3 with ⟨rfl, h1⟩ | ⟨d, h1, h2, h3, h4⟩
        · exact Nat.le_refl _
        · have := W_lt hk w (or_lt (S := S) (X := X) (by omega) (show d < nB S by omega))
          omega
      by_cases q : v ≤ W (X ||| 2 ^ b)
      · rw [w_t (nI_le q (by omega)), w_in (vi (show X < 4096 by omega) (by omega)), w_in (vi (show X < 4096 by omega) (by omega))]
        refine ih _ ⟨b1.I (by omega), fun o k h => by rw [m_I1, if_neg h]; exact f1 o k h, v, by rw [m_I1, if_pos ⟨rfl, rfl⟩], ?_⟩
        rcases f3 with ⟨rfl, h1⟩ | ⟨d, h1, h2, h3, h4⟩
        · omega
        · exact Or.inr ⟨d, by omega, h2, h3, fun d2 hd hx => by
            by_cases z : d2 = b
            · rw [z]; exact q
            · exact h4 d2 (by omega) hx⟩
      · rw [w_f (nI_ge (by omega) (by omega)), w_in (vi (show X < 4096 by omega) (by omega))]
        refine ih _ ⟨b1.I (by omega), fun o k h => by rw [m_I1, if_neg h]; exact f1 o k h, W (X ||| 2 ^ b), by rw [m_I1, if_pos ⟨rfl, rfl⟩], Or.inr ⟨b, by omega, e, rfl, fun d2 hd hx => ?_⟩⟩
        by_cases z : d2 = b
        · rw [z]; exact Nat.le_refl _
        · rcases f3 with ⟨rfl, h1⟩ | ⟨d, h1, h2, h3, h4⟩
          · rw [h1 d2 (by omega)] at hx; cases hx
          · have := h4 d2 (by omega) hx; omega
    · rw [if_pos (by rfl)]
      refine ih _ ⟨b1, f1, v, f2, ?_⟩
      rcases f3 with ⟨rfl, h1⟩ | ⟨d, h1, h2, h3, h4⟩
      · exact Or.inl ⟨rfl, fun c hc => by
          by_cases z : c = b
          · rw [z]; exact e
          · exact h1 c (by omega)⟩
      · exact Or.inr ⟨d, by omega, h2, h3, fun d2 hd hx => by
          by_cases z : d2 = b
          · rw [z, e] at hx; cases hx
          · exact h4 d2 (by omega) hx⟩
theorem k_leastB (hB : B σ S) (hk : ok S) {W : Nat → Nat} (w : wsp S W 0) (K : ∀ σ', bS σ σ' → lB σ' S W → PV σ') : v_X12_findLeast σ PV := by
  have h12 := hk.znB
  have p12 := p12 hk
  have p0 := Nat.two_pow_pos (nB S)
  unfold v_X12_findLeast
  refine k_often hB hk (fun σ1 b1 h1 => ?_)
  rw [h1.1.znB, top_m h12]
  refine lp_i (fun m X s => v_X12_findLeast_L15 (nI (2 ^ nB S - 1)) _ PV m (nI X) s) (fun X s => bS σ s ∧ ofB s S ∧ ∀ Y, Y < X → s.1 56 Y = nI (cut S Y)) (2 ^ nB S) (fun m s hI => ?_) (fun m X s hX hI ih => ?_) 5000 0 _ (Nat.zero_le _) (by omega) ⟨b1, h1.2, fun Y hY => by omega⟩
  · obtain ⟨b2, f1, f2⟩ := hI
    (try dsimp only)
    rw [v_X12_findLeast_L15, w_t (nI_lt (by omega) (by omega))]
    (try dsimp only)
    rw [w_in (vi (show 2 ^ nB S - 1 < 4096 by omega) (by omega)), nI_clamp (show 2 ^ nB S - 1 < 2 ^ 31 by omega), show nI (2 ^ nB S - 1) - 1 = nI (2 ^ nB S - 1) - nI 1 from rfl]
    refine lp_d (fun n k s => v_X12_findLeast_L117 PV n (nI k - nI 1) s) (fun k s => bS σ s ∧ k ≤ 2 ^ nB S - 1 ∧ (∀ Y, Y < 2 ^ nB S → s.1 56 Y = nI (cut S Y)) ∧ ∀ Y, k ≤ Y → Y < 2 ^ nB S → s.1 57 Y = nI (W Y - cut S Y)) (fun n s hI => ?_) (fun n k s hI ih => ?_) 5000 (2 ^ nB S - 1) _ (by omega) ⟨b2.I (by omega), Nat.le_refl _, fun Y hY => by rw [m_I1, if_neg (by omega)]; exact f2 Y hY, fun Y h2 h3 => by rw [show Y = 2 ^ nB S - 1 by omega, m_I1, if_pos ⟨rfl, rfl⟩, w.1, cut_all]; rfl⟩
    · obtain ⟨b3, l1, f3, f4⟩ := hI
      (try dsimp only)
      rw [v_X12_findLeast_L117, w_t (by decide)]
      exact K s b3 ⟨hB.bS b3, fun X hX => ⟨f3 X hX, f4 X (Nat.zero_le _) hX⟩⟩
    · obtain ⟨b3, l1, f3, f4⟩ := hI
      (try dsimp only)
      rw [v_X12_findLeast_L117, pk_sub (by omega), Nat.add_sub_cancel, w_f (nI_pos (by omega)), w_in (vi (show k < 4096 by omega) (by omega)), nI_clamp (show k < 2 ^ 31 by omega), show nI k + (-1) = nI k - nI 1 from by rw [Int32.sub_eq_add_neg]; rfl]
      refine k_minB hk (hB.bS b3) w (X := k) (by omega) f3 (fun Y h2 h3 => f4 Y (by omega) h3) (fun s4 b4 e1 e2 => ih s4 ⟨b3.tr b4, by omega, fun Y hY => by rw [e1 56 Y (by omega)]; exact f3 Y hY, fun Y h2 h3 => ?_⟩)
      by_cases z : Y = k
      · rw [z]; exact e2
      · rw [e1 57 Y (by omega)]; exact f4 Y (by omega) h3
  · obtain ⟨b2, f1, f2⟩ := hI
    (try dsimp only)
    rw [v_X12_findLeast_L15, w_f (nI_nlt (by omega) (by omega)), w_in (vi (show X < 4096 by omega) (by omega)), nI_clamp (show X < 2 ^ 31 by omega), nI_1]
    refine k_cutB (hB.bS b2) hk f1 hX (fun s3 b3 e1 e2 => ih s3 ⟨b2.tr b3, fun a b ha hb => by rw [e1 55 _ (by omega)]; exact f1 a b ha hb, fun Y hY => ?_⟩)
    by_cases z : Y = X
    · rw [z]; exact e2
    · rw [e1 56 Y (by omega)]; exact f2 Y (by omega)
theorem t_least (h : RR σ) : v_X11_least σ (fun r σ => v_X12_least σ (fun r2 σ => r = r2 ∧ RR σ)) := by
  obtain ⟨S, hA, hB, hk⟩ := h
  have p0 := Nat.two_pow_pos (nB S)
  unfold v_X11_least
  refine k_frame hA hk (fun σ1 a1 h1 => ?_)
  rw [h1.1.znB]
  refine k_leastA h1 hk (fun σ2 W a2 hA2 w f2 => ?_)
  (try dsimp only)
  unfold v_X12_least
  refine k_leastB (hB.mS (a1.m.tr a2.m)) hk w (fun σ3 b3 h3 => ?_)
  rw [w_in (show vp_in (0 : Int32) 4096 from by have t := vi (show 0 < 4096 by omega) (by omega); exact t), show Int32.toNatClampNeg 0 = 0 from rfl, (h3.2 0 p0).2, cut_0, Nat.sub_zero]
  exact ⟨rfl, RRf hA2 b3.c h3.1 hk⟩
end
