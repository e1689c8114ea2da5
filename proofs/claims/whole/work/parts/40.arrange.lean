-- ===== arrange, both sides =====
def nxb (S : St) (W : Nat → Nat) (X c : Nat) : Bool := !X.testBit c && !ex (fun d => !X.testBit d && decide (W (X ||| 2 ^ d) < W (X ||| 2 ^ c))) (nB S)
def nxf (S : St) (W : Nat → Nat) (X : Nat) : Nat := fa_first (nxb S W X) (nB S)
theorem nxf_e {S : St} {W : Nat → Nat} {X c : Nat} (h : nxt S W X c) : nxf S W X = c := by
  obtain ⟨h1, h2, h3⟩ := h
  have y : nxb S W X c = true := by
    unfold nxb
    rw [h2, Bool.not_false, Bool.true_and, Bool.not_eq_true', ex_no]
    intro d hd
    cases e : X.testBit d
    · have := (h3 d hd e).1
      rw [decide_eq_false (by omega)]; rfl
    · rfl
  have n : ∀ d, d < c → nxb S W X d = false := fun d hd => by
    unfold nxb
    cases e : X.testBit d
    · have := (h3 d (by omega) e).2 hd
      rw [Bool.not_false, Bool.true_and, Bool.not_eq_false', ex_iff]
      exact ⟨c, h1, by rw [h2, decide_eq_true this]; rfl⟩
    · rfl
  rcases Nat.lt_trichotomy (nxf S W X) c with q | q | q
  · have : nxb S W X (nxf S W X) = true := fa_first_yes (nxb S W X) (nB S) (Nat.lt_trans q h1)
    rw [n _ q] at this; cases this
  · exact q
  · have : nxb S W X c = false := fa_first_no (nxb S W X) (nB S) c q
    rw [y] at this; cases this
def aX (S : St) (W : Nat → Nat) : Nat → Nat
  | 0 => 0
  | p + 1 => aX S W p ||| 2 ^ nxf S W (aX S W p)
def aSt (S : St) (W : Nat → Nat) : Nat → St
  | 0 => S
  | p + 1 => uN (aSt S W p) 5 (nxf S W (aX S W p)) 0 p
def aN (S : St) (W : Nat → Nat) (p : Nat) : Nat := fb_ct (fun p => pl (aSt S W p) (nxf S W (aX S W p)) != p) p
theorem aSt_o {S : St} {W : Nat → Nat} {i j k : Nat} (h : i ≠ 5) : ∀ p, (aSt S W p).1 i j k = S.1 i j k
  | 0 => rfl
  | p + 1 => by
    rw [aSt, uN_1, if_neg (by omega)]
    exact aSt_o h p
theorem aSt_nB {S : St} {W : Nat → Nat} (p : Nat) : nB (aSt S W p) = nB S := aSt_o (by omega) p
theorem aSt_ok {S : St} {W : Nat → Nat} (hk : ok S) : ∀ p, p ≤ 12 → ok (aSt S W p)
  | 0, _ => hk
  | p + 1, h => by rw [aSt]; exact ok_pl (aSt_ok hk p (by omega)) (by omega)
theorem sz_all {S : St} (hk : ok S) : sz (2 ^ nB S - 1) = nB S := by
  have p0 := Nat.two_pow_pos (nB S)
  unfold sz
  rw [pc_more (n := nB S) (by omega) hk.znB]
  exact fb_ct_all.mpr (fun k hk2 => by rw [Nat.testBit_two_pow_sub_one]; simp [hk2])
theorem aX_f {S : St} {W : Nat → Nat} (hk : ok S) (w : wsp S W 0) : ∀ p, p ≤ nB S → aX S W p < 2 ^ nB S ∧ sz (aX S W p) = p
  | 0, _ => ⟨Nat.two_pow_pos _, sz_0⟩
  | p + 1, h => by
    obtain ⟨i1, i2⟩ := aX_f hk w p (by omega)
    have h12 := hk.znB
    have ne : aX S W p ≠ 2 ^ nB S - 1 := fun e => by
      rw [e, sz_all hk] at i2; omega
    obtain ⟨c, hc, _⟩ := w.2.1 (aX S W p) (Nat.zero_le _) (by omega)
    have e := nxf_e hc
    rw [aX, e]
    exact ⟨or_lt i1 hc.1, by rw [or_sz (by have := hc.1; omega) hc.2.1, i2]⟩
theorem aX_n {S : St} {W : Nat → Nat} (hk : ok S) (w : wsp S W 0) {p : Nat} (h : p < nB S) : aX S W p < 2 ^ nB S - 1 ∧ nxt S W (aX S W p) (nxf S W (aX S W p)) ∧ W (aX S W p) = cut S (aX S W p) + W (aX S W p ||| 2 ^ nxf S W (aX S W p)) := by
  obtain ⟨i1, i2⟩ := aX_f hk w p (by omega)
  have ne : aX S W p ≠ 2 ^ nB S - 1 := fun e => by
    rw [e, sz_all hk] at i2; omega
  obtain ⟨c, hc, e2⟩ := w.2.1 (aX S W p) (Nat.zero_le _) (by omega)
  rw [nxf_e hc]
  exact ⟨by omega, hc, e2⟩
section
variable {σ : Mem} {S : St} {P : Int32 → Mem → Prop} {PV : Mem → Prop} {PJ : Int64 → Mem → Prop}
theorem k_putA (hA : A σ S) (hk : ok S) {W : Nat → Nat} (w : wsp S W 0) (hf : ∀ X, X < 2 ^ nB S → σ.1 23 X = nI (W X)) (K : ∀ σ', mS σ σ' → A σ' (aSt S W (nB S)) → P (nI (aN S W (nB S))) σ') : v_X3_putInOrder σ P := by
  have e64 : bB = 64 := rfl
  have h12 := hk.znB
  have p12 := p12 hk
  unfold v_X3_putInOrder
  refine lp_i (fun m p s => v_X3_putInOrder_L7 P m (nI (aN S W p)) (nI (aX S W p)) (nI p) s) (fun p s => mS σ s ∧ A s (aSt S W p) ∧ ∀ X, X < 2 ^ nB S → s.1 23 X = nI (W X)) (nB S) (fun m s hI => ?_) (fun m p s hp hI ih => ?_) 5000 0 _ (by omega) (by omega) ⟨mS.rf, hA, hf⟩
  · obtain ⟨m1, hA1, f1⟩ := hI
    (try dsimp only)
    rw [v_X3_putInOrder_L7, hA1.znB, aSt_nB, w_t (nI_le (Nat.le_refl _) (by omega))]
    exact K s m1 hA1
  · obtain ⟨m1, hA1, f1⟩ := hI
    obtain ⟨x1, x2, x3⟩ := aX_n hk w hp
    have hkp := aSt_ok (W := W) hk p (by omega)
    (try dsimp only)
    rw [v_X3_putInOrder_L7, hA1.znB, aSt_nB, w_f (nI_ge hp (by omega))]
    refine k_next (W := W) hk x1 (fun b hb e => ?_) (fun c hc => ?_)
    · have ob := or_lt (S := S) (X := aX S W p) (by omega) hb
      have := W_lt hk w ob
      exact ⟨f1 _ ob, by omega⟩
    · have ec := nxf_e hc
      have hcB := hc.1
      have hpl := hkp.zpl (b := c) (by rw [aSt_nB]; exact hcB)
      have nx : aX S W (p + 1) = aX S W p ||| 2 ^ c := by rw [aX, ec]
      have ns : aN S W (p + 1) = aN S W p + (if (pl (aSt S W p) c != p) = true then 1 else 0) := by
        unfold aN; rw [fb_ct_succ, ec]
      have ss : aSt S W (p + 1) = uN (aSt S W p) 5 c 0 p := by rw [aSt, ec]
      rw [w_in (vi (show c < 12 by omega) (by omega)), nI_clamp (show c < 2 ^ 31 by omega), hA1.zpl (by rw [aSt_nB]; exact hcB), ish1 c (by omega), fa_or, nI_1]
      by_cases z : pl (aSt S W p) c = p
      · rw [w_t (by rw [z])]
        have k1 := ih s ⟨m1, by rw [ss, uN_same z]; exact hA1, f1⟩
        (try dsimp only at k1)
        rw [nx, ns, if_neg (by simp [z]), Nat.add_zero] at k1
        exact k1
      · rw [w_f (by rw [i_eq (by omega) (by omega)]; exact z), w_in (vi (show c < 12 by omega) (by omega)), nI_1]
        have k1 := ih (wI s (bB + c) 3 (nI p)) ⟨m1.I (by omega), by rw [ss]; exact A_pl hA1 (by rw [aSt_nB]; exact h12) (by rw [aSt_nB]; exact hcB), fun X hX => by rw [m_I1, if_neg (by omega)]; exact f1 X hX⟩
        (try dsimp only at k1)
        rw [nx, ns, if_pos (by simpa using z)] at k1
        exact k1
theorem k_putB {W : Nat → Nat} (h : lB σ S W) (hk : ok S) (w : wsp S W 0) (K : ∀ σ', cS σ σ' → B σ' (aSt S W (nB S)) → P (nI (aN S W (nB S))) σ') : v_X12_arrange_L10 P 5000 0 0 0 σ := by
  have h12 := hk.znB
  have p12 := p12 hk
  refine lp_i (fun m p s => v_X12_arrange_L10 P m (nI (aX S W p)) (nI (aN S W p)) (nI p) s) (fun p s => cS σ s ∧ B s (aSt S W p) ∧ ∀ X, X < 2 ^ nB S → s.1 56 X = nI (cut S X) ∧ s.1 57 X = nI (W X - cut S X)) (nB S) (fun m s hI => ?_) (fun m p s hp hI ih => ?_) 5000 0 _ (by omega) (by omega) ⟨cS.rf, h.1, h.2⟩
  · obtain ⟨c1, hB1, f1⟩ := hI
    (try dsimp only)
    rw [v_X12_arrange_L10, hB1.znB, aSt_nB, w_t (nI_le (Nat.le_refl _) (by omega))]
    exact K s c1 hB1
  · obtain ⟨c1, hB1, f1⟩ := hI
    obtain ⟨x1, hc, x3⟩ := aX_n hk w hp
    have hkp := aSt_ok (W := W) hk p (by omega)
    have nx : aX S W (p + 1) = aX S W p ||| 2 ^ nxf S W (aX S W p) := rfl
    have ns : aN S W (p + 1) = aN S W p + (if (pl (aSt S W p) (nxf S W (aX S W p)) != p) = true then 1 else 0) := rfl
    have ss : aSt S W (p + 1) = uN (aSt S W p) 5 (nxf S W (aX S W p)) 0 p := rfl
    (try dsimp only)
    rw [v_X12_arrange_L10, hB1.znB, aSt_nB, w_f (nI_ge hp (by omega))]
    generalize nxf S W (aX S W p) = c at hc x3 nx ns ss
    have hcB := hc.1
    have hpl := hkp.zpl (b := c) (by rw [aSt_nB]; exact hcB)
    have fin : ∀ r : Nat, r = (if (pl (aSt S W p) c != p) = true then 1 else 0) → v_X12_arrange_J86 (v_X12_arrange_L10 P m) P (nI (aX S W p)) (nI p) (nI c) (nI r) (nI (aN S W p)) s := fun r hr => by
      unfold v_X12_arrange_J86
      rw [w_in (vi (show c < 12 by omega) (by omega)), nI_clamp (show c < 2 ^ 31 by omega), ish1 c (by omega), fa_or, nI_add, nI_1]
      have k1 := ih (wI s 38 c (nI p)) ⟨c1.I (by omega), by rw [ss]; exact B_pl hB1, fun X hX => by rw [m_I1, if_neg (by omega), m_I1, if_neg (by omega)]; exact f1 X hX⟩
      (try dsimp only at k1)
      rw [nx, ns, ← hr] at k1
      exact k1
    have t := lp_c (fun n k => v_X12_arrange_L21 (nI (aX S W p)) (nI (aN S W p)) (nI p) (fun (x4_2 : Int32) (σ_3 : Mem) => vp_in x4_2 12 ∧ (((σ_3.1 38 (Int32.toNatClampNeg x4_2)) = nI p → v_X12_arrange_J86 (v_X12_arrange_L10 P m) P (nI (aX S W p)) (nI p) x4_2 0 (nI (aN S W p)) σ_3) ∧ (¬ (σ_3.1 38 (Int32.toNatClampNeg x4_2)) = nI p → v_X12_arrange_J86 (v_X12_arrange_L10 P m) P (nI (aX S W p)) (nI p) x4_2 1 (nI (aN S W p)) σ_3))) P n (nI k) s) (vp_in (nI c) 12 ∧ (((s.1 38 (Int32.toNatClampNeg (nI c))) = nI p → v_X12_arrange_J86 (v_X12_arrange_L10 P m) P (nI (aX S W p)) (nI p) (nI c) 0 (nI (aN S W p)) s) ∧ (¬ (s.1 38 (Int32.toNatClampNeg (nI c))) = nI p → v_X12_arrange_J86 (v_X12_arrange_L10 P m) P (nI (aX S W p)) (nI p) (nI c) 1 (nI (aN S W p)) s))) c (fun n => ?_) (fun n k hkc => ?_) 5000 0 (by omega) (by omega)
    · refine Eq.mpr t ?_
      rw [w_in (vi (show c < 12 by omega) (by omega)), nI_clamp (show c < 2 ^ 31 by omega), hB1.zpl (by rw [aSt_nB]; exact hcB)]
      by_cases z : pl (aSt S W p) c = p
      · rw [w_t (by rw [z])]
        exact fin 0 (by rw [if_neg (by simp [z])])
      · rw [w_f (by rw [i_eq (by omega) (by omega)]; exact z)]
        exact fin 1 (by rw [if_pos (by simpa using z)])
    all_goals
      have val : ∀ d, d < nB S → (aX S W p).testBit d = false → (s.1 56 (aX S W p ||| 2 ^ d) + s.1 57 (aX S W p ||| 2 ^ d) = s.1 57 (aX S W p)) = (W (aX S W p ||| 2 ^ d) = W (aX S W p ||| 2 ^ c)) := fun d hd e => by
        have od := or_lt (S := S) (X := aX S W p) (by omega) hd
        have cw := cut_W w od
        have wl := W_lt hk w od
        have wl2 := W_lt hk w (Y := aX S W p) (by omega)
        rw [(f1 _ od).1, (f1 _ od).2, (f1 _ (by omega)).2, nI_add, i_eq (by omega) (by omega)]
        apply propext
        omega
    · (try dsimp only)
      have oc := or_lt (S := S) (X := aX S W p) (by omega) hcB
      rw [v_X12_arrange_L21, i_bit (by omega) (by omega), bI_1, hc.2.1, w_f (by decide), ish1 c (by omega), fa_or, w_in (vi (show aX S W p ||| 2 ^ c < 4096 by omega) (by omega)), w_in (vi (show aX S W p ||| 2 ^ c < 4096 by omega) (by omega)), w_in (vi (show aX S W p < 4096 by omega) (by omega)), nI_clamp (show aX S W p ||| 2 ^ c < 2 ^ 31 by omega), nI_clamp (show aX S W p < 2 ^ 31 by omega), w_t (by rw [val c hcB hc.2.1])]
    · (try dsimp only)
      have ok2 := or_lt (S := S) (X := aX S W p) (b := k) (by omega) (by omega)
      rw [v_X12_arrange_L21, i_bit (by omega) (by omega), bI_1, nI_1]
      cases e : (aX S W p).testBit k
      · have lt := (hc.2.2 k (by omega) e).2 hkc
        rw [w_f (by decide), ish1 k (by omega), fa_or, w_in (vi (show aX S W p ||| 2 ^ k < 4096 by omega) (by omega)), w_in (vi (show aX S W p ||| 2 ^ k < 4096 by omega) (by omega)), w_in (vi (show aX S W p < 4096 by omega) (by omega)), nI_clamp (show aX S W p ||| 2 ^ k < 2 ^ 31 by omega), nI_clamp (show aX S W p < 2 ^ 31 by omega), w_f (by rw [val k (by omega) e]; omega)]
      · rw [w_t rfl]
theorem t_arrange (h : RR σ) : v_X11_arrange σ (fun r σ => v_X12_arrange σ (fun r2 σ => r = r2 ∧ RR σ)) := by
  obtain ⟨S, hA, hB, hk⟩ := h
  unfold v_X11_arrange
  refine k_frame hA hk (fun σ1 a1 h1 => ?_)
  rw [h1.1.znB]
  refine k_leastA h1 hk (fun σ2 W a2 hA2 w f2 => ?_)
  refine k_putA hA2 hk w f2 (fun σ3 m3 hA3 => ?_)
  (try dsimp only)
  unfold v_X12_arrange
  refine k_leastB (hB.mS ((a1.m.tr a2.m).tr m3)) hk w (fun σ4 b4 h4 => ?_)
  refine k_putB h4 hk w (fun σ5 c5 hB5 => ?_)
  exact ⟨rfl, RRf hA3 (b4.c.tr c5) hB5 (aSt_ok hk _ hk.znB)⟩
end
