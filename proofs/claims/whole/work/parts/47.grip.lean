-- ===== grip, both sides =====
def gse (S : St) (g k : Nat) : Nat := if k = 0 then 0 else gst S (gp S g (k - 1))
section
variable {σ : Mem} {S : St} {P : Int32 → Mem → Prop} {PV : Mem → Prop} {PJ : Int64 → Mem → Prop}
theorem q_setAt (h : AG σ S) (hk : ok S) {g i : Nat} (hp : pA σ S g 0) (hi : i < gl S g) : v_X6_setAt (nI i) σ P = P (nI (gst S (gp S g i))) σ := by
  have h24 := hk.zgl g
  have h79 := glen_79 hk
  have db : ∀ x y, dd S x y ≤ 12 := fun x y => pc_le 12 _
  unfold v_X6_setAt
  have t := lp_c (fun m k => v_X6_setAt_L5 (nI i) P m (nI (gse S g k)) (nI k) σ) (P (nI (gst S (gp S g i))) σ) (i + 1) (fun m => by
    (try dsimp only)
    rw [v_X6_setAt_L5, w_t (nI_lt (by omega) (by omega))]
    unfold gse
    rw [if_neg (by omega), Nat.add_sub_cancel]) (fun m k hk2 => by
    have gk2 := gp_lt S g k
    have e8 : σ.1 8 (gp S g k) = nI (gst S (gp S g k)) := (h.2.1.2 _ gk2).1
    have nx : gse S g (k + 1) = gst S (gp S g k) := by unfold gse; rw [if_neg (by omega), Nat.add_sub_cancel]
    have fb : v_X6_firstBest (nI k) (nI (gse S g k)) σ = fun Q => Q (nI (gp S g k)) σ := by
      funext Q
      cases k with
      | zero =>
        exact q_first (F := fun x => FF S g (gl S g - 1) x) h hk (g := g) (by omega) (fun x hx => ⟨by have := FF_b hk (g := g) (k := gl S g - 1) (by omega) x; (try dsimp only); omega, fun Q => q_from0 hk hp (by omega) hx⟩)
      | succ j =>
        rw [show gse S g (j + 1) = gst S (gp S g j) from by unfold gse; rw [if_neg (by omega), Nat.add_sub_cancel]]
        exact q_first (F := fun x => 2 * dd S (gp S g j) x + FF S g (gl S g - 1 - (j + 1)) x) h hk (g := g) (by omega) (fun x hx => ⟨by have := FF_b hk (g := g) (k := gl S g - 1 - (j + 1)) (by omega) x; have := db (gp S g j) x; (try dsimp only); omega, fun Q => q_fromS h hk hp (by omega) hx (gp_lt S g j)⟩)
    (try dsimp only)
    rw [v_X6_setAt_L5, w_f (nI_nlt (by omega) (by omega)), w_f (show ¬ (24 : Int32) ≤ nI k from nI_ge (b := 24) (by omega) (by omega)), fb]
    (try dsimp only)
    rw [w_in (vi (show gp S g k < 79 by omega) (by omega)), nI_clamp (show gp S g k < 2 ^ 31 by omega), e8, nx, nI_1]) 5000 0 (by omega) (by omega)
  exact t
theorem q_gripB (hG : glB σ S (gls (nB S))) (hk : ok S) {g i : Nat} (hp : pB σ S g 0) (hi : i < gl S g) : v_X12_grip_L24 (nI i) P 5000 (nI (gp S g 0)) 0 σ = P (nI (gst S (gp S g i))) σ := by
  have h24 := hk.zgl g
  have h79 := glen_79 hk
  have p0 := glen_pos S
  have db : ∀ x y, dd S x y ≤ 12 := fun x y => pc_le 12 _
  have t := lp_c (fun m k => v_X12_grip_L24 (nI i) P m (nI (gp S g k)) (nI k) σ) (P (nI (gst S (gp S g i))) σ) i (fun m => by
    have gi := gp_lt S g i
    have e40 : σ.1 40 (gp S g i) = nI (gst S (gp S g i)) := (hG.2 _ gi).1
    (try dsimp only)
    rw [v_X12_grip_L24, w_t (nI_le (Nat.le_refl _) (by omega)), w_in (vi (show gp S g i < 79 by omega) (by omega)), nI_clamp (show gp S g i < 2 ^ 31 by omega), e40]) (fun m k hk2 => by
    have gk2 := gp_lt S g k
    have pk : pB σ S g (k + 1) := fun a x h1 h2 h3 => hp a x (Nat.zero_le _) h2 h3
    have FB : ∀ x, 2 * dd S (gp S g k) x + FF S g (gl S g - 1 - (k + 1)) x ≤ 100000 := fun x => by
      have := FF_b hk (g := g) (k := gl S g - 1 - (k + 1)) (by omega) x
      have := db (gp S g k) x
      omega
    (try dsimp only)
    rw [v_X12_grip_L24, w_f (nI_ge hk2 (by omega)), nI_1]
    have t2 := lp_c (fun n2 n => v_X12_grip_L36 (nI i) (nI (gp S g k)) (nI k) (fun (x5_10 : Int32) (σ_11 : Mem) => v_X12_grip_L24 (nI i) P m x5_10 (nI (k + 1)) σ_11) P n2 (nI (am (fun x => 2 * dd S (gp S g k) x + FF S g (gl S g - 1 - (k + 1)) x) n)) (nI (n + 1)) σ) (v_X12_grip_L24 (nI i) P m (nI (gp S g (k + 1))) (nI (k + 1)) σ) (glen S - 1) (fun n2 => by
      (try dsimp only)
      rw [v_X12_grip_L36, hG.1, show glen S - 1 + 1 = glen S by omega, w_t (nI_le (show (gls (nB S)).length ≤ glen S from Nat.le_refl _) (by omega))]
      rfl) (fun n2 n hn => by
      have al := am_le (fun x => 2 * dd S (gp S g k) x + FF S g (gl S g - 1 - (k + 1)) x) n
      have b1 := FB (am (fun x => 2 * dd S (gp S g k) x + FF S g (gl S g - 1 - (k + 1)) x) n)
      have b2 := FB (n + 1)
      (try dsimp only)
      rw [v_X12_grip_L36, hG.1, w_f (nI_ge (show n + 1 < (gls (nB S)).length from by show n + 1 < glen S; omega) (by unfold glen at h79; omega)), q_going hG hk pk (by omega) gk2 (show n + 1 < glen S by omega), q_going hG hk pk (by omega) gk2 (show am (fun x => 2 * dd S (gp S g k) x + FF S g (gl S g - 1 - (k + 1)) x) n < glen S by omega), nI_1, am]
      by_cases z : 2 * dd S (gp S g k) (am (fun x => 2 * dd S (gp S g k) x + FF S g (gl S g - 1 - (k + 1)) x) n) + FF S g (gl S g - 1 - (k + 1)) (am (fun x => 2 * dd S (gp S g k) x + FF S g (gl S g - 1 - (k + 1)) x) n) ≤ 2 * dd S (gp S g k) (n + 1) + FF S g (gl S g - 1 - (k + 1)) (n + 1)
      · rw [w_t (nI_le z (by omega)), if_pos z]
      · rw [w_f (nI_ge (by omega) (by omega)), if_neg z]) 5000 0 (by omega) (by omega)
    exact t2) 5000 0 (by omega) (by omega)
  exact t
theorem t_grip (h : RR σ) (a1 a2 : Int32) : v_X11_grip a1 a2 σ (fun r σ => v_X12_grip a1 a2 σ (fun r2 σ => r = r2 ∧ RR σ)) := by
  obtain ⟨S, hA, hB, hk⟩ := h
  have h8 := hk.znG
  have fin : RR σ := ⟨S, hA, hB, hk⟩
  unfold v_X11_grip
  rcases rg a1 (nG S) (by omega) with ⟨g, hg, rfl⟩ | ho
  · have h1 := hk.zgl1 hg
    have h24 := hk.zgl g
    rcases rg a2 (gl S g) (by omega) with ⟨i, hi, rfl⟩ | ho
    · rw [q_stepA_n hA hk hg hi, w_1]
      refine k_look hA hk (fun σ1 a1 hA1 g1 => ?_)
      rw [w_in (vi (show g < 8 by omega) (by omega)), nI_clamp (show g < 2 ^ 31 by omega)]
      refine k_planA ⟨hA1, g1⟩ hk hg (fun σ2 a2 h2 p2 => ?_)
      rw [q_setAt h2 hk p2 hi]
      (try dsimp only)
      unfold v_X12_grip
      rw [q_stepB_n (hB.mS (a1.m.tr a2.m)) hk hg hi, w_1]
      refine k_planB (hB.mS (a1.m.tr a2.m)) hk hg (fun σ3 b3 hB3 g3 p3 => ?_)
      rw [q_leastF g3 hk p3 h1, q_gripB g3 hk p3 hi]
      exact ⟨rfl, RRf h2.1 b3.c hB3 hk⟩
    · rw [q_stepA_o hA hk hg ho, w_0]
      (try dsimp only)
      unfold v_X12_grip
      rw [q_stepB_o hB hk hg ho, w_0]
      exact ⟨rfl, fin⟩
  · rw [q_stepA_g hA hk ho, w_0]
    (try dsimp only)
    unfold v_X12_grip
    rw [q_stepB_g hB ho, w_0]
    exact ⟨rfl, fin⟩
end
