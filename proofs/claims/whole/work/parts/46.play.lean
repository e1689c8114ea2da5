-- ===== trouble, grip: both sides =====
def am (f : Nat → Nat) : Nat → Nat
  | 0 => 0
  | n + 1 => if f (am f n) ≤ f (n + 1) then am f n else n + 1
theorem am_le (f : Nat → Nat) : ∀ n, am f n ≤ n
  | 0 => Nat.le_refl _
  | n + 1 => by
    have := am_le f n
    rw [am]; split <;> omega
/-- the grip pressed in a step -/
def gp (S : St) (g : Nat) : Nat → Nat
  | 0 => am (fun x => FF S g (gl S g - 1) x) (glen S - 1)
  | k + 1 => am (fun x => 2 * dd S (gp S g k) x + FF S g (gl S g - 1 - (k + 1)) x) (glen S - 1)
theorem gp_lt (S : St) (g k : Nat) : gp S g k < glen S := by
  have p0 := glen_pos S
  cases k
  · have := am_le (fun x => FF S g (gl S g - 1) x) (glen S - 1)
    rw [gp]; omega
  · next k =>
    have := am_le (fun x => 2 * dd S (gp S g k) x + FF S g (gl S g - 1 - (k + 1)) x) (glen S - 1)
    rw [gp]; omega
section
variable {σ : Mem} {S : St} {P : Int32 → Mem → Prop} {PV : Mem → Prop} {PJ : Int64 → Mem → Prop}
theorem q_first {i A : Nat} (h : AG σ S) (hk : ok S) {g : Nat} {F : Nat → Nat} (hi : i < 24) (hF : ∀ x, x < glen S → F x ≤ 100000 ∧ ∀ P : Int32 → Mem → Prop, v_X6_troubleFrom (nI i) (nI A) (nI x) σ P = P (nI (F x)) σ) : v_X6_firstBest (nI i) (nI A) σ P = P (nI (am F (glen S - 1))) σ := by
  have h79 := glen_79 hk
  have p0 := glen_pos S
  unfold v_X6_firstBest
  rw [show v_X6_troubleFrom (nI i) (nI A) 0 σ = v_X6_troubleFrom (nI i) (nI A) (nI 0) σ from rfl, (hF 0 p0).2]
  have t := lp_c (fun m n => v_X6_firstBest_L16 (nI i) (nI A) P m (nI (am F n)) (nI (F (am F n))) (nI (n + 1)) σ) (P (nI (am F (glen S - 1))) σ) (glen S - 1) (fun m => by
    (try dsimp only)
    rw [v_X6_firstBest_L16, h.2.1.1, show glen S - 1 + 1 = glen S by omega, w_t (nI_le (show (gls (nB S)).length ≤ glen S from Nat.le_refl _) (by omega))]) (fun m n hn => by
    have al := am_le F n
    have b1 := (hF (am F n) (by omega)).1
    have b2 := (hF (n + 1) (by omega)).1
    (try dsimp only)
    rw [v_X6_firstBest_L16, h.2.1.1, w_f (nI_ge (show n + 1 < (gls (nB S)).length from by show n + 1 < glen S; omega) (by unfold glen at h79; omega)), (hF (n + 1) (by omega)).2, nI_1, am]
    by_cases z : F (am F n) ≤ F (n + 1)
    · rw [w_t (nI_le z (by omega)), if_pos z]
    · rw [w_f (nI_ge (by omega) (by omega)), if_neg z]) 5000 0 (by omega) (by omega)
  exact t
theorem q_from0 (hk : ok S) {g x A : Nat} (hp : pA σ S g 0) (h1 : 1 ≤ gl S g) (hx : x < glen S) : v_X6_troubleFrom (nI 0) (nI A) (nI x) σ P = P (nI (FF S g (gl S g - 1) x)) σ := by
  have h79 := glen_79 hk
  have e := hp 0 x (Nat.zero_le _) h1 hx
  rw [show 79 * 0 + x = x by omega, Nat.sub_zero] at e
  unfold v_X6_troubleFrom v_X6_troubleFrom_J20
  rw [w_t (show nI 0 = (0 : Int32) from rfl), show (79 : Int32) = nI 79 from rfl, pk_mul, nI_add, show 0 * 79 + x = x by omega, w_in (vi (show x < 1896 by omega) (by omega)), nI_clamp (show x < 2 ^ 31 by omega), e, show (2 : Int32) * 0 + nI (FF S g (gl S g - 1) x) = nI (FF S g (gl S g - 1) x) from by simp]
theorem q_fromS (h : AG σ S) (hk : ok S) {g x y i : Nat} (hp : pA σ S g 0) (hi : i + 1 < gl S g) (hx : x < glen S) (hy : y < glen S) : v_X6_troubleFrom (nI (i + 1)) (nI (gst S y)) (nI x) σ P = P (nI (2 * dd S y x + FF S g (gl S g - 1 - (i + 1)) x)) σ := by
  have h79 := glen_79 hk
  have h24 := hk.zgl g
  have e := hp (i + 1) x (Nat.zero_le _) hi hx
  have g1 := gst_lt hk (show x < 79 by omega)
  have g2 := gst_lt hk (show y < 79 by omega)
  have xl := xor_lt g2 g1
  have e8 : σ.1 8 x = nI (gst S x) := (h.2.1.2 x hx).1
  unfold v_X6_troubleFrom v_X6_troubleFrom_J20
  rw [w_f (by rw [i_eq0 (by omega)]; omega), w_in (vi (show x < 79 by omega) (by omega)), nI_clamp (show x < 2 ^ 31 by omega), e8, fb_xorI, q_bcN xl, show (79 : Int32) = nI 79 from rfl, pk_mul, nI_add, Nat.mul_comm (i + 1) 79, w_in (vi (show 79 * (i + 1) + x < 1896 by omega) (by omega)), nI_clamp (show 79 * (i + 1) + x < 2 ^ 31 by omega), e, show (2 : Int32) = nI 2 from rfl, pk_mul, nI_add]
  rfl
theorem FF_b (hk : ok S) {g k : Nat} (hl : k < 24) (x : Nat) : FF S g k x ≤ 5000 := by
  have := FF_le hk g k x
  omega
theorem q_leastF (hG : glB σ S (gls (nB S))) (hk : ok S) {g : Nat} (hp : pB σ S g 0) (h1 : 1 ≤ gl S g) : v_X12_leastFirst σ P = P (nI (gp S g 0)) σ := by
  have h79 := glen_79 hk
  have p0 := glen_pos S
  have h24 := hk.zgl g
  have e : ∀ x, x < glen S → σ.1 59 x = nI (FF S g (gl S g - 1) x) := fun x hx => by
    have := hp 0 x (Nat.zero_le _) h1 hx
    rw [show 79 * 0 + x = x by omega, Nat.sub_zero] at this
    exact this
  unfold v_X12_leastFirst
  have t := lp_c (fun m n => v_X12_leastFirst_L4 P m (nI (am (fun x => FF S g (gl S g - 1) x) n)) (nI (n + 1)) σ) (P (nI (gp S g 0)) σ) (glen S - 1) (fun m => by
    (try dsimp only)
    rw [v_X12_leastFirst_L4, hG.1, show glen S - 1 + 1 = glen S by omega, w_t (nI_le (show (gls (nB S)).length ≤ glen S from Nat.le_refl _) (by omega))]
    rfl) (fun m n hn => by
    have al := am_le (fun x => FF S g (gl S g - 1) x) n
    have b1 := FF_b hk (g := g) (k := gl S g - 1) (by omega) (am (fun x => FF S g (gl S g - 1) x) n)
    have b2 := FF_b hk (g := g) (k := gl S g - 1) (by omega) (n + 1)
    (try dsimp only)
    rw [v_X12_leastFirst_L4, hG.1, w_f (nI_ge (show n + 1 < (gls (nB S)).length from by show n + 1 < glen S; omega) (by unfold glen at h79; omega)), w_in (vi (show n + 1 < 1896 by omega) (by omega)), w_in (vi (show am (fun x => FF S g (gl S g - 1) x) n < 1896 by omega) (by omega)), nI_clamp (show n + 1 < 2 ^ 31 by omega), nI_clamp (show am (fun x => FF S g (gl S g - 1) x) n < 2 ^ 31 by omega), e _ (by omega), e _ (by omega), nI_1, am]
    by_cases z : FF S g (gl S g - 1) (am (fun x => FF S g (gl S g - 1) x) n) ≤ FF S g (gl S g - 1) (n + 1)
    · rw [w_t (nI_le z (by omega)), if_pos z]
    · rw [w_f (nI_ge (by omega) (by omega)), if_neg z]) 5000 0 (by omega) (by omega)
  exact t
theorem t_trouble (h : RR σ) (a1 : Int32) : v_X11_trouble a1 σ (fun r σ => v_X12_trouble a1 σ (fun r2 σ => r = r2 ∧ RR σ)) := by
  obtain ⟨S, hA, hB, hk⟩ := h
  have h8 := hk.znG
  unfold v_X11_trouble
  rcases rg a1 (nG S) (by omega) with ⟨g, hg, rfl⟩ | ho
  · have h1 := hk.zgl1 hg
    have h24 := hk.zgl g
    have h79 := glen_79 hk
    have gl0 := gp_lt S g 0
    rw [q_knowsG_n hA hk hg, w_1]
    refine k_look hA hk (fun σ1 a1 hA1 g1 => ?_)
    rw [w_in (vi (show g < 8 by omega) (by omega)), nI_clamp (show g < 2 ^ 31 by omega)]
    refine k_planA ⟨hA1, g1⟩ hk hg (fun σ2 a2 h2 p2 => ?_)
    unfold v_X6_leastTrouble
    have e := p2 0 (gp S g 0) (Nat.zero_le _) h1 gl0
    rw [show 79 * 0 + gp S g 0 = gp S g 0 by omega, Nat.sub_zero] at e
    rw [show v_X6_firstBest 0 0 σ2 = v_X6_firstBest (nI 0) (nI 0) σ2 from rfl, q_first (F := fun x => FF S g (gl S g - 1) x) h2 hk (g := g) (by omega) (fun x hx => ⟨by have := FF_b hk (g := g) (k := gl S g - 1) (by omega) x; (try dsimp only); omega, fun P => q_from0 hk p2 h1 hx⟩), show am (fun x => FF S g (gl S g - 1) x) (glen S - 1) = gp S g 0 from rfl, w_in (vi (show gp S g 0 < 1896 by omega) (by omega)), nI_clamp (show gp S g 0 < 2 ^ 31 by omega), e]
    (try dsimp only)
    unfold v_X12_trouble
    rw [q_isSong_n (hB.mS (a1.m.tr a2.m)) hk hg, w_1]
    refine k_planB (hB.mS (a1.m.tr a2.m)) hk hg (fun σ3 b3 hB3 g3 p3 => ?_)
    have e3 := p3 0 (gp S g 0) (Nat.zero_le _) h1 gl0
    rw [show 79 * 0 + gp S g 0 = gp S g 0 by omega, Nat.sub_zero] at e3
    rw [q_leastF g3 hk p3 h1, w_in (vi (show gp S g 0 < 1896 by omega) (by omega)), nI_clamp (show gp S g 0 < 2 ^ 31 by omega), e3]
    exact ⟨rfl, RRf h2.1 b3.c hB3 hk⟩
  · rw [q_knowsG_o hA ho, w_0]
    (try dsimp only)
    unfold v_X12_trouble
    rw [q_isSong_o hB ho, w_0]
    exact ⟨rfl, S, hA, hB, hk⟩
end
