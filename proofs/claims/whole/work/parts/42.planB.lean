-- ===== the reference's least trouble from each step on =====
def dd (S : St) (x y : Nat) : Nat := pc 12 (gst S x ^^^ gst S y)
def mn0 (f : Nat → Nat) : Nat → Nat
  | 0 => 1000000
  | n + 1 => if mn0 f n ≤ f n then mn0 f n else f n
def glen (S : St) : Nat := (gls (nB S)).length
/-- least trouble from the step that is k ahead of the last one on, if x is pressed in it -/
def FF (S : St) (g : Nat) : Nat → Nat → Nat
  | 0, x => tob S g (gl S g - 1) x
  | k + 1, x => tob S g (gl S g - 1 - (k + 1)) x + mn0 (fun y => 2 * dd S x y + FF S g k y) (glen S)
theorem mn0_le (f : Nat → Nat) : ∀ n, mn0 f n ≤ 1000000
  | 0 => Nat.le_refl _
  | n + 1 => by
    have := mn0_le f n
    rw [mn0]; split <;> omega
theorem mn0_lo (f : Nat → Nat) : ∀ n y, y < n → mn0 f n ≤ f y
  | 0, y, h => by omega
  | n + 1, y, h => by
    rw [mn0]
    by_cases q : y = n
    · rw [q]; split <;> omega
    · have := mn0_lo f n y (by omega)
      split <;> omega
theorem mn0_ex (f : Nat → Nat) (h1 : ∀ y, f y ≤ 999999) : ∀ n, 0 < n → ∃ y, y < n ∧ mn0 f n = f y
  | 0, h => by omega
  | n + 1, _ => by
    rw [mn0]
    by_cases q : mn0 f n ≤ f n
    · rw [if_pos q]
      by_cases z : n = 0
      · subst z
        have h2 := h1 0
        have h3 : mn0 f 0 = 1000000 := rfl
        omega
      · obtain ⟨y, h2, h3⟩ := mn0_ex f h1 n (by omega)
        exact ⟨y, by omega, h3⟩
    · rw [if_neg q]; exact ⟨n, by omega, rfl⟩
theorem glen_pos (S : St) : 0 < glen S := by simp [glen, gls, sgl]
theorem glen_79 {S : St} (hk : ok S) : glen S ≤ 79 := gls_len _ hk.znB
theorem FF_le {S : St} (hk : ok S) (g : Nat) : ∀ k x, FF S g k x ≤ 174 * (k + 1)
  | 0, x => by
    have := tob_le S g (gl S g - 1) x
    rw [FF]; omega
  | k + 1, x => by
    have := tob_le S g (gl S g - 1 - (k + 1)) x
    have h2 := mn0_lo (fun y => 2 * dd S x y + FF S g k y) (glen S) 0 (glen_pos S)
    have h3 := FF_le hk g k 0
    have h4 : dd S x 0 ≤ 12 := pc_le 12 _
    (try dsimp only at h2)
    rw [FF]
    omega
section
variable {σ : Mem} {S : St} {P : Int32 → Mem → Prop} {PV : Mem → Prop} {PJ : Int64 → Mem → Prop}
theorem glB_59 {L : List Nat} {k : Nat} {v : Int32} (h : glB σ S L) : glB (wI σ 59 k v) S L := by
  obtain ⟨g1, g2⟩ := h
  exact ⟨by rw [m_I1, if_neg (by omega)]; exact g1, fun g hg => by rw [m_I1, if_neg (by omega), m_I1, if_neg (by omega)]; exact g2 g hg⟩
def pB (σ : Mem) (S : St) (g k : Nat) : Prop := ∀ i x, k ≤ i → i < gl S g → x < glen S → σ.1 59 (79 * i + x) = nI (FF S g (gl S g - 1 - i) x)
theorem q_going (hG : glB σ S (gls (nB S))) (hk : ok S) {g i x y : Nat} (hp : pB σ S g (i + 1)) (hi : i + 1 < gl S g) (hx : x < glen S) (hy : y < glen S) : v_X12_goingOn (nI i) (nI x) (nI y) σ P = P (nI (2 * dd S x y + FF S g (gl S g - 1 - (i + 1)) y)) σ := by
  have h79 := glen_79 hk
  have h24 := hk.zgl g
  have g1 := gst_lt hk (show x < 79 by omega)
  have g2 := gst_lt hk (show y < 79 by omega)
  have xl := xor_lt g1 g2
  have e1 : σ.1 40 x = nI (gst S x) := (hG.2 x hx).1
  have e2 : σ.1 40 y = nI (gst S y) := (hG.2 y hy).1
  unfold v_X12_goingOn
  rw [w_in (vi (show x < 79 by omega) (by omega)), w_in (vi (show y < 79 by omega) (by omega)), nI_clamp (show x < 2 ^ 31 by omega), nI_clamp (show y < 2 ^ 31 by omega), e1, e2, fb_xorI, q_countOf (by omega), show (79 : Int32) = nI 79 from rfl, pk_mul, nI_add, nI_add, show 79 * i + 79 + y = 79 * (i + 1) + y by omega, w_in (vi (show 79 * (i + 1) + y < 1896 by omega) (by omega)), nI_clamp (show 79 * (i + 1) + y < 2 ^ 31 by omega), hp (i + 1) y (by omega) hi hy, show (2 : Int32) = nI 2 from rfl, pk_mul, nI_add]
  rfl
theorem k_planB (hB : B σ S) (hk : ok S) {g : Nat} (hg : g < nG S) (K : ∀ σ', bS σ σ' → B σ' S → glB σ' S (gls (nB S)) → pB σ' S g 0 → PV σ') : v_X12_findTrouble (nI g) σ PV := by
  have h8 := hk.znG
  have h24 := hk.zgl g
  have h1 := hk.zgl1 hg
  have h79 := glen_79 hk
  have hp0 := glen_pos S
  unfold v_X12_findTrouble
  refine k_findGrips hB hk (fun σ1 b1 hB1 g1 => ?_)
  rw [w_in (vi (show g < 8 by omega) (by omega)), nI_clamp (show g < 2 ^ 31 by omega), hB1.zgl (by omega), show nI (gl S g) - 1 = nI (gl S g) - nI 1 from rfl]
  refine lp_d (fun n k s => v_X12_findTrouble_L13 (nI g) PV n (nI k - nI 1) s) (fun k s => bS σ s ∧ k ≤ gl S g ∧ glB s S (gls (nB S)) ∧ pB s S g k) (fun n s hI => ?_) (fun n k s hI ih => ?_) 5000 (gl S g) _ (by omega) ⟨b1, Nat.le_refl _, g1, fun i x h2 h3 => by omega⟩
  · obtain ⟨b2, -, g2, p2⟩ := hI
    (try dsimp only)
    rw [v_X12_findTrouble_L13, w_t (by decide)]
    exact K s b2 (hB.bS b2) g2 p2
  · obtain ⟨b2, l2, g2, p2⟩ := hI
    (try dsimp only)
    rw [v_X12_findTrouble_L13, pk_sub (by omega), Nat.add_sub_cancel, w_f (nI_pos (by omega)), show nI k + (-1) = nI k - nI 1 from by rw [Int32.sub_eq_add_neg]; rfl]
    refine lp_i (fun m x s => v_X12_findTrouble_L19 (nI g) (nI k) _ PV m (nI x) s) (fun x s => bS σ s ∧ glB s S (gls (nB S)) ∧ pB s S g (k + 1) ∧ ∀ y, y < x → s.1 59 (79 * k + y) = nI (FF S g (gl S g - 1 - k) y)) (glen S) (fun m s hI => ?_) (fun m x s hx hI ih2 => ?_) 5000 0 _ (by omega) (by omega) ⟨b2, g2, p2, fun y hy => by omega⟩
    · obtain ⟨b3, g3, p3, f3⟩ := hI
      (try dsimp only)
      rw [v_X12_findTrouble_L19, g3.1, w_t (nI_le (show (gls (nB S)).length ≤ glen S from Nat.le_refl _) (by omega))]
      refine ih s ⟨b3, by omega, g3, fun i x h2 h3 h4 => ?_⟩
      by_cases z : i = k
      · rw [z]; exact f3 x h4
      · exact p3 i x (by omega) h3 h4
    · obtain ⟨b3, g3, p3, f3⟩ := hI
      have hB3 := hB.bS b3
      have fle := FF_le hk g
      have fin : ∀ v, FF S g (gl S g - 1 - k) x = tob S g k x + v → v_X12_findTrouble_J103 (v_X12_findTrouble_L19 (nI g) (nI k) (fun σ_11 => v_X12_findTrouble_L13 (nI g) PV n (nI k - nI 1) σ_11) PV m) (fun σ_11 => v_X12_findTrouble_L13 (nI g) PV n (nI k - nI 1) σ_11) PV (nI g) (nI k) (nI x) (nI v) s := fun v hv => by
        unfold v_X12_findTrouble_J103
        rw [q_troubleB hB3 g3 hk (by omega) (by omega) hx, show (79 : Int32) = nI 79 from rfl, pk_mul, nI_add, nI_add, w_in (vi (show 79 * k + x < 1896 by omega) (by omega)), nI_clamp (show 79 * k + x < 2 ^ 31 by omega), ← hv, nI_1]
        refine ih2 _ ⟨b3.I (by omega), glB_59 g3, fun i y h2 h3 h4 => by rw [m_I1, if_neg (by omega)]; exact p3 i y h2 h3 h4, fun y hy => ?_⟩
        rw [m_I1]
        by_cases z : y = x
        · rw [if_pos ⟨rfl, by omega⟩, z]
        · rw [if_neg (by omega)]; exact f3 y (by omega)
      (try dsimp only)
      rw [v_X12_findTrouble_L19, g3.1, w_f (nI_ge (show x < (gls (nB S)).length from hx) (by have := hx; unfold glen at this h79; omega)), w_in (vi (show g < 8 by omega) (by omega)), nI_clamp (show g < 2 ^ 31 by omega), hB3.zgl (by omega), show nI (gl S g) - 1 = nI (gl S g - 1) from by rw [show (1 : Int32) = nI 1 from rfl, pk_sub h1]]
      by_cases e : k = gl S g - 1
      · rw [w_t (by rw [e]), show (5000 : Nat) = 4999 + 1 from rfl, v_X12_findTrouble_L50, g3.1, w_f (show ¬ nI (gls (nB S)).length ≤ (0 : Int32) from nI_ge (a := 0) hp0 (by unfold glen at h79; omega)), w_in (vi (show g < 8 by omega) (by omega)), nI_clamp (show g < 2 ^ 31 by omega), hB3.zgl (by omega), show nI (gl S g) - 1 = nI (gl S g - 1) from by rw [show (1 : Int32) = nI 1 from rfl, pk_sub h1], w_t (nI_le (by omega) (by omega))]
        exact fin 0 (by rw [show gl S g - 1 - k = 0 by omega, FF, e]; rfl)
      · rw [w_f (by rw [i_eq (by omega) (by omega)]; exact e)]
        obtain ⟨q, hq⟩ : ∃ q, gl S g - 1 - k = q + 1 := ⟨gl S g - 1 - k - 1, by omega⟩
        have t := lp_c (fun n2 y => v_X12_findTrouble_L50 (nI g) (nI k) (nI x) (fun x4_8 σ_9 => v_X12_findTrouble_J103 (v_X12_findTrouble_L19 (nI g) (nI k) (fun σ_11 => v_X12_findTrouble_L13 (nI g) PV n (nI k - nI 1) σ_11) PV m) (fun σ_11 => v_X12_findTrouble_L13 (nI g) PV n (nI k - nI 1) σ_11) PV (nI g) (nI k) (nI x) x4_8 σ_9) PV n2 (nI (mn0 (fun y => 2 * dd S x y + FF S g q y) y)) (nI y) s) _ (glen S) (fun n2 => by
          (try dsimp only)
          rw [v_X12_findTrouble_L50, g3.1, w_t (nI_le (show (gls (nB S)).length ≤ glen S from Nat.le_refl _) (by omega))]) (fun n2 y hy => by
          have fb := fle q y
          have db : dd S x y ≤ 12 := pc_le 12 _
          have mb := mn0_le (fun y => 2 * dd S x y + FF S g q y) y
          (try dsimp only)
          rw [v_X12_findTrouble_L50, g3.1, w_f (nI_ge (show y < (gls (nB S)).length from hy) (by unfold glen at h79; omega)), w_in (vi (show g < 8 by omega) (by omega)), nI_clamp (show g < 2 ^ 31 by omega), hB3.zgl (by omega), show nI (gl S g) - 1 = nI (gl S g - 1) from by rw [show (1 : Int32) = nI 1 from rfl, pk_sub h1], w_f (nI_ge (by omega) (by omega)), q_going g3 hk p3 (by omega) hx hy, show gl S g - 1 - (k + 1) = q by omega, nI_1, mn0]
          by_cases z : mn0 (fun y => 2 * dd S x y + FF S g q y) y ≤ 2 * dd S x y + FF S g q y
          · rw [w_t (nI_le z (by omega)), if_pos z]
          · rw [w_f (nI_ge (by omega) (by omega)), if_neg z]) 5000 0 (by omega) (by omega)
        refine Eq.mpr t ?_
        exact fin _ (by rw [hq, FF, ← hq, show gl S g - 1 - (gl S g - 1 - k) = k by omega])
end
