-- ===== the class' plan of a song =====
section
variable {σ : Mem} {S : St} {P : Int32 → Mem → Prop} {PV : Mem → Prop} {PJ : Int64 → Mem → Prop}
theorem AG.I25 {k : Nat} {v : Int32} (h : AG σ S) : AG (wI σ 25 k v) S := by
  obtain ⟨hA, ⟨g1, g2⟩, g3, g4⟩ := h
  have q : ∀ o j, o ≠ 25 → (wI σ 25 k v).1 o j = σ.1 o j := fun o j ho => by rw [m_I1, if_neg (by omega)]
  exact ⟨hA.aS (aS.rf.I (by omega)), ⟨by rw [q 7 5 (by omega)]; exact g1, fun g hg => by rw [q 8 g (by omega), q 10 g (by omega)]; exact g2 g hg⟩, g3, fun c hc => by rw [q 11 c (by omega)]; exact g4 c hc⟩
def pA (σ : Mem) (S : St) (g k : Nat) : Prop := ∀ i x, k ≤ i → i < gl S g → x < glen S → σ.1 25 (79 * i + x) = nI (FF S g (gl S g - 1 - i) x)
/-- what lies behind step i -/
def bhd (S : St) (g k x : Nat) : Nat := if k = gl S g then 0 else mn0 (fun y => FF S g (gl S g - 1 - k) y + 2 * dd S x y) (glen S)
theorem bhd_F {g k : Nat} (hk : k + 1 ≤ gl S g) (x : Nat) : bhd S g (k + 1) x + tob S g k x = FF S g (gl S g - 1 - k) x := by
  unfold bhd
  by_cases q : k + 1 = gl S g
  · rw [if_pos q, show gl S g - 1 - k = 0 by omega, FF, Nat.zero_add, show gl S g - 1 = k by omega]
  · rw [if_neg q, show gl S g - 1 - k = gl S g - 1 - (k + 1) + 1 by omega, FF, Nat.add_comm, show gl S g - 1 - (gl S g - 1 - (k + 1) + 1) = k by omega]
    congr 2
    funext y
    rw [Nat.add_comm]
theorem k_planA (h : AG σ S) (hk : ok S) {g : Nat} (hg : g < nG S) (K : ∀ σ', aS σ σ' → AG σ' S → pA σ' S g 0 → PV σ') : v_X6_plan (bG + g) σ PV := by
  have h8 := hk.znG
  have h24 := hk.zgl g
  have h1 := hk.zgl1 hg
  have h79 := glen_79 hk
  have p0 := glen_pos S
  unfold v_X6_plan
  rw [q_fill (o := 26) (n := 79) (t := 13) rfl (by omega)]
  have a2 : aS σ (wIr σ 26 (fun j => if j < 79 then 0 else σ.1 26 j)) := aS.rf.Ir (by omega)
  have h2 : AG (wIr σ 26 (fun j => if j < 79 then 0 else σ.1 26 j)) S := by
    obtain ⟨hA, ⟨g1, g2⟩, g3, g4⟩ := h
    have q : ∀ o j, o ≠ 26 → (wIr σ 26 (fun j => if j < 79 then 0 else σ.1 26 j)).1 o j = σ.1 o j := fun o j ho => by rw [m_Ir1, if_neg ho]
    exact ⟨hA.aS a2, ⟨by rw [q 7 5 (by omega)]; exact g1, fun g hg => by rw [q 8 g (by omega), q 10 g (by omega)]; exact g2 g hg⟩, g3, fun c hc => by rw [q 11 c (by omega)]; exact g4 c hc⟩
  (try dsimp only)
  rw [h2.1.zgl (by omega), show nI (gl S g) - 1 = nI (gl S g) - nI 1 from rfl]
  refine lp_d (fun n k s => v_X6_plan_L15 (bG + g) PV n (nI k - nI 1) s) (fun k s => aS σ s ∧ AG s S ∧ k ≤ gl S g ∧ bdA s S (bhd S g k) ∧ pA s S g k) (fun n s hI => ?_) (fun n k s hI ih => ?_) 5000 (gl S g) _ (by omega) ⟨a2, h2, Nat.le_refl _, fun x hx => by
      rw [m_Ir1, if_pos rfl, if_pos (by omega)]
      unfold bhd; rw [if_pos rfl]; rfl, fun i x h3 h4 => by omega⟩
  · obtain ⟨a3, h3, l3, f3, p3⟩ := hI
    (try dsimp only)
    rw [v_X6_plan_L15, w_t (by decide)]
    exact K s a3 h3 p3
  · obtain ⟨a3, h3, l3, f3, p3⟩ := hI
    (try dsimp only)
    rw [v_X6_plan_L15, pk_sub (by omega), Nat.add_sub_cancel, w_f (nI_pos (by omega)), show nI k + (-1) = nI k - nI 1 from by rw [Int32.sub_eq_add_neg]; rfl]
    refine lp_i (fun m x s => v_X6_plan_L22 (bG + g) (nI k) _ PV m (nI x) s) (fun x s => aS σ s ∧ AG s S ∧ (∀ y, y < glen S → s.1 26 y = nI (if y < x then FF S g (gl S g - 1 - k) y else bhd S g (k + 1) y)) ∧ pA s S g (k + 1) ∧ ∀ y, y < x → s.1 25 (79 * k + y) = nI (FF S g (gl S g - 1 - k) y)) (glen S) (fun m s hI => ?_) (fun m x s hx hI ih2 => ?_) 5000 0 _ (by omega) (by omega) ⟨a3, h3, fun y hy => by rw [if_neg (by omega)]; exact f3 y hy, p3, fun y hy => by omega⟩
    · obtain ⟨a4, h4, f4, p4, e4⟩ := hI
      (try dsimp only)
      rw [v_X6_plan_L22, h4.2.1.1, w_t (nI_le (show (gls (nB S)).length ≤ glen S from Nat.le_refl _) (by omega))]
      have fl : ∀ x, FF S g (gl S g - 1 - k) x ≤ 100000 := fun x => by
        have := FF_le hk g (gl S g - 1 - k) x
        omega
      refine k_change (f := FF S g (gl S g - 1 - k)) h4 hk (fun y hy => by rw [f4 y hy, if_pos hy]) fl (fun s5 a5 o5 h5 f5 => ih s5 ⟨a4.tr a5, h5, by omega, fun y hy => ?_, fun i y h6 h7 h8 => ?_⟩)
      · rw [f5 y hy]
        unfold bhd
        rw [if_neg (by omega)]
      · rw [o5 25 _ (by omega)]
        by_cases z : i = k
        · rw [z]; exact e4 y h8
        · exact p4 i y (by omega) h7 h8
    · obtain ⟨a4, h4, f4, p4, e4⟩ := hI
      have e26 := f4 x hx
      rw [if_neg (by omega)] at e26
      (try dsimp only)
      rw [v_X6_plan_L22, h4.2.1.1, w_f (nI_ge (show x < (gls (nB S)).length from hx) (by unfold glen at h79; omega)), w_in (vi (show x < 79 by omega) (by omega)), nI_clamp (show x < 2 ^ 31 by omega), q_troubleA h4 hk (by omega) (by omega) hx, w_in (vi (show x < 79 by omega) (by omega)), w_in (vi (show x < 79 by omega) (by omega)), show (79 : Int32) = nI 79 from rfl, pk_mul, nI_add, w_in (vi (show k * 79 + x < 1896 by omega) (by omega)), nI_clamp (show k * 79 + x < 2 ^ 31 by omega), e26, nI_add, bhd_F (by omega) x, m_I1, if_pos ⟨rfl, rfl⟩, nI_1, Nat.mul_comm k 79]
      refine ih2 _ ⟨(a4.I (by omega)).I (by omega), h4.I26.I25, fun y hy => ?_, fun i y h6 h7 h8 => by rw [m_I1, if_neg (by omega), m_I1, if_neg (by omega)]; exact p4 i y h6 h7 h8, fun y hy => ?_⟩
      · rw [m_I1, if_neg (by omega), m_I1]
        by_cases z : y = x
        · rw [if_pos ⟨rfl, z⟩, if_pos (by omega), z]
        · rw [if_neg (fun q => z q.2), f4 y hy]
          by_cases z2 : y < x
          · rw [if_pos z2, if_pos (by omega)]
          · rw [if_neg z2, if_neg (by omega)]
      · rw [m_I1]
        by_cases z : y = x
        · rw [if_pos ⟨rfl, by omega⟩, z]
        · rw [if_neg (by omega), m_I1, if_neg (by omega)]; exact e4 y (by omega)
end
