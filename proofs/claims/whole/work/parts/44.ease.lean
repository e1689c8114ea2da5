-- ===== the class lets bars change =====
theorem ct_xor (p q : Nat → Bool) : ∀ n, fb_ct (fun i => p i ^^ q i) n ≤ fb_ct p n + fb_ct q n
  | 0 => Nat.le_refl _
  | n + 1 => by
    have := ct_xor p q n
    rw [fb_ct_succ, fb_ct_succ, fb_ct_succ]
    cases p n <;> cases q n <;> simp <;> omega
theorem dd_tri (S : St) (x y z : Nat) : dd S x z ≤ dd S x y + dd S y z := by
  unfold dd pc
  have e : ∀ i, (gst S x ^^^ gst S z).testBit i = ((gst S x ^^^ gst S y).testBit i ^^ (gst S y ^^^ gst S z).testBit i) := fun i => by
    rw [Nat.testBit_xor, Nat.testBit_xor, Nat.testBit_xor]
    cases (gst S x).testBit i <;> cases (gst S y).testBit i <;> cases (gst S z).testBit i <;> rfl
  rw [fb_ct_cong (fun i _ => e i)]
  exact ct_xor _ _ 12
theorem dd_s (S : St) (x y : Nat) : dd S x y = dd S y x := by unfold dd; rw [Nat.xor_comm]
theorem sl_t : ∀ n, n ≤ 12 → ∀ t, t < 12 → t < n → 1 + t < (gls n).length ∧ (gls n).getD (1 + t) 0 = 2 ^ t := by decide +kernel
theorem sl_S {S : St} (hk : ok S) {t : Nat} (ht : t < nB S) : 1 + t < glen S ∧ gst S (1 + t) = 2 ^ t := sl_t _ hk.znB t (by have := hk.znB; omega) ht
theorem sb_f {S : St} (hk : ok S) {g : Nat} (h1 : 1 ≤ g) (hg : g < glen S) : sbA (gst S g) < g ∧ sbB (gst S g) < g ∧ dd S g (sbA (gst S g)) = 1 ∧ dd S g (sbB (gst S g)) = 1 ∧ gst S g ≠ 0 := by
  have h12 := hk.znB
  rcases shp hk hg with ⟨z, _⟩ | ⟨t, x1, x2, ex⟩ | ⟨t, v, w1, w2, w3, w4⟩
  · omega
  · have a := sb_1 t (by omega)
    have p := Nat.two_pow_pos t
    rw [ex, a.1, a.2]
    unfold dd
    rw [ex, gst_0, Nat.xor_zero, pc_1 t (by omega)]
    exact ⟨by omega, by omega, rfl, rfl, by omega⟩
  · have a := sb_2 t (by omega) v (by omega) w1
    have p := Nat.two_pow_pos t
    have lt := sl_S hk (show t < nB S by omega)
    have lv := sl_S hk w2
    have ge : nB S + 1 ≤ g := by rw [w3]; unfold pix; omega
    have nz : 2 ^ t ≤ 2 ^ t ||| 2 ^ v := Nat.left_le_or
    rw [w4, a.1, a.2]
    unfold dd
    rw [w4, lv.2, lt.2, Nat.xor_comm _ (2 ^ v), Nat.xor_comm _ (2 ^ t), pc_12 v (by omega) t (by omega) v (by omega) w1, pc_12 t (by omega) t (by omega) v (by omega) w1, if_pos (Or.inr rfl), if_pos (Or.inl rfl)]
    exact ⟨by omega, by omega, rfl, rfl, by omega⟩
def bdA (σ : Mem) (S : St) (B : Nat → Nat) : Prop := ∀ x, x < glen S → σ.1 26 x = nI (B x)
def lwr (S : St) (f B : Nat → Nat) : Prop := ∀ x, x < glen S → ∃ y, y < glen S ∧ f y + 2 * dd S x y ≤ B x
def eas (B : Nat → Nat) (a b : Nat) : Nat → Nat := fun x => if x = a then min (B a) (B b + 2) else B x
theorem eas_le (B : Nat → Nat) (a b x : Nat) : eas B a b x ≤ B x := by
  unfold eas
  by_cases q : x = a
  · rw [if_pos q, q]; exact Nat.min_le_left _ _
  · rw [if_neg q]; exact Nat.le_refl _
theorem eas_a (B : Nat → Nat) (a b : Nat) : eas B a b a ≤ B b + 2 := by
  unfold eas; rw [if_pos rfl]; exact Nat.min_le_right _ _
theorem eas_n {B : Nat → Nat} {a b x : Nat} (h : x ≠ a) : eas B a b x = B x := by unfold eas; rw [if_neg h]
theorem eas_w {S : St} {f B : Nat → Nat} {a b : Nat} (h : lwr S f B) (hb : b < glen S) (hd : dd S a b = 1) : lwr S f (eas B a b) := fun x hx => by
  by_cases q : x = a
  · subst q
    by_cases z : B x ≤ B b + 2
    · obtain ⟨y, h1, h2⟩ := h x hx
      exact ⟨y, h1, by unfold eas; rw [if_pos rfl, Nat.min_eq_left z]; exact h2⟩
    · obtain ⟨y, h1, h2⟩ := h b hb
      have := dd_tri S x b y
      exact ⟨y, h1, by unfold eas; rw [if_pos rfl, Nat.min_eq_right (by omega)]; omega⟩
  · obtain ⟨y, h1, h2⟩ := h x hx
    exact ⟨y, h1, by rw [eas_n q]; exact h2⟩
section
variable {σ : Mem} {S : St} {P : Int32 → Mem → Prop} {PV : Mem → Prop} {PJ : Int64 → Mem → Prop}
theorem AG.I26 {k : Nat} {v : Int32} (h : AG σ S) : AG (wI σ 26 k v) S := by
  obtain ⟨hA, ⟨g1, g2⟩, g3, g4⟩ := h
  have q : ∀ o j, o ≠ 26 → (wI σ 26 k v).1 o j = σ.1 o j := fun o j ho => by rw [m_I1, if_neg (by omega)]
  exact ⟨hA.aS (aS.rf.I (by omega)), ⟨by rw [q 7 5 (by omega)]; exact g1, fun g hg => by rw [q 8 g (by omega), q 10 g (by omega)]; exact g2 g hg⟩, g3, fun c hc => by rw [q 11 c (by omega)]; exact g4 c hc⟩
theorem k_ease {B : Nat → Nat} {a b : Nat} (hB : bdA σ S B) (hk : ok S) (ha : a < glen S) (hb : b < glen S) (hx : ∀ x, B x ≤ 100000) (K : bdA (wI σ 26 a (nI (eas B a b a))) S (eas B a b) → PV (wI σ 26 a (nI (eas B a b a)))) : v_X6_ease (nI a) (nI b) σ PV := by
  have h79 := glen_79 hk
  have b1 := hx a
  have b2 := hx b
  unfold v_X6_ease
  rw [w_in (vi (show a < 79 by omega) (by omega)), w_in (vi (show b < 79 by omega) (by omega)), nI_clamp (show a < 2 ^ 31 by omega), nI_clamp (show b < 2 ^ 31 by omega), hB a ha, hB b hb, show (2 : Int32) = nI 2 from rfl, nI_add, q_minN (by omega) (by omega), w_in (vi (show a < 79 by omega) (by omega))]
  have e : eas B a b a = min (B a) (B b + 2) := by unfold eas; rw [if_pos rfl]
  rw [← e]
  refine K (fun x hx2 => ?_)
  rw [m_I1]
  by_cases z : x = a
  · rw [if_pos ⟨rfl, z⟩, z]
  · rw [if_neg (fun q => z q.2), eas_n z]; exact hB x hx2
theorem q_gripOf {s : Nat} (hs : s < 4096) : v_X4_gripOf (nI s) σ P = P (nI (if s = 0 then 0 else 1 + low s)) σ := by
  unfold v_X4_gripOf
  by_cases z : s = 0
  · rw [z, w_t (by rfl), if_pos rfl]; rfl
  · rw [w_f (by rw [i_eq0 (by omega)]; exact z), if_neg z, q_ntz (by omega) (low_Lo z hs).1, show (1 : Int32) = nI 1 from rfl, nI_add]
theorem q_sbA {s : Nat} (h1 : s ≠ 0) (hs : s < 4096) : v_X4_gripOf (nI s &&& (nI s - 1)) σ P = P (nI (sbA s)) σ := by
  rw [show (1 : Int32) = nI 1 from rfl, pk_sub (by omega), fa_and, q_gripOf (Nat.lt_of_le_of_lt Nat.and_le_left hs)]
  rfl
theorem q_sbB {s : Nat} (h1 : s ≠ 0) (hs : s < 4096) : v_J6_highestOneBit_0f7a4 (nI s) σ (fun r σ => v_X4_gripOf (nI s ^^^ r) σ P) = P (nI (sbB s)) σ := by
  obtain ⟨t, ht, hh⟩ := Hi_ex (k := 12) h1 (by omega)
  have e := Hi_log hh
  have l : 2 ^ t < 4096 := Nat.pow_lt_pow_right (n := 12) (by decide) ht
  rw [q_hob (by omega) hh, fb_xorI, q_gripOf (xor_lt hs l), ← e]
  rfl
/-- bars change -/
theorem k_change (h : AG σ S) (hk : ok S) {f : Nat → Nat} (hf : bdA σ S f) (hx : ∀ x, f x ≤ 100000) (K : ∀ σ', aS σ σ' → (∀ o k, o ≠ 26 → σ'.1 o k = σ.1 o k) → AG σ' S → bdA σ' S (fun x => mn0 (fun y => f y + 2 * dd S x y) (glen S)) → PV σ') : v_X6_letBarsChange σ PV := by
  have h79 := glen_79 hk
  have p0 := glen_pos S
  have d0 : ∀ x, dd S x x = 0 := fun x => by unfold dd; rw [Nat.xor_self]; decide
  unfold v_X6_letBarsChange
  rw [h.2.1.1, show (gls (nB S)).length = glen S from rfl, show (1 : Int32) = nI 1 from rfl, pk_sub (by omega)]
  refine lp_d (fun n k s => v_X6_letBarsChange_L7 _ PV n (nI k) s) (fun k s => aS σ s ∧ (∀ o k, o ≠ 26 → s.1 o k = σ.1 o k) ∧ AG s S ∧ k < glen S ∧ ∃ B, bdA s S B ∧ (∀ x, B x ≤ f x) ∧ lwr S f B ∧ ∀ g, k < g → g < glen S → B (sbA (gst S g)) ≤ B g + 2 ∧ B (sbB (gst S g)) ≤ B g + 2) (fun n s hI => ?_) (fun n k s hI ih => ?_) 5000 (glen S - 1) σ (by omega) ⟨aS.rf, fun _ _ _ => rfl, h, by omega, f, hf, fun _ => Nat.le_refl _, fun x hx2 => ⟨x, hx2, by rw [d0]; omega⟩, fun g h1 h2 => by omega⟩
  · obtain ⟨a1, o1, h1, _, B, i1, i2, i3, i4⟩ := hI
    (try dsimp only)
    rw [v_X6_letBarsChange_L7, w_t (by decide)]
    (try dsimp only)
    refine lp_i (fun n g s => v_X6_letBarsChange_L53 PV n (nI g) s) (fun g s => 1 ≤ g ∧ aS σ s ∧ (∀ o k, o ≠ 26 → s.1 o k = σ.1 o k) ∧ AG s S ∧ ∃ C, bdA s S C ∧ (∀ x, C x ≤ B x) ∧ lwr S f C ∧ ∀ g', 1 ≤ g' → g' < g → C g' ≤ C (sbA (gst S g')) + 2 ∧ C g' ≤ C (sbB (gst S g')) + 2) (glen S) (fun n s hI => ?_) (fun n g s hg hI ih => ?_) 5000 1 s (by omega) (by omega) ⟨Nat.le_refl _, a1, o1, h1, B, i1, fun _ => Nat.le_refl _, i3, fun g' h2 h3 => by omega⟩
    · obtain ⟨_, a2, o2, h2, C, j1, j2, j3, j4⟩ := hI
      (try dsimp only)
      rw [v_X6_letBarsChange_L53, h2.2.1.1, w_t (nI_le (show (gls (nB S)).length ≤ glen S from Nat.le_refl _) (by omega))]
      refine K s a2 o2 h2 (fun x hx2 => ?_)
      rw [j1 x hx2]
      congr 1
      (try dsimp only)
      have db : ∀ x y, dd S x y ≤ 12 := fun x y => pc_le 12 _
      obtain ⟨y, y1, y2⟩ := mn0_ex (fun y => f y + 2 * dd S x y) (fun y => by have := hx y; have := db x y; (try dsimp only); omega) (glen S) p0
      obtain ⟨z, z1, z2⟩ := j3 x hx2
      have m1 := mn0_lo (fun y => f y + 2 * dd S x y) (glen S) z z1
      have m2 := apart hk (f := f) (B1 := B) (B2 := C) (fun x _ => i2 x) (fun x _ => j2 x) (fun g h3 h4 => i4 g (by omega) h4) j4 (fun t ht => sl_S hk ht) hx2 y1
      (try dsimp only at y2 m1)
      omega
    · obtain ⟨g1, a2, o2, h2, C, j1, j2, j3, j4⟩ := hI
      · obtain ⟨s1, s2, s3, s4, s5⟩ := sb_f hk (show 1 ≤ g by omega) hg
        have gl2 := gst_lt hk (show g < 79 by omega)
        have e8 : s.1 8 g = nI (gst S g) := (h2.2.1.2 g hg).1
        (try dsimp only)
        rw [v_X6_letBarsChange_L53, h2.2.1.1, w_f (nI_ge (show g < (gls (nB S)).length from hg) (by unfold glen at h79; omega)), w_in (vi (show g < 79 by omega) (by omega)), nI_clamp (show g < 2 ^ 31 by omega), e8, q_sbA s5 gl2, nI_1]
        have bb : ∀ x, C x ≤ 100000 := fun x => Nat.le_trans (j2 x) (Nat.le_trans (i2 x) (hx x))
        refine k_ease (S := S) (B := C) j1 hk hg (by omega) bb (fun j5 => ?_)
        rw [q_sbB s5 gl2]
        refine k_ease (S := S) j5 hk hg (by omega) (fun x => Nat.le_trans (eas_le _ _ _ _) (bb x)) (fun j6 => ?_)
        refine ih _ ⟨by omega, (a2.I (by omega)).I (by omega), fun o j ho => by rw [m_I1, if_neg (by omega), m_I1, if_neg (by omega)]; exact o2 o j ho, h2.I26.I26, _, j6, fun x => Nat.le_trans (eas_le _ _ _ _) (Nat.le_trans (eas_le _ _ _ _) (j2 x)), eas_w (eas_w j3 (by omega) s3) (by omega) s4, fun g' h3 h4 => ?_⟩
        have n1 : ∀ x, x ≠ g → eas (eas C g (sbA (gst S g))) g (sbB (gst S g)) x = C x := fun x hx2 => by
          rw [eas_n hx2, eas_n hx2]
        by_cases z : g' = g
        · rw [z, n1 (sbA (gst S g)) (by omega), n1 (sbB (gst S g)) (by omega)]
          have c1 := eas_a (eas C g (sbA (gst S g))) g (sbB (gst S g))
          rw [eas_n (show sbB (gst S g) ≠ g by omega)] at c1
          exact ⟨Nat.le_trans (eas_le _ _ _ _) (eas_a _ _ _), c1⟩
        · obtain ⟨t1, t2, _⟩ := sb_f hk h3 (show g' < glen S by omega)
          rw [n1 g' z, n1 (sbA (gst S g')) (by omega), n1 (sbB (gst S g')) (by omega)]
          exact j4 g' h3 (by omega)
  · obtain ⟨a1, o1, h1, l1, B, i1, i2, i3, i4⟩ := hI
    obtain ⟨s1, s2, s3, s4, s5⟩ := sb_f hk (show 1 ≤ k + 1 by omega) l1
    have gl2 := gst_lt hk (show k + 1 < 79 by omega)
    have e8 : s.1 8 (k + 1) = nI (gst S (k + 1)) := (h1.2.1.2 (k + 1) l1).1
    (try dsimp only)
    rw [v_X6_letBarsChange_L7, w_f (show ¬ nI (k + 1) ≤ 0 from nI_nle (by omega) (by omega)), w_in (vi (show k + 1 < 79 by omega) (by omega)), nI_clamp (show k + 1 < 2 ^ 31 by omega), e8, q_sbA s5 gl2, pk_m1]
    have bb : ∀ x, B x ≤ 100000 := fun x => Nat.le_trans (i2 x) (hx x)
    refine k_ease (S := S) (B := B) i1 hk (by omega) l1 bb (fun i5 => ?_)
    rw [q_sbB s5 gl2]
    refine k_ease (S := S) i5 hk (by omega) l1 (fun x => Nat.le_trans (eas_le _ _ _ _) (bb x)) (fun i6 => ?_)
    refine ih _ ⟨(a1.I (by omega)).I (by omega), fun o j ho => by rw [m_I1, if_neg (by omega), m_I1, if_neg (by omega)]; exact o1 o j ho, h1.I26.I26, by omega, _, i6, fun x => Nat.le_trans (eas_le _ _ _ _) (Nat.le_trans (eas_le _ _ _ _) (i2 x)), eas_w (eas_w i3 l1 (by rw [dd_s]; exact s3)) l1 (by rw [dd_s]; exact s4), fun g h2 h3 => ?_⟩
    have n1 : ∀ g', k < g' → eas (eas B (sbA (gst S (k + 1))) (k + 1)) (sbB (gst S (k + 1))) (k + 1) g' = B g' := fun g' hg' => by
      rw [eas_n (by omega), eas_n (by omega)]
    rw [n1 g h2]
    by_cases z : g = k + 1
    · subst z
      refine ⟨Nat.le_trans (eas_le _ _ _ _) (eas_a _ _ _), ?_⟩
      have := eas_a (eas B (sbA (gst S (k + 1))) (k + 1)) (sbB (gst S (k + 1))) (k + 1)
      rw [eas_n (show k + 1 ≠ sbA (gst S (k + 1)) by omega)] at this
      exact this
    · have := i4 g (by omega) h3
      exact ⟨Nat.le_trans (eas_le _ _ _ _) (Nat.le_trans (eas_le _ _ _ _) this.1), Nat.le_trans (eas_le _ _ _ _) (Nat.le_trans (eas_le _ _ _ _) this.2)⟩
end
