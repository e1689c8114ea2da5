-- ===== grips one bar apart =====
def sbA (s : Nat) : Nat := if s &&& (s - 1) = 0 then 0 else 1 + low (s &&& (s - 1))
def sbB (s : Nat) : Nat := if s ^^^ 2 ^ s.log2 = 0 then 0 else 1 + low (s ^^^ 2 ^ s.log2)
def pix (n t u : Nat) : Nat := n + 1 + t * (2 * n - t - 1) / 2 + (u - t - 1)
def shB (n g s : Nat) : Bool := (decide (low s < n) && s == 2 ^ low s && g == 1 + low s) || (decide (low s < s.log2) && decide (s.log2 < n) && s == 2 ^ low s ||| 2 ^ s.log2 && g == pix n (low s) s.log2)
theorem shp_b : ∀ n, n ≤ 12 → ∀ g, g < 79 → 1 ≤ g → g < (gls n).length → shB n g ((gls n).getD g 0) = true := by decide +kernel
theorem shp_t {n g : Nat} (h1 : n ≤ 12) (h2 : g < 79) (h3 : 1 ≤ g) (h4 : g < (gls n).length) : (∃ t, t < n ∧ (gls n).getD g 0 = 2 ^ t ∧ g = 1 + t) ∨ (∃ t u, t < u ∧ u < n ∧ (gls n).getD g 0 = 2 ^ t ||| 2 ^ u ∧ g = pix n t u) := by
  have h := shp_b n h1 g h2 h3 h4
  unfold shB at h
  simp only [Bool.or_eq_true, Bool.and_eq_true, decide_eq_true_eq, beq_iff_eq] at h
  rcases h with ⟨⟨a, b⟩, c⟩ | ⟨⟨⟨a, b⟩, c⟩, d⟩
  · exact Or.inl ⟨_, a, b, c⟩
  · exact Or.inr ⟨_, _, a, b, c, d⟩
theorem sb_1 : ∀ t, t < 12 → sbA (2 ^ t) = 0 ∧ sbB (2 ^ t) = 0 := by decide +kernel
theorem sb_2 : ∀ t, t < 12 → ∀ u, u < 12 → t < u → sbA (2 ^ t ||| 2 ^ u) = 1 + u ∧ sbB (2 ^ t ||| 2 ^ u) = 1 + t := by decide +kernel
theorem pc_1 : ∀ t, t < 12 → pc 12 (2 ^ t) = 1 := by decide +kernel
theorem pc_11 : ∀ t, t < 12 → ∀ u, u < 12 → pc 12 (2 ^ t ^^^ 2 ^ u) = if t = u then 0 else 2 := by decide +kernel
theorem pc_2 : ∀ t, t < 12 → ∀ u, u < 12 → t < u → pc 12 (2 ^ t ||| 2 ^ u) = 2 := by decide +kernel
theorem pc_12 : ∀ v, v < 12 → ∀ t, t < 12 → ∀ u, u < 12 → t < u → pc 12 (2 ^ v ^^^ (2 ^ t ||| 2 ^ u)) = if v = t ∨ v = u then 1 else 3 := by decide +kernel
def p22 (t u v w : Nat) : Bool := !decide (t < u) || !decide (v < w) || pc 12 ((2 ^ t ||| 2 ^ u) ^^^ (2 ^ v ||| 2 ^ w)) == if t = v ∧ u = w then 0 else if t = v ∨ t = w ∨ u = v ∨ u = w then 2 else 4
theorem p22_t : ∀ t, t < 12 → ∀ u, u < 12 → ∀ v, v < 12 → ∀ w, w < 12 → p22 t u v w = true := by decide +kernel
theorem pc_22 {t u v w : Nat} (h1 : t < 12) (h2 : u < 12) (h3 : t < u) (h4 : v < 12) (h5 : w < 12) (h6 : v < w) : pc 12 ((2 ^ t ||| 2 ^ u) ^^^ (2 ^ v ||| 2 ^ w)) = if t = v ∧ u = w then 0 else if t = v ∨ t = w ∨ u = v ∨ u = w then 2 else 4 := by
  have h := p22_t t h1 u h2 v h4 w h5
  unfold p22 at h
  rw [decide_eq_true h3, decide_eq_true h6, Bool.not_true, Bool.false_or, Bool.false_or, beq_iff_eq] at h
  exact h
/-- what a grip is: none, a bar, two -/
def sh0 (S : St) (g : Nat) : Prop := g = 0 ∧ gst S g = 0
def sh1 (S : St) (g t : Nat) : Prop := t < nB S ∧ g = 1 + t ∧ gst S g = 2 ^ t
def sh2 (S : St) (g t u : Nat) : Prop := t < u ∧ u < nB S ∧ g = pix (nB S) t u ∧ gst S g = 2 ^ t ||| 2 ^ u
theorem shp {S : St} (hk : ok S) {g : Nat} (hg : g < glen S) : sh0 S g ∨ (∃ t, sh1 S g t) ∨ ∃ t u, sh2 S g t u := by
  have h79 := glen_79 hk
  by_cases z : g = 0
  · left; exact ⟨z, by rw [z]; exact gst_0⟩
  · right
    rcases shp_t hk.znB (show g < 79 by omega) (by omega) hg with ⟨t, h1, h2, h3⟩ | ⟨t, u, h1, h2, h3, h4⟩
    · exact Or.inl ⟨t, h1, h3, h2⟩
    · exact Or.inr ⟨t, u, h1, h2, h4, h3⟩
/-- two walks over grips, down and up, take the least of all -/
theorem apart {S : St} (hk : ok S) {f B1 B2 : Nat → Nat} (h0 : ∀ x, x < glen S → B1 x ≤ f x) (h1 : ∀ x, x < glen S → B2 x ≤ B1 x) (d : ∀ g, 1 ≤ g → g < glen S → B1 (sbA (gst S g)) ≤ B1 g + 2 ∧ B1 (sbB (gst S g)) ≤ B1 g + 2) (u : ∀ g, 1 ≤ g → g < glen S → B2 g ≤ B2 (sbA (gst S g)) + 2 ∧ B2 g ≤ B2 (sbB (gst S g)) + 2) (sl : ∀ t, t < nB S → 1 + t < glen S ∧ gst S (1 + t) = 2 ^ t) {x y : Nat} (hx : x < glen S) (hy : y < glen S) : B2 x ≤ f y + 2 * dd S x y := by
  have h12 := hk.znB
  have p0 := glen_pos S
  have s1 : ∀ t, t < nB S → B1 0 ≤ B1 (1 + t) + 2 ∧ B2 (1 + t) ≤ B2 0 + 2 ∧ B1 (1 + t) ≤ f (1 + t) ∧ B2 (1 + t) ≤ B1 (1 + t) := fun t ht => by
    obtain ⟨l, e⟩ := sl t ht
    have a := d (1 + t) (by omega) l
    have b := u (1 + t) (by omega) l
    rw [e, (sb_1 t (by omega)).1] at a b
    exact ⟨a.1, b.1, h0 _ l, h1 _ l⟩
  have q0 := h0 0 p0
  have q1 := h1 0 p0
  have s2 : ∀ g t v, sh2 S g t v → g < glen S → B1 (1 + t) ≤ B1 g + 2 ∧ B1 (1 + v) ≤ B1 g + 2 ∧ B2 g ≤ B2 (1 + t) + 2 ∧ B2 g ≤ B2 (1 + v) + 2 := fun g t v hg hl => by
    obtain ⟨a1, a2, a3, a4⟩ := hg
    have ge : 1 ≤ g := by rw [a3]; unfold pix; omega
    have a := d g ge hl
    have b := u g ge hl
    rw [a4, (sb_2 t (by omega) v (by omega) a1).1, (sb_2 t (by omega) v (by omega) a1).2] at a b
    exact ⟨a.2, a.1, b.2, b.1⟩
  have fx := h0 x hx
  have gx := h1 x hx
  have fy := h0 y hy
  have gy := h1 y hy
  unfold dd
  rcases shp hk hx with ⟨rfl, ex⟩ | ⟨t, x1, rfl, ex⟩ | ⟨t, v, hX⟩
  · rcases shp hk hy with ⟨rfl, ey⟩ | ⟨a, y1, rfl, ey⟩ | ⟨a, b, hY⟩
    · omega
    · have := s1 a y1
      rw [ex, ey, Nat.zero_xor, pc_1 a (by omega)]
      omega
    · obtain ⟨z1, z2, z3, z4⟩ := hY
      have k2 := s2 y a b ⟨z1, z2, z3, z4⟩ hy
      have k3 := s1 a (by omega)
      rw [ex, z4, Nat.zero_xor, pc_2 a (by omega) b (by omega) z1]
      omega
  · have kx := s1 t x1
    rcases shp hk hy with ⟨rfl, ey⟩ | ⟨a, y1, rfl, ey⟩ | ⟨a, b, hY⟩
    · rw [ex, ey, Nat.xor_zero, pc_1 t (by omega)]
      omega
    · have ky := s1 a y1
      rw [ex, ey, pc_11 t (by omega) a (by omega)]
      by_cases q : t = a
      · subst q; rw [if_pos rfl]; omega
      · rw [if_neg q]; omega
    · obtain ⟨z1, z2, z3, z4⟩ := hY
      have k2 := s2 y a b ⟨z1, z2, z3, z4⟩ hy
      have k3 := s1 a (by omega)
      rw [ex, z4, pc_12 t (by omega) a (by omega) b (by omega) z1]
      by_cases q : t = a ∨ t = b
      · rw [if_pos q]
        rcases q with q | q
        · subst q; omega
        · subst q; omega
      · rw [if_neg q]; omega
  · have kx := s2 x t v hX hx
    obtain ⟨w1, w2, w3, w4⟩ := hX
    have kt := s1 t (by omega)
    have kv := s1 v (by omega)
    rcases shp hk hy with ⟨rfl, ey⟩ | ⟨a, y1, rfl, ey⟩ | ⟨a, b, hY⟩
    · rw [w4, ey, Nat.xor_zero, pc_2 t (by omega) v (by omega) w1]
      omega
    · have ky := s1 a y1
      rw [w4, ey, Nat.xor_comm, pc_12 a (by omega) t (by omega) v (by omega) w1]
      by_cases q : a = t ∨ a = v
      · rw [if_pos q]
        rcases q with q | q
        · subst q; omega
        · subst q; omega
      · rw [if_neg q]; omega
    · have k2 := s2 y a b hY hy
      obtain ⟨z1, z2, z3, z4⟩ := hY
      have ka := s1 a (by omega)
      have kb := s1 b (by omega)
      rw [w4, z4, pc_22 (show t < 12 by omega) (by omega) w1 (show a < 12 by omega) (by omega) z1]
      by_cases q : t = a ∧ v = b
      · rw [if_pos q]
        have e : x = y := by rw [w3, z3, q.1, q.2]
        subst e; omega
      · rw [if_neg q]
        by_cases q2 : t = a ∨ t = b ∨ v = a ∨ v = b
        · rw [if_pos q2]
          rcases q2 with q2 | q2 | q2 | q2 <;> subst q2 <;> omega
        · rw [if_neg q2]; omega
