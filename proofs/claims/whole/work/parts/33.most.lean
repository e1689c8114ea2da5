-- ===== fewest, most: both sides =====
theorem lp_x {α : Type} (W : Nat → Nat → α → Prop) (I : Nat → α → Prop) (e : Nat) (hx : ∀ n s, I e s → W (n + 1) e s) (hs : ∀ n k s, k < e → I k s → (∀ s', I (k + 1) s' → W n (k + 1) s') → W (n + 1) k s) : ∀ n k s, k ≤ e → e < n + k → I k s → W n k s := by
  intro n
  induction n with
  | zero => intro k s h1 h2; omega
  | succ n ih =>
    intro k s h1 h2 h3
    by_cases q : k = e
    · rw [q] at h3 ⊢; exact hx n s h3
    · exact hs n k s (by omega) h3 (fun s' h => ih (k + 1) s' (by omega) (by omega) h)
def cn (S : St) (X : Nat) : Nat := fb_ct (svd S X) (nG S)
def sz (X : Nat) : Nat := pc 12 X
def lex (S : St) (b Y : Nat) : Prop := cn S Y < cn S b ∨ (cn S Y = cn S b ∧ (sz b < sz Y ∨ (sz b = sz Y ∧ b ≤ Y)))
def bst (S : St) (m b : Nat) : Prop := sz b ≤ m ∧ b < 2 ^ nF S ∧ ∀ Y, Y < 2 ^ nF S → sz Y ≤ m → lex S b Y
theorem bst_one {S : St} {m b c : Nat} (h : bst S m b) (h2 : bst S m c) : b = c := by
  have a := h.2.2 c h2.2.1 h2.1
  have d := h2.2.2 b h.2.1 h.1
  unfold lex at a d
  omega
theorem cn_pc {S : St} (hk : ok S) (X : Nat) : pc 12 (svm S X) = cn S X := by
  have := hk.znG
  unfold svm cn
  rw [pc_more (nb_lt _ _) (show nG S ≤ 12 by omega), pc_nb]
theorem giv_mono {S : St} {X c : Nat} (h : giv S X c = true) : giv S (2 ^ nF S - 1) c = true := by
  obtain ⟨j, k, h1, h2, h3, h4, h5⟩ := giv_iff.mp h
  exact giv_iff.mpr ⟨j, k, h1, h2, by rw [Nat.testBit_two_pow_sub_one]; simp; omega, by rw [Nat.testBit_two_pow_sub_one]; simp; omega, h5⟩
theorem cn_mono (S : St) (X : Nat) : cn S X ≤ cn S (2 ^ nF S - 1) := by
  unfold cn
  apply fb_ct_sub
  intro g _ h
  unfold svd at h ⊢
  rw [Bool.not_eq_true', ex_no] at h ⊢
  intro i hi
  have := h i hi
  rw [Bool.not_eq_false'] at this ⊢
  exact giv_mono this
theorem cn_le (S : St) (X : Nat) : cn S X ≤ nG S := fb_ct_le _ _
theorem svd_0 {S : St} (hk : ok S) {g : Nat} (hg : g < nG S) : svd S 0 g = false := by
  have := hk.zgl1 hg
  unfold svd
  rw [show ex (fun i => !giv S 0 (trn (gc S g i) (gk S g))) (gl S g) = true from ex_iff.mpr ⟨0, by omega, by rw [giv_0]; rfl⟩]
  rfl
theorem cn_0 {S : St} (hk : ok S) : cn S 0 = 0 := fb_ct_zero.mpr (fun g hg => svd_0 hk hg)
theorem sz_0 : sz 0 = 0 := by decide
theorem sz_z {Y : Nat} (hY : Y < 4096) (h : sz Y = 0) : Y = 0 := by
  have a := fb_ct_zero.mp h
  rw [nb_of (x := Y) (k := 12) (p := fun _ => false) hY (fun i hi => a i hi)]
  exact nb_f (fun _ _ => rfl)
theorem sz_nF {S : St} (hk : ok S) {Y : Nat} (hY : Y < 2 ^ nF S) : sz Y ≤ nF S := by
  unfold sz
  rw [pc_more hY hk.znO]
  exact pc_le _ _
theorem svm_all {S : St} (X : Nat) : svm S X = 2 ^ nG S - 1 ↔ cn S X = nG S := by
  unfold cn
  rw [fb_ct_all]
  constructor
  · intro h g hg
    have := congrArg (fun x => x.testBit g) h
    unfold svm at this
    simp only [nb_tb, Nat.testBit_two_pow_sub_one, hg, decide_true, Bool.true_and] at this
    exact this
  · intro h
    unfold svm
    symm
    apply nb_of
    · have := Nat.two_pow_pos (nG S); omega
    · intro i hi
      rw [Nat.testBit_two_pow_sub_one, h i hi]
      simp [hi]
section
variable {σ : Mem} {S : St} {P : Int32 → Mem → Prop} {PV : Mem → Prop} {PJ : Int64 → Mem → Prop}
/-- the class' best -/
def lvl (S : St) (m d b : Nat) : Prop := sz b ≤ m ∧ b < 2 ^ nF S ∧ sz b < d ∧ ∀ Y, Y < 2 ^ nF S → sz Y < d → lex S b Y
theorem k_most (h : oA σ S) (hk : ok S) {m : Nat} (hm : m ≤ 12) (K : ∀ b, bst S m b → P (nI b) σ) : v_X5_mostServing (nI m) σ P := by
  have h12 := hk.znO
  have p12 := p12o hk
  have p0 := Nat.two_pow_pos (nF S)
  have cl : ∀ X, cn S X ≤ 8 := fun X => Nat.le_trans (cn_le S X) hk.znG
  unfold v_X5_mostServing
  rw [h.1.znO, top_m h12, q_servedBy h hk (by omega), q_bcN (by have := svm_lt hk (2 ^ nF S - 1); omega), cn_pc hk]
  have t := lp_x (fun n d b => v_X5_mostServing_L27 (nI m) (nI (2 ^ nF S - 1)) (nI (cn S (2 ^ nF S - 1))) P n (nI (cn S b)) (nI b) (nI d) σ) (fun d b => lvl S m d b) (nF S + 1) (fun n b hI => ?_) (fun n d b hd hI ih => ?_) 5000 1 0 (by omega) (by omega) ⟨by rw [sz_0]; omega, p0, by rw [sz_0]; omega, fun Y hY h1 => by
    have : Y = 0 := sz_z (by omega) (by omega)
    rw [this]
    unfold lex
    omega⟩
  · (try dsimp only at t)
    rw [cn_0 hk] at t
    exact t
  · obtain ⟨i1, i2, i3, i4⟩ := hI
    have f := K b ⟨i1, i2, fun Y hY h1 => i4 Y hY (by have := sz_nF hk hY; omega)⟩
    (try dsimp only)
    rw [v_X5_mostServing_L27]
    by_cases q : m < nF S + 1
    · rw [w_t (nI_lt q (by omega))]; exact f
    · rw [w_f (nI_nlt (by omega) (by omega)), h.1.znO, w_t (nI_lt (by omega) (by omega))]; exact f
  · obtain ⟨i1, i2, i3, i4⟩ := hI
    (try dsimp only)
    rw [v_X5_mostServing_L27]
    by_cases q : m < d
    · rw [w_t (nI_lt q (by omega))]
      exact K b ⟨i1, i2, fun Y hY h1 => i4 Y hY (by omega)⟩
    · rw [w_f (nI_nlt (by omega) (by omega)), h.1.znO, w_f (nI_nlt (by omega) (by omega)), nI_1]
      refine lp_x (fun k X b => v_X5_mostServing_L45 (nI m) (nI (2 ^ nF S - 1)) (nI (cn S (2 ^ nF S - 1))) (nI d) (fun (x4_13 : Int32) (x5_13 : Int32) (σ_14 : Mem) => v_X5_mostServing_L27 (nI m) (nI (2 ^ nF S - 1)) (nI (cn S (2 ^ nF S - 1))) P n x4_13 x5_13 (nI (d + 1)) σ_14) P k (nI (cn S b)) (nI b) (nI X) σ) (fun X b => sz b ≤ m ∧ b < 2 ^ nF S ∧ (sz b < d ∨ (sz b = d ∧ b < X)) ∧ ∀ Y, Y < 2 ^ nF S → (sz Y < d ∨ (sz Y = d ∧ Y < X)) → lex S b Y) (2 ^ nF S) (fun k b hI => ?_) (fun k X b hX hI ih2 => ?_) 5000 1 b p0 (by omega) ⟨i1, i2, Or.inl i3, fun Y hY h1 => i4 Y hY ?_⟩
      · obtain ⟨j1, j2, j3, j4⟩ := hI
        (try dsimp only)
        rw [v_X5_mostServing_L45, w_t (nI_lt (by omega) (by omega))]
        exact ih b ⟨j1, j2, by omega, fun Y hY h1 => j4 Y hY (by omega)⟩
      · obtain ⟨j1, j2, j3, j4⟩ := hI
        have c1 := cl b
        have c2 := cl X
        have c3 := cl (2 ^ nF S - 1)
        (try dsimp only)
        rw [v_X5_mostServing_L45, w_f (nI_nlt (by omega) (by omega))]
        by_cases q2 : cn S (2 ^ nF S - 1) ≤ cn S b
        · rw [w_t (nI_le q2 (by omega))]
          refine ih b ⟨j1, j2, by omega, fun Y hY h1 => ?_⟩
          by_cases z : sz Y < d ∨ (sz Y = d ∧ Y < X)
          · exact j4 Y hY z
          · have := cn_mono S Y
            unfold lex
            omega
        · rw [w_f (nI_ge (by omega) (by omega)), q_bcN (by omega), nI_1, show pc 12 X = sz X from rfl]
          by_cases q3 : sz X = d
          · rw [w_t (by rw [q3]), q_servedBy h hk (by omega), q_bcN (by have := svm_lt hk X; omega), cn_pc hk]
            unfold v_X5_mostServing_J92
            (try dsimp only)
            by_cases q4 : cn S X ≤ cn S b
            · rw [w_t (nI_le q4 (by omega)), q_maxN (by omega) (by omega), Nat.max_eq_left q4, nI_1]
              refine ih2 b ⟨j1, j2, by omega, fun Y hY h1 => ?_⟩
              by_cases z : Y = X
              · rw [z]; unfold lex; omega
              · exact j4 Y hY (by omega)
            · rw [w_f (nI_ge (by omega) (by omega)), q_maxN (by omega) (by omega), Nat.max_eq_right (by omega), nI_1]
              refine ih2 X ⟨by omega, hX, by omega, fun Y hY h1 => ?_⟩
              by_cases z : Y = X
              · rw [z]; unfold lex; omega
              · have := j4 Y hY (by omega)
                unfold lex at this ⊢
                omega
          · rw [w_f (by rw [i_eq (by have := pc_le 12 X; unfold sz; omega) (by omega)]; exact q3)]
            refine ih2 b ⟨j1, j2, by omega, fun Y hY h1 => j4 Y hY ?_⟩
            by_cases z : Y = X
            · rw [z] at h1 ⊢; omega
            · omega
      · rcases h1 with h1 | ⟨h1, h2⟩
        · exact h1
        · have : Y = 0 := by omega
          rw [this, sz_0] at h1
          rw [this, sz_0]
          omega
-- the reference
theorem q_mostB (h : oB σ S) (hk : ok S) {m : Nat} (hm : m ≤ 12) (K : ∀ b, bst S m b → P (nI b) σ) : v_X12_most_L21 (nI m) P 5000 0 1 σ := by
  have h12 := hk.znO
  have p12 := p12o hk
  have p0 := Nat.two_pow_pos (nF S)
  have cl : ∀ X, cn S X ≤ 8 := fun X => Nat.le_trans (cn_le S X) hk.znG
  have sl : ∀ X, sz X ≤ 12 := fun X => pc_le 12 X
  refine lp_x (fun n X b => v_X12_most_L21 (nI m) P n (nI b) (nI X) σ) (fun X b => sz b ≤ m ∧ b < X ∧ ∀ Y, Y < X → sz Y ≤ m → lex S b Y) (2 ^ nF S) (fun n b hI => ?_) (fun n X b hX hI ih => ?_) 5000 1 0 p0 (by omega) ⟨by rw [sz_0]; omega, by omega, fun Y hY h1 => ?_⟩
  · obtain ⟨i1, i2, i3⟩ := hI
    (try dsimp only)
    rw [v_X12_most_L21, h.1.znO, ish1 _ (by omega), w_t (nI_le (Nat.le_refl _) (by omega))]
    exact K b ⟨i1, i2, i3⟩
  · obtain ⟨i1, i2, i3⟩ := hI
    have c1 := cl b
    have c2 := cl X
    have s1 := sl b
    have s2 := sl X
    have v1 := svm_lt hk b
    have v2 := svm_lt hk X
    (try dsimp only)
    rw [v_X12_most_L21, h.1.znO, ish1 _ (by omega), w_f (nI_ge hX (by omega)), q_countOf (by omega), show pc 12 X = sz X from rfl, nI_1]
    by_cases q : sz X ≤ m
    · rw [w_t (nI_le q (by omega)), w_in (vi (show X < 4096 by omega) (by omega)), nI_clamp (show X < 2 ^ 31 by omega), h.2 X hX, q_countOf (by omega), cn_pc hk, w_in (vi (show b < 4096 by omega) (by omega)), nI_clamp (show b < 2 ^ 31 by omega), h.2 b (by omega), q_countOf (by omega), cn_pc hk]
      have gt : (0 < nI (cn S X) - nI (cn S b)) = (cn S b < cn S X) := by
        rw [fa_lt, pk_sub_toInt (by omega) (by omega)]
        apply propext
        show (0 : Int) < _ ↔ _
        omega
      have eq : (nI (cn S X) - nI (cn S b) = 0) = (cn S X = cn S b) := by
        apply propext
        rw [← Int32.toInt_inj, pk_sub_toInt (by omega) (by omega)]
        show _ = (0 : Int) ↔ _
        omega
      have keep : lex S b X → v_X12_most_L21 (nI m) P n (nI b) (nI (X + 1)) σ := fun hl => ih b ⟨i1, by omega, fun Y hY h1 => by
        by_cases z : Y = X
        · rw [z]; exact hl
        · exact i3 Y (by omega) h1⟩
      have take : (cn S b < cn S X ∨ (cn S X = cn S b ∧ sz X < sz b)) → v_X12_most_L21 (nI m) P n (nI X) (nI (X + 1)) σ := fun hl => ih X ⟨q, by omega, fun Y hY h1 => by
        by_cases z : Y = X
        · rw [z]; unfold lex; omega
        · have := i3 Y (by omega) h1
          unfold lex at this ⊢
          omega⟩
      by_cases q1 : cn S b < cn S X
      · rw [w_t (by rw [gt]; exact q1)]
        exact take (Or.inl q1)
      · rw [w_f (by rw [gt]; exact q1)]
        by_cases q2 : cn S X = cn S b
        · rw [w_t (by rw [eq]; exact q2), q_countOf (by omega), q_countOf (by omega), show pc 12 X = sz X from rfl, show pc 12 b = sz b from rfl]
          by_cases q3 : sz b ≤ sz X
          · rw [w_t (nI_le q3 (by omega))]
            exact keep (by unfold lex; omega)
          · rw [w_f (nI_ge (by omega) (by omega))]
            exact take (Or.inr ⟨q2, by omega⟩)
        · rw [w_f (by rw [eq]; exact q2)]
          exact keep (by unfold lex; omega)
    · rw [w_f (nI_ge (by omega) (by omega))]
      exact ih b ⟨i1, by omega, fun Y hY h1 => by
        by_cases z : Y = X
        · rw [z] at h1; omega
        · exact i3 Y (by omega) h1⟩
  · rw [show Y = 0 by omega]; unfold lex; omega
theorem k_fewB (h : oB σ S) (hk : ok S) {b : Nat} (hb : bst S 12 b) (K : P (if svm S b = 2 ^ nG S - 1 then nI b else -9) σ) : v_X12_fewest_L9 P 5000 (-9) 0 σ := by
  have h12 := hk.znO
  have h8 := hk.znG
  have p12 := p12o hk
  have p8 : 2 ^ nG S ≤ 2 ^ 8 := Nat.pow_le_pow_right (by decide) h8
  have sl : ∀ X, sz X ≤ 12 := fun X => pc_le 12 X
  obtain ⟨b1, b2, b3⟩ := hb
  refine lp_x (fun n X a => v_X12_fewest_L9 P n a (nI X) σ) (fun X a => (a = -9 ∧ ∀ Y, Y < X → cn S Y ≠ nG S) ∨ ∃ c, c < X ∧ a = nI c ∧ cn S c = nG S ∧ ∀ Y, Y < X → cn S Y = nG S → sz c < sz Y ∨ (sz c = sz Y ∧ c ≤ Y)) (2 ^ nF S) (fun n a hI => ?_) (fun n X a hX hI ih => ?_) 5000 0 (-9) (Nat.zero_le _) (by omega) (Or.inl ⟨rfl, fun Y hY => by omega⟩)
  · (try dsimp only)
    rw [v_X12_fewest_L9, h.1.znO, ish1 _ (by omega), w_t (nI_le (Nat.le_refl _) (by omega))]
    have l := b3
    unfold lex at l
    rcases hI with ⟨rfl, i2⟩ | ⟨c, i1, rfl, i3, i4⟩
    · rw [if_neg (by rw [svm_all]; exact i2 b b2)] at K
      exact K
    · have l1 := l c i1 (sl c)
      have l2 := cn_le S b
      have l3 := i4 b b2
      have e : cn S b = nG S := by omega
      have e2 : c = b := by have := l3 e; omega
      rw [if_pos (by rw [svm_all]; exact e)] at K
      rw [e2]; exact K
  · have v2 := svm_lt hk X
    (try dsimp only)
    rw [v_X12_fewest_L9, h.1.znO, ish1 _ (by omega), w_f (nI_ge hX (by omega)), w_in (vi (show X < 4096 by omega) (by omega)), nI_clamp (show X < 2 ^ 31 by omega), h.2 X hX, h.1.znG, top_m (by omega), nI_1]
    by_cases q : cn S X = nG S
    · rw [w_t (by rw [(svm_all X).mpr q])]
      rcases hI with ⟨rfl, i2⟩ | ⟨c, i1, rfl, i3, i4⟩
      · rw [w_t rfl]
        exact ih _ (Or.inr ⟨X, by omega, rfl, q, fun Y hY h1 => by
          by_cases z : Y = X
          · rw [z]; omega
          · exact absurd h1 (i2 Y (by omega))⟩)
      · rw [w_f (by rw [i_eqm (by omega) (by decide)]; exact id), q_countOf (by omega), q_countOf (by omega), show pc 12 X = sz X from rfl, show pc 12 c = sz c from rfl]
        have s1 := sl c
        have s2 := sl X
        by_cases q3 : sz c ≤ sz X
        · rw [w_t (nI_le q3 (by omega))]
          exact ih _ (Or.inr ⟨c, by omega, rfl, i3, fun Y hY h1 => by
            by_cases z : Y = X
            · rw [z]; omega
            · exact i4 Y (by omega) h1⟩)
        · rw [w_f (nI_ge (by omega) (by omega))]
          exact ih _ (Or.inr ⟨X, by omega, rfl, q, fun Y hY h1 => by
            by_cases z : Y = X
            · rw [z]; omega
            · have := i4 Y (by omega) h1; omega⟩)
    · rw [w_f (by
        rw [i_eq (by omega) (by omega)]
        exact fun z => q ((svm_all X).mp z))]
      rcases hI with ⟨rfl, i2⟩ | ⟨c, i1, rfl, i3, i4⟩
      · exact ih _ (Or.inl ⟨rfl, fun Y hY => by
          by_cases z : Y = X
          · rw [z]; exact q
          · exact i2 Y (by omega)⟩)
      · exact ih _ (Or.inr ⟨c, by omega, rfl, i3, fun Y hY h1 => by
          by_cases z : Y = X
          · rw [z] at h1; exact absurd h1 q
          · exact i4 Y (by omega) h1⟩)
theorem t_most (h : RR σ) (a1 : Int32) : v_X11_most a1 σ (fun r σ => v_X12_most a1 σ (fun r2 σ => r = r2 ∧ RR σ)) := by
  obtain ⟨S, hA, hB, hk⟩ := h
  unfold v_X11_most
  rcases rg a1 13 (by omega) with ⟨m, hm, rfl⟩ | ho
  · rw [w_f (nI_pos (by omega)), w_t (show nI m ≤ (12 : Int32) from nI_le (b := 12) (by omega) (by omega))]
    refine k_lookO hA hk (fun σ1 a1 h1 => k_most h1 hk (by omega) (fun b hb => ?_))
    (try dsimp only)
    unfold v_X12_most
    rw [q_w12_n hm, w_1]
    refine k_served (hB.mS a1.m) hk (fun σ3 b3 h3 => q_mostB h3 hk (by omega) (fun c hc => ?_))
    exact ⟨by rw [bst_one hb hc], RRf h1.1 b3.c h3.1 hk⟩
  · have e : v_X12_most a1 σ (fun r2 σ => (-2 : Int32) = r2 ∧ RR σ) := by
      unfold v_X12_most
      rw [q_w12_o ho, w_0]
      exact ⟨rfl, S, hA, hB, hk⟩
    by_cases q : a1 < 0
    · rw [w_t q]; exact e
    · rw [w_f q, w_f (fun z => by
        rcases ho with o | o
        · exact q o
        · rw [fa_le] at z o
          have e1 : (nI 13).toInt = 13 := by decide
          have e2 : (12 : Int32).toInt = 12 := by decide
          omega)]
      exact e
theorem t_fewest (h : RR σ) : v_X11_fewest σ (fun r σ => v_X12_fewest σ (fun r2 σ => r = r2 ∧ RR σ)) := by
  obtain ⟨S, hA, hB, hk⟩ := h
  have h8 := hk.znG
  have p12 := p12o hk
  have p8 : 2 ^ nG S ≤ 2 ^ 8 := Nat.pow_le_pow_right (by decide) h8
  unfold v_X11_fewest
  refine k_lookO hA hk (fun σ1 a1 h1 => ?_)
  rw [show (12 : Int32) = nI 12 from rfl]
  refine k_most h1 hk (Nat.le_refl _) (fun b hb => ?_)
  have hb2 := hb.2.1
  have v1 := svm_lt hk b
  rw [q_servedBy h1 hk (by omega)]
  unfold v_X1_all
  rw [h1.1.znG, top_m (by omega)]
  (try dsimp only)
  have model : ∀ r : Int32, r = (if svm S b = 2 ^ nG S - 1 then nI b else -9) → v_X12_fewest σ1 (fun r2 σ => r = r2 ∧ RR σ) := fun r hr => by
    unfold v_X12_fewest
    exact k_served (hB.mS a1.m) hk (fun σ3 b3 h3 => k_fewB h3 hk hb ⟨hr, RRf h1.1 b3.c h3.1 hk⟩)
  by_cases q : svm S b = 2 ^ nG S - 1
  · rw [w_t (by rw [q])]
    exact model _ (by rw [if_pos q])
  · rw [w_f (by rw [i_eq (by omega) (by omega)]; exact q)]
    exact model _ (by rw [if_neg q])
end
