-- ===== the frame: how often hands go from bar to bar; way =====
def low (X : Nat) : Nat := fa_first (fun b => X.testBit b) 12
theorem low_Lo {X : Nat} (h0 : X ≠ 0) (h : X < 4096) : Lo X (low X) ∧ low X < 12 := by
  obtain ⟨t, ht, hl⟩ := Lo_ex (k := 12) h0 h
  have e : fa_first (fun b => X.testBit b) 12 < 12 := by
    rw [ex_first]; exact ex_iff.mpr ⟨t, ht, hl.1⟩
  exact ⟨⟨fa_first_yes (fun b => X.testBit b) 12 e, fun i hi => fa_first_no (fun b => X.testBit b) 12 i hi⟩, e⟩
theorem gls_nz : ∀ n, n ≤ 12 → ∀ g, g < 79 → 1 ≤ g → g < (gls n).length → (gls n).getD g 0 ≠ 0 := by decide +kernel
/-- the least bar of a step's hold; 12 for none -/
def lw (S : St) (g i : Nat) : Nat := if hof S (trn (gc S g i) (gk S g)) = 0 then 12 else low (gst S (hof S (trn (gc S g i) (gk S g))))
def ofk (S : St) (g n a b : Nat) : Nat := fb_ct (fun i => lw S g i == a && lw S g (i + 1) == b) n
def ofg (S : St) (n a b : Nat) : Nat := fb_sm (fun g => ofk S g (gl S g - 1) a b) n
def ofd (S : St) (a b : Nat) : Nat := ofg S (nG S) a b
def mvv (o : Nat → Nat → Nat) (a b : Nat) : Nat := if a = b then 0 else o a b + o b a
def dst (p q : Nat) : Nat := (p - q) + (q - p)
theorem sm_swap (f : Nat → Nat → Nat) (n : Nat) : ∀ m, fb_sm (fun a => fb_sm (fun b => f a b) n) m = fb_sm (fun b => fb_sm (fun a => f a b) m) n
  | 0 => by
    show 0 = _
    symm
    have := fb_sm_const 0 n
    rw [Nat.mul_zero] at this
    exact this
  | m + 1 => by
    rw [fb_sm_succ, sm_swap f n m, ← fb_sm_add]
    exact fb_sm_cong (fun b _ => rfl)
theorem sm_half (f : Nat → Nat → Nat) (n : Nat) (h : ∀ a, f a a = 0) : fb_sm (fun a => fb_sm (fun b => f a b) n) n = fb_sm (fun a => fb_sm (fun b => if a < b then f a b + f b a else 0) n) n := by
  have e1 : fb_sm (fun a => fb_sm (fun b => f a b) n) n = fb_sm (fun a => fb_sm (fun b => if a < b then f a b else 0) n) n + fb_sm (fun a => fb_sm (fun b => if b < a then f a b else 0) n) n := by
    rw [← fb_sm_add]
    refine fb_sm_cong fun a _ => ?_
    (try dsimp only)
    rw [← fb_sm_add]
    refine fb_sm_cong fun b _ => ?_
    (try dsimp only)
    rcases Nat.lt_trichotomy a b with q | q | q
    · rw [if_pos q, if_neg (by omega), Nat.add_zero]
    · subst q; simp [h]
    · rw [if_neg (by omega), if_pos q, Nat.zero_add]
  rw [e1, sm_swap (fun a b => if b < a then f a b else 0), ← fb_sm_add]
  refine fb_sm_cong fun a _ => ?_
  (try dsimp only)
  rw [← fb_sm_add]
  refine fb_sm_cong fun b _ => ?_
  (try dsimp only)
  by_cases q : a < b
  · rw [if_pos q, if_pos q, if_pos q]
  · rw [if_neg q, if_neg q, if_neg q]
theorem dst_s (p q : Nat) : dst p q = dst q p := by unfold dst; omega
theorem i_dst : ∀ p, p < 12 → ∀ q, q < 12 → (if 0 ≤ nI p - nI q then nI p - nI q else -(nI p - nI q)) = nI (dst p q) := by decide +kernel
section
variable {σ : Mem} {S : St} {P : Int32 → Mem → Prop} {PV : Mem → Prop} {PJ : Int64 → Mem → Prop}
theorem lw_y (hk : ok S) {g i : Nat} (h : ¬ hof S (trn (gc S g i) (gk S g)) = 0) : Lo (gst S (hof S (trn (gc S g i) (gk S g)))) (lw S g i) ∧ lw S g i < nB S := by
  have h79 := hof_79 hk (trn (gc S g i) (gk S g))
  have nz := gls_nz (nB S) hk.znB _ h79 (by omega) (hof_lt S _)
  have lt := gls_lt (nB S) hk.znB _ h79
  have l := low_Lo (X := gst S (hof S (trn (gc S g i) (gk S g)))) nz (gst_lt hk h79)
  unfold lw
  rw [if_neg h]
  exact ⟨l.1, Lo_lt l.1 lt⟩
theorem lw_n {g i : Nat} (h : hof S (trn (gc S g i) (gk S g)) = 0) : lw S g i = 12 := by unfold lw; rw [if_pos h]
theorem AG.I22 {k : Nat} {v : Int32} (h : AG σ S) : AG (wI σ 22 k v) S := by
  obtain ⟨hA, ⟨g1, g2⟩, g3, g4⟩ := h
  have q : ∀ o j, o ≠ 22 → (wI σ 22 k v).1 o j = σ.1 o j := fun o j ho => by rw [m_I1, if_neg (by omega)]
  exact ⟨hA.aS (aS.rf.I (by omega)), ⟨by rw [q 7 5 (by omega)]; exact g1, fun g hg => by rw [q 8 g (by omega), q 10 g (by omega)]; exact g2 g hg⟩, g3, fun c hc => by rw [q 11 c (by omega)]; exact g4 c hc⟩
def mvA (σ : Mem) (o : Nat → Nat → Nat) : Prop := ∀ a b, a < 12 → b < 12 → σ.1 22 (12 * a + b) = nI (mvv o a b)
theorem k_move (h : AG σ S) (hk : ok S) {g i j : Nat} {o o' : Nat → Nat → Nat} (hm : mvA σ o) (ho : ∀ a b, a < 12 → b < 12 → o' a b = o a b + (if (lw S g i == a && lw S g j == b) = true then 1 else 0)) (K : ∀ σ', aS σ σ' → AG σ' S → mvA σ' o' → PV σ') : v_X3_countMove (nI (hof S (trn (gc S g i) (gk S g)))) (nI (hof S (trn (gc S g j) (gk S g)))) σ PV := by
  have h12 := hk.znB
  have h1 := hof_79 hk (trn (gc S g i) (gk S g))
  have h2 := hof_79 hk (trn (gc S g j) (gk S g))
  have same : (∀ a b, a < 12 → b < 12 → a ≠ b → o' a b = o a b) → PV σ := fun e => K σ aS.rf h (fun a b ha hb => by
    rw [hm a b ha hb]
    unfold mvv
    by_cases z : a = b
    · rw [if_pos z, if_pos z]
    · rw [if_neg z, if_neg z, e a b ha hb z, e b a hb ha (Ne.symm z)])
  unfold v_X3_countMove
  by_cases e1 : hof S (trn (gc S g i) (gk S g)) = 0
  · rw [w_t (by rw [e1]; rfl)]
    exact same (fun a b ha hb _ => by rw [ho a b ha hb, lw_n e1, beq_false_of_ne (show 12 ≠ a by omega)]; simp)
  · rw [w_f (by rw [i_eq0 (by omega)]; exact e1)]
    by_cases e2 : hof S (trn (gc S g j) (gk S g)) = 0
    · rw [w_t (by rw [e2]; rfl)]
      exact same (fun a b ha hb _ => by rw [ho a b ha hb, lw_n e2, beq_false_of_ne (show 12 ≠ b by omega)]; simp)
    · obtain ⟨l1, t1⟩ := lw_y hk e1
      obtain ⟨l2, t2⟩ := lw_y hk e2
      have s1 := gst_lt hk h1
      have s2 := gst_lt hk h2
      rw [w_f (by rw [i_eq0 (by omega)]; exact e2), w_in (vi h1 (by omega)), nI_clamp (show hof S (trn (gc S g i) (gk S g)) < 2 ^ 31 by omega), (h.2.1.2 _ (hof_lt S _)).1, show (gls (nB S)).getD (hof S (trn (gc S g i) (gk S g))) 0 = gst S (hof S (trn (gc S g i) (gk S g))) from rfl, q_ntz (by omega) l1, w_in (vi h2 (by omega)), nI_clamp (show hof S (trn (gc S g j) (gk S g)) < 2 ^ 31 by omega), (h.2.1.2 _ (hof_lt S _)).1, show (gls (nB S)).getD (hof S (trn (gc S g j) (gk S g))) 0 = gst S (hof S (trn (gc S g j) (gk S g))) from rfl, q_ntz (by omega) l2]
      (try dsimp only)
      generalize lw S g i = x at *
      generalize lw S g j = y at *
      rw [w_f (show ¬ (12 : Int32) ≤ nI x from nI_ge (b := 12) (by omega) (by omega)), w_f (show ¬ (12 : Int32) ≤ nI y from nI_ge (b := 12) (by omega) (by omega))]
      by_cases e3 : x = y
      · rw [w_t (by rw [e3])]
        exact same (fun a b ha hb z => by
          rw [ho a b ha hb, if_neg (by simp; omega), Nat.add_zero])
      · rw [w_f (by rw [i_eq (by omega) (by omega)]; exact e3), show (12 : Int32) = nI 12 from rfl, pk_mul, pk_mul, nI_add, nI_add, w_in (vi (show x * 12 + y < 144 by omega) (by omega)), w_in (vi (show x * 12 + y < 144 by omega) (by omega)), w_in (vi (show y * 12 + x < 144 by omega) (by omega)), w_in (vi (show y * 12 + x < 144 by omega) (by omega)), nI_clamp (show x * 12 + y < 2 ^ 31 by omega), nI_clamp (show y * 12 + x < 2 ^ 31 by omega), Nat.mul_comm x 12, Nat.mul_comm y 12]
        refine K _ ((aS.rf.I (by omega)).I (by omega)) h.I22.I22 (fun a b ha hb => ?_)
        have m1 := hm x y (by omega) (by omega)
        have m2 := hm y x (by omega) (by omega)
        have ox := ho x y (by omega) (by omega)
        rw [if_pos (by simp)] at ox
        have oy := ho y x (by omega) (by omega)
        rw [if_neg (by simp; omega), Nat.add_zero] at oy
        rw [m_I1]
        by_cases z1 : a = y ∧ b = x
        · rw [if_pos (by omega), m_I1, if_neg (by omega), m2, nI_1, z1.1, z1.2]
          unfold mvv
          rw [if_neg (by omega), if_neg (by omega), ox, oy]
          congr 1
        · rw [if_neg (by omega), m_I1]
          by_cases z2 : a = x ∧ b = y
          · rw [if_pos (by omega), m1, nI_1, z2.1, z2.2]
            unfold mvv
            rw [if_neg (by omega), if_neg (by omega), ox, oy]
            congr 1
            omega
          · rw [if_neg (by omega), hm a b ha hb]
            unfold mvv
            by_cases z : a = b
            · rw [if_pos z, if_pos z]
            · rw [if_neg z, if_neg z, ho a b ha hb, ho b a hb ha, if_neg (by simp; omega), if_neg (by simp; omega), Nat.add_zero, Nat.add_zero]
/-- the class has looked at the frame -/
def fA (σ : Mem) (S : St) : Prop := A σ S ∧ mvA σ (ofd S)
theorem k_frame (hA : A σ S) (hk : ok S) (K : ∀ σ', aS σ σ' → fA σ' S → PV σ') : v_X11_lookAtFrame σ PV := by
  have h8 := hk.znG
  unfold v_X11_lookAtFrame
  refine k_look hA hk (fun σ1 a1 hA1 g1 => ?_)
  unfold v_X3_countMoves
  rw [q_fill (o := 22) (n := 144) (t := 13) rfl (by omega)]
  have a2 : aS σ (wIr σ1 22 (fun j => if j < 144 then 0 else σ1.1 22 j)) := a1.Ir (by omega)
  have h2 : AG (wIr σ1 22 (fun j => if j < 144 then 0 else σ1.1 22 j)) S := by
    obtain ⟨⟨g1, g2⟩, g3, g4⟩ := g1
    have q : ∀ o j, o ≠ 22 → (wIr σ1 22 (fun j => if j < 144 then 0 else σ1.1 22 j)).1 o j = σ1.1 o j := fun o j ho => by rw [m_Ir1, if_neg ho]
    exact ⟨hA.aS a2, ⟨by rw [q 7 5 (by omega)]; exact g1, fun g hg => by rw [q 8 g (by omega), q 10 g (by omega)]; exact g2 g hg⟩, g3, fun c hc => by rw [q 11 c (by omega)]; exact g4 c hc⟩
  refine lp_i (fun m g s => v_X3_countMoves_L10 _ m (nI g) s) (fun g s => aS σ s ∧ AG s S ∧ mvA s (ofg S g)) (nG S) (fun m s hI => ?_) (fun m g s hg hI ih => ?_) 5000 0 _ (by omega) (by omega) ⟨a2, h2, fun a b ha hb => ?_⟩
  · obtain ⟨a3, h3, m3⟩ := hI
    (try dsimp only)
    rw [v_X3_countMoves_L10, h3.1.znG, w_t (nI_le (Nat.le_refl _) (by omega))]
    exact K s a3 ⟨h3.1, m3⟩
  · obtain ⟨a3, h3, m3⟩ := hI
    have h24 := hk.zgl g
    have h1 := hk.zgl1 hg
    have hgk := hk.zgk g
    (try dsimp only)
    rw [v_X3_countMoves_L10, h3.1.znG, w_f (nI_ge hg (by omega)), w_in (vi (show g < 8 by omega) (by omega)), nI_clamp (show g < 2 ^ 31 by omega), nI_1]
    refine lp_i (fun n i s => v_X3_countMoves_L29 (nI g) (bG + g) _ _ n (nI (i + 1)) s) (fun i s => aS σ s ∧ AG s S ∧ mvA s (fun a b => ofg S g a b + ofk S g i a b)) (gl S g - 1) (fun n s hI => ?_) (fun n i s hi hI ih2 => ?_) 5000 0 _ (by omega) (by omega) ⟨a3, h3, m3⟩
    · obtain ⟨a4, h4, m4⟩ := hI
      (try dsimp only)
      rw [v_X3_countMoves_L29, h4.1.zgl (by omega), show gl S g - 1 + 1 = gl S g by omega, w_t (nI_le (Nat.le_refl _) (by omega))]
      exact ih s ⟨a4, h4, m4⟩
    · obtain ⟨a4, h4, m4⟩ := hI
      have t1 := trn_lt (c := gc S g i) (j := gk S g) (hk.zgc g i)
      have t2 := trn_lt (c := gc S g (i + 1)) (j := gk S g) (hk.zgc g (i + 1))
      (try dsimp only)
      rw [v_X3_countMoves_L29, h4.1.zgl (by omega), w_f (nI_ge (show i + 1 < gl S g by omega) (by omega)), nI_pred, h4.1.zgk (by omega), q_chordIn h4.1 hk (by omega) (by omega) (by omega)]
      refine k_holdOf h4 hk t1 (fun s5 q5 h5 => ?_)
      rw [h5.1.zgk (by omega), q_chordIn h5.1 hk (by omega) (by omega) (by omega)]
      refine k_holdOf h5 hk t2 (fun s6 q6 h6 => ?_)
      have m6 : mvA s6 (fun a b => ofg S g a b + ofk S g i a b) := fun a b ha hb => by
        rw [((q5.tr q6) 22 _ (by omega)).1]; exact m4 a b ha hb
      refine k_move (o' := fun a b => ofg S g a b + ofk S g (i + 1) a b) h6 hk m6 (fun a b ha hb => ?_) (fun s7 a7 h7 m7 => ?_)
      · (try dsimp only)
        unfold ofk
        rw [fb_ct_succ, Nat.add_assoc]
      · rw [nI_1]
        exact ih2 s7 ⟨(a4.tr (q5.tr q6).a).tr a7, h7, m7⟩
  · rw [m_Ir1, if_pos rfl, if_pos (by omega)]
    unfold mvv
    by_cases z : a = b
    · rw [if_pos z]; rfl
    · rw [if_neg z]; rfl
def wyA (S : St) (a b : Nat) : Nat := if a < b then mvv (ofd S) a b * dst (pl S a) (pl S b) else 0
def wyB (S : St) (a b : Nat) : Nat := ofd S a b * dst (pl S a) (pl S b)
theorem wy_e : fb_sm (fun a => fb_sm (fun b => wyB S a b) (nB S)) (nB S) = fb_sm (fun a => fb_sm (fun b => wyA S a b) (nB S)) (nB S) := by
  rw [sm_half (fun a b => wyB S a b) (nB S) (fun a => by unfold wyB dst; simp)]
  refine fb_sm_cong fun a _ => fb_sm_cong fun b _ => ?_
  unfold wyA wyB mvv
  by_cases q : a < b
  · rw [if_pos q, if_pos q, if_neg (by omega), dst_s (pl S b), Nat.add_mul]
  · rw [if_neg q, if_neg q]
theorem sm_f {f : Nat → Nat} {n : Nat} (h : ∀ k, k < n → f k = 0) : fb_sm f n = 0 := by
  rw [fb_sm_cong (g := fun _ => 0) h, fb_sm_const, Nat.mul_zero]
theorem q_wayA (h : fA σ S) (hk : ok S) : v_X3_wayOf σ P = P (nI (fb_sm (fun a => fb_sm (fun b => wyA S a b) (nB S)) (nB S))) σ := by
  have h12 := hk.znB
  unfold v_X3_wayOf
  refine lp_c (fun m a => v_X3_wayOf_L4 P m (nI (fb_sm (fun a => fb_sm (fun b => wyA S a b) (nB S)) a)) (nI a) σ) _ (nB S) (fun m => ?_) (fun m a ha => ?_) 5000 0 (by omega) (by omega)
  · (try dsimp only)
    rw [v_X3_wayOf_L4, h.1.znB, w_t (nI_le (Nat.le_refl _) (by omega))]
  · (try dsimp only)
    rw [v_X3_wayOf_L4, h.1.znB, w_f (nI_ge ha (by omega)), nI_1]
    have t := lp_c (fun n t => v_X3_wayOf_L17 (nI a) (fun (x2_6 : Int32) (σ_7 : Mem) => v_X3_wayOf_L4 P m x2_6 (nI (a + 1)) σ_7) P n (nI (fb_sm (fun a => fb_sm (fun b => wyA S a b) (nB S)) a + fb_sm (fun b => wyA S a b) (a + 1 + t))) (nI (a + 1 + t)) σ) (v_X3_wayOf_L4 P m (nI (fb_sm (fun a => fb_sm (fun b => wyA S a b) (nB S)) (a + 1))) (nI (a + 1)) σ) (nB S - (a + 1)) (fun n => ?_) (fun n t ht => ?_) 5000 0 (by omega) (by omega)
    · (try dsimp only at t)
      rw [sm_f (f := fun b => wyA S a b) (n := a + 1 + 0) (fun k hk2 => by unfold wyA; rw [if_neg (by omega)]), Nat.add_zero] at t
      exact t
    · (try dsimp only)
      rw [v_X3_wayOf_L17, h.1.znB, show a + 1 + (nB S - (a + 1)) = nB S by omega, w_t (nI_le (Nat.le_refl _) (by omega))]; rfl
    · have p1 := hk.zpl ha
      have p2 := hk.zpl (show a + 1 + t < nB S by omega)
      (try dsimp only)
      rw [v_X3_wayOf_L17, h.1.znB, w_f (nI_ge (show a + 1 + t < nB S by omega) (by omega)), w_in (vi (show a < 12 by omega) (by omega)), w_in (vi (show a + 1 + t < 12 by omega) (by omega)), nI_clamp (show a < 2 ^ 31 by omega), nI_clamp (show a + 1 + t < 2 ^ 31 by omega), h.1.zpl ha, h.1.zpl (show a + 1 + t < nB S by omega), q_abs, i_dst _ p1 _ p2, show (12 : Int32) = nI 12 from rfl, pk_mul, nI_add, w_in (vi (show a * 12 + (a + 1 + t) < 144 by omega) (by omega)), nI_clamp (show a * 12 + (a + 1 + t) < 2 ^ 31 by omega), Nat.mul_comm a 12, h.2 a (a + 1 + t) (by omega) (by omega), pk_mul, nI_add, nI_1]
      simp only [forall_eq]
      rw [show a + 1 + (t + 1) = a + 1 + t + 1 by omega, fb_sm_succ, Nat.add_assoc]
      congr 3
      unfold wyA
      rw [if_pos (by omega)]
-- the reference
def fB (σ : Mem) (S : St) : Prop := B σ S ∧ ∀ a b, a < 12 → b < 12 → σ.1 55 (12 * a + b) = nI (ofd S a b)
theorem gpB_k {σ' : Mem} (h : gpB σ S) (q : ∀ k, σ'.1 33 10 = σ.1 33 10 ∧ σ'.1 40 k = σ.1 40 k ∧ σ'.1 41 k = σ.1 41 k ∧ σ'.1 42 k = σ.1 42 k) : gpB σ' S := by
  obtain ⟨⟨g1, g2⟩, g3⟩ := h
  exact ⟨⟨by rw [(q 0).1]; exact g1, fun g hg => by rw [(q g).2.1, (q g).2.2.1]; exact g2 g hg⟩, fun c hc => by rw [(q c).2.2.2]; exact g3 c hc⟩
theorem gpB.I55 {k : Nat} {v : Int32} (h : gpB σ S) : gpB (wI σ 55 k v) S := gpB_k h (fun j => by
  refine ⟨?_, ?_, ?_, ?_⟩ <;> rw [m_I1, if_neg (by omega)])
theorem k_often (hB : B σ S) (hk : ok S) (K : ∀ σ', bS σ σ' → fB σ' S → PV σ') : v_X12_findOften σ PV := by
  have h8 := hk.znG
  have h12 := hk.znB
  unfold v_X12_findOften
  refine k_findHolds hB hk (fun σ1 b1 hB1 g1 => ?_)
  refine lp_i (fun m i s => v_X12_findOften_L6 _ PV m (nI i) s) (fun i s => bS σ s ∧ gpB s S ∧ ∀ j, j < i → s.1 55 j = 0) 144 (fun m s hI => ?_) (fun m i s hi hI ih => ?_) 5000 0 _ (by omega) (by omega) ⟨b1, g1, fun j h => by omega⟩
  · obtain ⟨b2, g2, f2⟩ := hI
    (try dsimp only)
    rw [v_X12_findOften_L6, w_t (by decide)]
    refine lp_i (fun m g s => v_X12_findOften_L28 PV m (nI g) s) (fun g s => bS σ s ∧ gpB s S ∧ ∀ a b, a < 12 → b < 12 → s.1 55 (12 * a + b) = nI (ofg S g a b)) (nG S) (fun m s hI => ?_) (fun m g s hg hI ih => ?_) 5000 0 _ (by omega) (by omega) ⟨b2, g2, fun a b ha hb => by rw [f2 _ (by omega)]; rfl⟩
    · obtain ⟨b3, g3, f3⟩ := hI
      (try dsimp only)
      rw [v_X12_findOften_L28, (hB.bS b3).znG, w_t (nI_le (Nat.le_refl _) (by omega))]
      exact K s b3 ⟨hB.bS b3, f3⟩
    · obtain ⟨b3, g3, f3⟩ := hI
      have h24 := hk.zgl g
      have h1 := hk.zgl1 hg
      have hgk := hk.zgk g
      (try dsimp only)
      rw [v_X12_findOften_L28, (hB.bS b3).znG, w_f (nI_ge hg (by omega)), nI_1]
      refine lp_i (fun n i s => v_X12_findOften_L38 (nI g) _ PV n (nI (i + 1)) s) (fun i s => bS σ s ∧ gpB s S ∧ ∀ a b, a < 12 → b < 12 → s.1 55 (12 * a + b) = nI (ofg S g a b + ofk S g i a b)) (gl S g - 1) (fun n s hI => ?_) (fun n i s hi hI ih2 => ?_) 5000 0 _ (by omega) (by omega) ⟨b3, g3, f3⟩
      · obtain ⟨b4, g4, f4⟩ := hI
        (try dsimp only)
        rw [v_X12_findOften_L38, w_in (vi (show g < 8 by omega) (by omega)), nI_clamp (show g < 2 ^ 31 by omega), (hB.bS b4).zgl (by omega), show gl S g - 1 + 1 = gl S g by omega, w_t (nI_le (Nat.le_refl _) (by omega))]
        exact ih s ⟨b4, g4, f4⟩
      · obtain ⟨b4, g4, f4⟩ := hI
        have hB4 := hB.bS b4
        have t1 := trn_lt (c := gc S g i) (j := gk S g) (hk.zgc g i)
        have t2 := trn_lt (c := gc S g (i + 1)) (j := gk S g) (hk.zgc g (i + 1))
        have u1 := hof_79 hk (trn (gc S g i) (gk S g))
        have u2 := hof_79 hk (trn (gc S g (i + 1)) (gk S g))
        have es : ∀ a b, ofk S g (i + 1) a b = ofk S g i a b + (if (lw S g i == a && lw S g (i + 1) == b) = true then 1 else 0) := fun a b => rfl
        (try dsimp only)
        rw [v_X12_findOften_L38, w_in (vi (show g < 8 by omega) (by omega)), nI_clamp (show g < 2 ^ 31 by omega), hB4.zgl (by omega), w_f (nI_ge (show i + 1 < gl S g by omega) (by omega)), w_in (vi (show g < 8 by omega) (by omega)), nI_pred, hB4.zgk (by omega), q_chordAt hB4 hk (by omega) (by omega) (by omega), w_in (vi t1 (by omega)), w_in (vi (show g < 8 by omega) (by omega)), hB4.zgk (by omega), q_chordAt hB4 hk (by omega) (by omega) (by omega), w_in (vi t2 (by omega)), nI_clamp (show trn (gc S g i) (gk S g) < 2 ^ 31 by omega), nI_clamp (show trn (gc S g (i + 1)) (gk S g) < 2 ^ 31 by omega), g4.2 _ t1, g4.2 _ t2, nI_1]
        by_cases e1 : hof S (trn (gc S g i) (gk S g)) = 0
        · rw [if_pos e1, w_t rfl]
          refine ih2 s ⟨b4, g4, fun a b ha hb => ?_⟩
          rw [f4 a b ha hb, es, lw_n e1, beq_false_of_ne (show 12 ≠ a by omega)]; simp
        · rw [if_neg e1, w_f (by rw [i_eqm (by omega) (by decide)]; exact id)]
          by_cases e2 : hof S (trn (gc S g (i + 1)) (gk S g)) = 0
          · rw [if_pos e2, w_t rfl]
            refine ih2 s ⟨b4, g4, fun a b ha hb => ?_⟩
            rw [f4 a b ha hb, es, lw_n e2, beq_false_of_ne (show 12 ≠ b by omega)]; simp
          · obtain ⟨l1, v1⟩ := lw_y hk e1
            obtain ⟨l2, v2⟩ := lw_y hk e2
            have s1 := gst_lt hk u1
            have s2 := gst_lt hk u2
            rw [if_neg e2, w_f (by rw [i_eqm (by omega) (by decide)]; exact id), w_in (vi u1 (by omega)), nI_clamp (show hof S (trn (gc S g i) (gk S g)) < 2 ^ 31 by omega), (g4.1.2 _ (hof_lt S _)).1, show (gls (nB S)).getD (hof S (trn (gc S g i) (gk S g))) 0 = gst S (hof S (trn (gc S g i) (gk S g))) from rfl, q_lowest s1 l1, w_in (vi u2 (by omega)), nI_clamp (show hof S (trn (gc S g (i + 1)) (gk S g)) < 2 ^ 31 by omega), (g4.1.2 _ (hof_lt S _)).1, show (gls (nB S)).getD (hof S (trn (gc S g (i + 1)) (gk S g))) 0 = gst S (hof S (trn (gc S g (i + 1)) (gk S g))) from rfl, q_lowest s2 l2, i_12, w_in (vi (show 12 * lw S g i + lw S g (i + 1) < 144 by omega) (by omega)), w_in (vi (show 12 * lw S g i + lw S g (i + 1) < 144 by omega) (by omega)), nI_clamp (show 12 * lw S g i + lw S g (i + 1) < 2 ^ 31 by omega), f4 _ _ (by omega) (by omega), nI_1]
            refine ih2 _ ⟨b4.I (by omega), g4.I55, fun a b ha hb => ?_⟩
            rw [m_I1, es]
            by_cases z : a = lw S g i ∧ b = lw S g (i + 1)
            · rw [if_pos (by omega), z.1, z.2, if_pos (by simp), Nat.add_assoc]
            · rw [if_neg (by omega), f4 a b ha hb, if_neg (by simp; omega), Nat.add_zero]
  · obtain ⟨b2, g2, f2⟩ := hI
    (try dsimp only)
    rw [v_X12_findOften_L6, w_f (show ¬ (144 : Int32) ≤ nI i from nI_ge (b := 144) hi (by omega)), w_in (vi hi (by omega)), nI_clamp (show i < 2 ^ 31 by omega), nI_1]
    refine ih _ ⟨b2.I (by omega), g2.I55, fun j h => ?_⟩
    rw [m_I1]
    by_cases z : j = i
    · rw [if_pos ⟨rfl, z⟩]
    · rw [if_neg (fun q => z q.2)]; exact f2 j (by omega)
theorem q_wayB (h : fB σ S) (hk : ok S) : v_X12_way_L8 P 5000 0 0 σ = P (nI (fb_sm (fun a => fb_sm (fun b => wyB S a b) (nB S)) (nB S))) σ := by
  have h12 := hk.znB
  refine lp_c (fun m a => v_X12_way_L8 P m (nI (fb_sm (fun a => fb_sm (fun b => wyB S a b) (nB S)) a)) (nI a) σ) _ (nB S) (fun m => ?_) (fun m a ha => ?_) 5000 0 (by omega) (by omega)
  · (try dsimp only)
    rw [v_X12_way_L8, h.1.znB, w_t (nI_le (Nat.le_refl _) (by omega))]
  · (try dsimp only)
    rw [v_X12_way_L8, h.1.znB, w_f (nI_ge ha (by omega)), nI_1]
    refine lp_c (fun n b => v_X12_way_L18 (nI a) (fun (x1_4 : Int32) (σ_5 : Mem) => v_X12_way_L8 P m x1_4 (nI (a + 1)) σ_5) P n (nI (fb_sm (fun a => fb_sm (fun b => wyB S a b) (nB S)) a + fb_sm (fun b => wyB S a b) b)) (nI b) σ) (v_X12_way_L8 P m (nI (fb_sm (fun a => fb_sm (fun b => wyB S a b) (nB S)) (a + 1))) (nI (a + 1)) σ) (nB S) (fun n => ?_) (fun n b hb => ?_) 5000 0 (by omega) (by omega)
    · (try dsimp only)
      rw [v_X12_way_L18, h.1.znB, w_t (nI_le (Nat.le_refl _) (by omega))]; rfl
    · have p1 := hk.zpl ha
      have p2 := hk.zpl hb
      have d := i_dst _ p1 _ p2
      (try dsimp only)
      rw [v_X12_way_L18, h.1.znB, w_f (nI_ge hb (by omega)), w_in (vi (show a < 12 by omega) (by omega)), w_in (vi (show b < 12 by omega) (by omega)), nI_clamp (show a < 2 ^ 31 by omega), nI_clamp (show b < 2 ^ 31 by omega), h.1.zpl ha, h.1.zpl hb]
      simp only [forall_eq]
      rw [i_12, w_in (vi (show 12 * a + b < 144 by omega) (by omega)), nI_clamp (show 12 * a + b < 2 ^ 31 by omega), h.2 a b (by omega) (by omega), nI_1, fb_sm_succ, ← Nat.add_assoc, ← nI_add (_ + _)]
      unfold wyB
      rw [← pk_mul]
      by_cases z : 0 ≤ nI (pl S a) - nI (pl S b)
      · rw [if_pos z] at d
        rw [w_t z, d]
      · rw [if_neg z] at d
        rw [w_f z, d]
theorem t_way (h : RR σ) : v_X11_way σ (fun r σ => v_X12_way σ (fun r2 σ => r = r2 ∧ RR σ)) := by
  obtain ⟨S, hA, hB, hk⟩ := h
  unfold v_X11_way
  refine k_frame hA hk (fun σ1 a1 h1 => ?_)
  rw [q_wayA h1 hk]
  (try dsimp only)
  unfold v_X12_way
  refine k_often (hB.mS a1.m) hk (fun σ2 b2 h2 => ?_)
  rw [q_wayB h2 hk, wy_e]
  exact ⟨rfl, RRf h1.1 b2.c h2.1 hk⟩
end
