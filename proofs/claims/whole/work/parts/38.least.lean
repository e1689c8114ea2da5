-- ===== least way: both sides =====
def cut (S : St) (X : Nat) : Nat := fb_sm (fun a => fb_sm (fun b => if X.testBit a = X.testBit b then 0 else ofd S a b) (nB S)) (nB S)
theorem ofd_le {S : St} (hk : ok S) (a b : Nat) : ofd S a b ≤ 192 := by
  have h8 := hk.znG
  unfold ofd ofg
  have := fb_sm_bound (f := fun g => ofk S g (gl S g - 1) a b) (c := 24) (n := nG S) (fun g _ => by
    have h1 := fb_ct_le (fun i => lw S g i == a && lw S g (i + 1) == b) (gl S g - 1)
    have h2 := hk.zgl g
    show fb_ct (fun i => lw S g i == a && lw S g (i + 1) == b) (gl S g - 1) ≤ 24
    omega)
  omega
theorem cut_le {S : St} (hk : ok S) (X : Nat) : cut S X ≤ 27648 := by
  have h12 := hk.znB
  unfold cut
  have := fb_sm_bound (f := fun a => fb_sm (fun b => if X.testBit a = X.testBit b then 0 else ofd S a b) (nB S)) (c := 2304) (n := nB S) (fun a _ => by
    have := fb_sm_bound (f := fun b => if X.testBit a = X.testBit b then 0 else ofd S a b) (c := 192) (n := nB S) (fun b _ => by
      have := ofd_le hk a b
      (try dsimp only)
      split <;> omega)
    omega)
  omega
theorem sm_pick {n t x : Nat} (h : t < n) : fb_sm (fun a => if a = t then x else 0) n = x := by
  have := fb_sm_upd (fun _ => 0) x h
  rw [sm_f (f := fun _ => 0) (fun _ _ => rfl)] at this
  omega
/-- a set without its least -/
theorem cut_low {S : St} {X t : Nat} (hl : Lo X t) (ht : t < nB S) : cut S (X &&& (X - 1)) + fb_sm (fun b => if X.testBit b = true then 0 else mvv (ofd S) t b) (nB S) = cut S X + fb_sm (fun b => if X.testBit b = true then mvv (ofd S) t b else 0) (nB S) := by
  have half : ∀ q : Nat → Bool, fb_sm (fun b => if q b = true then mvv (ofd S) t b else 0) (nB S) = fb_sm (fun a => fb_sm (fun b => (if a = t then (if q b = true ∧ b ≠ t then ofd S t b else 0) else 0) + (if b = t then (if q a = true ∧ a ≠ t then ofd S a t else 0) else 0)) (nB S)) (nB S) := fun q => by
    have e1 : ∀ a, fb_sm (fun b => (if a = t then (if q b = true ∧ b ≠ t then ofd S t b else 0) else 0) + (if b = t then (if q a = true ∧ a ≠ t then ofd S a t else 0) else 0)) (nB S) = (if a = t then fb_sm (fun b => if q b = true ∧ b ≠ t then ofd S t b else 0) (nB S) else 0) + (if q a = true ∧ a ≠ t then ofd S a t else 0) := fun a => by
      rw [fb_sm_add, sm_pick ht]
      congr 1
      by_cases z : a = t
      · rw [if_pos z]; exact fb_sm_cong (fun b _ => by rw [if_pos z])
      · rw [if_neg z]; exact sm_f (fun b _ => by rw [if_neg z])
    rw [fb_sm_cong (fun a _ => e1 a), fb_sm_add, sm_pick ht, ← fb_sm_add]
    refine fb_sm_cong fun b _ => ?_
    (try dsimp only)
    unfold mvv
    by_cases z : q b = true
    · by_cases y : t = b
      · rw [if_pos z, if_pos y, if_neg (by omega), if_neg (by omega)]
      · rw [if_pos z, if_neg y, if_pos ⟨z, by omega⟩, if_pos ⟨z, by omega⟩]
    · rw [if_neg z, if_neg (fun h => z h.1), if_neg (fun h => z h.1)]
  have e2 : fb_sm (fun b => if X.testBit b = true then 0 else mvv (ofd S) t b) (nB S) = fb_sm (fun b => if (!X.testBit b) = true then mvv (ofd S) t b else 0) (nB S) := fb_sm_cong (fun b _ => by
    cases X.testBit b <;> rfl)
  rw [e2, half (fun b => !X.testBit b), half (fun b => X.testBit b)]
  unfold cut
  rw [← fb_sm_add, ← fb_sm_add]
  refine fb_sm_cong fun a _ => ?_
  (try dsimp only)
  rw [← fb_sm_add, ← fb_sm_add]
  refine fb_sm_cong fun b _ => ?_
  (try dsimp only)
  have xt := hl.1
  have y : ∀ c, (X &&& (X - 1)).testBit c = (X.testBit c && decide (c ≠ t)) := fun c => by
    rw [low_b hl c]
    cases e : X.testBit c
    · rfl
    · rw [Bool.true_and, Bool.true_and, decide_eq_decide]
      constructor
      · omega
      · intro h
        rcases Nat.lt_trichotomy c t with q | q | q
        · rw [hl.2 c q] at e; cases e
        · omega
        · exact q
  rw [y, y]
  by_cases za : a = t
  · subst za
    by_cases zb : b = a
    · subst zb; simp
    · rw [xt]
      cases X.testBit b <;> simp [zb]
  · by_cases zb : b = t
    · subst zb
      rw [xt]
      cases X.testBit a <;> simp [za]
    · simp [za, zb]
theorem i_sub3 (a b c : Int32) : a - b + c = (a + c) - b := by
  rw [Int32.sub_eq_add_neg, Int32.sub_eq_add_neg, Int32.add_assoc, Int32.add_comm (-b), ← Int32.add_assoc]
theorem i_sub4 (a b c : Int32) : a - b + -c = a - (b + c) := by
  rw [Int32.sub_eq_add_neg, Int32.sub_eq_add_neg, Int32.neg_add, Int32.add_assoc, Int32.sub_eq_add_neg]
theorem i_bal {x p y n : Nat} (h : x + p = y + n) : nI x + (nI p - nI n) = nI y := by
  rw [Int32.sub_eq_add_neg, ← Int32.add_assoc, nI_add, h, ← nI_add, Int32.add_assoc, ← Int32.sub_eq_add_neg, Int32.sub_self, Int32.add_zero]
theorem or_bit {X b c : Nat} : (X ||| 2 ^ b).testBit c = (X.testBit c || decide (b = c)) := by
  rw [Nat.testBit_or, Nat.testBit_two_pow]
theorem or_sz {X b : Nat} (hb : b < 12) (h : X.testBit b = false) : sz (X ||| 2 ^ b) = sz X + 1 := by
  unfold sz pc
  rw [fb_ct_cong (q := fun i => X.testBit i || decide (i = b)) (fun i _ => by
    rw [or_bit]; congr 1; rw [decide_eq_decide]; omega), fb_ct_or (fun k _ q => by
      rw [decide_eq_true_eq] at q
      rw [q.2, h] at q
      exact absurd q.1 (by decide)), ct_one, if_pos hb]
theorem or_gt {X b : Nat} (h : X.testBit b = false) : X < X ||| 2 ^ b := by
  have h1 : X ≤ X ||| 2 ^ b := Nat.left_le_or
  rcases Nat.lt_or_ge X (X ||| 2 ^ b) with q | q
  · exact q
  · have e : X ||| 2 ^ b = X := Nat.le_antisymm q h1
    have := congrArg (fun x => x.testBit b) e
    simp only [or_bit] at this
    rw [h] at this
    simp at this
theorem sz_nB {S : St} (hk : ok S) {Y : Nat} (hY : Y < 2 ^ nB S) : sz Y ≤ nB S := by
  unfold sz
  rw [pc_more hY hk.znB]
  exact pc_le _ _
theorem or_lt {S : St} {X b : Nat} (hX : X < 2 ^ nB S) (hb : b < nB S) : X ||| 2 ^ b < 2 ^ nB S := Nat.or_lt_two_pow hX (Nat.pow_lt_pow_right (by decide) hb)
theorem clear_ex {S : St} {X : Nat} (h : X < 2 ^ nB S - 1) : ∃ b, b < nB S ∧ X.testBit b = false := by
  cases e : ex (fun b => !X.testBit b) (nB S)
  · exfalso
    have n := ex_no.mp e
    have : X = 2 ^ nB S - 1 := by
      rw [nb_of (x := X) (k := nB S) (p := fun _ => true) (by omega) (fun i hi => by have := n i hi; simpa using this)]
      symm
      apply nb_of
      · have := Nat.two_pow_pos (nB S); omega
      · intro i hi; rw [Nat.testBit_two_pow_sub_one]; simp [hi]
    omega
  · obtain ⟨b, hb, h⟩ := ex_iff.mp e
    exact ⟨b, hb, by simpa using h⟩
/-- the next bar behind a set -/
def nxt (S : St) (W : Nat → Nat) (X c : Nat) : Prop := c < nB S ∧ X.testBit c = false ∧ ∀ d, d < nB S → X.testBit d = false → W (X ||| 2 ^ c) ≤ W (X ||| 2 ^ d) ∧ (d < c → W (X ||| 2 ^ c) < W (X ||| 2 ^ d))
theorem nxt_one {S : St} {W : Nat → Nat} {X c d : Nat} (h : nxt S W X c) (h2 : nxt S W X d) : c = d := by
  have a := h.2.2 d h2.1 h2.2.1
  have b := h2.2.2 c h.1 h.2.1
  omega
/-- ways from a set on -/
def wsp (S : St) (W : Nat → Nat) (k : Nat) : Prop := W (2 ^ nB S - 1) = 0 ∧ (∀ X, k ≤ X → X < 2 ^ nB S - 1 → ∃ c, nxt S W X c ∧ W X = cut S X + W (X ||| 2 ^ c)) ∧ ∀ X, k ≤ X → X < 2 ^ nB S → W X ≤ 27648 * (nB S - sz X)
section
variable {σ : Mem} {S : St} {P : Int32 → Mem → Prop} {PV : Mem → Prop} {PJ : Int64 → Mem → Prop}
theorem cut_0 : cut S 0 = 0 := sm_f (fun a _ => sm_f (fun b _ => by simp))
theorem cut_all : cut S (2 ^ nB S - 1) = 0 := sm_f (fun a ha => sm_f (fun b hb => by
  (try dsimp only)
  rw [Nat.testBit_two_pow_sub_one, Nat.testBit_two_pow_sub_one]; simp [ha, hb]))
theorem q_cross (hm : mvA σ (ofd S)) (hk : ok S) {X t : Nat} (hX : X < 2 ^ nB S) (ht : t < nB S) : v_X3_crossingsBy (nI t) (nI X) (nI (nB S)) σ P = P (nI (fb_sm (fun b => if X.testBit b = true then 0 else mvv (ofd S) t b) (nB S)) - nI (fb_sm (fun b => if X.testBit b = true then mvv (ofd S) t b else 0) (nB S))) σ := by
  have h12 := hk.znB
  have p12 := p12 hk
  unfold v_X3_crossingsBy
  have := lp_c (fun m b => v_X3_crossingsBy_L6 (nI t) (nI X) (nI (nB S)) P m (nI (fb_sm (fun b => if X.testBit b = true then 0 else mvv (ofd S) t b) b) - nI (fb_sm (fun b => if X.testBit b = true then mvv (ofd S) t b else 0) b)) (nI b) σ) _ (nB S) (fun m => by
    (try dsimp only)
    rw [v_X3_crossingsBy_L6, w_t (nI_le (Nat.le_refl _) (by omega))]) (fun m b hb => by
    (try dsimp only)
    rw [v_X3_crossingsBy_L6, w_f (nI_ge hb (by omega)), show (12 : Int32) = nI 12 from rfl, pk_mul, nI_add, w_in (vi (show t * 12 + b < 144 by omega) (by omega)), nI_clamp (show t * 12 + b < 2 ^ 31 by omega), Nat.mul_comm t 12, hm t b (by omega) (by omega), q_hasBitI (by omega) (by omega), w_bI, fb_sm_succ, fb_sm_succ, nI_1]
    cases e : X.testBit b
    · rw [if_neg (by decide), i_sub3, nI_add]; simp only [Bool.false_eq_true, if_false, Nat.add_zero]
    · rw [if_pos (by rfl), i_sub4, nI_add]; simp only [if_true, Nat.add_zero]) 5000 0 (by omega) (by omega)
  (try dsimp only at this)
  rw [show nI (fb_sm (fun b => if X.testBit b = true then 0 else mvv (ofd S) t b) 0) - nI (fb_sm (fun b => if X.testBit b = true then mvv (ofd S) t b else 0) 0) = 0 from by show nI 0 - nI 0 = 0; decide] at this
  exact this
theorem k_next {W : Nat → Nat} (hk : ok S) {X : Nat} (hX : X < 2 ^ nB S - 1) (hW : ∀ b, b < nB S → X.testBit b = false → σ.1 23 (X ||| 2 ^ b) = nI (W (X ||| 2 ^ b)) ∧ W (X ||| 2 ^ b) < 2 ^ 31) (K : ∀ c, nxt S W X c → P (nI c) σ) : v_X3_nextBar (nI X) (nI (nB S)) σ P := by
  have h12 := hk.znB
  have p12 := p12 hk
  unfold v_X3_nextBar
  refine lp_x (fun m b x => v_X3_nextBar_L6 (nI X) (nI (nB S)) _ P m x (nI b) σ) (fun b x => (x = -9 ∧ ∀ c, c < b → X.testBit c = true) ∨ ∃ c, c < b ∧ x = nI c ∧ X.testBit c = false ∧ ∀ d, d < b → X.testBit d = false → W (X ||| 2 ^ c) ≤ W (X ||| 2 ^ d) ∧ (d < c → W (X ||| 2 ^ c) < W (X ||| 2 ^ d))) (nB S) (fun m x hI => ?_) (fun m b x hb hI ih => ?_) 5000 0 (-9) (by omega) (by omega) (Or.inl ⟨rfl, fun c hc => by omega⟩)
  · (try dsimp only)
    rw [v_X3_nextBar_L6, w_t (nI_le (Nat.le_refl _) (by omega))]
    rcases hI with ⟨rfl, h1⟩ | ⟨c, h1, rfl, h2, h3⟩
    · obtain ⟨b, hb, h⟩ := clear_ex hX
      rw [h1 b hb] at h; cases h
    · (try dsimp only)
      rw [show (0 : Int32) = nI 0 from rfl, q_maxN (by omega) (by omega), Nat.max_eq_left (Nat.zero_le _)]
      exact K c ⟨h1, h2, h3⟩
  · (try dsimp only)
    rw [v_X3_nextBar_L6, w_f (nI_ge hb (by omega)), q_hasBitI (by omega) (by omega), w_bI, nI_1]
    cases e : X.testBit b
    · rw [if_neg (by decide)]
      have ob := or_lt (show X < 2 ^ nB S by omega) hb
      rcases hI with ⟨rfl, h1⟩ | ⟨c, h1, rfl, h2, h3⟩
      · rw [w_t (by decide)]
        exact ih _ (Or.inr ⟨b, by omega, rfl, e, fun d hd hx => by
          by_cases z : d = b
          · rw [z]; exact ⟨Nat.le_refl _, fun h => absurd h (Nat.lt_irrefl _)⟩
          · rw [h1 d (by omega)] at hx; cases hx⟩)
      · have oc := or_lt (show X < 2 ^ nB S by omega) (show c < nB S by omega)
        obtain ⟨w1, w2⟩ := hW c (by omega) h2
        obtain ⟨w3, w4⟩ := hW b hb e
        rw [w_f (nI_pos (by omega)), ish1 b (by omega), ish1 c (by omega), fa_or, fa_or, w_in (vi (show X ||| 2 ^ b < 4096 by omega) (by omega)), w_in (vi (show X ||| 2 ^ c < 4096 by omega) (by omega)), nI_clamp (show X ||| 2 ^ b < 2 ^ 31 by omega), nI_clamp (show X ||| 2 ^ c < 2 ^ 31 by omega), w1, w3]
        by_cases q : W (X ||| 2 ^ c) ≤ W (X ||| 2 ^ b)
        · rw [w_t (nI_le q w4)]
          exact ih _ (Or.inr ⟨c, by omega, rfl, h2, fun d hd hx => by
            by_cases z : d = b
            · rw [z]; exact ⟨q, fun h => by omega⟩
            · exact h3 d (by omega) hx⟩)
        · rw [w_f (nI_ge (by omega) w2)]
          exact ih _ (Or.inr ⟨b, by omega, rfl, e, fun d hd hx => by
            by_cases z : d = b
            · rw [z]; exact ⟨Nat.le_refl _, fun h => absurd h (Nat.lt_irrefl _)⟩
            · have := (h3 d (by omega) hx).1
              exact ⟨by omega, fun _ => by omega⟩⟩)
    · rw [if_pos (by rfl)]
      refine ih _ ?_
      rcases hI with ⟨rfl, h1⟩ | ⟨c, h1, rfl, h2, h3⟩
      · exact Or.inl ⟨rfl, fun c hc => by
          by_cases z : c = b
          · rw [z]; exact e
          · exact h1 c (by omega)⟩
      · exact Or.inr ⟨c, by omega, rfl, h2, fun d hd hx => by
          by_cases z : d = b
          · rw [z, e] at hx; cases hx
          · exact h3 d (by omega) hx⟩
theorem k_leastA (h : fA σ S) (hk : ok S) (K : ∀ σ' W, aS σ σ' → A σ' S → wsp S W 0 → (∀ X, X < 2 ^ nB S → σ'.1 23 X = nI (W X)) → P (nI (W 0)) σ') : v_X3_leastWay (nI (nB S)) σ P := by
  have h12 := hk.znB
  have p12 := p12 hk
  have p0 := Nat.two_pow_pos (nB S)
  unfold v_X3_leastWay
  rw [top_m h12, w_in (show vp_in (0 : Int32) 4096 from by have t := vi (show 0 < 4096 by omega) (by omega); exact t)]
  refine lp_i (fun m X s => v_X3_leastWay_L15 (nI (nB S)) (nI (2 ^ nB S - 1)) _ P m (nI (X + 1)) s) (fun X s => aS σ s ∧ mvA s (ofd S) ∧ ∀ Y, Y < X + 1 → s.1 23 Y = nI (cut S Y)) (2 ^ nB S - 1) (fun m s hI => ?_) (fun m X s hX hI ih => ?_) 5000 0 _ (Nat.zero_le _) (by omega) ⟨aS.rf.I (by omega), fun a b ha hb => by rw [m_I1, if_neg (by omega)]; exact h.2 a b ha hb, fun Y hY => by rw [show Y = 0 by omega, m_I1, if_pos ⟨rfl, rfl⟩, cut_0]; rfl⟩
  · obtain ⟨a1, m1, f1⟩ := hI
    (try dsimp only)
    rw [v_X3_leastWay_L15, w_t (nI_lt (by omega) (by omega))]
    (try dsimp only)
    -- downward
    have last : ∀ s W, aS σ s → wsp S W 0 → (∀ X, X < 2 ^ nB S → s.1 23 X = nI (W X)) → P (s.1 23 (Int32.toNatClampNeg 0)) s := fun s W a2 w f2 => by
      rw [show Int32.toNatClampNeg 0 = 0 from rfl, f2 0 p0]
      exact K s W a2 (h.1.aS a2) w f2
    rw [show nI (2 ^ nB S - 1) - 1 = nI (2 ^ nB S - 1) - nI 1 from rfl]
    refine lp_d (fun n k s => v_X3_leastWay_L61 (nI (nB S)) P n (nI k - nI 1) s) (fun k s => aS σ s ∧ k ≤ 2 ^ nB S - 1 ∧ (∀ Y, Y < k → s.1 23 Y = nI (cut S Y)) ∧ ∃ W, wsp S W k ∧ ∀ Y, k ≤ Y → Y < 2 ^ nB S → s.1 23 Y = nI (W Y)) (fun n s hI => ?_) (fun n k s hI ih => ?_) 5000 (2 ^ nB S - 1) s (by omega) ⟨a1, Nat.le_refl _, fun Y hY => f1 Y (by omega), fun _ => 0, ⟨rfl, fun X h1 h2 => by omega, fun X _ _ => Nat.zero_le _⟩, fun Y h1 h2 => by rw [show Y = 2 ^ nB S - 1 by omega, f1 _ (by omega), cut_all]⟩
    · obtain ⟨a2, h1, f2, W, w, f3⟩ := hI
      (try dsimp only)
      rw [v_X3_leastWay_L61, w_t (by decide), w_in (show vp_in (0 : Int32) 4096 from by have t := vi (show 0 < 4096 by omega) (by omega); exact t)]
      exact last s W a2 w (fun X hX => f3 X (Nat.zero_le _) hX)
    · obtain ⟨a2, h1, f2, W, w, f3⟩ := hI
      (try dsimp only)
      rw [v_X3_leastWay_L61, pk_sub (by omega), Nat.add_sub_cancel, w_f (nI_pos (by omega)), w_in (vi (show k < 4096 by omega) (by omega)), nI_clamp (show k < 2 ^ 31 by omega)]
      have bw : ∀ b, b < nB S → k.testBit b = false → s.1 23 (k ||| 2 ^ b) = nI (W (k ||| 2 ^ b)) ∧ W (k ||| 2 ^ b) < 2 ^ 31 := fun b hb e => by
        have g := or_gt e
        have l := or_lt (S := S) (X := k) (by omega) hb
        have u := w.2.2 (k ||| 2 ^ b) (by omega) l
        exact ⟨f3 _ (by omega) l, by omega⟩
      refine k_next hk (by omega) bw (fun c hc => ?_)
      have oc := or_lt (S := S) (X := k) (by omega) hc.1
      have gc := or_gt hc.2.1
      have ul := w.2.2 (k ||| 2 ^ c) (by omega) oc
      have os := or_sz (by have := hc.1; omega) hc.2.1
      have on := sz_nB hk oc
      have cl := cut_le hk k
      rw [ish1 c (by have := hc.1; omega), fa_or, w_in (vi (show k ||| 2 ^ c < 4096 by omega) (by omega)), w_in (vi (show k < 4096 by omega) (by omega)), nI_clamp (show k ||| 2 ^ c < 2 ^ 31 by omega), f2 k (by omega), (bw c hc.1 hc.2.1).1, nI_add, show nI k + (-1) = nI k - nI 1 from by rw [Int32.sub_eq_add_neg]; rfl]
      have nx : ∀ X, X ≠ k → k ≤ X → ∀ d, nxt S W X d → nxt S (fun Y => if Y = k then cut S k + W (k ||| 2 ^ c) else W Y) X d := fun X hX hkX d hd => ⟨hd.1, hd.2.1, fun e he hx => by
        have g1 := or_gt hd.2.1
        have g2 := or_gt hx
        (try dsimp only)
        rw [if_neg (by omega), if_neg (by omega)]
        exact hd.2.2 e he hx⟩
      refine ih _ ⟨a2.I (by omega), by omega, fun Y hY => by rw [m_I1, if_neg (by omega)]; exact f2 Y (by omega), fun Y => if Y = k then cut S k + W (k ||| 2 ^ c) else W Y, ⟨?_, fun X h2 h3 => ?_, fun X h2 h3 => ?_⟩, fun Y h2 h3 => ?_⟩
      · (try dsimp only)
        rw [if_neg (by omega)]; exact w.1
      · by_cases z : X = k
        · subst z
          refine ⟨c, ⟨hc.1, hc.2.1, fun e he hx => ?_⟩, ?_⟩
          · have g1 := or_gt hx
            (try dsimp only)
            rw [if_neg (by omega), if_neg (by omega)]
            exact hc.2.2 e he hx
          · (try dsimp only)
            rw [if_pos rfl, if_neg (by omega)]
        · obtain ⟨d, hd, e⟩ := w.2.1 X (by omega) h3
          refine ⟨d, nx X z h2 d hd, ?_⟩
          have g1 := or_gt hd.2.1
          (try dsimp only)
          rw [if_neg z, if_neg (by omega), e]
      · (try dsimp only)
        by_cases z : X = k
        · rw [if_pos z, z]
          rw [os] at ul on
          have e9 : nB S - sz k = (nB S - (sz k + 1)) + 1 := by omega
          rw [e9, Nat.mul_add]
          omega
        · rw [if_neg z]; exact w.2.2 X (by omega) h3
      · rw [m_I1]
        by_cases z : Y = k
        · rw [if_pos ⟨rfl, z⟩]; (try dsimp only); rw [if_pos z]
        · rw [if_neg (fun q => z q.2)]; (try dsimp only); rw [if_neg z]; exact f3 Y (by omega) h3
  · obtain ⟨a1, m1, f1⟩ := hI
    obtain ⟨t, ht, hlo⟩ := Lo_ex (n := X + 1) (k := 12) (by omega) (by omega)
    have htB := Lo_lt hlo (show X + 1 < 2 ^ nB S by omega)
    have lz : (X + 1) &&& (X + 1 - 1) < X + 1 := by
      have := Nat.and_le_right (n := X + 1) (m := X + 1 - 1); omega
    (try dsimp only)
    rw [v_X3_leastWay_L15, w_f (nI_nlt (by omega) (by omega)), q_ntz (by omega) hlo, nI_pred, fa_and, show (X + 1) &&& X = (X + 1) &&& (X + 1 - 1) from rfl, w_in (vi (show (X + 1) &&& (X + 1 - 1) < 4096 by omega) (by omega)), q_cross m1 hk (by omega) htB, w_in (vi (show X + 1 < 4096 by omega) (by omega)), nI_clamp (show X + 1 < 2 ^ 31 by omega), nI_clamp (show (X + 1) &&& (X + 1 - 1) < 2 ^ 31 by omega), f1 _ lz, i_bal (cut_low hlo htB), nI_1]
    refine ih _ ⟨a1.I (by omega), fun a b ha hb => by rw [m_I1, if_neg (by omega)]; exact m1 a b ha hb, fun Y hY => ?_⟩
    rw [m_I1]
    by_cases z : Y = X + 1
    · rw [if_pos ⟨rfl, z⟩, z]
    · rw [if_neg (fun q => z q.2)]; exact f1 Y (by omega)
end
