-- ===== offers: what the reference finds; serves =====
theorem lp_f (W : Nat → Bool → Nat → Prop) (G : Bool → Prop) (q : Nat → Bool) (e : Nat) (hx : ∀ n f, W (n + 1) f e = G f) (ht : ∀ n k, k < e → W (n + 1) true k = G true) (hf : ∀ n k, k < e → W (n + 1) false k = W n (q k) (k + 1)) : ∀ n k f, k ≤ e → e < n + k → W n f k = G (f || ex (fun i => decide (k ≤ i) && q i) e) := by
  intro n
  induction n with
  | zero => intro k f h1 h2; omega
  | succ n ih =>
    intro k f h1 h2
    by_cases z : k = e
    · subst z
      rw [hx, show ex (fun i => decide (k ≤ i) && q i) k = false from ex_no.mpr (fun i hi => by simp; omega), Bool.or_false]
    · cases f
      · rw [hf n k (by omega), ih (k + 1) (q k) (by omega) (by omega), Bool.false_or]
        congr 1
        rw [Bool.eq_iff_iff, Bool.or_eq_true, ex_iff, ex_iff]
        constructor
        · rintro (a | ⟨i, h3, h4⟩)
          · exact ⟨k, by omega, by simp [a]⟩
          · simp only [Bool.and_eq_true, decide_eq_true_eq] at h4
            exact ⟨i, h3, by simp only [Bool.and_eq_true, decide_eq_true_eq]; exact ⟨by omega, h4.2⟩⟩
        · rintro ⟨i, h3, h4⟩
          simp only [Bool.and_eq_true, decide_eq_true_eq] at h4
          by_cases y : i = k
          · rw [y] at h4; exact Or.inl h4.2
          · exact Or.inr ⟨i, h3, by simp only [Bool.and_eq_true, decide_eq_true_eq]; exact ⟨by omega, h4.2⟩⟩
      · rw [ht n k (by omega), Bool.true_or]
theorem low_b {X t : Nat} (h : Lo X t) (j : Nat) : (X &&& (X - 1)).testBit j = (X.testBit j && decide (t < j)) := by
  obtain ⟨q, e⟩ := Lo_div h
  have p := Nat.two_pow_pos t
  have e1 : X = 2 ^ (t + 1) * q + 2 ^ t := by rw [e, Nat.pow_succ, Nat.mul_add, Nat.mul_one, Nat.mul_assoc]
  have e2 : X - 1 = 2 ^ (t + 1) * q + (2 ^ t - 1) := by omega
  have l1 : 2 ^ t < 2 ^ (t + 1) := Nat.pow_lt_pow_right (by decide) (by omega)
  have x1 : X.testBit j = if j < t + 1 then (2 ^ t).testBit j else q.testBit (j - (t + 1)) := by
    rw [e1, Nat.testBit_two_pow_mul_add _ l1]
  have x2 : (X - 1).testBit j = if j < t + 1 then (2 ^ t - 1).testBit j else q.testBit (j - (t + 1)) := by
    rw [e2, Nat.testBit_two_pow_mul_add _ (by omega)]
  rw [Nat.testBit_and, x1, x2]
  by_cases z : j < t + 1
  · rw [if_pos z, if_pos z, Nat.testBit_two_pow, Nat.testBit_two_pow_sub_one]
    by_cases y : t = j
    · subst y; simp
    · simp [y]
  · rw [if_neg z, if_neg z, Bool.and_self, decide_eq_true (show t < j by omega), Bool.and_true]
theorem and_not_t {a b : Nat} (ha : a < 256) : nI a &&& (nI b ^^^ -1) = nI (nb (fun i => a.testBit i && !b.testBit i) 8) := by
  rw [show (-1 : Int32) = nI (2 ^ 32 - 1) from by decide, fb_xorI, fa_and]
  congr 1
  apply nb_of (Nat.lt_of_le_of_lt Nat.and_le_left ha)
  intro i hi
  rw [Nat.testBit_and, Nat.testBit_xor, Nat.testBit_two_pow_sub_one, decide_eq_true (show i < 32 by omega), Bool.xor_true]
theorem and_m1 (x : Int32) : x &&& (-1) = x := by simp
def prp (S : St) (j k s : Nat) : Bool := fr S s == 0 && (clo (oc S j)).testBit (tn S s % 12) && (clo (oc S k)).testBit (tn S s % 12)
theorem giv_iff {S : St} {X c : Nat} : giv S X c = true ↔ ∃ j k, j ≤ k ∧ k < nF S ∧ X.testBit j = true ∧ X.testBit k = true ∧ prc S j k c = true := by
  unfold giv gvj
  rw [ex_iff]
  constructor
  · rintro ⟨j, hj, h⟩
    obtain ⟨k, hk, h2⟩ := ex_iff.mp h
    simp only [Bool.and_eq_true, decide_eq_true_eq] at h2
    exact ⟨j, k, h2.1.1.1, hk, h2.1.1.2, h2.1.2, h2.2⟩
  · rintro ⟨j, k, h1, h2, h3, h4, h5⟩
    refine ⟨j, by omega, ex_iff.mpr ⟨k, h2, ?_⟩⟩
    simp only [Bool.and_eq_true, decide_eq_true_eq]
    exact ⟨⟨⟨h1, h3⟩, h4⟩, h5⟩
theorem giv_0 {S : St} {c : Nat} : giv S 0 c = false := by
  cases e : giv S 0 c
  · rfl
  · obtain ⟨j, k, _, _, h, _⟩ := giv_iff.mp e
    simp at h
theorem giv_low {S : St} (hk : ok S) {X c t : Nat} (hX : X < 2 ^ nF S) (hl : Lo X t) : giv S X c = (giv S (X &&& (X - 1)) c || ex (fun i => decide (t ≤ i) && (X.testBit i && prc S t i c)) (nF S)) := by
  have h12 := hk.znO
  have p12 := p12o hk
  have lt : ∀ j, j < nF S → (X &&& (X - 1)).testBit j = (X.testBit j && decide (t < j)) := fun j _ => low_b hl j
  rw [Bool.eq_iff_iff, Bool.or_eq_true, giv_iff, giv_iff, ex_iff]
  constructor
  · rintro ⟨j, k, h1, h2, h3, h4, h5⟩
    have jt : t ≤ j := by
      rcases Nat.lt_or_ge j t with q | q
      · rw [hl.2 j q] at h3; cases h3
      · exact q
    by_cases z : j = t
    · subst z
      exact Or.inr ⟨k, h2, by simp only [Bool.and_eq_true, decide_eq_true_eq]; exact ⟨h1, h4, h5⟩⟩
    · exact Or.inl ⟨j, k, h1, h2, by rw [lt j (by omega), h3]; simp; omega, by rw [lt k h2, h4]; simp; omega, h5⟩
  · rintro (⟨j, k, h1, h2, h3, h4, h5⟩ | ⟨k, h2, h⟩)
    · rw [lt j (by omega), Bool.and_eq_true] at h3
      rw [lt k h2, Bool.and_eq_true] at h4
      exact ⟨j, k, h1, h2, h3.1, h4.1, h5⟩
    · simp only [Bool.and_eq_true, decide_eq_true_eq] at h
      exact ⟨t, k, h.1, h2, hl.1, h.2.1, h.2.2⟩
/-- the songs served, chords below n alone looked at -/
def svc (S : St) (X n : Nat) : Nat := nb (fun g => !ex (fun d => usd S g d && !giv S X d) n) (nG S)
theorem svc_lt {S : St} (hk : ok S) (X n : Nat) : svc S X n < 256 := nb_lt' (m := 8) _ hk.znG
theorem svc_96 {S : St} (hk : ok S) (X : Nat) : svc S X 96 = svm S X := by
  unfold svc svm
  apply nb_cong
  intro g hg
  unfold svd usd
  congr 1
  rw [Bool.eq_iff_iff, ex_iff, ex_iff]
  constructor
  · rintro ⟨d, hd, h⟩
    rw [Bool.and_eq_true] at h
    obtain ⟨i, hi, e⟩ := ex_iff.mp h.1
    refine ⟨i, hi, ?_⟩
    rw [beq_iff_eq.mp e]; exact h.2
  · rintro ⟨i, hi, h⟩
    refine ⟨trn (gc S g i) (gk S g), trn_lt (hk.zgc g i), ?_⟩
    rw [Bool.and_eq_true]
    exact ⟨ex_iff.mpr ⟨i, hi, by simp⟩, h⟩
section
variable {σ : Mem} {S : St} {P : Int32 → Mem → Prop} {PV : Mem → Prop} {PJ : Int64 → Mem → Prop}
theorem prp_pcl {j k : Nat} : nb (fun c => ex (fun s => prp S j k s && tn S s % 12 == c) (nS S)) 12 = pcl S j k := by
  symm
  apply nb_of (pcl_lt S j k)
  intro c hc
  unfold pcl cal
  rw [Nat.testBit_and, Nat.testBit_and, nb_tb, Bool.eq_iff_iff]
  simp only [hc, decide_true, Bool.true_and, Bool.and_eq_true, ex_iff]
  constructor
  · rintro ⟨⟨s, hs, h1⟩, h2, h3⟩
    rw [beq_iff_eq, beq_iff_eq] at h1
    refine ⟨s, hs, ?_⟩
    unfold prp
    rw [h1.1, h1.2, h2, h3]; simp
  · rintro ⟨s, hs, h1, h2⟩
    rw [beq_iff_eq] at h2
    unfold prp at h1
    rw [h2, Bool.and_eq_true, Bool.and_eq_true] at h1
    exact ⟨⟨s, hs, h1.1.1, by rw [h2]; simp⟩, h1.1.2, h1.2⟩
theorem q_pair (hB : B σ S) (hk : ok S) {j k : Nat} (hj : j < nF S) (hk2 : k < nF S) {K107 : Int32 → Mem → Prop} : v_X12_findPairs_L25 (nI j) (nI k) K107 PV 5000 0 0 σ = K107 (nI (pcl S j k)) σ := by
  have h12 := hk.znO
  have h36 := hk.znS
  have h0 : nb (fun c => ex (fun s => prp S j k s && tn S s % 12 == c) 0) 12 = 0 := nb_f (fun _ _ => rfl)
  have := lp_c (fun m s => v_X12_findPairs_L25 (nI j) (nI k) K107 PV m (nI (nb (fun c => ex (fun s => prp S j k s && tn S s % 12 == c) s) 12)) (nI s) σ) (K107 (nI (pcl S j k)) σ) (nS S) (fun m => ?_) (fun m s hs => ?_) 5000 0 (by omega) (by omega)
  · (try dsimp only at this)
    rw [h0] at this
    exact this
  · (try dsimp only)
    rw [v_X12_findPairs_L25, hB.znS, w_t (nI_le (Nat.le_refl _) (by omega)), prp_pcl]
  · have o1 := hk.zoc j
    have o2 := hk.zoc k
    have hm : tn S s % 12 < 12 := Nat.mod_lt _ (by decide)
    have hf := hk.zfr s
    (try dsimp only)
    rw [v_X12_findPairs_L25, hB.znS, w_f (nI_ge hs (by omega)), w_in (vi (show j < 12 by omega) (by omega)), nI_clamp (show j < 2 ^ 31 by omega), hB.zoc (by omega), q_hushes hB hk o1 hs, w_bI, w_in (vi (show k < 12 by omega) (by omega)), nI_clamp (show k < 2 ^ 31 by omega), hB.zoc (by omega), q_hushes hB hk o2 hs, w_bI]
    unfold v_X12_findPairs_J64 v_X12_findPairs_J69
    simp only [w_in (vi (show s < 36 by omega) (show 36 < 2 ^ 31 by omega)), nI_clamp (show s < 2 ^ 31 by omega), hB.zfr (show s < 36 by omega), show ∀ x : Int32, x ||| 0 = x from fun x => by simp, nI_1, q_classOf hB hk (show s < 36 by omega), ish1 (tn S s % 12) (by omega), fa_or]
    have st : ∀ b, prp S j k s = b → nb (fun c => ex (fun s => prp S j k s && tn S s % 12 == c) (s + 1)) 12 = if b = true then nb (fun c => ex (fun s => prp S j k s && tn S s % 12 == c) s) 12 ||| 2 ^ (tn S s % 12) else nb (fun c => ex (fun s => prp S j k s && tn S s % 12 == c) s) 12 := fun b hb => by
      have e : ∀ c, ex (fun s => prp S j k s && tn S s % 12 == c) (s + 1) = (ex (fun s => prp S j k s && tn S s % 12 == c) s || (b && tn S s % 12 == c)) := fun c => by rw [← hb]; rfl
      cases b
      · rw [if_neg (by decide)]
        exact nb_cong (fun c _ => by rw [e]; simp)
      · rw [if_pos rfl]
        symm
        apply nb_of (Nat.or_lt_two_pow (nb_lt _ _) (Nat.pow_lt_pow_right (by decide) hm))
        intro c hc
        rw [Nat.testBit_or, nb_tb, Nat.testBit_two_pow, e]
        simp only [hc, decide_true, Bool.true_and]
        congr 1
    rcases (show fr S s = 0 ∨ fr S s = 1 by omega) with z | z
    · have c1 : ∀ x, (cutg S x s == 2) = !(clo x).testBit (tn S s % 12) := fun x => by
        unfold cutg
        cases e : (clo x).testBit (tn S s % 12)
        · rw [if_pos ⟨hs, z, rfl⟩]; rfl
        · rw [if_neg (by simp)]; rfl
      have c2 : prp S j k s = ((clo (oc S j)).testBit (tn S s % 12) && (clo (oc S k)).testBit (tn S s % 12)) := by unfold prp; rw [z]; simp
      rw [c1, c1]
      have s1 := st _ c2
      cases e1 : (clo (oc S j)).testBit (tn S s % 12)
      · rw [e1] at s1
        rw [if_pos (by rfl), z, w_t (by rfl), w_f (by decide), s1, if_neg (by simp)]
      · cases e2 : (clo (oc S k)).testBit (tn S s % 12)
        · rw [e1, e2] at s1
          rw [if_neg (by decide), if_pos (by rfl), z, w_t (by rfl), w_f (by decide), s1, if_neg (by simp)]
        · rw [e1, e2] at s1
          rw [if_neg (by decide), if_neg (by decide), z, w_t (by rfl), w_t (by trivial), s1, if_pos (by simp)]
    · have c1 : ∀ x, (cutg S x s == 2) = false := fun x => by
        unfold cutg
        rw [if_neg (by omega)]; rfl
      have c2 : prp S j k s = false := by unfold prp; rw [z]; simp
      rw [c1, c1, if_neg (by decide), if_neg (by decide), z, w_f (by decide), st _ c2, if_neg (by decide)]
def oB1 (σ : Mem) (S : St) (q : Nat → Nat → Prop) : Prop := ∀ j k, j < nF S → k < nF S → q j k → σ.1 52 (12 * j + k) = nI (pcl S j k)
theorem k_pairs (hB : B σ S) (hk : ok S) (K : ∀ σ', bS σ σ' → oB1 σ' S (fun _ _ => True) → PV σ') : v_X12_findPairs σ PV := by
  have h12 := hk.znO
  unfold v_X12_findPairs
  refine lp_i (fun m j s => v_X12_findPairs_L2 PV m (nI j) s) (fun j s => bS σ s ∧ oB1 s S (fun j' _ => j' < j)) (nF S) (fun m s hI => ?_) (fun m j s hj hI ih => ?_) 5000 0 _ (by omega) (by omega) ⟨bS.rf, fun j k _ _ h => by omega⟩
  · obtain ⟨b1, f1⟩ := hI
    (try dsimp only)
    rw [v_X12_findPairs_L2, (hB.bS b1).znO, w_t (nI_le (Nat.le_refl _) (by omega))]
    exact K s b1 (fun j k h1 h2 _ => f1 j k h1 h2 (by omega))
  · obtain ⟨b1, f1⟩ := hI
    (try dsimp only)
    rw [v_X12_findPairs_L2, (hB.bS b1).znO, w_f (nI_ge hj (by omega)), nI_1]
    refine lp_i (fun n k s => v_X12_findPairs_L12 (nI j) _ PV n (nI k) s) (fun k s => bS σ s ∧ oB1 s S (fun j' k' => j' < j ∨ (j' = j ∧ k' < k))) (nF S) (fun n s hI => ?_) (fun n k s hk2 hI ih2 => ?_) 5000 0 _ (by omega) (by omega) ⟨b1, fun j' k' h1 h2 h3 => f1 j' k' h1 h2 (by omega)⟩
    · obtain ⟨b2, f2⟩ := hI
      (try dsimp only)
      rw [v_X12_findPairs_L12, (hB.bS b2).znO, w_t (nI_le (Nat.le_refl _) (by omega))]
      exact ih s ⟨b2, fun j' k' h1 h2 h3 => f2 j' k' h1 h2 (by omega)⟩
    · obtain ⟨b2, f2⟩ := hI
      have hB2 := hB.bS b2
      (try dsimp only)
      rw [v_X12_findPairs_L12, hB2.znO, w_f (nI_ge hk2 (by omega)), q_pair hB2 hk hj hk2, i_12, w_in (vi (show 12 * j + k < 144 by omega) (by omega)), nI_clamp (show 12 * j + k < 2 ^ 31 by omega), nI_1]
      refine ih2 _ ⟨b2.I (by omega), fun j' k' h1 h2 h3 => ?_⟩
      rw [m_I1]
      by_cases z : j' = j ∧ k' = k
      · rw [if_pos (by omega), z.1, z.2]
      · rw [if_neg (by omega)]; exact f2 j' k' h1 h2 (by omega)
theorem q_lowest {X t : Nat} (hX : X < 4096) (h : Lo X t) : v_X12_lowest (nI X) σ P = P (nI t) σ := by
  have ht := Lo_lt (k := 12) h (by omega)
  unfold v_X12_lowest
  refine lp_c (fun m k => v_X12_lowest_L2 (nI X) P m (nI k) σ) _ t (fun m => ?_) (fun m k hk2 => ?_) 5000 0 (by omega) (by omega)
  · (try dsimp only)
    rw [v_X12_lowest_L2, i_bit (by omega) (by omega), h.1, w_f (by decide)]
  · (try dsimp only)
    rw [v_X12_lowest_L2, i_bit (by omega) (by omega), h.2 k hk2, w_t (by rfl), nI_1]
theorem nar_b (f : Bool) : vp_nar .boolean (bI f) = bI f := by cases f <;> decide +kernel
/-- what each set gives of a chord -/
theorem k_given (hB : B σ S) (hk : ok S) {c : Nat} (hc : c < 96) (hp : oB1 σ S (fun _ _ => True)) (K : ∀ σ', bS σ σ' → (∀ o k, o ≠ 53 → σ'.1 o k = σ.1 o k) → (∀ X, X < 2 ^ nF S → σ'.1 53 X = bI (giv S X c)) → PV σ') : v_X12_findGiven (nI c) σ PV := by
  have h12 := hk.znO
  have p12 := p12o hk
  have hcl := clo_lt c
  unfold v_X12_findGiven
  rw [q_classesOfB hc, w_in (show vp_in (0 : Int32) 4096 from by have t := vi (show 0 < 4096 by omega) (by omega); exact t)]
  have p0 := Nat.two_pow_pos (nF S)
  have := lp_i (fun m X s => v_X12_findGiven_L14 (nI (clo c)) PV m (nI (X + 1)) s) (fun X s => bS σ s ∧ (∀ o k, o ≠ 53 → s.1 o k = σ.1 o k) ∧ (∀ Y, Y < X + 1 → s.1 53 Y = bI (giv S Y c))) (2 ^ nF S - 1) (fun m s hI => ?_) (fun m X s hX hI ih => ?_) 5000 0 (wI σ 53 (Int32.toNatClampNeg 0) (vp_nar .boolean 0)) (by omega) (by omega) ⟨bS.rf.I (by omega), fun o k ho => by rw [m_I1, if_neg (by omega)], fun Y hY => by
      rw [show Y = 0 by omega, m_I1, if_pos ⟨rfl, rfl⟩, giv_0]; exact nar_b false⟩
  · exact this
  · obtain ⟨b1, f1, f2⟩ := hI
    have hB1 := hB.bS b1
    (try dsimp only)
    rw [v_X12_findGiven_L14, hB1.znO, ish1 _ (by omega), show 2 ^ nF S - 1 + 1 = 2 ^ nF S by omega, w_t (nI_le (Nat.le_refl _) (by omega))]
    exact K s b1 f1 (fun Y hY => f2 Y (by omega))
  · obtain ⟨b1, f1, f2⟩ := hI
    have hB1 := hB.bS b1
    obtain ⟨t, ht, hlo⟩ := Lo_ex (n := X + 1) (k := 12) (by omega) (by omega)
    have htF := Lo_lt hlo (show X + 1 < 2 ^ nF S by omega)
    have lz : (X + 1) &&& (X + 1 - 1) < X + 1 := by
      have := Nat.and_le_right (n := X + 1) (m := X + 1 - 1); omega
    (try dsimp only)
    rw [v_X12_findGiven_L14, hB1.znO, ish1 _ (by omega), w_f (nI_ge (show X + 1 < 2 ^ nF S by omega) (by omega)), q_lowest (by omega) hlo, nI_pred, fa_and, show (X + 1) &&& X = (X + 1) &&& (X + 1 - 1) from rfl, w_in (vi (show (X + 1) &&& (X + 1 - 1) < 4096 by omega) (by omega)), nI_clamp (show (X + 1) &&& (X + 1 - 1) < 2 ^ 31 by omega), f2 _ lz, nI_1]
    have l46 := lp_f (fun n f k => v_X12_findGiven_L46 (nI (clo c)) (nI (X + 1)) (nI t) (fun (x5_5 : Int32) (σ_6 : Mem) => vp_in (nI (X + 1)) 4096 ∧ (v_X12_findGiven_L14 (nI (clo c)) PV m (nI (X + 1 + 1)) (wI σ_6 53 (Int32.toNatClampNeg (nI (X + 1))) (vp_nar .boolean x5_5)))) PV n (bI f) (nI k) s) (fun f => vp_in (nI (X + 1)) 4096 ∧ (v_X12_findGiven_L14 (nI (clo c)) PV m (nI (X + 1 + 1)) (wI s 53 (Int32.toNatClampNeg (nI (X + 1))) (vp_nar .boolean (bI f))))) (fun i => (X + 1).testBit i && prc S t i c) (nF S) (fun n f => ?_) (fun n k hk2 => ?_) (fun n k hk2 => ?_) 5000 t (giv S ((X + 1) &&& (X + 1 - 1)) c) (by omega) (by omega)
    · (try dsimp only at l46)
      rw [← giv_low hk (by omega) hlo] at l46
      rw [l46, w_in (vi (show X + 1 < 4096 by omega) (by omega)), nI_clamp (show X + 1 < 2 ^ 31 by omega), nar_b]
      refine ih _ ⟨b1.I (by omega), fun o k ho => by rw [m_I1, if_neg (by omega)]; exact f1 o k ho, fun Y hY => ?_⟩
      rw [m_I1]
      by_cases z : Y = X + 1
      · rw [if_pos ⟨rfl, z⟩, z]
      · rw [if_neg (fun q => z q.2)]; exact f2 Y (by omega)
    · (try dsimp only)
      rw [v_X12_findGiven_L46, hB1.znO, w_t (nI_le (Nat.le_refl _) (by omega))]
    · (try dsimp only)
      rw [v_X12_findGiven_L46, hB1.znO, w_f (nI_ge hk2 (by omega)), w_f (by decide)]
    · have pe := hp t k htF hk2 trivial
      have pl := pcl_lt S t k
      (try dsimp only)
      rw [v_X12_findGiven_L46, hB1.znO, w_f (nI_ge hk2 (by omega)), w_t (by rfl), i_bit (by omega) (by omega), w_ite, i_12, w_in (vi (show 12 * t + k < 144 by omega) (by omega)), nI_clamp (show 12 * t + k < 2 ^ 31 by omega), f1 52 _ (by omega), pe, w_ite, nI_1]
      simp only [bI_1, i_eq (show pcl S t k < 2 ^ 31 by omega) (show clo c < 2 ^ 31 by omega)]
      unfold prc
      cases e : (X + 1).testBit k
      · rw [if_neg (by decide)]; rfl
      · rw [if_pos rfl]
        by_cases z : pcl S t k = clo c
        · rw [if_pos z, beq_iff_eq.mpr z]; rfl
        · rw [if_neg z, beq_false_of_ne z]; rfl
theorem nb_or1 {p : Nat → Bool} {g : Nat} : nb p (g + 1) = nb p g ||| (if p g = true then 2 ^ g else 0) := rfl
/-- the songs with a chord -/
def uss (S : St) (c : Nat) : Nat := nb (fun g => usd S g c) (nG S)
theorem uss_lt (hk : ok S) (c : Nat) : uss S c < 256 := nb_lt' (m := 8) _ hk.znG
theorem q_users (hB : B σ S) (hk : ok S) {c : Nat} (hc : c < 96) {K109 : Int32 → Mem → Prop} : v_X12_findServed_L48 (nI c) K109 PV 5000 0 0 σ = K109 (nI (uss S c)) σ := by
  have h8 := hk.znG
  refine lp_c (fun m g => v_X12_findServed_L48 (nI c) K109 PV m (nI (nb (fun g => usd S g c) g)) (nI g) σ) _ (nG S) (fun m => ?_) (fun m g hg => ?_) 5000 0 (by omega) (by omega)
  · (try dsimp only)
    rw [v_X12_findServed_L48, hB.znG, w_t (nI_le (Nat.le_refl _) (by omega))]; rfl
  · have h24 := hk.zgl g
    have hgk := hk.zgk g
    (try dsimp only)
    rw [v_X12_findServed_L48, hB.znG, w_f (nI_ge hg (by omega)), nI_1]
    have := lp_c (fun n i => v_X12_findServed_L59 (nI c) (nI g) (fun (x2_6 : Int32) (σ_7 : Mem) => v_X12_findServed_L48 (nI c) K109 PV m x2_6 (nI (g + 1)) σ_7) PV n (nI (nb (fun g => usd S g c) g ||| (if ex (fun i => trn (gc S g i) (gk S g) == c) i = true then 2 ^ g else 0))) (nI i) σ) (v_X12_findServed_L48 (nI c) K109 PV m (nI (nb (fun g => usd S g c) (g + 1))) (nI (g + 1)) σ) (gl S g) (fun n => ?_) (fun n i hi => ?_) 5000 0 (by omega) (by omega)
    · (try dsimp only at this)
      rw [show ex (fun i => trn (gc S g i) (gk S g) == c) 0 = false from rfl, if_neg (by decide), Nat.or_zero] at this
      exact this
    · (try dsimp only)
      rw [v_X12_findServed_L59, w_in (vi (show g < 8 by omega) (by omega)), nI_clamp (by omega), hB.zgl (by omega), w_t (nI_le (Nat.le_refl _) (by omega))]; rfl
    · have ht := trn_lt (c := gc S g i) (j := gk S g) (hk.zgc g i)
      (try dsimp only)
      rw [v_X12_findServed_L59, w_in (vi (show g < 8 by omega) (by omega)), nI_clamp (by omega), hB.zgl (by omega), w_f (nI_ge hi (by omega)), w_in (vi (show g < 8 by omega) (by omega)), hB.zgk (by omega), q_chordAt hB hk (by omega) (by omega) (by omega), w_ite, nI_1, ish1 g (by omega), fa_or, show ∀ x : Int32, x ||| 0 = x from fun x => by simp]
      simp only [i_eq (show trn (gc S g i) (gk S g) < 2 ^ 31 by omega) (show c < 2 ^ 31 by omega)]
      have e : ex (fun i => trn (gc S g i) (gk S g) == c) (i + 1) = (ex (fun i => trn (gc S g i) (gk S g) == c) i || trn (gc S g i) (gk S g) == c) := rfl
      rw [e]
      by_cases z : trn (gc S g i) (gk S g) = c
      · rw [if_pos z, beq_iff_eq.mpr z, Bool.or_true, if_pos rfl]
        cases ex (fun i => trn (gc S g i) (gk S g) == c) i
        · rw [if_neg (by decide), Nat.or_zero]
        · rw [if_pos rfl, Nat.or_assoc, Nat.or_self]
      · rw [if_neg z, beq_false_of_ne z, Bool.or_false]
def oB (σ : Mem) (S : St) : Prop := B σ S ∧ ∀ X, X < 2 ^ nF S → σ.1 54 X = nI (svm S X)
theorem k_served (hB : B σ S) (hk : ok S) (K : ∀ σ', bS σ σ' → oB σ' S → PV σ') : v_X12_findServed σ PV := by
  have h12 := hk.znO
  have h8 := hk.znG
  have p12 := p12o hk
  unfold v_X12_findServed
  refine k_pairs hB hk (fun σ1 b1 g1 => ?_)
  refine lp_i (fun m X s => v_X12_findServed_L6 _ PV m (nI X) s) (fun X s => bS σ s ∧ oB1 s S (fun _ _ => True) ∧ ∀ Y, Y < X → s.1 54 Y = nI (2 ^ nG S - 1)) (2 ^ nF S) (fun m s hI => ?_) (fun m X s hX hI ih => ?_) 5000 0 _ (Nat.zero_le _) (by omega) ⟨b1, g1, fun Y hY => by omega⟩
  · obtain ⟨b2, f1, f2⟩ := hI
    (try dsimp only)
    rw [v_X12_findServed_L6, (hB.bS b2).znO, ish1 _ (by omega), w_t (nI_le (Nat.le_refl _) (by omega))]
    have all0 : ∀ X, svc S X 0 = 2 ^ nG S - 1 := fun X => by
      symm
      apply nb_of
      · have := Nat.two_pow_pos (nG S); omega
      · intro i hi
        rw [Nat.testBit_two_pow_sub_one]
        simp [hi, ex]
    refine lp_i (fun m c s => v_X12_findServed_L38 PV m (nI c) s) (fun c s => bS σ s ∧ oB1 s S (fun _ _ => True) ∧ ∀ Y, Y < 2 ^ nF S → s.1 54 Y = nI (svc S Y c)) 96 (fun m s hI => ?_) (fun m c s hc hI ih => ?_) 5000 0 _ (by omega) (by omega) ⟨b2, f1, fun Y hY => by rw [all0]; exact f2 Y hY⟩
    · obtain ⟨b3, f3, f4⟩ := hI
      (try dsimp only)
      rw [v_X12_findServed_L38, w_t (by decide)]
      exact K s b3 ⟨hB.bS b3, fun X hX => by rw [f4 X hX, svc_96 hk]⟩
    · obtain ⟨b3, f3, f4⟩ := hI
      have hB3 := hB.bS b3
      have ul := uss_lt hk c
      (try dsimp only)
      rw [v_X12_findServed_L38, w_f (show ¬ (96 : Int32) ≤ nI c from nI_ge (b := 96) hc (by omega)), q_users hB3 hk hc, nI_1]
      have stp1 : ∀ X, svc S X (c + 1) = nb (fun i => (svc S X c).testBit i && !(!giv S X c && (uss S c).testBit i)) 8 := fun X => by
        apply nb_of (svc_lt hk X _)
        intro i hi
        unfold svc uss
        rw [nb_tb, nb_tb, nb_tb]
        have e : ex (fun d => usd S i d && !giv S X d) (c + 1) = (ex (fun d => usd S i d && !giv S X d) c || (usd S i c && !giv S X c)) := rfl
        rw [e]
        cases decide (i < nG S) <;> cases ex (fun d => usd S i d && !giv S X d) c <;> cases usd S i c <;> cases giv S X c <;> rfl
      have nb8 : ∀ X, nb (fun i => (svc S X c).testBit i) 8 = svc S X c := fun X => (nb_of (svc_lt hk X c) (fun i _ => rfl)).symm
      by_cases z : uss S c = 0
      · rw [w_t (by rw [z]; rfl)]
        refine ih s ⟨b3, f3, fun Y hY => ?_⟩
        rw [f4 Y hY, stp1 Y, z]
        congr 1
        rw [← nb8 Y]
        apply nb_cong
        intro i _
        rw [nb8]; simp
      · rw [w_f (by rw [i_eq0 (by omega)]; exact z)]
        refine k_given hB3 hk hc f3 (fun s4 b4 f5 f6 => ?_)
        refine lp_i (fun n X s => v_X12_findServed_L123 (nI c) (nI (uss S c)) _ PV n (nI X) s) (fun X s => bS σ s ∧ oB1 s S (fun _ _ => True) ∧ (∀ Y, Y < 2 ^ nF S → s.1 53 Y = bI (giv S Y c)) ∧ ∀ Y, Y < 2 ^ nF S → s.1 54 Y = nI (if Y < X then svc S Y (c + 1) else svc S Y c)) (2 ^ nF S) (fun n s hI => ?_) (fun n X s hX hI ih2 => ?_) 5000 0 _ (Nat.zero_le _) (by omega) ⟨b3.tr b4, fun j k h1 h2 h3 => by rw [f5 52 _ (by omega)]; exact f3 j k h1 h2 h3, f6, fun Y hY => by rw [f5 54 Y (by omega), if_neg (by omega)]; exact f4 Y hY⟩
        · obtain ⟨b5, f7, f8, f9⟩ := hI
          (try dsimp only)
          rw [v_X12_findServed_L123, (hB.bS b5).znO, ish1 _ (by omega), w_t (nI_le (Nat.le_refl _) (by omega))]
          exact ih s ⟨b5, f7, fun Y hY => by rw [f9 Y hY, if_pos hY]⟩
        · obtain ⟨b5, f7, f8, f9⟩ := hI
          have hB5 := hB.bS b5
          have sl := svc_lt hk X c
          have e9 := f9 X hX
          rw [if_neg (by omega)] at e9
          have fin : ∀ v : Nat, v = svc S X (c + 1) → v_X12_findServed_L123 (nI c) (nI (uss S c)) (fun σ_12 => v_X12_findServed_L38 PV m (nI (c + 1)) σ_12) PV n (nI (X + 1)) (wI s 54 X (nI v)) := fun v hv => by
            refine ih2 _ ⟨b5.I (by omega), fun j k h1 h2 h3 => by rw [m_I1, if_neg (by omega)]; exact f7 j k h1 h2 h3, fun Y hY => by rw [m_I1, if_neg (by omega)]; exact f8 Y hY, fun Y hY => ?_⟩
            rw [m_I1]
            by_cases y : Y = X
            · rw [if_pos ⟨rfl, y⟩, if_pos (by omega), y, hv]
            · rw [if_neg (fun q => y q.2), f9 Y hY]
              by_cases y2 : Y < X
              · rw [if_pos y2, if_pos (by omega)]
              · rw [if_neg y2, if_neg (by omega)]
          (try dsimp only)
          rw [v_X12_findServed_L123, hB5.znO, ish1 _ (by omega), w_f (nI_ge hX (by omega)), w_in (vi (show X < 4096 by omega) (by omega)), w_in (vi (show X < 4096 by omega) (by omega)), nI_clamp (show X < 2 ^ 31 by omega), f8 X hX, e9, w_in (vi (show X < 4096 by omega) (by omega)), w_in (vi (show X < 4096 by omega) (by omega)), and_not_t sl, and_m1, nI_1]
          cases e : giv S X c
          · rw [w_t (by rfl)]
            refine fin _ ?_
            rw [stp1 X, e]
            exact nb_cong (fun i _ => by simp)
          · rw [w_f (by decide)]
            refine fin _ ?_
            rw [stp1 X, e, ← nb8 X]
            exact nb_cong (fun i _ => by rw [nb8]; simp)
  · obtain ⟨b2, f1, f2⟩ := hI
    have hB2 := hB.bS b2
    (try dsimp only)
    rw [v_X12_findServed_L6, hB2.znO, ish1 _ (by omega), w_f (nI_ge hX (by omega)), w_in (vi (show X < 4096 by omega) (by omega)), nI_clamp (show X < 2 ^ 31 by omega), hB2.znG, top_m (by omega), nI_1]
    refine ih _ ⟨b2.I (by omega), fun j k h1 h2 h3 => by rw [m_I1, if_neg (by omega)]; exact f1 j k h1 h2 h3, fun Y hY => ?_⟩
    rw [m_I1]
    by_cases y : Y = X
    · rw [if_pos ⟨rfl, y⟩]
    · rw [if_neg (fun q => y q.2)]; exact f2 Y (by omega)
theorem t_serves (h : RR σ) (a1 : Int32) : v_X11_serves a1 σ (fun r σ => v_X12_serves a1 σ (fun r2 σ => r = r2 ∧ RR σ)) := by
  obtain ⟨S, hA, hB, hk⟩ := h
  have p12 := p12o hk
  unfold v_X11_serves
  rcases rg a1 (2 ^ nF S) (by omega) with ⟨X, hX, rfl⟩ | ho
  · rw [q_isSetO_n hA hk hX, w_1]
    refine k_lookO hA hk (fun σ1 a1 h1 => ?_)
    rw [q_servedBy h1 hk (by omega)]
    (try dsimp only)
    unfold v_X12_serves
    have hB1 := hB.mS a1.m
    rw [q_areOffers_n hB1 hk hX, w_1]
    refine k_served hB1 hk (fun σ3 b3 h3 => ?_)
    rw [w_in (vi (show X < 4096 by omega) (by omega)), nI_clamp (by omega), h3.2 X hX]
    exact ⟨rfl, RRf h1.1 b3.c h3.1 hk⟩
  · rw [q_isSetO_o hA hk ho, w_0]
    (try dsimp only)
    unfold v_X12_serves
    rw [q_areOffers_o hB hk ho, w_0]
    exact ⟨rfl, S, hA, hB, hk⟩
end
