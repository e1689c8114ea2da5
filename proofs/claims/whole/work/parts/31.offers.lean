-- ===== offers: what the class finds =====
/-- chords by bits, in two words -/
def mlo (p : Nat → Bool) : Nat := nb p 64
def mhi (p : Nat → Bool) : Nat := nb (fun x => p (x + 64)) 32
def lbt (c : Nat) : Nat := if c < 64 then 2 ^ c else 0
def hbt (c : Nat) : Nat := if c < 64 then 0 else 2 ^ (c - 64)
theorem mlo_or (p q : Nat → Bool) : mlo (fun x => p x || q x) = mlo p ||| mlo q := by
  symm
  apply nb_of (Nat.or_lt_two_pow (nb_lt _ _) (nb_lt _ _))
  intro i hi
  rw [Nat.testBit_or, nb_tb, nb_tb]
  simp [hi]
theorem mhi_or (p q : Nat → Bool) : mhi (fun x => p x || q x) = mhi p ||| mhi q := by
  symm
  apply nb_of (Nat.or_lt_two_pow (nb_lt _ _) (nb_lt _ _))
  intro i hi
  rw [Nat.testBit_or, nb_tb, nb_tb]
  simp [hi]
theorem mlo_1 (c : Nat) : mlo (fun x => c == x) = lbt c := by
  symm
  apply nb_of
  · unfold lbt; split
    · next h => exact Nat.pow_lt_pow_right (by decide) h
    · exact Nat.two_pow_pos 64
  · intro i hi
    unfold lbt
    split
    · rw [Nat.testBit_two_pow]; rw [Bool.eq_iff_iff, decide_eq_true_eq, beq_iff_eq]
    · rw [Nat.zero_testBit]; symm; rw [beq_eq_false_iff_ne]; omega
theorem mhi_1 {c : Nat} (hc : c < 96) : mhi (fun x => c == x) = hbt c := by
  symm
  apply nb_of
  · unfold hbt; split
    · exact Nat.two_pow_pos 32
    · exact Nat.pow_lt_pow_right (by decide) (by omega)
  · intro i hi
    unfold hbt
    split
    · rw [Nat.zero_testBit]; symm; rw [beq_eq_false_iff_ne]; omega
    · rw [Nat.testBit_two_pow]; rw [Bool.eq_iff_iff, decide_eq_true_eq, beq_iff_eq]; omega
theorem mlo_cong {p q : Nat → Bool} (h : ∀ x, x < 96 → p x = q x) : mlo p = mlo q := nb_cong (fun i hi => h i (by omega))
theorem mhi_cong {p q : Nat → Bool} (h : ∀ x, x < 96 → p x = q x) : mhi p = mhi q := nb_cong (fun i hi => h (i + 64) (by omega))
theorem mlo_0 : mlo (fun _ => false) = 0 := nb_f (fun _ _ => rfl)
theorem mhi_0 : mhi (fun _ => false) = 0 := nb_f (fun _ _ => rfl)
/-- a song's chords; what two offers give; what a set of offers gives -/
def usd (S : St) (g c : Nat) : Bool := ex (fun i => trn (gc S g i) (gk S g) == c) (gl S g)
def pcl (S : St) (j k : Nat) : Nat := cal S &&& (clo (oc S j) &&& clo (oc S k))
def prc (S : St) (j k c : Nat) : Bool := pcl S j k == clo c
def gvk (S : St) (X j k c : Nat) : Bool := ex (fun k' => decide (j ≤ k') && X.testBit j && X.testBit k' && prc S j k' c) k
def gvj (S : St) (X j c : Nat) : Bool := ex (fun j' => gvk S X j' (nF S) c) j
def giv (S : St) (X c : Nat) : Bool := gvj S X (nF S) c
def svd (S : St) (X g : Nat) : Bool := !ex (fun i => !giv S X (trn (gc S g i) (gk S g))) (gl S g)
def svm (S : St) (X : Nat) : Nat := nb (svd S X) (nG S)
theorem pcl_lt (S : St) (j k : Nat) : pcl S j k < 4096 := Nat.lt_of_le_of_lt Nat.and_le_left (nb_lt _ 12)
theorem svm_lt {S : St} (hk : ok S) (X : Nat) : svm S X < 256 := nb_lt' (m := 8) _ hk.znG
/-- but two cells have changed -/
def dS (a p : Nat) (σ σ' : Mem) : Prop := (∀ o k, σ'.1 o k = σ.1 o k) ∧ ∀ o k, ¬ ((o = a ∨ o = a + 1) ∧ k = p) → σ'.2 o k = σ.2 o k
theorem dS.rf {a p : Nat} {σ : Mem} : dS a p σ σ := ⟨fun _ _ => rfl, fun _ _ _ => rfl⟩
theorem dS.up {a p : Nat} {σ σ' : Mem} {x y : Int64} (h : dS a p σ σ') : dS a p σ (wJ (wJ σ' a p x) (a + 1) p y) := ⟨fun o k => by rw [m_J1, m_J1]; exact h.1 o k, fun o k hk => by rw [m_J2, if_neg (by omega), m_J2, if_neg (by omega)]; exact h.2 o k hk⟩
theorem dS.a {a p : Nat} {σ σ' : Mem} (h : dS a p σ σ') (ha : 17 ≤ a ∧ a ≤ 24) : aS σ σ' := fun o k h1 h2 h3 h4 => ⟨h.1 o k, h.2 o k (by omega)⟩
section
variable {σ : Mem} {S : St} {P : Int32 → Mem → Prop} {PV : Mem → Prop} {PJ : Int64 → Mem → Prop}
theorem q_lowBit {c : Nat} (hc : c < 96) : v_X5_lowBit (nI c) σ PJ = PJ (lN (lbt c)) σ := by
  unfold v_X5_lowBit lbt
  by_cases q : c < 64
  · rw [w_f (show ¬ (64 : Int32) ≤ nI c from nI_ge (b := 64) q (by omega)), if_pos q, l_sh1 q]
  · rw [w_t (show (64 : Int32) ≤ nI c from nI_le (a := 64) (by omega) (by omega)), if_neg q]; rfl
theorem q_highBit {c : Nat} (hc : c < 96) : v_X5_highBit (nI c) σ PJ = PJ (lN (hbt c)) σ := by
  unfold v_X5_highBit hbt
  by_cases q : c < 64
  · rw [w_f (show ¬ (64 : Int32) ≤ nI c from nI_ge (b := 64) q (by omega)), if_pos q]; rfl
  · rw [w_t (show (64 : Int32) ≤ nI c from nI_le (a := 64) (by omega) (by omega)), if_neg q, show (64 : Int32) = nI 64 from rfl, pk_sub (by omega), l_sh1 (by omega)]
/-- a song's masks -/
theorem k_song1 (hA : A σ S) (hk : ok S) {g : Nat} (hg : g < nG S) {PU : Mem → Prop} (K : ∀ σ', dS 19 g σ σ' → σ'.2 19 g = lN (mlo (usd S g)) → σ'.2 20 g = lN (mhi (usd S g)) → PV σ') : v_X5_lookAtSongs_L42 (nI g) (bG + g) PV PU 5000 0 (wJ (wJ σ 19 g 0) 20 g 0) := by
  have h8 := hk.znG
  have h24 := hk.zgl g
  have hgk := hk.zgk g
  refine lp_i (fun m i s => v_X5_lookAtSongs_L42 (nI g) (bG + g) PV PU m (nI i) s) (fun i s => dS 19 g σ s ∧ s.2 19 g = lN (mlo (fun c => ex (fun i => trn (gc S g i) (gk S g) == c) i)) ∧ s.2 20 g = lN (mhi (fun c => ex (fun i => trn (gc S g i) (gk S g) == c) i))) (gl S g) (fun m s hI => ?_) (fun m i s hi hI ih => ?_) 5000 0 _ (by omega) (by omega) ⟨dS.rf.up, ?_, ?_⟩
  · obtain ⟨d, f1, f2⟩ := hI
    (try dsimp only)
    rw [v_X5_lookAtSongs_L42, (hA.aS (d.a (by omega))).zgl (by omega), w_t (nI_le (Nat.le_refl _) (by omega))]
    exact K s d f1 f2
  · obtain ⟨d, f1, f2⟩ := hI
    have hA1 := hA.aS (d.a (by omega))
    have ht := trn_lt (c := gc S g i) (j := gk S g) (hk.zgc g i)
    (try dsimp only)
    rw [v_X5_lookAtSongs_L42, hA1.zgl (by omega), w_f (nI_ge hi (by omega)), hA1.zgk (by omega), q_chordIn hA1 hk (by omega) (by omega) (by omega), w_in (vi (show g < 8 by omega) (by omega)), nI_clamp (show g < 2 ^ 31 by omega), q_lowBit ht, w_in (vi (show g < 8 by omega) (by omega)), w_in (vi (show g < 8 by omega) (by omega)), q_highBit ht, w_in (vi (show g < 8 by omega) (by omega)), nI_1]
    refine ih _ ⟨d.up, ?_, ?_⟩
    · rw [m_J2, if_neg (by omega), m_J2, if_pos ⟨rfl, rfl⟩, f1, fb_orL, ← mlo_1, ← mlo_or]; rfl
    · rw [m_J2, if_pos ⟨rfl, rfl⟩, m_J2, if_neg (by omega), f2, fb_orL, ← mhi_1 ht, ← mhi_or]; rfl
  · rw [m_J2, if_neg (by omega), m_J2, if_pos ⟨rfl, rfl⟩, show mlo (fun c => ex (fun i => trn (gc S g i) (gk S g) == c) 0) = 0 from mlo_0]; rfl
  · rw [m_J2, if_pos ⟨rfl, rfl⟩, show mhi (fun c => ex (fun i => trn (gc S g i) (gk S g) == c) 0) = 0 from mhi_0]; rfl
def oA1 (σ : Mem) (S : St) (n : Nat) : Prop := σ.1 15 5 = nI (nG S) ∧ ∀ g, g < n → σ.2 19 g = lN (mlo (usd S g)) ∧ σ.2 20 g = lN (mhi (usd S g))
theorem k_songs (hA : A σ S) (hk : ok S) (K : ∀ σ', aS σ σ' → oA1 σ' S (nG S) → PV σ') : v_X5_lookAtSongs σ PV := by
  have h8 := hk.znG
  unfold v_X5_lookAtSongs
  rw [hA.znG]
  refine lp_i (fun m g s => v_X5_lookAtSongs_L10 PV m (nI g) s) (fun g s => aS σ s ∧ oA1 s S g) (nG S) (fun m s hI => ?_) (fun m g s hg hI ih => ?_) 5000 0 _ (by omega) (by omega) ⟨aS.rf.I (by omega), by rw [m_I1, if_pos ⟨rfl, rfl⟩], fun g hg => by omega⟩
  · obtain ⟨a1, f1, f2⟩ := hI
    (try dsimp only)
    rw [v_X5_lookAtSongs_L10, f1, w_t (nI_le (Nat.le_refl _) (by omega))]
    exact K s a1 ⟨f1, f2⟩
  · obtain ⟨a1, f1, f2⟩ := hI
    (try dsimp only)
    rw [v_X5_lookAtSongs_L10, f1, w_f (nI_ge hg (by omega)), w_in (vi (show g < 8 by omega) (by omega)), w_in (vi (show g < 8 by omega) (by omega)), w_in (vi (show g < 8 by omega) (by omega)), nI_clamp (show g < 2 ^ 31 by omega), nI_1]
    refine k_song1 (hA.aS a1) hk hg (fun s2 d e1 e2 => ih s2 ⟨a1.tr (d.a (by omega)), by rw [d.1]; exact f1, fun g' hg' => ?_⟩)
    by_cases z : g' = g
    · rw [z]; exact ⟨e1, e2⟩
    · rw [d.2 19 g' (by omega), d.2 20 g' (by omega)]; exact f2 g' (by omega)
/-- two offers' masks -/
theorem k_two {p cl : Nat} (hp : p < 144) (hcl : cl < 4096) (K : ∀ σ', dS 17 p σ σ' → σ'.2 17 p = lN (mlo (fun c => cl == clo c)) → σ'.2 18 p = lN (mhi (fun c => cl == clo c)) → PV σ') : v_X5_lookAtTwo (nI p) (nI cl) σ PV := by
  have fin : ∀ n, 96 ≤ n → (∀ x, x < 96 → (decide (x < n) && (cl == clo x)) = (cl == clo x)) := fun n hn x hx => by
    rw [decide_eq_true (show x < n by omega), Bool.true_and]
  have nxt : ∀ c x, (decide (x < c + 1) && (cl == clo x)) = ((decide (x < c) && (cl == clo x)) || ((cl == clo c) && (c == x))) := fun c x => by
    rcases Nat.lt_trichotomy x c with q | q | q
    · simp [q, show x < c + 1 by omega, show ¬ c = x by omega]
    · subst q; simp
    · simp [show ¬ x < c + 1 by omega, show ¬ x < c by omega, show ¬ c = x by omega]
  unfold v_X5_lookAtTwo
  rw [w_in (vi hp (by omega)), w_in (vi hp (by omega)), nI_clamp (by omega)]
  refine lp_i (fun m c s => v_X5_lookAtTwo_L16 (nI p) (nI cl) PV m (nI c) s) (fun c s => dS 17 p σ s ∧ s.2 17 p = lN (mlo (fun x => decide (x < c) && (cl == clo x))) ∧ s.2 18 p = lN (mhi (fun x => decide (x < c) && (cl == clo x)))) 96 (fun m s hI => ?_) (fun m c s hc hI ih => ?_) 5000 0 _ (by omega) (by omega) ⟨dS.rf.up, ?_, ?_⟩
  · obtain ⟨d, f1, f2⟩ := hI
    (try dsimp only)
    rw [v_X5_lookAtTwo_L16, w_t (by decide)]
    rw [mlo_cong (fin 96 (Nat.le_refl _))] at f1
    rw [mhi_cong (fin 96 (Nat.le_refl _))] at f2
    exact K s d f1 f2
  · obtain ⟨d, f1, f2⟩ := hI
    have hcc := clo_lt c
    (try dsimp only)
    rw [v_X5_lookAtTwo_L16, w_f (show ¬ (96 : Int32) ≤ nI c from nI_ge (b := 96) hc (by omega)), q_classesOfA hc]
    by_cases e : clo c = cl
    · rw [w_t (by rw [e]), w_in (vi hp (by omega)), nI_clamp (show p < 2 ^ 31 by omega), q_lowBit hc, w_in (vi hp (by omega)), w_in (vi hp (by omega)), q_highBit hc, w_in (vi hp (by omega)), nI_1]
      refine ih _ ⟨d.up, ?_, ?_⟩
      · rw [m_J2, if_neg (by omega), m_J2, if_pos ⟨rfl, rfl⟩, f1, fb_orL, ← mlo_1, ← mlo_or]
        congr 2
        funext x
        rw [nxt, e]; simp
      · rw [m_J2, if_pos ⟨rfl, rfl⟩, m_J2, if_neg (by omega), f2, fb_orL, ← mhi_1 hc, ← mhi_or]
        congr 2
        funext x
        rw [nxt, e]; simp
    · rw [w_f (by rw [i_eq (by omega) (by omega)]; exact e), nI_1]
      have e2 : (cl == clo c) = false := beq_false_of_ne (fun z => e z.symm)
      refine ih _ ⟨d, ?_, ?_⟩
      · rw [f1]; congr 2; funext x; rw [nxt, e2]; simp
      · rw [f2]; congr 2; funext x; rw [nxt, e2]; simp
  · rw [m_J2, if_neg (by omega), m_J2, if_pos ⟨rfl, rfl⟩, mlo_cong (q := fun _ => false) (fun x _ => by simp), mlo_0]; rfl
  · rw [m_J2, if_pos ⟨rfl, rfl⟩, mhi_cong (q := fun _ => false) (fun x _ => by simp), mhi_0]; rfl
def oA2 (σ : Mem) (S : St) (q : Nat → Nat → Prop) : Prop := ∀ j k, j ≤ k → k < nF S → q j k → σ.2 17 (12 * j + k) = lN (mlo (prc S j k)) ∧ σ.2 18 (12 * j + k) = lN (mhi (prc S j k))
/-- the class has looked at its offers -/
def oA (σ : Mem) (S : St) : Prop := A σ S ∧ oA1 σ S (nG S) ∧ oA2 σ S (fun _ _ => True)
theorem k_lookO (hA : A σ S) (hk : ok S) (K : ∀ σ', aS σ σ' → oA σ' S → PV σ') : v_X11_lookAtOffers σ PV := by
  have h12 := hk.znO
  unfold v_X11_lookAtOffers
  refine k_songs hA hk (fun σ1 a1 g1 => ?_)
  have hA1 := hA.aS a1
  rw [q_all hA1 hk, q_allClassesA hA1 hk]
  unfold v_X5_lookAtClasses
  have calt : cal S < 4096 := nb_lt _ 12
  refine lp_i (fun m j s => v_X5_lookAtClasses_L2 (nI (cal S)) _ m (nI j) s) (fun j s => aS σ s ∧ oA1 s S (nG S) ∧ oA2 s S (fun j' _ => j' < j)) (nF S) (fun m s hI => ?_) (fun m j s hj hI ih => ?_) 5000 0 _ (by omega) (by omega) ⟨a1, g1, fun j k _ _ h => by omega⟩
  · obtain ⟨a2, f1, f2⟩ := hI
    (try dsimp only)
    rw [v_X5_lookAtClasses_L2, (hA.aS a2).znO, w_t (nI_le (Nat.le_refl _) (by omega))]
    exact K s a2 ⟨hA.aS a2, f1, fun j k h1 h2 _ => f2 j k h1 h2 (by omega)⟩
  · obtain ⟨a2, f1, f2⟩ := hI
    (try dsimp only)
    rw [v_X5_lookAtClasses_L2, (hA.aS a2).znO, w_f (nI_ge hj (by omega)), nI_1]
    refine lp_i (fun m k s => v_X5_lookAtClasses_L12 (nI (cal S)) (nI j) _ _ m (nI k) s) (fun k s => j ≤ k ∧ aS σ s ∧ oA1 s S (nG S) ∧ oA2 s S (fun j' k' => j' < j ∨ (j' = j ∧ k' < k))) (nF S) (fun n s hI => ?_) (fun n k s hk2 hI ih2 => ?_) 5000 j _ (by omega) (by omega) ⟨Nat.le_refl _, a2, f1, fun j' k' h1 h2 h3 => f2 j' k' h1 h2 (by omega)⟩
    · obtain ⟨hjk, a3, f3, f4⟩ := hI
      (try dsimp only)
      rw [v_X5_lookAtClasses_L12, (hA.aS a3).znO, w_t (nI_le (Nat.le_refl _) (by omega))]
      exact ih s ⟨a3, f3, fun j' k' h1 h2 h3 => f4 j' k' h1 h2 (by omega)⟩
    · obtain ⟨hjk, a3, f3, f4⟩ := hI
      have hA3 := hA.aS a3
      have o1 := hk.zoc j
      have o2 := hk.zoc k
      (try dsimp only)
      rw [v_X5_lookAtClasses_L12, hA3.znO, w_f (nI_ge hk2 (by omega)), w_in (vi (show j < 12 by omega) (by omega)), nI_clamp (show j < 2 ^ 31 by omega), hA3.zoc (by omega), q_classesOfA o1, w_in (vi (show k < 12 by omega) (by omega)), nI_clamp (show k < 2 ^ 31 by omega), hA3.zoc (by omega), q_classesOfA o2, fa_and, fa_and, show (12 : Int32) = nI 12 from rfl, pk_mul, nI_add, nI_1]
      refine k_two (p := j * 12 + k) (cl := pcl S j k) (by omega) (pcl_lt S j k) (fun s4 d e1 e2 => ih2 s4 ⟨by omega, a3.tr (d.a (by omega)), ⟨by rw [d.1]; exact f3.1, fun g hg => by rw [d.2 19 g (by omega), d.2 20 g (by omega)]; exact f3.2 g hg⟩, fun j' k' h1 h2 h3 => ?_⟩)
      by_cases z : j' = j ∧ k' = k
      · rw [z.1, z.2, Nat.mul_comm 12 j]; exact ⟨e1, e2⟩
      · rw [d.2 17 _ (by omega), d.2 18 _ (by omega)]; exact f4 j' k' h1 h2 (by omega)
/-- the class' songs served -/
theorem q_within (h : oA σ S) (hk : ok S) {X : Nat} : v_X5_songsWithin (lN (mlo (giv S X))) (lN (mhi (giv S X))) σ P = P (nI (svm S X)) σ := by
  have h8 := hk.znG
  unfold v_X5_songsWithin svm
  refine lp_c (fun m g => v_X5_songsWithin_L6 (lN (mlo (giv S X))) (lN (mhi (giv S X))) P m (nI (nb (svd S X) g)) (nI g) σ) _ (nG S) (fun m => ?_) (fun m g hg => ?_) 5000 0 (by omega) (by omega)
  · (try dsimp only)
    rw [v_X5_songsWithin_L6, h.2.1.1, w_t (nI_le (Nat.le_refl _) (by omega))]
  · have h24 := hk.zgl g
    have lm : mlo (giv S X) < 2 ^ 64 := nb_lt _ _
    have hm : mhi (giv S X) < 2 ^ 64 := nb_lt' _ (by omega)
    have a1 : mlo (usd S g) &&& not64 (mlo (giv S X)) < 2 ^ 64 := Nat.lt_of_le_of_lt Nat.and_le_left (nb_lt _ _)
    have a2 : mhi (usd S g) &&& not64 (mhi (giv S X)) < 2 ^ 64 := Nat.lt_of_le_of_lt Nat.and_le_left (nb_lt' _ (by omega))
    have e1 : (mlo (usd S g) &&& not64 (mlo (giv S X)) = 0) = (∀ c, c < 64 → usd S g c = true → giv S X c = true) := by
      show (nb (usd S g) 64 &&& not64 (mlo (giv S X)) = 0) = _
      rw [nb_and0]
      apply propext
      refine forall_congr' fun c => forall_congr' fun hc => forall_congr' fun _ => ?_
      rw [not64_tb lm]
      unfold mlo
      rw [nb_tb]
      simp [hc]
    have e2 : (mhi (usd S g) &&& not64 (mhi (giv S X)) = 0) = (∀ c, c < 32 → usd S g (c + 64) = true → giv S X (c + 64) = true) := by
      show (nb (fun x => usd S g (x + 64)) 32 &&& not64 (mhi (giv S X)) = 0) = _
      rw [nb_and0]
      apply propext
      refine forall_congr' fun c => forall_congr' fun hc => forall_congr' fun _ => ?_
      rw [not64_tb hm]
      unfold mhi
      rw [nb_tb]
      simp [hc, show c < 64 by omega]
    have e3 : svd S X g = true ↔ (∀ c, c < 64 → usd S g c = true → giv S X c = true) ∧ (∀ c, c < 32 → usd S g (c + 64) = true → giv S X (c + 64) = true) := by
      unfold svd usd
      rw [Bool.not_eq_true', ex_no]
      constructor
      · intro a
        have b : ∀ c, ex (fun i => trn (gc S g i) (gk S g) == c) (gl S g) = true → giv S X c = true := fun c hc => by
          obtain ⟨i, hi, e⟩ := ex_iff.mp hc
          have := a i hi
          rw [beq_iff_eq.mp e] at this
          simpa using this
        exact ⟨fun c _ => b c, fun c _ => b _⟩
      · rintro ⟨b1, b2⟩ i hi
        have ht := trn_lt (c := gc S g i) (j := gk S g) (hk.zgc g i)
        have u : ex (fun i' => trn (gc S g i') (gk S g) == trn (gc S g i) (gk S g)) (gl S g) = true := ex_iff.mpr ⟨i, hi, by simp⟩
        by_cases q : trn (gc S g i) (gk S g) < 64
        · rw [b1 _ q u]; rfl
        · have := b2 (trn (gc S g i) (gk S g) - 64) (by omega)
          rw [show trn (gc S g i) (gk S g) - 64 + 64 = trn (gc S g i) (gk S g) by omega] at this
          rw [this u]; rfl
    (try dsimp only)
    rw [v_X5_songsWithin_L6, h.2.1.1, w_f (nI_ge hg (by omega)), w_in (vi (show g < 8 by omega) (by omega)), nI_clamp (by omega), (h.2.1.2 g hg).1, (h.2.1.2 g hg).2, l_not lm, l_not hm, fb_andL, fb_andL, w_in (vi (show g < 8 by omega) (by omega)), nI_1, ish1 g (by omega), fa_or, w_ite, w_ite, nb]
    simp only [l_eq0 a1, l_eq0 a2, e1, e2]
    by_cases q : svd S X g = true
    · obtain ⟨q1, q2⟩ := e3.mp q
      rw [if_pos q1, if_pos q2, if_pos q]
    · rw [if_neg q, Nat.or_zero]
      by_cases q1 : ∀ c, c < 64 → usd S g c = true → giv S X c = true
      · rw [if_pos q1, if_neg (fun q2 => q (e3.mpr ⟨q1, q2⟩))]
      · rw [if_neg q1]
theorem q_servedBy (h : oA σ S) (hk : ok S) {X : Nat} (hX : X < 2 ^ 31) : v_X5_servedBy (nI X) σ P = P (nI (svm S X)) σ := by
  have h12 := hk.znO
  unfold v_X5_servedBy
  have := lp_c (fun m j => v_X5_servedBy_L8 (nI X) (fun (x2_7 : Int64) (x4_7 : Int64) (σ_8 : Mem) => v_X5_songsWithin x2_7 x4_7 σ_8 (fun (r_9 : Int32) (σ_10 : Mem) => P r_9 σ_10)) P m (lN (mlo (gvj S X j))) (lN (mhi (gvj S X j))) (nI j) σ) (P (nI (svm S X)) σ) (nF S) (fun m => ?_) (fun m j hj => ?_) 5000 0 (by omega) (by omega)
  · (try dsimp only at this)
    rw [show mlo (gvj S X 0) = 0 from mlo_0, show mhi (gvj S X 0) = 0 from mhi_0] at this
    exact this
  · (try dsimp only)
    rw [v_X5_servedBy_L8, h.1.znO, w_t (nI_le (Nat.le_refl _) (by omega))]
    exact q_within h hk
  · (try dsimp only)
    rw [v_X5_servedBy_L8, h.1.znO, w_f (nI_ge hj (by omega)), q_hasBitI hX (by omega), w_bI, nI_1]
    have es : gvj S X (j + 1) = fun c => gvj S X j c || gvk S X j (nF S) c := rfl
    cases e : X.testBit j
    · rw [if_neg (by decide)]
      have z : gvj S X (j + 1) = gvj S X j := by
        rw [es]; funext c
        rw [show gvk S X j (nF S) c = false from ex_no.mpr (fun i _ => by rw [e]; simp), Bool.or_false]
      rw [z]
    · rw [if_pos (by rfl)]
      have t := lp_c (fun n t => v_X5_servedBy_L34 (nI X) (nI j) (fun (x2_5 : Int64) (x4_5 : Int64) (σ_6 : Mem) => v_X5_servedBy_L8 (nI X) (fun (x2_7 : Int64) (x4_7 : Int64) (σ_8 : Mem) => v_X5_songsWithin x2_7 x4_7 σ_8 (fun (r_9 : Int32) (σ_10 : Mem) => P r_9 σ_10)) P m x2_5 x4_5 (nI (j + 1)) σ_6) P n (lN (mlo (fun c => gvj S X j c || gvk S X j (j + t) c))) (lN (mhi (fun c => gvj S X j c || gvk S X j (j + t) c))) (nI (j + t)) σ) (v_X5_servedBy_L8 (nI X) (fun (x2_7 : Int64) (x4_7 : Int64) (σ_8 : Mem) => v_X5_songsWithin x2_7 x4_7 σ_8 (fun (r_9 : Int32) (σ_10 : Mem) => P r_9 σ_10)) P m (lN (mlo (gvj S X (j + 1)))) (lN (mhi (gvj S X (j + 1)))) (nI (j + 1)) σ) (nF S - j) (fun n => ?_) (fun n t ht => ?_) 5000 0 (by omega) (by omega)
      · (try dsimp only at t)
        have z : (fun c => gvj S X j c || gvk S X j (j + 0) c) = gvj S X j := by
          funext c
          rw [show gvk S X j (j + 0) c = false from ex_no.mpr (fun i hi => by simp; omega), Bool.or_false]
        rw [z] at t
        exact t
      · (try dsimp only)
        rw [v_X5_servedBy_L34, h.1.znO, show j + (nF S - j) = nF S by omega, w_t (nI_le (Nat.le_refl _) (by omega)), es]
      · (try dsimp only)
        rw [v_X5_servedBy_L34, h.1.znO, w_f (nI_ge (show j + t < nF S by omega) (by omega)), q_hasBitI hX (by omega), w_bI, show (12 : Int32) = nI 12 from rfl, pk_mul, nI_add, w_in (vi (show j * 12 + (j + t) < 144 by omega) (by omega)), w_in (vi (show j * 12 + (j + t) < 144 by omega) (by omega)), nI_clamp (show j * 12 + (j + t) < 2 ^ 31 by omega), Nat.mul_comm j 12, (h.2.2 j (j + t) (by omega) (by omega) trivial).1, (h.2.2 j (j + t) (by omega) (by omega) trivial).2, fb_orL, fb_orL, ← mlo_or, ← mhi_or, nI_1, show j + t + 1 = j + (t + 1) by omega]
        have ek : ∀ c, gvk S X j (j + (t + 1)) c = (gvk S X j (j + t) c || (X.testBit (j + t) && prc S j (j + t) c)) := fun c => by
          show (gvk S X j (j + t) c || _) = _
          rw [e]; simp
        cases e2 : X.testBit (j + t)
        · rw [if_neg (by decide)]
          have z : (fun c => gvj S X j c || gvk S X j (j + (t + 1)) c) = (fun c => gvj S X j c || gvk S X j (j + t) c) := by
            funext c; rw [ek, e2]; simp
          rw [z]
        · rw [if_pos (by rfl)]
          have z : (fun c => gvj S X j c || gvk S X j (j + (t + 1)) c) = (fun c => (gvj S X j c || gvk S X j (j + t) c) || prc S j (j + t) c) := by
            funext c; rw [ek, e2]; simp [Bool.or_assoc]
          rw [z]
end
