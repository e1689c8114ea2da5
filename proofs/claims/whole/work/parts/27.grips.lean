-- ===== grips and holds: what both sides find =====
theorem lp_sl (lo : Nat) (W : Nat → Nat → Prop) (F : Prop) (Fk : Nat → Prop) (p : Nat → Bool) (e : Nat) (hx : ∀ n, W (n + 1) e = F) (ht : ∀ n k, lo ≤ k → k < e → p k = true → W (n + 1) k = Fk k) (hf : ∀ n k, lo ≤ k → k < e → p k = false → W (n + 1) k = W n (k + 1)) : ∀ n k, lo ≤ k → k ≤ e → e < n + k → (∀ j, j < k → p j = false) → W n k = if fa_first p e < e then Fk (fa_first p e) else F := by
  intro n
  induction n with
  | zero => intro k h0 h1 h2; omega
  | succ n ih =>
    intro k h0 h1 h2 h3
    by_cases q : k = e
    · rw [q, hx, if_neg]
      intro h
      have h4 := fa_first_yes p e h
      rw [h3 _ (by omega)] at h4
      cases h4
    · cases hp : p k
      · rw [hf n k h0 (by omega) hp]
        refine ih (k + 1) (by omega) (by omega) (by omega) (fun j hj => ?_)
        by_cases hjk : j = k
        · rw [hjk, hp]
        · exact h3 j (by omega)
      · have h5 : fa_first p e = k := by
          rcases Nat.lt_trichotomy (fa_first p e) k with h | h | h
          · have h4 := fa_first_yes p e (by omega)
            rw [h3 _ h] at h4; cases h4
          · exact h
          · have h4 := fa_first_no p e k h
            rw [hp] at h4; cases h4
        rw [ht n k h0 (by omega) hp, h5, if_pos (by omega)]
/-- the grips of n bars, as sets, in their order -/
def sgl (k : Nat) : List Nat := 0 :: (List.range k).map (fun a => 2 ^ a)
def prr (a m : Nat) : List Nat := (List.range m).map (fun j => 2 ^ a ||| 2 ^ (a + 1 + j))
def prs (n : Nat) : Nat → List Nat
  | 0 => []
  | a + 1 => prs n a ++ prr a (n - (a + 1))
def gls (n : Nat) : List Nat := sgl n ++ prs n n
theorem gls_len : ∀ n, n ≤ 12 → (gls n).length ≤ 79 := by decide +kernel
theorem gls_lt : ∀ n, n ≤ 12 → ∀ g, g < 79 → (gls n).getD g 0 < 2 ^ n := by decide +kernel
theorem sgl_len (k : Nat) : (sgl k).length = k + 1 := by simp [sgl]
theorem sgl_s (k : Nat) : sgl (k + 1) = sgl k ++ [2 ^ k] := by simp [sgl, List.range_succ]
theorem prr_s (a m : Nat) : prr a (m + 1) = prr a m ++ [2 ^ a ||| 2 ^ (a + 1 + m)] := by simp [prr, List.range_succ]
theorem prr_len (a m : Nat) : (prr a m).length = m := by simp [prr]
theorem prs_le (n : Nat) : ∀ a b, a ≤ b → (prs n a).length ≤ (prs n b).length
  | a, 0, h => by rw [show a = 0 by omega]; exact Nat.le_refl _
  | a, b + 1, h => by
    by_cases q : a = b + 1
    · rw [q]; exact Nat.le_refl _
    · have := prs_le n a b (by omega)
      rw [prs, List.length_append]; omega
theorem len_in {n a m : Nat} (hn : n ≤ 12) (ha : a < n) (hm : m ≤ n - (a + 1)) : (sgl n ++ prs n a ++ prr a m).length ≤ 79 := by
  have h1 := gls_len n hn
  have h2 := prs_le n (a + 1) n ha
  unfold gls at h1
  rw [prs, List.length_append, prr_len] at h2
  rw [List.length_append, List.length_append, prr_len]
  rw [List.length_append] at h1
  omega
/-- the lists that the class, the reference have filled so far -/
def glA (σ : Mem) (S : St) (L : List Nat) : Prop := σ.1 7 5 = nI L.length ∧ ∀ g, g < L.length → σ.1 8 g = nI (L.getD g 0) ∧ σ.2 9 g = lN (not64 (hus S (L.getD g 0))) ∧ σ.1 10 g = nI (cw S (L.getD g 0))
def glB (σ : Mem) (S : St) (L : List Nat) : Prop := σ.1 33 10 = nI L.length ∧ ∀ g, g < L.length → σ.1 40 g = nI (L.getD g 0) ∧ σ.1 41 g = nI (cw S (L.getD g 0))
/-- the hold of a chord: its grip, 0 for none -/
def hof (S : St) (c : Nat) : Nat := if fa_first (fun g => decide (1 ≤ g) && cw S ((gls (nB S)).getD g 0) == clo c) (gls (nB S)).length < (gls (nB S)).length then fa_first (fun g => decide (1 ≤ g) && cw S ((gls (nB S)).getD g 0) == clo c) (gls (nB S)).length else 0
theorem hof_lt (S : St) (c : Nat) : hof S c < (gls (nB S)).length := by
  have : 0 < (gls (nB S)).length := by simp [gls, sgl]
  unfold hof
  split <;> omega
/-- the class has looked; the reference has found all holds -/
def gpA (σ : Mem) (S : St) : Prop := glA σ S (gls (nB S)) ∧ (∀ t, t < 61 → σ.2 12 t = lN (ofT S t)) ∧ ∀ c, c < 96 → σ.1 11 c = -1 ∨ σ.1 11 c = nI (hof S c)
def gpB (σ : Mem) (S : St) : Prop := glB σ S (gls (nB S)) ∧ ∀ c, c < 96 → σ.1 42 c = (if hof S c = 0 then -9 else nI (hof S c))
section
variable {σ : Mem} {S : St} {P : Int32 → Mem → Prop} {PV : Mem → Prop} {PJ : Int64 → Mem → Prop}
theorem hsh_or {a b : Nat} (ha : a < nB S) (hb : b < nB S) (s : Nat) : hsh S (2 ^ a ||| 2 ^ b) s = (fe S a s == 2 || fe S b s == 2) := by
  unfold hsh
  rw [Bool.eq_iff_iff, ex_iff]
  constructor
  · rintro ⟨i, h1, h2⟩
    rw [Nat.testBit_or, Nat.testBit_two_pow, Nat.testBit_two_pow, Bool.and_eq_true, Bool.or_eq_true, decide_eq_true_eq, decide_eq_true_eq] at h2
    rw [Bool.or_eq_true]
    rcases h2 with ⟨h2 | h2, h3⟩
    · subst h2; exact Or.inl h3
    · subst h2; exact Or.inr h3
  · intro h
    rw [Bool.or_eq_true] at h
    rcases h with h | h
    · exact ⟨a, ha, by rw [Nat.testBit_or, Nat.testBit_two_pow, h]; simp⟩
    · exact ⟨b, hb, by rw [Nat.testBit_or, Nat.testBit_two_pow, Nat.testBit_two_pow, h]; simp⟩
theorem hus_0 : hus S 0 = 0 := nb_f (fun i _ => by unfold hsh; rw [ex_no]; intro j _; simp)
theorem hus_1 {a : Nat} (ha : a < nB S) : hus S (2 ^ a) = who S a := by
  unfold hus who
  exact nb_cong (fun i _ => hsh_one ha i)
theorem hus_2 {a b : Nat} (ha : a < nB S) (hb : b < nB S) : hus S (2 ^ a ||| 2 ^ b) = who S a ||| who S b := by
  symm
  apply nb_of
  · exact Nat.or_lt_two_pow (nb_lt _ 36) (nb_lt _ 36)
  · intro i hi
    rw [hsh_or ha hb]
    unfold who
    rw [Nat.testBit_or, nb_tb, nb_tb]
    simp [hi]
theorem k_gadd (hA : A σ S) (hk : ok S) {L : List Nat} {set x : Nat} (hg : glA σ S L) (hL : L.length < 79) (hx : x = hus S set) (K : ∀ σ', aS σ σ' → glA σ' S (L ++ [set]) → (∀ k, σ'.1 11 k = σ.1 11 k) → (∀ k, σ'.2 12 k = σ.2 12 k) → PV σ') : v_X4_add (nI set) (lN x) σ PV := by
  obtain ⟨g1, g2⟩ := hg
  unfold v_X4_add
  rw [g1, w_f (show ¬ (79 : Int32) ≤ nI L.length from nI_ge (b := 79) hL (by omega)), w_in (vi hL (by omega)), nI_clamp (by omega)]
  have f1 : (wI σ 8 L.length (nI set)).1 7 5 = nI L.length := by rw [m_I1, if_neg (by omega), g1]
  rw [f1, w_in (vi hL (by omega)), nI_clamp (by omega), hx, l_not (hus_lt S set)]
  have a1 : aS σ (wJ (wI σ 8 L.length (nI set)) 9 L.length (lN (not64 (hus S set)))) := (aS.rf.I (by omega)).J (by omega)
  rw [q_classesAmong (hA.aS a1) hk not64_lt, cam_cw hk]
  have f2 : (wJ (wI σ 8 L.length (nI set)) 9 L.length (lN (not64 (hus S set)))).1 7 5 = nI L.length := by rw [m_J1, f1]
  rw [f2, w_in (vi hL (by omega)), nI_clamp (by omega)]
  have f3 : (wI (wJ (wI σ 8 L.length (nI set)) 9 L.length (lN (not64 (hus S set)))) 10 L.length (nI (cw S set))).1 7 5 = nI L.length := by rw [m_I1, if_neg (by omega), f2]
  rw [f3, nI_1]
  refine K _ ((a1.I (by omega)).I (by omega)) ⟨?_, fun g hg => ?_⟩ (fun k => ?_) (fun k => ?_)
  · rw [m_I1, if_pos ⟨rfl, rfl⟩, List.length_append]; rfl
  · rw [List.length_append] at hg
    simp only [List.length_cons, List.length_nil] at hg
    by_cases z : g = L.length
    · subst z
      rw [List.getD_eq_getElem?_getD, List.getElem?_append_right (Nat.le_refl _), Nat.sub_self]
      refine ⟨?_, ?_, ?_⟩
      · rw [m_I1, if_neg (by omega), m_I1, if_neg (by omega), m_J1, m_I1, if_pos ⟨rfl, rfl⟩]; rfl
      · rw [m_I2, m_I2, m_J2, if_pos ⟨rfl, rfl⟩]; rfl
      · rw [m_I1, if_neg (by omega), m_I1, if_pos ⟨rfl, rfl⟩]; rfl
    · have hg2 : g < L.length := by omega
      obtain ⟨c1, c2, c3⟩ := g2 g hg2
      rw [List.getD_eq_getElem?_getD, List.getElem?_append_left hg2, ← List.getD_eq_getElem?_getD]
      refine ⟨?_, ?_, ?_⟩
      · rw [m_I1, if_neg (by omega), m_I1, if_neg (by omega), m_J1, m_I1, if_neg (by omega), c1]
      · rw [m_I2, m_I2, m_J2, if_neg (by omega), m_I2, c2]
      · rw [m_I1, if_neg (by omega), m_I1, if_neg (by omega), m_J1, m_I1, if_neg (by omega), c3]
  · rw [m_I1, if_neg (by omega), m_I1, if_neg (by omega), m_J1, m_I1, if_neg (by omega)]
  · rw [m_I2, m_I2, m_J2, if_neg (by omega), m_I2]
theorem aS.Ir {σ' : Mem} {o : Nat} {f : Nat → Int32} (h : aS σ σ') (ho : (7 ≤ o ∧ o ≤ 12) ∨ (17 ≤ o ∧ o ≤ 26) ∨ o = 31) : aS σ (wIr σ' o f) := fun a j h1 h2 h3 h4 => by
  rw [m_Ir1, m_Ir2, if_neg (by omega)]
  exact h a j h1 h2 h3 h4
/-- the class looks at grips -/
theorem k_look (hA : A σ S) (hk : ok S) (K : ∀ σ', aS σ σ' → A σ' S → gpA σ' S → PV σ') : v_X11_lookAtGrips σ PV := by
  have hn := hk.znB
  unfold v_X11_lookAtGrips v_X4_look
  rw [q_fill (o := 11) (n := 96) (t := 13) rfl (by omega)]
  generalize hσ1 : wIr (wJr σ 12 (va_cpy (σ.2 4) (σ.2 12) (Int32.toNatClampNeg 0) (Int32.toNatClampNeg 0) (Int32.toNatClampNeg 61))) 11 (fun j => if j < 96 then (-1 : Int32) else (wJr σ 12 (va_cpy (σ.2 4) (σ.2 12) (Int32.toNatClampNeg 0) (Int32.toNatClampNeg 0) (Int32.toNatClampNeg 61))).1 11 j) = σ1
  have a1 : aS σ (wI σ1 7 5 0) := by rw [← hσ1]; exact (((aS.rf.Jr (by omega)).Ir (by omega)).I (by omega))
  have t1 : ∀ t, t < 61 → (wI σ1 7 5 0).2 12 t = lN (ofT S t) := fun t ht => by
    rw [m_I2, ← hσ1, m_Ir2, m_Jr2, if_pos (by rfl)]
    rw [show va_cpy (σ.2 4) (σ.2 12) (Int32.toNatClampNeg 0) (Int32.toNatClampNeg 0) (Int32.toNatClampNeg 61) t = σ.2 4 t from by
      show va_cpy (σ.2 4) (σ.2 12) 0 0 61 t = σ.2 4 t
      rw [pk_cpy_in (Nat.zero_le _) (by omega), Nat.zero_add, Nat.sub_zero]]
    exact hA.zofT ht
  have f1 : ∀ c, c < 96 → (wI σ1 7 5 0).1 11 c = -1 := fun c hc => by
    rw [m_I1, if_neg (by omega), ← hσ1, m_Ir1, if_pos rfl, if_pos hc]
  have g1 : glA (wI σ1 7 5 0) S [] := ⟨by rw [m_I1, if_pos ⟨rfl, rfl⟩]; rfl, fun g hg => by simp at hg⟩
  generalize wI σ1 7 5 0 = σ2 at a1 t1 f1 g1 ⊢
  clear hσ1
  refine k_gadd (set := 0) (x := 0) (hA.aS a1) hk g1 (by decide) hus_0.symm (fun σ3 a3 g3 e3 t3 => ?_)
  have hI0 : aS σ σ3 ∧ glA σ3 S (sgl 0) ∧ (∀ c, c < 96 → σ3.1 11 c = -1) ∧ (∀ t, t < 61 → σ3.2 12 t = lN (ofT S t)) :=
    ⟨a1.tr a3, g3, fun c hc => by rw [e3, f1 c hc], fun t ht => by rw [t3, t1 t ht]⟩
  refine lp_i (fun n k s => v_X4_look_L37 _ PV n (nI k) s) (fun k s => aS σ s ∧ glA s S (sgl k) ∧ (∀ c, c < 96 → s.1 11 c = -1) ∧ (∀ t, t < 61 → s.2 12 t = lN (ofT S t))) (nB S) (fun n s hI => ?_) (fun n k s hk2 hI ih => ?_) 5000 0 _ (by omega) (by omega) hI0
  · obtain ⟨a4, g4, e4, t4⟩ := hI
    (try dsimp only)
    rw [v_X4_look_L37, (hA.aS a4).znB, w_t (nI_le (Nat.le_refl _) (by omega))]
    (try dsimp only)
    refine lp_i (fun n k s => v_X4_look_L70 PV n (nI k) s) (fun k s => aS σ s ∧ glA s S (sgl (nB S) ++ prs (nB S) k) ∧ (∀ c, c < 96 → s.1 11 c = -1) ∧ (∀ t, t < 61 → s.2 12 t = lN (ofT S t))) (nB S) (fun n s hI => ?_) (fun n k s hk2 hI ih => ?_) 5000 0 _ (by omega) (by omega) ⟨a4, by rw [show prs (nB S) 0 = [] from rfl, List.append_nil]; exact g4, e4, t4⟩
    · obtain ⟨a5, g5, e5, t5⟩ := hI
      (try dsimp only)
      rw [v_X4_look_L70, (hA.aS a5).znB, w_t (nI_le (Nat.le_refl _) (by omega))]
      exact K s a5 (hA.aS a5) ⟨g5, t5, fun c hc => Or.inl (e5 c hc)⟩
    · obtain ⟨a5, g5, e5, t5⟩ := hI
      (try dsimp only)
      rw [v_X4_look_L70, (hA.aS a5).znB, w_f (nI_ge hk2 (by omega)), nI_1]
      refine lp_i (fun m b s => v_X4_look_L83 (nI k) _ PV m (nI b) s) (fun b s => k + 1 ≤ b ∧ aS σ s ∧ glA s S (sgl (nB S) ++ prs (nB S) k ++ prr k (b - (k + 1))) ∧ (∀ c, c < 96 → s.1 11 c = -1) ∧ (∀ t, t < 61 → s.2 12 t = lN (ofT S t))) (nB S) (fun m s hI => ?_) (fun m b s hb2 hI ih2 => ?_) 5000 (k + 1) _ (by omega) (by omega) ?_
      · obtain ⟨-, a6, g6, e6, t6⟩ := hI
        (try dsimp only)
        rw [v_X4_look_L83, (hA.aS a6).znB, w_t (nI_le (Nat.le_refl _) (by omega))]
        (try dsimp only)
        try rw [nI_1]
        exact ih s ⟨a6, by rw [prs, ← List.append_assoc]; exact g6, e6, t6⟩
      · obtain ⟨hb1, a6, g6, e6, t6⟩ := hI
        have hA6 := hA.aS a6
        (try dsimp only)
        have hl := len_in (n := nB S) (a := k) (m := b - (k + 1) + 1) hn hk2 (by omega)
        rw [prr_s, ← List.append_assoc, List.length_append, show k + 1 + (b - (k + 1)) = b by omega] at hl
        simp only [List.length_cons, List.length_nil] at hl
        rw [v_X4_look_L83, hA6.znB, w_f (nI_ge hb2 (by omega)), w_in (vi (show k < 12 by omega) (by omega)), nI_clamp (show k < 2 ^ 31 by omega), q_wholeOnes hA6 hk hk2, w_in (vi (show b < 12 by omega) (by omega)), nI_clamp (show b < 2 ^ 31 by omega), q_wholeOnes hA6 hk hb2, ish1 k (by omega), ish1 b (by omega), fa_or, fb_orL, nI_1]
        refine k_gadd hA6 hk g6 (by omega) (hus_2 hk2 hb2).symm (fun σ7 a7 g7 e7 t7 => ih2 σ7 ⟨by omega, a6.tr a7, ?_, fun c hc => by rw [e7, e6 c hc], fun t ht => by rw [t7, t6 t ht]⟩)
        rw [show b + 1 - (k + 1) = b - (k + 1) + 1 by omega, prr_s, ← List.append_assoc, show k + 1 + (b - (k + 1)) = b by omega]
        exact g7
      · exact ⟨Nat.le_refl _, a5, by rw [Nat.sub_self, show prr k 0 = [] from rfl, List.append_nil]; exact g5, e5, t5⟩
  · obtain ⟨a4, g4, e4, t4⟩ := hI
    have hA4 := hA.aS a4
    (try dsimp only)
    rw [v_X4_look_L37, hA4.znB, w_f (nI_ge hk2 (by omega)), w_in (vi (show k < 12 by omega) (by omega)), nI_clamp (by omega), q_wholeOnes hA4 hk hk2, ish1 k (by omega), nI_1]
    refine k_gadd hA4 hk g4 (by rw [sgl_len]; omega) (hus_1 hk2).symm (fun σ5 a5 g5 e5 t5 => ih σ5 ⟨a4.tr a5, by rw [sgl_s]; exact g5, fun c hc => by rw [e5, e4 c hc], fun t ht => by rw [t5, t4 t ht]⟩)
-- the reference
theorem k_gaddB (hB : B σ S) (hk : ok S) {L : List Nat} {set : Nat} (hg : glB σ S L) (hL : L.length < 79) (hset : set < 2 ^ 31) (K : ∀ σ', bS σ σ' → glB σ' S (L ++ [set]) → PV σ') : v_X12_addGrip (nI set) σ PV := by
  obtain ⟨g1, g2⟩ := hg
  unfold v_X12_addGrip
  rw [g1, w_in (vi hL (by omega)), nI_clamp (by omega)]
  have b1 : bS σ (wI σ 40 L.length (nI set)) := bS.rf.I (by omega)
  rw [q_classesWith (hB.bS b1) hk hset]
  have f1 : (wI σ 40 L.length (nI set)).1 33 10 = nI L.length := by rw [m_I1, if_neg (by omega), g1]
  rw [f1, w_in (vi hL (by omega)), nI_clamp (by omega)]
  have f2 : (wI (wI σ 40 L.length (nI set)) 41 L.length (nI (cw S set))).1 33 10 = nI L.length := by rw [m_I1, if_neg (by omega), f1]
  rw [f2, nI_1]
  refine K _ ((b1.I (by omega)).I (by omega)) ⟨?_, fun g hg => ?_⟩
  · rw [m_I1, if_pos ⟨rfl, rfl⟩, List.length_append]; rfl
  · rw [List.length_append] at hg
    simp only [List.length_cons, List.length_nil] at hg
    by_cases z : g = L.length
    · subst z
      rw [List.getD_eq_getElem?_getD, List.getElem?_append_right (Nat.le_refl _), Nat.sub_self]
      refine ⟨?_, ?_⟩
      · rw [m_I1, if_neg (by omega), m_I1, if_neg (by omega), m_I1, if_pos ⟨rfl, rfl⟩]; rfl
      · rw [m_I1, if_neg (by omega), m_I1, if_pos ⟨rfl, rfl⟩]; rfl
    · have hg2 : g < L.length := by omega
      obtain ⟨c1, c2⟩ := g2 g hg2
      rw [List.getD_eq_getElem?_getD, List.getElem?_append_left hg2, ← List.getD_eq_getElem?_getD]
      refine ⟨?_, ?_⟩
      · rw [m_I1, if_neg (by omega), m_I1, if_neg (by omega), m_I1, if_neg (by omega), c1]
      · rw [m_I1, if_neg (by omega), m_I1, if_neg (by omega), m_I1, if_neg (by omega), c2]
theorem k_findGrips (hB : B σ S) (hk : ok S) (K : ∀ σ', bS σ σ' → B σ' S → glB σ' S (gls (nB S)) → PV σ') : v_X12_findGrips σ PV := by
  have hn := hk.znB
  have pw : ∀ a, a < 12 → 2 ^ a < 2 ^ 12 := fun a ha => Nat.pow_lt_pow_right (by decide) ha
  unfold v_X12_findGrips
  have a1 : bS σ (wI σ 33 10 0) := bS.rf.I (by omega)
  have g1 : glB (wI σ 33 10 0) S [] := ⟨by rw [m_I1, if_pos ⟨rfl, rfl⟩]; rfl, fun g hg => by simp at hg⟩
  generalize wI σ 33 10 0 = σ2 at a1 g1 ⊢
  refine k_gaddB (set := 0) (hB.bS a1) hk g1 (by decide) (by omega) (fun σ3 a3 g3 => ?_)
  have hI0 : bS σ σ3 ∧ glB σ3 S (sgl 0) := ⟨a1.tr a3, g3⟩
  refine lp_i (fun n k s => v_X12_findGrips_L12 _ PV n (nI k) s) (fun k s => bS σ s ∧ glB s S (sgl k)) (nB S) (fun n s hI => ?_) (fun n k s hk2 hI ih => ?_) 5000 0 _ (by omega) (by omega) hI0
  · obtain ⟨a4, g4⟩ := hI
    (try dsimp only)
    rw [v_X12_findGrips_L12, (hB.bS a4).znB, w_t (nI_le (Nat.le_refl _) (by omega))]
    (try dsimp only)
    refine lp_i (fun n k s => v_X12_findGrips_L35 PV n (nI k) s) (fun k s => bS σ s ∧ glB s S (sgl (nB S) ++ prs (nB S) k)) (nB S) (fun n s hI => ?_) (fun n k s hk2 hI ih => ?_) 5000 0 _ (by omega) (by omega) ⟨a4, by rw [show prs (nB S) 0 = [] from rfl, List.append_nil]; exact g4⟩
    · obtain ⟨a5, g5⟩ := hI
      (try dsimp only)
      rw [v_X12_findGrips_L35, (hB.bS a5).znB, w_t (nI_le (Nat.le_refl _) (by omega))]
      exact K s a5 (hB.bS a5) g5
    · obtain ⟨a5, g5⟩ := hI
      (try dsimp only)
      rw [v_X12_findGrips_L35, (hB.bS a5).znB, w_f (nI_ge hk2 (by omega)), nI_1]
      refine lp_i (fun m b s => v_X12_findGrips_L47 (nI k) _ PV m (nI b) s) (fun b s => k + 1 ≤ b ∧ bS σ s ∧ glB s S (sgl (nB S) ++ prs (nB S) k ++ prr k (b - (k + 1)))) (nB S) (fun m s hI => ?_) (fun m b s hb2 hI ih2 => ?_) 5000 (k + 1) _ (by omega) (by omega) ?_
      · obtain ⟨-, a6, g6⟩ := hI
        (try dsimp only)
        rw [v_X12_findGrips_L47, (hB.bS a6).znB, w_t (nI_le (Nat.le_refl _) (by omega))]
        (try dsimp only)
        try rw [nI_1]
        exact ih s ⟨a6, by rw [prs, ← List.append_assoc]; exact g6⟩
      · obtain ⟨hb1, a6, g6⟩ := hI
        have hB6 := hB.bS a6
        (try dsimp only)
        have hl := len_in (n := nB S) (a := k) (m := b - (k + 1) + 1) hn hk2 (by omega)
        rw [prr_s, ← List.append_assoc, List.length_append, show k + 1 + (b - (k + 1)) = b by omega] at hl
        simp only [List.length_cons, List.length_nil] at hl
        have hor : 2 ^ k ||| 2 ^ b < 2 ^ 12 := Nat.or_lt_two_pow (pw k (by omega)) (pw b (by omega))
        rw [v_X12_findGrips_L47, hB6.znB, w_f (nI_ge hb2 (by omega)), ish1 k (by omega), ish1 b (by omega), fa_or, nI_1]
        refine k_gaddB hB6 hk g6 (by omega) (by omega) (fun σ7 a7 g7 => ih2 σ7 ⟨by omega, a6.tr a7, ?_⟩)
        rw [show b + 1 - (k + 1) = b - (k + 1) + 1 by omega, prr_s, ← List.append_assoc, show k + 1 + (b - (k + 1)) = b by omega]
        exact g7
      · exact ⟨Nat.le_refl _, a5, by rw [Nat.sub_self, show prr k 0 = [] from rfl, List.append_nil]; exact g5⟩
  · obtain ⟨a4, g4⟩ := hI
    have hB4 := hB.bS a4
    have hp := pw k (by omega)
    (try dsimp only)
    rw [v_X12_findGrips_L12, hB4.znB, w_f (nI_ge hk2 (by omega)), ish1 k (by omega), nI_1]
    refine k_gaddB hB4 hk g4 (by rw [sgl_len]; omega) (by omega) (fun σ5 a5 g5 => ih σ5 ⟨a4.tr a5, by rw [sgl_s]; exact g5⟩)
/-- downwards, with more than the memory -/
theorem hof_go {p : Nat → Bool} {n : Nat} : ∀ g, g ≤ n → (∀ j, j < g → p j = false) → (p g = true ∧ g < n → fa_first p n = g) := fun g _ h2 ⟨h3, h4⟩ => by
  rcases Nat.lt_trichotomy (fa_first p n) g with h | h | h
  · have := fa_first_yes p n (by omega)
    rw [h2 _ h] at this; cases this
  · exact h
  · have := fa_first_no p n g h
    rw [h3] at this; cases this
theorem bS.I42 {σ' : Mem} {k : Nat} {v : Int32} (h : bS σ σ') : bS σ (wI σ' 42 k v) := h.I (by omega)
theorem glB_42 {σ' : Mem} {L : List Nat} {k : Nat} {v : Int32} (h : glB σ' S L) : glB (wI σ' 42 k v) S L :=
  ⟨by rw [m_I1, if_neg (by omega)]; exact h.1, fun g hg => ⟨by rw [m_I1, if_neg (by omega)]; exact (h.2 g hg).1, by rw [m_I1, if_neg (by omega)]; exact (h.2 g hg).2⟩⟩
/-- the reference finds the holds of all chords -/
theorem k_findHolds (hB : B σ S) (hk : ok S) (K : ∀ σ', bS σ σ' → B σ' S → gpB σ' S → PV σ') : v_X12_findHolds σ PV := by
  unfold v_X12_findHolds
  refine k_findGrips hB hk (fun σ1 a1 _ g1 => ?_)
  have hn := hk.znB
  have hlen := gls_len (nB S) hn
  have hpos : 0 < (gls (nB S)).length := by simp [gls, sgl]
  refine lp_i (fun n c s => v_X12_findHolds_L6 PV n (nI c) s) (fun c s => bS σ s ∧ glB s S (gls (nB S)) ∧ ∀ d, d < c → s.1 42 d = (if hof S d = 0 then -9 else nI (hof S d))) 96 (fun n s hI => ?_) (fun n c s hc hI ih => ?_) 5000 0 _ (by omega) (by omega) ⟨a1, g1, fun d hd => by omega⟩
  · obtain ⟨a2, g2, h2⟩ := hI
    (try dsimp only)
    rw [v_X12_findHolds_L6, w_t (show (96 : Int32) ≤ nI 96 by decide)]
    exact K s a2 (hB.bS a2) ⟨g2, h2⟩
  · obtain ⟨a2, g2, h2⟩ := hI
    (try dsimp only)
    have hcl := clo_lt c
    rw [v_X12_findHolds_L6, w_f (show ¬ (96 : Int32) ≤ nI c from nI_ge (b := 96) hc (by omega)), q_classesOfB hc, w_in (vi hc (by omega)), nI_clamp (by omega), m_I1, if_neg (by omega), g2.1]
    rw [show nI (gls (nB S)).length - 1 = nI ((gls (nB S)).length - 1) from pk_sub (b := 1) hpos, nI_1]
    -- at place g: what was found among the places above g
    refine lp_d (fun m g s => v_X12_findHolds_L32 (nI c) (nI (clo c)) _ PV m (nI g) s) (fun g s => bS σ s ∧ glB s S (gls (nB S)) ∧ g < (gls (nB S)).length ∧ (∀ d, d < c → s.1 42 d = (if hof S d = 0 then -9 else nI (hof S d))) ∧ ((s.1 42 c = -9 ∧ ∀ j, g < j → j < (gls (nB S)).length → (cw S ((gls (nB S)).getD j 0) == clo c) = false) ∨ ∃ f, g < f ∧ f < (gls (nB S)).length ∧ s.1 42 c = nI f ∧ (cw S ((gls (nB S)).getD f 0) == clo c) = true ∧ ∀ j, g < j → j < f → (cw S ((gls (nB S)).getD j 0) == clo c) = false)) (fun m s hI => ?_) (fun m g s hI ih2 => ?_) 5000 _ _ (by omega) ⟨a2.I42, glB_42 g2, by omega, fun d hd => by rw [m_I1, if_neg (by omega)]; exact h2 d hd, Or.inl ⟨by rw [m_I1, if_pos ⟨rfl, rfl⟩], fun j h1 h2 => by omega⟩⟩
    · obtain ⟨a3, g3, -, h3, h4⟩ := hI
      (try dsimp only)
      rw [v_X12_findHolds_L32, w_t (show nI 0 ≤ 0 by decide)]
      (try dsimp only)
      try rw [nI_1]
      refine ih s ⟨a3, g3, fun d hd => ?_⟩
      by_cases z : d = c
      · subst z
        rcases h4 with ⟨h4, h5⟩ | ⟨f, f1, f2, f3, f4, f5⟩
        · rw [h4, if_pos]
          unfold hof
          rw [if_neg]
          intro q
          have q2 := fa_first_yes _ _ q
          rw [Bool.and_eq_true, decide_eq_true_eq] at q2
          have q3 := h5 _ (by omega) q
          rw [q3] at q2
          exact absurd q2.2 (by decide)
        · have e : hof S d = f := by
            have := hof_go (p := fun g => decide (1 ≤ g) && cw S ((gls (nB S)).getD g 0) == clo d) f (Nat.le_of_lt f2) (fun j hj => by
              by_cases y : 1 ≤ j
              · rw [f5 j (by omega) hj]; simp
              · simp [y]) ⟨by rw [f4]; simp; omega, f2⟩
            unfold hof
            rw [this, if_pos f2]
          rw [e, if_neg (by omega), f3]
      · exact h3 d (by omega)
    · obtain ⟨a3, g3, hg, h3, h4⟩ := hI
      (try dsimp only)
      have ecw := (g3.2 (g + 1) hg).2
      have hcw := cw_lt S ((gls (nB S)).getD (g + 1) 0)
      rw [v_X12_findHolds_L32, w_f (show ¬ nI (g + 1) ≤ 0 from nI_nle (by omega) (by omega)), w_in (vi (show g + 1 < 79 by omega) (by omega)), nI_clamp (show g + 1 < 2 ^ 31 by omega), ecw, pk_m1]
      simp only [w_in (vi hc (show 96 < 2 ^ 31 by omega)), nI_clamp (show c < 2 ^ 31 by omega), w_ite, i_eq (show cw S ((gls (nB S)).getD (g + 1) 0) < 2 ^ 31 by omega) (show clo c < 2 ^ 31 by omega)]
      by_cases y : cw S ((gls (nB S)).getD (g + 1) 0) = clo c
      · rw [if_pos y]
        refine ih2 _ ⟨a3.I42, glB_42 g3, by omega, fun d hd => by rw [m_I1, if_neg (by omega)]; exact h3 d hd, Or.inr ⟨g + 1, by omega, hg, by rw [m_I1, if_pos ⟨rfl, rfl⟩], by rw [y]; simp, fun j h1 h2 => by omega⟩⟩
      · rw [if_neg y]
        have yb : (cw S ((gls (nB S)).getD (g + 1) 0) == clo c) = false := beq_false_of_ne y
        refine ih2 _ ⟨a3.I42, glB_42 g3, by omega, fun d hd => by rw [m_I1, if_neg (by omega)]; exact h3 d hd, ?_⟩
        rw [m_I1, if_pos ⟨rfl, rfl⟩]
        rcases h4 with ⟨h4, h5⟩ | ⟨f, f1, f2, f3, f4, f5⟩
        · refine Or.inl ⟨h4, fun j h1 h2 => ?_⟩
          by_cases x : j = g + 1
          · rw [x]; exact yb
          · exact h5 j (by omega) h2
        · refine Or.inr ⟨f, by omega, f2, f3, f4, fun j h1 h2 => ?_⟩
          by_cases x : j = g + 1
          · rw [x]; exact yb
          · exact f5 j (by omega) h2
-- the class' hold of a chord
def hS (σ σ' : Mem) : Prop := ∀ o k, o ≠ 11 → σ'.1 o k = σ.1 o k ∧ σ'.2 o k = σ.2 o k
theorem hS.rf : hS σ σ := fun _ _ _ => ⟨rfl, rfl⟩
theorem hS.tr {σ' σ'' : Mem} (h : hS σ σ') (h2 : hS σ' σ'') : hS σ σ'' := fun o k a => ⟨(h2 o k a).1.trans (h o k a).1, (h2 o k a).2.trans (h o k a).2⟩
theorem hS.a {σ' : Mem} (h : hS σ σ') : aS σ σ' := fun o k a _ _ _ => h o k (by omega)
/-- both: what the class holds, and that it has looked -/
def AG (σ : Mem) (S : St) : Prop := A σ S ∧ gpA σ S
theorem q_seekHold (hG : glA σ S (gls (nB S))) (hk : ok S) {c : Nat} : v_X4_seekHold (nI (clo c)) σ P = P (nI (hof S c)) σ := by
  have hn := hk.znB
  have hlen := gls_len (nB S) hn
  have hpos : 0 < (gls (nB S)).length := by simp [gls, sgl]
  have hcl := clo_lt c
  unfold v_X4_seekHold
  have := lp_sl 1 (fun m g => v_X4_seekHold_L2 (nI (clo c)) P m (nI g) σ) (P 0 σ) (fun g => P (nI g) σ) (fun g => decide (1 ≤ g) && cw S ((gls (nB S)).getD g 0) == clo c) (gls (nB S)).length (fun m => ?_) (fun m g hg1 hg hp => ?_) (fun m g hg1 hg hp => ?_) 5000 1 (by omega) (by omega) (by omega) (fun j hj => by rw [show j = 0 by omega]; rfl)
  · (try dsimp only at this)
    rw [show (1 : Int32) = nI 1 from rfl, this]
    unfold hof
    split <;> rfl
  · (try dsimp only)
    rw [v_X4_seekHold_L2, hG.1, w_t (nI_le (Nat.le_refl _) (by omega))]
  · (try dsimp only)
    rw [Bool.and_eq_true, beq_iff_eq] at hp
    rw [v_X4_seekHold_L2, hG.1, w_f (nI_ge hg (by omega)), w_in (vi (show g < 79 by omega) (by omega)), nI_clamp (by omega), (hG.2 g hg).2.2, w_t (by rw [hp.2])]
  · (try dsimp only)
    have hcw := cw_lt S ((gls (nB S)).getD g 0)
    rw [v_X4_seekHold_L2, hG.1, w_f (nI_ge hg (by omega)), w_in (vi (show g < 79 by omega) (by omega)), nI_clamp (by omega), (hG.2 g hg).2.2, nI_1]
    by_cases y : cw S ((gls (nB S)).getD g 0) = clo c
    · rw [y] at hp; simp at hp; omega
    · rw [w_f (fun z => y ((nI_eq (by omega) (by omega)).mp z))]
end
