-- ===== songs by their keys: holds, misses =====
def trn (c j : Nat) : Nat := c - c % 12 + (c % 12 + j + 6) % 12
theorem trn_lt {c j : Nat} (h : c < 96) : trn c j < 96 := by
  unfold trn
  have := Nat.mod_lt (c % 12 + j + 6) (show 0 < 12 by decide)
  omega
theorem kI_12 : ∀ r, r < 12 → ∀ j, j < 12 → (nI r + kI j) + 12 = nI (r + j + 6) := by decide +kernel
theorem nt_t : ∀ a, a < 62 → ∀ j, j < 12 → if 7 ≤ a + j ∧ a + j < 68 then tI a + kI j = nI (a + j - 7) else (tI a + kI j < 0 ∨ nI 61 ≤ tI a + kI j) := by decide +kernel
theorem tI_t : ∀ a, a < 62 → (tI a = -1 ↔ a = 0) ∧ (tI a < 0 ↔ a = 0) := by decide +kernel
/-- the set of a grip -/
def gst (S : St) (g : Nat) : Nat := (gls (nB S)).getD g 0
/-- is a string of tone n less 7 heard with a set -/
def hrd (S : St) (n set : Nat) : Bool := ex (fun s => tn S s + 7 == n && !hsh S set s) (nS S)
def lkn (S : St) (g i j set : Nat) : Bool := gn S g i != 0 && !hrd S (gn S g i + j) set
/-- a step's chord, its note miss, by key j -/
def mc (S : St) (g j i : Nat) : Bool := hof S (trn (gc S g i) j) == 0
def mn (S : St) (g j i : Nat) : Bool := lkn S g i j (gst S (hof S (trn (gc S g i) j)))
section
variable {σ : Mem} {S : St} {P : Int32 → Mem → Prop} {PV : Mem → Prop} {PJ : Int64 → Mem → Prop}
theorem gst_0 : gst S 0 = 0 := by simp [gst, gls, sgl]
theorem hof_79 (hk : ok S) (c : Nat) : hof S c < 79 := by
  have := hof_lt S c
  have := gls_len (nB S) hk.znB
  omega
theorem gst_lt (hk : ok S) {g : Nat} (hg : g < 79) : gst S g < 4096 := by
  have := gls_lt (nB S) hk.znB g hg
  have := p12 hk
  unfold gst
  omega
theorem AG.hS {σ' : Mem} (h : AG σ S) (q : hS σ σ') (h11 : ∀ c, c < 96 → σ'.1 11 c = -1 ∨ σ'.1 11 c = nI (hof S c)) : AG σ' S := by
  obtain ⟨hA, ⟨g1, g2⟩, g3, g4⟩ := h
  refine ⟨hA.aS q.a, ⟨by rw [(q 7 5 (by omega)).1]; exact g1, fun g hg => ?_⟩, fun t ht => by rw [(q 12 t (by omega)).2]; exact g3 t ht, h11⟩
  rw [(q 8 g (by omega)).1, (q 9 g (by omega)).2, (q 10 g (by omega)).1]
  exact g2 g hg
theorem k_holdOf (h : AG σ S) (hk : ok S) {c : Nat} (hc : c < 96) (K : ∀ σ', hS σ σ' → AG σ' S → P (nI (hof S c)) σ') : v_X4_holdOf (nI c) σ P := by
  have h79 := hof_79 hk c
  unfold v_X4_holdOf
  rw [w_in (vi hc (by omega)), nI_clamp (by omega), w_ite]
  by_cases e : σ.1 11 c = -1
  · rw [if_pos e, q_classesOfA hc, q_seekHold h.2.1 hk, w_in (vi hc (by omega)), w_in (vi hc (by omega)), m_I1, if_pos ⟨rfl, rfl⟩]
    have q : hS σ (wI σ 11 c (nI (hof S c))) := fun o k ho => by rw [m_I1, m_I2, if_neg (by omega)]; exact ⟨rfl, rfl⟩
    refine K _ q (h.hS q (fun d hd => ?_))
    rw [m_I1]
    by_cases z : d = c
    · rw [if_pos ⟨rfl, z⟩, z]; exact Or.inr rfl
    · rw [if_neg (fun q => z q.2)]; exact h.2.2.2 d hd
  · rw [if_neg e, w_in (vi hc (by omega))]
    rcases h.2.2.2 c hc with q | q
    · exact absurd q e
    · rw [q]; exact K σ hS.rf h
theorem q_chordIn (hA : A σ S) (hk : ok S) {g i j : Nat} (hg : g < 8) (hi : i < 24) (hj : j < 12) : v_X9_chordIn (bG + g) (kI j) (nI i) σ P = P (nI (trn (gc S g i) j)) σ := by
  have hc := hk.zgc g i
  have hm : gc S g i % 12 < 12 := Nat.mod_lt _ (by decide)
  unfold v_X9_chordIn
  rw [w_in (vi hi (by omega)), nI_clamp (by omega), hA.zgc hg hi]
  simp only [forall_eq]
  rw [w_in (vi hi (by omega)), i_12r (by omega), q_fmk hm hj, pk_sub (Nat.mod_le _ _), nI_add]
  rfl
theorem q_chordAt (hB : B σ S) (hk : ok S) {g i j : Nat} (hg : g < 8) (hi : i < 24) (hj : j < 12) : v_X12_chordAt (nI g) (nI i) (kI j) σ P = P (nI (trn (gc S g i) j)) σ := by
  have hc := hk.zgc g i
  have hm : gc S g i % 12 < 12 := Nat.mod_lt _ (by decide)
  unfold v_X12_chordAt
  rw [i_24, w_in (vi (by omega) (by omega)), nI_clamp (by omega), hB.zgc hg hi, i_12r (by omega), kI_12 _ hm _ hj, i_12r (by omega), i_12d (by omega), show (12 : Int32) = nI 12 from rfl, pk_mul, nI_add]
  congr 2
  unfold trn
  omega
theorem q_noteIn (hA : A σ S) {g i j : Nat} (hg : g < 8) (hi : i < 24) : v_X9_noteIn (bG + g) (kI j) (nI i) σ P = P (tI (gn S g i) + kI j) σ := by
  unfold v_X9_noteIn
  rw [w_in (vi hi (by omega)), nI_clamp (by omega), hA.zgn hg hi]
theorem q_noteAt (hB : B σ S) {g i j : Nat} (hg : g < 8) (hi : i < 24) : v_X12_noteAt (nI g) (nI i) (kI j) σ P = P (tI (gn S g i) + kI j) σ := by
  unfold v_X12_noteAt
  rw [i_24, w_in (vi (by omega) (by omega)), nI_clamp (by omega), hB.zgn hg hi]
theorem q_hasNoteA (hA : A σ S) (hk : ok S) {g i : Nat} (hg : g < 8) (hi : i < 24) : v_X9_hasNote (bG + g) (nI i) σ P = P (bI (gn S g i != 0)) σ := by
  have h := hk.zgn g i
  have t := (tI_t (gn S g i) (by omega)).1
  unfold v_X9_hasNote
  rw [w_in (vi hi (by omega)), nI_clamp (by omega), hA.zgn hg hi, w_ite]
  by_cases e : gn S g i = 0
  · rw [if_pos (t.mpr e), e]; rfl
  · rw [if_neg (fun q => e (t.mp q)), show (gn S g i != 0) = true by simpa using e]; rfl
theorem q_hasNoteB (hB : B σ S) (hk : ok S) {g i : Nat} (hg : g < 8) (hi : i < 24) : v_X12_hasNote (nI g) (nI i) σ P = P (bI (gn S g i != 0)) σ := by
  have h := hk.zgn g i
  have t := (tI_t (gn S g i) (by omega)).2
  unfold v_X12_hasNote
  rw [i_24, w_in (vi (by omega) (by omega)), nI_clamp (by omega), hB.zgn hg hi, w_ite]
  by_cases e : gn S g i = 0
  · rw [if_pos (t.mpr e), e]; rfl
  · rw [if_neg (fun q => e (t.mp q)), show (gn S g i != 0) = true by simpa using e]; rfl
theorem hrd_no (hk : ok S) {n set : Nat} (h : ¬ (7 ≤ n ∧ n < 68)) : hrd S n set = false := by
  unfold hrd
  rw [ex_no]
  intro s _
  have := hk.ztn s
  rw [show (tn S s + 7 == n) = false from beq_false_of_ne (by omega)]
  rfl
theorem q_lacks (h : AG σ S) (hk : ok S) {g i j x : Nat} (hg : g < 8) (hi : i < 24) (hj : j < 12) (hx : x < (gls (nB S)).length) : v_X4_lacksNote (bG + g) (kI j) (nI i) (nI x) σ P = P (bI (lkn S g i j (gst S x))) σ := by
  have hlen := gls_len (nB S) hk.znB
  have hnS := hk.znS
  have h61 := hk.zgn g i
  have t := nt_t (gn S g i) (by omega) j hj
  unfold v_X4_lacksNote lkn
  rw [q_noteIn h.1 hg hi, q_hasNoteA h.1 hk hg hi, w_bI]
  cases e : gn S g i != 0
  · rw [if_neg (by decide)]; rfl
  · rw [if_pos rfl, Bool.true_and]
    by_cases q : 7 ≤ gn S g i + j ∧ gn S g i + j < 68
    · rw [if_pos q] at t
      rw [t, q_isTone_n (by omega), w_1, w_in (vi (by omega) (by omega)), w_in (vi (by omega) (by omega)), nI_clamp (by omega), nI_clamp (by omega), h.2.2.1 _ (by omega), (h.2.1.2 x hx).2.1, w_ite, fb_andL]
      have l1 : ofT S (gn S g i + j - 7) &&& not64 (hus S ((gls (nB S)).getD x 0)) < 2 ^ 64 := Nat.lt_of_le_of_lt Nat.and_le_left (ofT_lt hk _)
      have e2 : (ofT S (gn S g i + j - 7) &&& not64 (hus S ((gls (nB S)).getD x 0)) = 0) = (hrd S (gn S g i + j) (gst S x) = false) := by
        unfold ofT
        rw [nb_and0]
        unfold hrd
        apply propext
        rw [ex_no]
        constructor
        · intro a s hs
          by_cases z : tn S s = gn S g i + j - 7
          · have a2 := a s hs (by simpa using z)
            rw [not64_tb (hus_lt _ _), hus_tb _ _ (by omega)] at a2
            simp only [show s < 64 by omega, decide_true, Bool.true_and] at a2
            unfold gst
            rw [a2]; simp
          · rw [show (tn S s + 7 == gn S g i + j) = false from beq_false_of_ne (by omega)]; rfl
        · intro a s hs z
          have z2 : tn S s = gn S g i + j - 7 := by simpa using z
          have a2 := a s hs
          rw [show (tn S s + 7 == gn S g i + j) = true from beq_iff_eq.mpr (by omega), Bool.true_and] at a2
          rw [not64_tb (hus_lt _ _), hus_tb _ _ (by omega)]
          unfold gst at a2
          rw [a2]; simp
      simp only [l_eq0 l1, e2]
      cases hrd S (gn S g i + j) (gst S x) <;> rfl
    · rw [if_neg q] at t
      rw [q_isTone_o t, w_0, hrd_no hk q]; rfl
theorem q_isHeard (hB : B σ S) (hk : ok S) {a j set : Nat} (ha : a < 62) (hj : j < 12) (hset : set < 2 ^ 31) : v_X12_isHeard (tI a + kI j) (nI set) σ P = P (bI (hrd S (a + j) set)) σ := by
  have hnS := hk.znS
  have t := nt_t a ha j hj
  have key : ∀ s, (nI (tn S s) = tI a + kI j) = (tn S s + 7 = a + j) := fun s => by
    have h60 := hk.ztn s
    apply propext
    by_cases q : 7 ≤ a + j ∧ a + j < 68
    · rw [if_pos q] at t
      rw [t, nI_eq (by omega) (by omega)]
      omega
    · rw [if_neg q] at t
      constructor
      · intro z
        rw [← z] at t
        exact absurd rfl (oo_no (n := 61) t (by omega) (j := tn S s) (by omega))
      · intro z; omega
  unfold v_X12_isHeard
  have := lp_s (fun m s => v_X12_isHeard_L2 (tI a + kI j) (nI set) P m (nI s) σ) (P 0 σ) (fun _ => P 1 σ) (fun s => tn S s + 7 == a + j && !hsh S set s) (nS S) (fun m => ?_) (fun m s hs hp => ?_) (fun m s hs hp => ?_) 5000 0 (by omega) (by omega) (by omega)
  · simp only [ex_first] at this
    rw [show (0 : Int32) = nI 0 from rfl, this]
    unfold hrd
    cases ex (fun s => tn S s + 7 == a + j && !hsh S set s) (nS S) <;> rfl
  · (try dsimp only)
    rw [v_X12_isHeard_L2, hB.znS, w_t (nI_le (Nat.le_refl _) (by omega))]
  · (try dsimp only)
    rw [Bool.and_eq_true, beq_iff_eq] at hp
    rw [v_X12_isHeard_L2, hB.znS, w_f (nI_ge hs (by omega)), w_in (vi (show s < 36 by omega) (by omega)), nI_clamp (by omega), hB.ztn (by omega), w_t (by rw [key]; exact hp.1), q_doesSound hB hk (by omega) hset, hp.2, w_bI, if_pos (by rfl)]
  · (try dsimp only)
    rw [v_X12_isHeard_L2, hB.znS, w_f (nI_ge hs (by omega)), w_in (vi (show s < 36 by omega) (by omega)), nI_clamp (by omega), hB.ztn (by omega), w_ite, nI_1]
    by_cases q : tn S s + 7 = a + j
    · rw [if_pos (by rw [key]; exact q), q_doesSound hB hk (by omega) hset, w_bI]
      rw [show (tn S s + 7 == a + j) = true from beq_iff_eq.mpr q, Bool.true_and] at hp
      rw [hp, if_neg (by decide)]
    · rw [if_neg (by rw [key]; exact q)]
theorem q_setOf (h : gpB σ S) (hk : ok S) {c : Nat} (hc : c < 96) : v_X12_setOf (σ.1 42 c) σ P = P (nI (gst S (hof S c))) σ := by
  have h79 := hof_79 hk c
  unfold v_X12_setOf
  rw [h.2 c hc]
  by_cases e : hof S c = 0
  · rw [if_pos e, w_t rfl, e, gst_0]; rfl
  · rw [if_neg e, w_f (by rw [i_eqm (by omega) (by decide)]; exact id), w_in (vi h79 (by omega)), nI_clamp (by omega), (h.1.2 _ (hof_lt S c)).1]
    rfl
theorem q_missC (hB : B σ S) (hG : gpB σ S) (hk : ok S) {g i j : Nat} (hg : g < 8) (hi : i < 24) (hj : j < 12) : v_X12_missAt (nI g) (nI i) (kI j) 0 σ P = P (bI (mc S g j i)) σ := by
  have ht := trn_lt (c := gc S g i) (j := j) (hk.zgc g i)
  have h79 := hof_79 hk (trn (gc S g i) j)
  unfold v_X12_missAt mc
  rw [q_chordAt hB hk hg hi hj, w_in (vi ht (by omega)), w_t rfl, nI_clamp (by omega), hG.2 _ ht, w_ite]
  by_cases e : hof S (trn (gc S g i) j) = 0
  · rw [if_pos e, if_pos rfl, e]; rfl
  · rw [if_neg e, if_neg (by rw [i_eqm (by omega) (by decide)]; exact id), beq_false_of_ne e]; rfl
theorem q_missN (hB : B σ S) (hG : gpB σ S) (hk : ok S) {g i j : Nat} (hg : g < 8) (hi : i < 24) (hj : j < 12) : v_X12_missAt (nI g) (nI i) (kI j) 1 σ P = P (bI (mn S g j i)) σ := by
  have ht := trn_lt (c := gc S g i) (j := j) (hk.zgc g i)
  have h79 := hof_79 hk (trn (gc S g i) j)
  have h61 := hk.zgn g i
  have hs := gst_lt hk h79
  unfold v_X12_missAt mn lkn
  rw [q_chordAt hB hk hg hi hj, w_in (vi ht (by omega)), w_f (by decide), nI_clamp (by omega), q_hasNoteB hB hk hg hi, w_bI]
  cases e : gn S g i != 0
  · rw [if_neg (by decide)]; rfl
  · rw [if_pos rfl, q_noteAt hB hg hi, q_setOf hG hk ht, q_isHeard hB hk (by omega) hj (by omega), w_bI]
    cases hrd S (gn S g i + j) (gst S (hof S (trn (gc S g i) j))) <;> rfl
/-- misses of a song by key j: w 0 of chords, 1 of notes, 2 of both -/
def msw (S : St) (g j w : Nat) : Nat := (if w ≠ 1 then fb_ct (mc S g j) (gl S g) else 0) + (if w ≠ 0 then fb_ct (mn S g j) (gl S g) else 0)
theorem fb_ct_1 (p : Nat → Bool) (n : Nat) : nI (fb_ct p n) + bI (p n) = nI (fb_ct p (n + 1)) := by
  rw [fb_ct_succ]
  cases p n
  · exact nI_add _ 0
  · exact nI_add _ 1
theorem q_missesOf (hB : B σ S) (hG : gpB σ S) (hk : ok S) {g j w : Nat} (hg : g < 8) (hj : j < 12) (hw : w < 3) : v_X12_missesOf (nI g) (kI j) (nI w) σ P = P (nI (msw S g j w)) σ := by
  have h24 := hk.zgl g
  unfold v_X12_missesOf
  have hc := fb_ct_le (mc S g j) (gl S g)
  have := lp_c (fun m i => v_X12_missesOf_L6 (nI g) (kI j) (nI w) P m (nI ((if w ≠ 1 then fb_ct (mc S g j) i else 0) + (if w ≠ 0 then fb_ct (mn S g j) i else 0))) (nI i) σ) (P (nI (msw S g j w)) σ) (gl S g) (fun m => ?_) (fun m i hi => ?_) 5000 0 (by omega) (by omega)
  · (try dsimp only at this)
    have z : (if w ≠ 1 then fb_ct (mc S g j) 0 else 0) + (if w ≠ 0 then fb_ct (mn S g j) 0 else 0) = 0 := by split <;> split <;> rfl
    rw [z] at this
    exact this
  · (try dsimp only)
    rw [v_X12_missesOf_L6, w_in (vi hg (by omega)), nI_clamp (by omega), hB.zgl hg, w_t (nI_le (Nat.le_refl _) (by omega))]
    rfl
  · (try dsimp only)
    have e1 : (nI w = 1) = (w = 1) := i_eq (b := 1) (by omega) (by omega)
    have e0 : (nI w = 0) = (w = 0) := i_eq0 (by omega)
    rw [v_X12_missesOf_L6, w_in (vi hg (by omega)), nI_clamp (by omega), hB.zgl hg, w_f (nI_ge hi (by omega))]
    unfold v_X12_missesOf_J37
    simp only [w_ite, e1, e0, q_missC hB hG hk hg (show i < 24 by omega) hj, q_missN hB hG hk hg (show i < 24 by omega) hj, nI_1]
    rcases (show w = 0 ∨ w = 1 ∨ w = 2 by omega) with q | q | q
    · subst q
      simp only [ne_eq, not_true, if_false, if_true, Nat.add_zero, show ¬ (0 = 1) by omega, not_false_eq_true]
      congr 1
      rw [show ∀ x : Int32, x + 0 = x from fun x => by simp, fb_ct_1]
    · subst q
      simp only [ne_eq, not_true, if_false, if_true, Nat.zero_add, show ¬ (1 = 0) by omega, not_false_eq_true]
      congr 1
      rw [show ∀ x : Int32, x + 0 = x from fun x => by simp, fb_ct_1]
    · subst q
      simp only [ne_eq, if_true, show ¬ (2 = 0) by omega, show ¬ (2 = 1) by omega, not_false_eq_true, if_false]
      congr 1
      rw [← nI_add, ← nI_add, ← fb_ct_1, ← fb_ct_1]
      rw [Int32.add_assoc, Int32.add_assoc, Int32.add_assoc, ← Int32.add_assoc (nI (fb_ct (mn S g j) i)), Int32.add_comm (nI (fb_ct (mn S g j) i)) (bI (mc S g j i)), Int32.add_assoc]
-- the class
theorem k_missC (h : AG σ S) (hk : ok S) {g i j : Nat} (hg : g < 8) (hi : i < 24) (hj : j < 12) (K : ∀ σ', hS σ σ' → AG σ' S → P (bI (mc S g j i)) σ') : v_X4_missesChord (bG + g) (kI j) (nI i) σ P := by
  have ht := trn_lt (c := gc S g i) (j := j) (hk.zgc g i)
  have h79 := hof_79 hk (trn (gc S g i) j)
  unfold v_X4_missesChord
  rw [q_chordIn h.1 hk hg hi hj]
  refine k_holdOf h hk ht (fun σ1 q1 h1 => ?_)
  have k1 := K σ1 q1 h1
  unfold mc at k1
  rw [w_ite]
  simp only [i_eq0 (show hof S (trn (gc S g i) j) < 2 ^ 31 by omega)]
  by_cases e : hof S (trn (gc S g i) j) = 0
  · rw [if_pos e]; rw [e] at k1; exact k1
  · rw [if_neg e]; rw [beq_false_of_ne e] at k1; exact k1
theorem k_missN (h : AG σ S) (hk : ok S) {g i j : Nat} (hg : g < 8) (hi : i < 24) (hj : j < 12) (K : ∀ σ', hS σ σ' → AG σ' S → P (bI (mn S g j i)) σ') : v_X4_missesNote (bG + g) (kI j) (nI i) σ P := by
  have ht := trn_lt (c := gc S g i) (j := j) (hk.zgc g i)
  unfold v_X4_missesNote
  rw [q_chordIn h.1 hk hg hi hj]
  refine k_holdOf h hk ht (fun σ1 q1 h1 => ?_)
  rw [q_lacks h1 hk hg hi hj (hof_lt S _), w_isB]
  exact K σ1 q1 h1
theorem k_missedC (h : AG σ S) (hk : ok S) {g j : Nat} (hg : g < 8) (hj : j < 12) (K : ∀ σ', hS σ σ' → AG σ' S → P (nI (fb_ct (mc S g j) (gl S g))) σ') : v_X4_missedChords (bG + g) (kI j) σ P := by
  have h24 := hk.zgl g
  unfold v_X4_missedChords
  refine lp_i (fun m i s => v_X4_missedChords_L5 (bG + g) (kI j) P m (nI (fb_ct (mc S g j) i)) (nI i) s) (fun i s => hS σ s ∧ AG s S) (gl S g) (fun m s hI => ?_) (fun m i s hi hI ih => ?_) 5000 0 _ (by omega) (by omega) ⟨hS.rf, h⟩
  · obtain ⟨q1, h1⟩ := hI
    (try dsimp only)
    rw [v_X4_missedChords_L5, h1.1.zgl hg, w_t (nI_le (Nat.le_refl _) (by omega))]
    exact K s q1 h1
  · obtain ⟨q1, h1⟩ := hI
    (try dsimp only)
    rw [v_X4_missedChords_L5, h1.1.zgl hg, w_f (nI_ge hi (by omega))]
    refine k_missC h1 hk hg (by omega) hj (fun σ2 q2 h2 => ?_)
    have k1 := ih σ2 ⟨q1.tr q2, h2⟩
    rw [w_bI, nI_1, nI_1]
    rw [fb_ct_succ] at k1
    cases e : mc S g j i
    · rw [e] at k1; rw [if_neg (by decide)]; exact k1
    · rw [e] at k1; rw [if_pos (by rfl)]; exact k1
theorem k_missedN (h : AG σ S) (hk : ok S) {g j : Nat} (hg : g < 8) (hj : j < 12) (K : ∀ σ', hS σ σ' → AG σ' S → P (nI (fb_ct (mn S g j) (gl S g))) σ') : v_X4_missedNotes (bG + g) (kI j) σ P := by
  have h24 := hk.zgl g
  unfold v_X4_missedNotes
  refine lp_i (fun m i s => v_X4_missedNotes_L5 (bG + g) (kI j) P m (nI (fb_ct (mn S g j) i)) (nI i) s) (fun i s => hS σ s ∧ AG s S) (gl S g) (fun m s hI => ?_) (fun m i s hi hI ih => ?_) 5000 0 _ (by omega) (by omega) ⟨hS.rf, h⟩
  · obtain ⟨q1, h1⟩ := hI
    (try dsimp only)
    rw [v_X4_missedNotes_L5, h1.1.zgl hg, w_t (nI_le (Nat.le_refl _) (by omega))]
    exact K s q1 h1
  · obtain ⟨q1, h1⟩ := hI
    (try dsimp only)
    rw [v_X4_missedNotes_L5, h1.1.zgl hg, w_f (nI_ge hi (by omega))]
    refine k_missN h1 hk hg (by omega) hj (fun σ2 q2 h2 => ?_)
    have k1 := ih σ2 ⟨q1.tr q2, h2⟩
    rw [w_bI, nI_1, nI_1]
    rw [fb_ct_succ] at k1
    cases e : mn S g j i
    · rw [e] at k1; rw [if_neg (by decide)]; exact k1
    · rw [e] at k1; rw [if_pos (by rfl)]; exact k1
theorem k_missed (h : AG σ S) (hk : ok S) {g j : Nat} (hg : g < 8) (hj : j < 12) (K : ∀ σ', hS σ σ' → AG σ' S → P (nI (msw S g j 2)) σ') : v_X4_missed (bG + g) (kI j) σ P := by
  unfold v_X4_missed
  refine k_missedC h hk hg hj (fun σ1 q1 h1 => k_missedN h1 hk hg hj (fun σ2 q2 h2 => ?_))
  rw [nI_add]
  exact K σ2 (q1.tr q2) h2
/-- a song can be played -/
def cpl (S : St) (g : Nat) : Bool := !ex (fun i => mc S g (gk S g) i || mn S g (gk S g) i) (gl S g)
def plb (S : St) : Nat := nb (cpl S) (nG S)
theorem k_canPlay (h : AG σ S) (hk : ok S) {g : Nat} (hg : g < 8) (K : ∀ σ', hS σ σ' → AG σ' S → P (bI (cpl S g)) σ') : v_X4_canPlay (bG + g) σ P := by
  have h24 := hk.zgl g
  have hj := hk.zgk g
  unfold v_X4_canPlay
  refine lp_i (fun m i s => v_X4_canPlay_L2 (bG + g) P m (nI i) s) (fun i s => hS σ s ∧ AG s S ∧ ∀ q, q < i → (mc S g (gk S g) q || mn S g (gk S g) q) = false) (gl S g) (fun m s hI => ?_) (fun m i s hi hI ih => ?_) 5000 0 _ (by omega) (by omega) ⟨hS.rf, h, fun q hq => by omega⟩
  · obtain ⟨q1, h1, h2⟩ := hI
    (try dsimp only)
    rw [v_X4_canPlay_L2, h1.1.zgl hg, w_t (nI_le (Nat.le_refl _) (by omega))]
    have k1 := K s q1 h1
    unfold cpl at k1
    rw [ex_no.mpr h2] at k1
    exact k1
  · obtain ⟨q1, h1, h2⟩ := hI
    (try dsimp only)
    have ht := trn_lt (c := gc S g i) (j := gk S g) (hk.zgc g i)
    have h79 := hof_79 hk (trn (gc S g i) (gk S g))
    have no : (mc S g (gk S g) i || mn S g (gk S g) i) = true → cpl S g = false := fun q => by
      unfold cpl
      rw [ex_iff.mpr ⟨i, hi, q⟩]; rfl
    rw [v_X4_canPlay_L2, h1.1.zgl hg, w_f (nI_ge hi (by omega)), h1.1.zgk hg, q_chordIn h1.1 hk hg (by omega) (by omega)]
    refine k_holdOf h1 hk ht (fun σ2 q2 h2a => ?_)
    by_cases e : hof S (trn (gc S g i) (gk S g)) = 0
    · rw [w_t (by rw [e]; rfl)]
      have k1 := K σ2 (q1.tr q2) h2a
      rw [no (by unfold mc; rw [e]; rfl)] at k1
      exact k1
    · rw [w_f (by rw [i_eq0 (by omega)]; exact e), h2a.1.zgk hg, q_lacks h2a hk hg (by omega) (by omega) (hof_lt S _), w_bI]
      have emc : mc S g (gk S g) i = false := beq_false_of_ne e
      cases e2 : lkn S g i (gk S g) (gst S (hof S (trn (gc S g i) (gk S g))))
      · rw [if_neg (by decide), nI_1]
        refine ih σ2 ⟨q1.tr q2, h2a, fun q hq => ?_⟩
        by_cases z : q = i
        · rw [z, emc]; exact e2
        · exact h2 q (by omega)
      · rw [if_pos (by rfl)]
        have k1 := K σ2 (q1.tr q2) h2a
        rw [no (by rw [emc]; exact e2)] at k1
        exact k1
theorem k_playedA (h : AG σ S) (hk : ok S) (K : ∀ σ', hS σ σ' → AG σ' S → P (nI (plb S)) σ') : v_X1_playedWith σ P := by
  have h8 := hk.znG
  unfold v_X1_playedWith
  refine lp_i (fun m g s => v_X1_playedWith_L4 P m (nI (nb (cpl S) g)) (nI g) s) (fun g s => hS σ s ∧ AG s S) (nG S) (fun m s hI => ?_) (fun m g s hg hI ih => ?_) 5000 0 _ (by omega) (by omega) ⟨hS.rf, h⟩
  · obtain ⟨q1, h1⟩ := hI
    (try dsimp only)
    rw [v_X1_playedWith_L4, h1.1.znG, w_t (nI_le (Nat.le_refl _) (by omega))]
    exact K s q1 h1
  · obtain ⟨q1, h1⟩ := hI
    (try dsimp only)
    rw [v_X1_playedWith_L4, h1.1.znG, w_f (nI_ge hg (by omega)), w_in (vi (show g < 8 by omega) (by omega)), nI_clamp (by omega)]
    refine k_canPlay h1 hk (by omega) (fun σ2 q2 h2 => ?_)
    have k1 := ih σ2 ⟨q1.tr q2, h2⟩
    rw [w_bI, nI_1, ish1 g (by omega), fa_or]
    rw [nb] at k1
    cases e : cpl S g
    · rw [e] at k1; rw [if_neg (by decide)]; rw [if_neg (by decide), Nat.or_zero] at k1; exact k1
    · rw [e] at k1; rw [if_pos (by rfl)]; rw [if_pos (by rfl)] at k1; exact k1
theorem cpl_m (g : Nat) : cpl S g = (msw S g (gk S g) 2 == 0) := by
  unfold cpl msw
  rw [if_pos (by decide), if_pos (by decide)]
  cases e : ex (fun i => mc S g (gk S g) i || mn S g (gk S g) i) (gl S g)
  · have h := ex_no.mp e
    rw [fb_ct_zero.mpr (fun i hi => (Bool.or_eq_false_iff.mp (h i hi)).1), fb_ct_zero.mpr (fun i hi => (Bool.or_eq_false_iff.mp (h i hi)).2)]
    rfl
  · obtain ⟨i, hi, h⟩ := ex_iff.mp e
    symm
    rw [Bool.not_true, beq_eq_false_iff_ne]
    intro z
    have z1 : fb_ct (mc S g (gk S g)) (gl S g) = 0 := by omega
    have z2 : fb_ct (mn S g (gk S g)) (gl S g) = 0 := by omega
    rw [fb_ct_zero.mp z1 i hi, fb_ct_zero.mp z2 i hi] at h
    cases h
theorem k_playedB (hB : B σ S) (hk : ok S) (K : ∀ σ', bS σ σ' → B σ' S → gpB σ' S → P (nI (plb S)) σ') : v_X12_played σ P := by
  have h8 := hk.znG
  unfold v_X12_played
  refine k_findHolds hB hk (fun σ1 b1 hB1 g1 => ?_)
  have k1 := K σ1 b1 hB1 g1
  have := lp_c (fun m g => v_X12_played_L8 P m (nI (nb (cpl S) g)) (nI g) σ1) (P (nI (plb S)) σ1) (nG S) (fun m => ?_) (fun m g hg => ?_) 5000 0 (by omega) (by omega)
  · (try dsimp only at this)
    rw [show (0 : Int32) = nI 0 from rfl]
    exact this.mpr k1
  · (try dsimp only)
    rw [v_X12_played_L8, hB1.znG, w_t (nI_le (Nat.le_refl _) (by omega))]
    rfl
  · (try dsimp only)
    have hgk := hk.zgk g
    have m1 : msw S g (gk S g) 2 < 2 ^ 31 := by
      have a := fb_ct_le (mc S g (gk S g)) (gl S g)
      have b := fb_ct_le (mn S g (gk S g)) (gl S g)
      have c := hk.zgl g
      unfold msw
      split <;> split <;> omega
    rw [v_X12_played_L8, hB1.znG, w_f (nI_ge hg (by omega)), w_in (vi (show g < 8 by omega) (by omega)), nI_clamp (by omega), hB1.zgk (by omega), show (2 : Int32) = nI 2 from rfl, q_missesOf hB1 g1 hk (by omega) (by omega) (by omega), w_ite, nI_1, ish1 g (by omega), fa_or, nb, cpl_m, z_or0]
    simp only [i_eq0 m1]
    by_cases e : msw S g (gk S g) 2 = 0
    · rw [if_pos e, e]; rfl
    · rw [if_neg e, beq_false_of_ne e]; simp
theorem t_playable (h : RR σ) : v_X11_playable σ (fun r σ => v_X12_playable σ (fun r2 σ => r = r2 ∧ RR σ)) := by
  obtain ⟨S, hA, hB, hk⟩ := h
  unfold v_X11_playable
  refine k_look hA hk (fun σ1 a1 hA1 g1 => k_playedA ⟨hA1, g1⟩ hk (fun σ2 q2 h2 => ?_))
  unfold v_X12_playable
  refine k_playedB (hB.mS (a1.m.tr q2.a.m)) hk (fun σ3 b3 hB3 _ => ⟨rfl, RRf h2.1 b3.c hB3 hk⟩)
end
