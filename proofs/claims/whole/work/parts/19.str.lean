-- ===== strings and bars come and change =====
theorem nb_upd {p q : Nat → Bool} {n s : Nat} (hs : s < n) (h : ∀ i, i < n → i ≠ s → q i = p i) : nb q n = if p s = q s then nb p n else nb p n ^^^ 2 ^ s := by
  by_cases e : p s = q s
  · rw [if_pos e]
    exact nb_cong (fun i hi => by
      by_cases z : i = s
      · rw [z, e]
      · exact h i hi z)
  · rw [if_neg e, nb_xor p n hs]
    exact nb_cong (fun i hi => by
      by_cases z : i = s
      · subst z; cases h1 : p i <;> cases h2 : q i <;> simp_all
      · rw [h i hi z]; simp [z])
theorem nb_top (p : Nat → Bool) (n : Nat) : nb p (n + 1) = if p n = true then nb p n ^^^ 2 ^ n else nb p n := by
  rw [nb]
  by_cases h : p n = true
  · rw [if_pos h, if_pos h]
    have l1 := nb_lt' p (Nat.le_succ n)
    have l2 : 2 ^ n < 2 ^ (n + 1) := Nat.pow_lt_pow_right (by decide) (by omega)
    apply tb_ext (Nat.or_lt_two_pow l1 l2) (Nat.xor_lt_two_pow l1 l2)
    intro i hi
    rw [Nat.testBit_or, Nat.testBit_xor, nb_tb, Nat.testBit_two_pow]
    by_cases z : n = i
    · subst z; simp
    · simp [z]
  · rw [if_neg h, if_neg h, Nat.or_zero]
theorem xor_ite {c : Prop} [Decidable c] (x y : Nat) : (if c then lN x ^^^ lN y else lN x) = lN (if c then x ^^^ y else x) := by
  split
  · rw [fb_xorL]
  · rfl
/-- a string's bits turned: of its tone, and of its class if it is not free -/
def tbM (σ : Mem) (s t : Nat) (f : Bool) : Mem := if f = true then wJ σ 4 t (σ.2 4 t ^^^ lN (2 ^ s)) else wJ (wJ σ 4 t (σ.2 4 t ^^^ lN (2 ^ s))) 3 (t % 12) (σ.2 3 (t % 12) ^^^ lN (2 ^ s))
theorem tbM_1 {σ : Mem} {s t : Nat} {f : Bool} : (tbM σ s t f).1 = σ.1 := by unfold tbM; split <;> rfl
theorem tbM_2 {σ : Mem} {s t a j : Nat} {f : Bool} : (tbM σ s t f).2 a j = if a = 4 ∧ j = t then σ.2 4 t ^^^ lN (2 ^ s) else if a = 3 ∧ j = t % 12 ∧ f = false then σ.2 3 (t % 12) ^^^ lN (2 ^ s) else σ.2 a j := by
  unfold tbM
  cases f
  · simp only [Bool.false_eq_true, if_false, m_J2]
    by_cases h : a = 4 ∧ j = t
    · rw [if_neg (by omega), if_pos h, if_pos h]
    · simp only [h, if_false, and_true]
  · simp [m_J2]
theorem tbM_4 {σ : Mem} {s t j : Nat} {f : Bool} : (tbM σ s t f).2 4 j = if j = t then σ.2 4 j ^^^ lN (2 ^ s) else σ.2 4 j := by
  rw [tbM_2]
  by_cases h : j = t
  · subst h; simp
  · simp [h]
theorem tbM_3 {σ : Mem} {s t j : Nat} {f : Bool} : (tbM σ s t f).2 3 j = if j = t % 12 ∧ f = false then σ.2 3 j ^^^ lN (2 ^ s) else σ.2 3 j := by
  rw [tbM_2]
  by_cases h : j = t % 12 ∧ f = false
  · obtain ⟨rfl, h2⟩ := h; simp [h2]
  · rw [if_neg (by omega), if_neg (fun q => h q.2), if_neg h]
theorem tbM_F {σ σ0 : Mem} {s t : Nat} {f : Bool} (h : Fs σ0 σ) : Fs σ0 (tbM σ s t f) := by
  unfold tbM
  split
  · exact h.J (by omega)
  · exact (h.J (by omega)).J (by omega)
section
variable {σ : Mem} {S : St} {P : Int32 → Mem → Prop} {PV : Mem → Prop}
theorem q_turnBits {s t F : Nat} (hs : s < 36) (ht : t < 61) (h2 : σ.1 2 s = nI t) (hf : σ.2 1 3 = lN F) (hF : F < 2 ^ 64) : v_X10_turnBits (nI s) σ PV = PV (tbM σ s t (F.testBit s)) := by
  have e12 : t % 12 < 12 := Nat.mod_lt _ (by decide)
  unfold v_X10_turnBits v_X10_isFree tbM
  simp only [w_in (vi hs (by omega)), nI_clamp (show s < 2 ^ 31 by omega), h2, w_in (vi ht (by omega)), nI_clamp (show t < 2 ^ 31 by omega), l_sh1 (show s < 64 by omega), m_J1, m_J2, hf, show ¬ (1 = 4 ∧ 3 = t) by omega, if_false, q_hasBit hF (show s < 64 by omega), w_isB, w_bI, i_12r (show t < 2 ^ 31 by omega), w_in (vi e12 (by omega)), nI_clamp (show t % 12 < 2 ^ 31 by omega), show ¬ (3 = 4 ∧ t % 12 = t) by omega]
  cases F.testBit s <;> rfl
def stS (S : St) (t : Nat) (f : Bool) : St := uN (uN (uN S 0 0 0 (nS S + 1)) 1 (nS S) 0 t) 2 (nS S) 0 (if f = true then 1 else 0)
theorem stS_nS {t : Nat} {f : Bool} : nS (stS S t f) = nS S + 1 := by simp [nS, stS, uN_1]
theorem stS_tn {t s : Nat} {f : Bool} : tn (stS S t f) s = if s = nS S then t else tn S s := by simp [tn, stS, uN_1]
theorem stS_fr {t s : Nat} {f : Bool} : fr (stS S t f) s = if s = nS S then (if f = true then 1 else 0) else fr S s := by simp [fr, stS, uN_1]
theorem stS_o {t : Nat} {f : Bool} (i j k : Nat) (h : ¬ i ≤ 2) : (stS S t f).1 i j k = S.1 i j k := by
  unfold stS
  rw [uN_1, if_neg (by omega), uN_1, if_neg (by omega), uN_1, if_neg (by omega)]
theorem ok_stS (hk : ok S) {t : Nat} {f : Bool} (hn : nS S < 36) (ht : t < 61) : ok (stS S t f) := by
  obtain ⟨⟨a1, a2, a3⟩, ⟨b1, b2, b3, b4, b5⟩, hg, ho, ⟨r1, r2, r3, r4⟩, ht2⟩ := hk
  have eN : nB (stS S t f) = nB S := stS_o 3 0 0 (by omega)
  have eR : nR (stS S t f) = nR S := stS_o 14 0 0 (by omega)
  refine ⟨⟨by rw [stS_nS]; omega, fun s => ?_, fun s => ?_⟩, ⟨by rw [eN]; exact b1, b2, fun b hb s hs => ?_, fun b hb => ?_, b5⟩, hg, ho, ⟨by rw [eR]; exact r1, fun r hr => ?_, fun r hr => ?_, r4⟩, ht2⟩
  · rw [stS_tn]; split
    · omega
    · exact a2 s
  · rw [stS_fr]; split
    · split <;> omega
    · exact a3 s
  · rw [stS_nS] at hs; exact b3 b (by rw [← eN]; exact hb) s (by omega)
  · exact b4 b (by rw [← eN]; exact hb)
  · rw [eN]; exact r2 r (by rw [← eR]; exact hr)
  · rw [stS_nS]; have := r3 r (by rw [← eR]; exact hr); exact Nat.le_succ_of_le this
theorem k_add (hA : A σ S) (hk : ok S) {t : Nat} {f : Bool} (hn : nS S < 36) (ht : t < 61) (K : ∀ σ', A σ' (stS S t f) → mS σ σ' → P (nI (nS S)) σ') : v_X10_add (nI t) (bI f) σ P := by
  have hF := frs_lt hk
  have hlt : (if f = true then frs S ||| 2 ^ nS S else frs S) < 2 ^ 64 := by
    split
    · exact Nat.or_lt_two_pow hF (Nat.pow_lt_pow_right (by decide) (by omega))
    · exact hF
  have hbit : (if f = true then frs S ||| 2 ^ nS S else frs S).testBit (nS S) = f := by
    have z : (frs S).testBit (nS S) = false := nb_0 (nb_lt _ _)
    cases f
    · simp [z]
    · simp [Nat.testBit_or, Nat.testBit_two_pow]
  unfold v_X10_add v_X10_add_J38
  rw [hA.znS, w_in (vi hn (by omega)), nI_clamp (by omega), nI_1]
  have fin : ∀ σ0 : Mem, Fs σ σ0 → σ0.1 1 4 = nI (nS S + 1) → (∀ s, s < 36 → σ0.1 2 s = if s = nS S then nI t else σ.1 2 s) → (∀ k, k < 12 → σ0.2 3 k = σ.2 3 k) → (∀ k, k < 61 → σ0.2 4 k = σ.2 4 k) → σ0.2 1 3 = lN (if f = true then frs S ||| 2 ^ nS S else frs S) → v_X10_turnBits (nI (nS S)) σ0 (fun σ_1 => P (nI (nS S)) σ_1) := by
    intro σ0 hFs c1 c2 c3 c4 c5
    rw [q_turnBits (t := t) hn ht (by rw [c2 _ hn, if_pos rfl]) c5 hlt, hbit]
    refine K _ (hA.s_upd hk.znB (tbM_F hFs) stS_o rfl ?_) (tbM_F hFs).m
    refine ⟨by rw [tbM_1, c1, stS_nS], fun s hs => ?_, fun k hk2 => ?_, fun k hk2 => ?_, ?_⟩
    · rw [tbM_1, c2 s hs, stS_tn]
      split
      · rfl
      · exact hA.ztn hs
    · have e : ofC (stS S t f) k = if (f = false ∧ t % 12 = k) then ofC S k ^^^ 2 ^ nS S else ofC S k := by
        unfold ofC
        rw [stS_nS, nb_top]
        have q : nb (fun s => fr (stS S t f) s == 0 && tn (stS S t f) s % 12 == k) (nS S) = nb (fun s => fr S s == 0 && tn S s % 12 == k) (nS S) := nb_cong (fun i hi => by rw [stS_fr, stS_tn, if_neg (by omega), if_neg (by omega)])
        rw [q, stS_fr, stS_tn, if_pos rfl, if_pos rfl]
        cases f <;> simp
      rw [tbM_2, if_neg (by omega), e, c3 _ (Nat.mod_lt _ (by decide)), c3 k hk2]
      by_cases z : k = t % 12
      · subst z
        rw [hA.zofC hk2]
        cases f
        · rw [if_pos ⟨rfl, rfl, rfl⟩, if_pos ⟨rfl, rfl⟩, fb_xorL]
        · rw [if_neg (by simp), if_neg (by simp)]
      · rw [if_neg (by omega), if_neg (by omega), hA.zofC hk2]
    · have e : ofT (stS S t f) k = if t = k then ofT S k ^^^ 2 ^ nS S else ofT S k := by
        unfold ofT
        rw [stS_nS, nb_top]
        have q : nb (fun s => tn (stS S t f) s == k) (nS S) = nb (fun s => tn S s == k) (nS S) := nb_cong (fun i hi => by rw [stS_tn, if_neg (by omega)])
        rw [q, stS_tn, if_pos rfl]
        simp
      rw [tbM_2, e, c4 _ ht, c4 k hk2]
      by_cases z : k = t
      · subst z
        rw [hA.zofT hk2, if_pos ⟨rfl, rfl⟩, if_pos rfl, fb_xorL]
      · rw [if_neg (by omega), if_neg (by omega), if_neg (by omega), hA.zofT hk2]
    · rw [tbM_2, if_neg (by omega), if_neg (by omega), c5]
      congr 1
      unfold frs
      rw [stS_nS, nb]
      have q : nb (fun s => fr (stS S t f) s == 1) (nS S) = nb (fun s => fr S s == 1) (nS S) := nb_cong (fun i hi => by rw [stS_fr, if_neg (by omega)])
      rw [q, stS_fr, if_pos rfl]
      cases f <;> simp
  cases f
  · rw [show bI false = 0 from rfl, w_0]
    refine fin _ ((Fs.rf.I (by omega)).I (by omega)) ?_ (fun s hs => ?_) (fun k _ => rfl) (fun k _ => rfl) hA.zfrs
    · simp [m_I1]
    · simp only [m_I1]; simp
  · rw [show bI true = 1 from rfl, w_1]
    refine fin _ (((Fs.rf.I (by omega)).I (by omega)).J (by omega)) ?_ (fun s hs => ?_) (fun k _ => ?_) (fun k _ => ?_) ?_
    · simp [m_I1, m_J1]
    · simp only [m_I1, m_J1]; simp
    · simp [m_I2, m_J2]
    · simp [m_I2, m_J2]
    · rw [m_J2, if_pos ⟨rfl, rfl⟩, m_I2, m_I2, hA.zfrs, l_sh1 (by omega), fb_orL]; rfl
theorem k_string (hB : B σ S) (hk : ok S) {t : Nat} {f : Bool} (hn : nS S < 36) (ht : t < 61) (K : ∀ σ', B σ' (stS S t f) → cS σ σ' → P (nI (nS S)) σ') : v_X12_string (nI t) (bI f) σ P := by
  have hb : vp_nar .boolean (bI f) = bI f := by cases f <;> decide +kernel
  unfold v_X12_string
  rw [q_w60_n ht, w_1, hB.znS, w_f (fun q => by have := (nI_eq (b := 36) (by omega) (by omega)).mp q; omega), w_in (vi hn (by omega)), nI_clamp (by omega), hb]
  have e1 : (wI σ 34 (nS S) (nI t)).1 33 2 = nI (nS S) := by rw [m_I1, if_neg (by omega), hB.znS]
  rw [e1, w_in (vi hn (by omega)), nI_clamp (by omega)]
  have e2 : (wI (wI σ 34 (nS S) (nI t)) 35 (nS S) (bI f)).1 33 2 = nI (nS S) := by rw [m_I1, if_neg (by omega), e1]
  rw [e2, nI_1, m_I1, if_pos ⟨rfl, rfl⟩, nI_pred]
  have g : Gs σ (wI (wI (wI σ 34 (nS S) (nI t)) 35 (nS S) (bI f)) 33 2 (nI (nS S + 1))) := ((Gs.rf.I (by omega)).I (by omega)).I (by omega)
  refine K _ (hB.s_upd g stS_o rfl ⟨?_, fun s hs => ⟨?_, ?_⟩⟩) g.c
  · rw [m_I1, if_pos ⟨rfl, rfl⟩, stS_nS]
  · rw [m_I1, if_neg (by omega), m_I1, if_neg (by omega), m_I1, stS_tn]
    by_cases z : s = nS S
    · rw [if_pos ⟨rfl, z⟩, if_pos z]
    · rw [if_neg (fun q => z q.2), if_neg z, hB.ztn hs]
  · rw [m_I1, if_neg (by omega), m_I1, stS_fr]
    by_cases z : s = nS S
    · rw [if_pos ⟨rfl, z⟩, if_pos z]; cases f <;> rfl
    · rw [if_neg (fun q => z q.2), if_neg z, m_I1, if_neg (by omega), hB.zfr hs]
theorem t_string (h : RR σ) (a1 a2 : Int32) (hb : isB a2) : v_X11_string a1 a2 σ (fun r σ => v_X12_string a1 a2 σ (fun r2 σ => r = r2 ∧ RR σ)) := by
  have hR := h
  obtain ⟨S, hA, hB, hk⟩ := h
  have h36 := hk.znS
  obtain ⟨f, rfl⟩ : ∃ f, a2 = bI f := by rcases hb with rfl | rfl; exact ⟨false, rfl⟩; exact ⟨true, rfl⟩
  unfold v_X11_string v_X10_isFull
  rcases rg a1 61 (by omega) with ⟨t, ht, rfl⟩ | ho
  · rw [q_isTone_n ht, w_1, hA.znS]
    by_cases q : nS S < 36
    · rw [w_t (show nI (nS S) < 36 from (nI_ltI (b := 36) (by omega) (by omega)).mpr q)]; dsimp only; rw [w_0]
      refine k_add hA hk q ht (fun σ1 hA1 m1 => ?_)
      refine k_string (hB.mS m1) hk q ht (fun σ2 hB2 m2 => ⟨rfl, _, hA1.cS m2, hB2, ok_stS hk q ht⟩)
    · rw [w_f (show ¬ nI (nS S) < 36 from fun z => q ((nI_ltI (b := 36) (by omega) (by omega)).mp z))]; dsimp only; rw [w_1]
      unfold v_X12_string
      dsimp only
      rw [q_w60_n ht, w_1, hB.znS, w_t (show nI (nS S) = 36 from (nI_eq (b := 36) (by omega) (by omega)).mpr (by omega))]
      exact ⟨rfl, hR⟩
  · unfold v_X12_string
    rw [q_isTone_o ho, w_0]; dsimp only; rw [q_w60_o ho, w_0]
    exact ⟨rfl, hR⟩
-- a string's tone becomes another
theorem uN_same {f i j v : Nat} (h : S.1 f i j = v) : uN S f i j v = S := by
  apply Prod.ext
  · funext a b c
    rw [uN_1]
    split
    · next q => obtain ⟨rfl, rfl, rfl⟩ := q; exact h.symm
    · rfl
  · rfl
theorem uN_twice {f i j v w : Nat} : uN (uN S f i j v) f i j w = uN S f i j w := by
  apply Prod.ext
  · funext a b c
    rw [uN_1, uN_1, uN_1]
    split <;> rfl
  · rfl
theorem tn_uN {s t i : Nat} : tn (uN S 1 s 0 t) i = if i = s then t else tn S i := by simp [tn, uN_1]
theorem ok_tn (hk : ok S) {s t : Nat} (ht : t < 61) : ok (uN S 1 s 0 t) := by
  obtain ⟨⟨a1, a2, a3⟩, hb, hg, ho, hr, ht2⟩ := hk
  refine ⟨⟨a1, fun i => ?_, a3⟩, hb, hg, ho, hr, ht2⟩
  rw [tn_uN]; split
  · omega
  · exact a2 i
theorem k_retune (hA : A σ S) (hk : ok S) {s t : Nat} (hs : s < nS S) (ht : t < 61) (K : ∀ σ', A σ' (uN S 1 s 0 t) → Fs σ σ' → PV σ') : v_X10_retune (nI s) (nI t) σ PV := by
  have h36 := hk.znS
  have hF := frs_lt hk
  have h60 := hk.ztn s
  have hbit : (frs S).testBit s = (fr S s == 1) := by unfold frs; rw [nb_tb]; simp [hs]
  unfold v_X10_retune
  rw [q_turnBits (t := tn S s) (by omega) (by omega) (hA.ztn (by omega)) hA.zfrs hF, w_in (vi (by omega) (by omega)), nI_clamp (by omega)]
  have c2 : ∀ i, i < 36 → (wI (tbM σ s (tn S s) ((frs S).testBit s)) 2 s (nI t)).1 2 i = if i = s then nI t else σ.1 2 i := fun i _ => by
    rw [m_I1, tbM_1]; simp
  have c5 : (wI (tbM σ s (tn S s) ((frs S).testBit s)) 2 s (nI t)).2 1 3 = lN (frs S) := by
    rw [m_I2, tbM_2, if_neg (by omega), if_neg (by omega), hA.zfrs]
  rw [q_turnBits (t := t) (by omega) ht (by rw [c2 s (by omega), if_pos rfl]) c5 hF]
  have hFs : Fs σ (tbM (wI (tbM σ s (tn S s) ((frs S).testBit s)) 2 s (nI t)) s t ((frs S).testBit s)) := tbM_F ((tbM_F Fs.rf).I (by omega))
  refine K _ (hA.s_upd hk.znB hFs (fun i j k hi => by rw [uN_1, if_neg (by omega)]) rfl ⟨?_, fun i hi => ?_, fun k hk2 => ?_, fun k hk2 => ?_, ?_⟩) hFs
  · rw [tbM_1, m_I1, if_neg (by omega), tbM_1, hA.znS]; rfl
  · rw [tbM_1, c2 i hi, tn_uN]
    split
    · rfl
    · exact hA.ztn hi
  · have m1 : tn S s % 12 < 12 := Nat.mod_lt _ (by decide)
    have m2 : t % 12 < 12 := Nat.mod_lt _ (by decide)
    have e : ofC (uN S 1 s 0 t) k = if (fr S s == 0 && tn S s % 12 == k) = (fr S s == 0 && t % 12 == k) then ofC S k else ofC S k ^^^ 2 ^ s := by
      have := nb_upd (p := fun i => fr S i == 0 && tn S i % 12 == k) (q := fun i => fr S i == 0 && tn (uN S 1 s 0 t) i % 12 == k) (n := nS S) hs (fun i _ z => by rw [tn_uN, if_neg z])
      rw [tn_uN, if_pos rfl] at this
      exact this
    have d : ∀ x : Nat, (lN x ^^^ lN (2 ^ s)) ^^^ lN (2 ^ s) = lN x := fun x => by rw [fb_xorL, fb_xorL, Nat.xor_assoc, Nat.xor_self, Nat.xor_zero]
    have f1 := hk.zfr s
    rw [e, tbM_3, m_I2, tbM_3, hbit, hA.zofC hk2]
    rcases (show fr S s = 0 ∨ fr S s = 1 by omega) with z | z
    · rw [z]
      by_cases k1 : k = tn S s % 12
      · by_cases k2 : k = t % 12
        · rw [if_pos ⟨k2, rfl⟩, if_pos ⟨k1, rfl⟩, if_pos (by rw [← k1, ← k2]), d]
        · rw [if_neg (fun q => k2 q.1), if_pos ⟨k1, rfl⟩, if_neg, fb_xorL]
          intro q
          rw [← k1] at q
          simp at q
          exact k2 q.symm
      · by_cases k2 : k = t % 12
        · rw [if_pos ⟨k2, rfl⟩, if_neg (fun q => k1 q.1), if_neg, fb_xorL]
          intro q
          rw [← k2] at q
          simp at q
          exact k1 q.symm
        · rw [if_neg (fun q => k2 q.1), if_neg (fun q => k1 q.1), if_pos]
          have g1 : (tn S s % 12 == k) = false := by simp; omega
          have g2 : (t % 12 == k) = false := by simp; omega
          rw [g1, g2]
    · rw [z, if_neg (by simp), if_neg (by simp), if_pos (by simp)]
  · have e : ofT (uN S 1 s 0 t) k = if (tn S s == k) = (t == k) then ofT S k else ofT S k ^^^ 2 ^ s := by
      have := nb_upd (p := fun i => tn S i == k) (q := fun i => tn (uN S 1 s 0 t) i == k) (n := nS S) hs (fun i _ z => by rw [tn_uN, if_neg z])
      rw [tn_uN, if_pos rfl] at this
      exact this
    have d : ∀ x : Nat, (lN x ^^^ lN (2 ^ s)) ^^^ lN (2 ^ s) = lN x := fun x => by rw [fb_xorL, fb_xorL, Nat.xor_assoc, Nat.xor_self, Nat.xor_zero]
    rw [e, tbM_4, m_I2, tbM_4, hA.zofT hk2]
    by_cases k1 : k = tn S s
    · by_cases k2 : k = t
      · rw [if_pos k2, if_pos k1, if_pos (by rw [← k1, ← k2]), d]
      · rw [if_neg k2, if_pos k1, if_neg, fb_xorL]
        intro q
        rw [← k1] at q
        simp at q
        exact k2 q.symm
    · by_cases k2 : k = t
      · rw [if_pos k2, if_neg k1, if_neg, fb_xorL]
        intro q
        rw [← k2] at q
        simp at q
        exact k1 q.symm
      · rw [if_neg k2, if_neg k1, if_pos]
        have g1 : (tn S s == k) = false := by simp; omega
        have g2 : (t == k) = false := by simp; omega
        rw [g1, g2]
  · rw [tbM_2, if_neg (by omega), if_neg (by omega), c5]; rfl
theorem k_tuneB (hB : B σ S) {s t : Nat} (hs : s < 36) (ht : t < 61) : B (wI σ 34 s (nI t)) (uN S 1 s 0 t) := by
  have g : Gs σ (wI σ 34 s (nI t)) := Gs.rf.I (by omega)
  refine hB.s_upd g (fun i j k hi => by rw [uN_1, if_neg (by omega)]) rfl ⟨?_, fun i hi => ⟨?_, ?_⟩⟩
  · rw [m_I1, if_neg (by omega), hB.znS]; rfl
  · rw [m_I1, tn_uN]
    by_cases z : i = s
    · rw [if_pos ⟨rfl, z⟩, if_pos z]
    · rw [if_neg (fun q => z q.2), if_neg z, hB.ztn hi]
  · rw [m_I1, if_neg (by omega), hB.zfr hi]; rfl
theorem t_tune (h : RR σ) (a1 a2 : Int32) : v_X11_tune a1 a2 σ (fun r σ => v_X12_tune a1 a2 σ (fun r2 σ => r = r2 ∧ RR σ)) := by
  have hR := h
  obtain ⟨S, hA, hB, hk⟩ := h
  have h36 := hk.znS
  unfold v_X11_tune v_X12_tune
  rcases rg a1 (nS S) (by omega) with ⟨s, hs, rfl⟩ | ho
  · rcases rg a2 61 (by omega) with ⟨t, ht, rfl⟩ | ho
    · rw [q_knowsS_n hA hk hs, w_1, q_isTone_n ht, w_1, w_in (vi (by omega) (by omega)), nI_clamp (by omega), hA.ztn (by omega)]
      refine k_retune hA hk hs ht (fun σ1 hA1 F1 => ?_)
      have hB1 := hB.mS F1.m
      simp only [q_isString_n hB1 hk hs, w_1, q_w60_n ht, w_in (vi (show s < 36 by omega) (by omega)), nI_clamp (show s < 2 ^ 31 by omega), hB1.ztn (show s < 36 by omega)]
      have hB2 := k_tuneB hB1 (show s < 36 by omega) ht
      have g : Gs σ1 (wI σ1 34 s (nI t)) := Gs.rf.I (by omega)
      exact ⟨trivial, _, hA1.cS g.c, hB2, ok_tn hk ht⟩
    · rw [q_knowsS_n hA hk hs, w_1, q_isTone_o ho, w_0]; dsimp only; rw [q_isString_n hB hk hs, w_1, q_w60_o ho, w_0]
      exact ⟨rfl, hR⟩
  · rw [q_knowsS_o hA ho, w_0]; dsimp only; rw [q_isString_o hB ho, w_0]
    exact ⟨rfl, hR⟩
end
