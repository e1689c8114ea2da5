-- ===== the relation; questions, both sides =====
def RR (σ : Mem) : Prop := ∃ S, A σ S ∧ B σ S ∧ ok S
theorem z_or0 (x : Int32) : x ||| 0 = x := by simp
section
variable {σ : Mem} {S : St} {P : Int32 → Mem → Prop} {PJ : Int64 → Mem → Prop}
def aOfS (S : St) (s : Nat) (a : Int32) : Int32 := if a = 0 then nI (tn S s) else if a = 1 then bI (fr S s == 1) else if a = 2 then nI (tn S s % 12) else if a = 3 then nI (fb_ct (fun b => fe S b s == 2) (nB S)) else -2
theorem q_ofStringA (hA : A σ S) (hk : ok S) {s : Nat} (hs : s < nS S) (a : Int32) : v_X11_ofString (nI s) a σ P = P (aOfS S s a) σ := by
  have h36 := hk.znS
  have ht := hk.ztn s
  unfold v_X11_ofString aOfS
  rw [q_knowsS_n hA hk hs, w_1]
  simp only [w_ite, w_in (vi (show s < 36 by omega) (by omega)), nI_clamp (show s < 2 ^ 31 by omega), hA.ztn (show s < 36 by omega), q_isFree hA hk hs, q_asNumber, i_12r (show tn S s < 2 ^ 31 by omega), q_wholeFeltsOn hA hk (show s < 36 by omega), w_P]
theorem q_ofStringB (hB : B σ S) (hk : ok S) {s : Nat} (hs : s < nS S) (a : Int32) : v_X12_ofString (nI s) a σ P = P (aOfS S s a) σ := by
  have h36 := hk.znS
  have ht := hk.ztn s
  have hf := hk.zfr s
  have hb : (if nI (fr S s) = 0 then (0 : Int32) else 1) = bI (fr S s == 1) := by
    rcases (show fr S s = 0 ∨ fr S s = 1 by omega) with e | e <;> rw [e] <;> rfl
  unfold v_X12_ofString aOfS
  rw [q_isString_n hB hk hs, w_1]
  simp only [w_ite, w_in (vi (show s < 36 by omega) (by omega)), nI_clamp (show s < 2 ^ 31 by omega), hB.ztn (show s < 36 by omega), hB.zfr (show s < 36 by omega), q_classOf hB hk (show s < 36 by omega), q_wholeFeltsB hB hk (show s < 36 by omega), w_P, hb]
theorem t_ofString (h : RR σ) (a1 a2 : Int32) : v_X11_ofString a1 a2 σ (fun r σ => v_X12_ofString a1 a2 σ (fun r2 σ => r = r2 ∧ RR σ)) := by
  have hR := h
  obtain ⟨S, hA, hB, hk⟩ := h
  have h36 := hk.znS
  rcases rg a1 (nS S) (by omega) with ⟨s, hs, rfl⟩ | ho
  · rw [q_ofStringA hA hk hs, q_ofStringB hB hk hs]
    exact ⟨rfl, hR⟩
  · unfold v_X11_ofString v_X12_ofString
    rw [q_knowsS_o hA ho, w_0]; dsimp only; rw [q_isString_o hB ho, w_0]
    exact ⟨rfl, hR⟩
def aOfB (S : St) (b : Nat) (a : Int32) : Int32 := if a = 0 then nI (kdo (bk S b)) else if a = 1 then bcI (bk S b) else if a = 2 then nI (fb_ct (fun s => decide (0 < fe S b s ∧ fe S b s ≤ 2)) (nS S)) else if a = 3 then nI (fb_ct (fun s => decide (0 < fe S b s ∧ fe S b s ≤ 1)) (nS S)) else if a = 4 then nI (cw S (2 ^ b)) else if a = 5 then nI (pl S b) else -2
theorem hsh_one {b : Nat} (hb : b < nB S) (s : Nat) : hsh S (2 ^ b) s = (fe S b s == 2) := by
  unfold hsh
  cases e : fe S b s == 2
  · rw [ex_no]
    intro i _
    rw [Nat.testBit_two_pow]
    by_cases q : b = i
    · subst q; simp [e]
    · simp [q]
  · rw [ex_iff]
    exact ⟨b, hb, by rw [Nat.testBit_two_pow, e]; simp⟩
theorem cam_one (hk : ok S) {b : Nat} (hb : b < nB S) : cam S (not64 (who S b)) = cw S (2 ^ b) := by
  rw [← cam_cw hk]
  unfold hus who
  simp only [hsh_one hb]
theorem q_ofBarA (hA : A σ S) (hk : ok S) {b : Nat} (hb : b < nB S) (a : Int32) : v_X11_ofBar (nI b) a σ P = P (aOfB S b a) σ := by
  have h12 := hk.znB
  unfold v_X11_ofBar aOfB
  rw [q_knowsB_n hA hk hb, w_1, w_in (vi (show b < 12 by omega) (by omega))]
  simp only [w_ite, nI_clamp (show b < 2 ^ 31 by omega), q_kind hA hk hb, hA.zbk hb, hA.zfls hb, q_feltsA hA hk hb, hA.zwos hb, q_wornA hA hk hb, q_wholeOnes hA hk hb, l_not (who_lt S b), q_classesAmong hA hk (not64_lt (n := who S b)), cam_one hk hb, hA.zpl hb, w_P]
theorem q_ofBarB (hB : B σ S) (hk : ok S) {b : Nat} (hb : b < nB S) (a : Int32) : v_X12_ofBar (nI b) a σ P = P (aOfB S b a) σ := by
  have h12 := hk.znB
  have hp : 2 ^ b < 2 ^ 31 := Nat.pow_lt_pow_right (by decide) (by omega)
  have e2 : v_X12_feltsOf (nI b) 2 σ = fun P => P (nI (fb_ct (fun s => decide (0 < fe S b s ∧ fe S b s ≤ 2)) (nS S))) σ := funext fun P => q_feltsOf (c := 2) hB hk hb (by omega)
  have e1 : v_X12_feltsOf (nI b) 1 σ = fun P => P (nI (fb_ct (fun s => decide (0 < fe S b s ∧ fe S b s ≤ 1)) (nS S))) σ := funext fun P => q_feltsOf (c := 1) hB hk hb (by omega)
  unfold v_X12_ofBar aOfB
  rw [q_isBar_n hB hk hb, w_1]
  simp only [w_ite, w_in (vi (show b < 12 by omega) (by omega)), nI_clamp (show b < 2 ^ 31 by omega), hB.zkd hb, hB.zbk hb, hB.zpl hb, e2, e1, ish1 b (show b < 31 by omega), q_classesWith hB hk hp, w_P]
theorem t_ofBar (h : RR σ) (a1 a2 : Int32) : v_X11_ofBar a1 a2 σ (fun r σ => v_X12_ofBar a1 a2 σ (fun r2 σ => r = r2 ∧ RR σ)) := by
  have hR := h
  obtain ⟨S, hA, hB, hk⟩ := h
  have h12 := hk.znB
  rcases rg a1 (nB S) (by omega) with ⟨s, hs, rfl⟩ | ho
  · rw [q_ofBarA hA hk hs, q_ofBarB hB hk hs]
    exact ⟨rfl, hR⟩
  · unfold v_X11_ofBar v_X12_ofBar
    rw [q_knowsB_o hA ho, w_0]; dsimp only; rw [q_isBar_o hB ho, w_0]
    exact ⟨rfl, hR⟩
theorem i_36 (b s : Nat) : (36 : Int32) * nI b + nI s = nI (36 * b + s) := by rw [← nI_add, ← pk_mul]; rfl
theorem i_24 (b s : Nat) : (24 : Int32) * nI b + nI s = nI (24 * b + s) := by rw [← nI_add, ← pk_mul]; rfl
theorem i_64 (b s : Nat) : (64 : Int32) * nI b + nI s = nI (64 * b + s) := by rw [← nI_add, ← pk_mul]; rfl
theorem i_12 (b s : Nat) : (12 : Int32) * nI b + nI s = nI (12 * b + s) := by rw [← nI_add, ← pk_mul]; rfl
theorem i_79 (b s : Nat) : (79 : Int32) * nI b + nI s = nI (79 * b + s) := by rw [← nI_add, ← pk_mul]; rfl
theorem q_fe (hB : B σ S) (hk : ok S) {b s : Nat} (hb : b < nB S) (hs : s < 36) : σ.1 39 (Int32.toNatClampNeg (36 * nI b + nI s)) = nI (fe S b s) := by
  have := hk.znB
  rw [i_36, nI_clamp (by omega), hB.zfe hb hs]
theorem q_feIn (hk : ok S) {b s : Nat} (hb : b < nB S) (hs : s < 36) : vp_in (36 * nI b + nI s) 432 := by
  have := hk.znB
  rw [i_36]; exact vi (by omega) (by omega)
theorem t_has (h : RR σ) (a1 a2 : Int32) : v_X11_has a1 a2 σ (fun r σ => v_X12_has a1 a2 σ (fun r2 σ => r = r2 ∧ RR σ)) := by
  have hR := h
  obtain ⟨S, hA, hB, hk⟩ := h
  have h12 := hk.znB
  have h36 := hk.znS
  unfold v_X11_has v_X12_has
  rcases rg a1 (nB S) (by omega) with ⟨b, hb, rfl⟩ | ho
  · rcases rg a2 (nS S) (by omega) with ⟨s, hs, rfl⟩ | ho
    · have hf := hk.zfe b s
      rw [q_knowsB_n hA hk hb, w_1, q_knowsS_n hA hk hs, w_1, w_in (vi (show b < 12 by omega) (by omega)), nI_clamp (by omega), q_hasFelt hA hk hb (by omega), w_bI, q_isWorn hA hk hb (by omega), w_bI]
      simp only [q_isBar_n hB hk hb, w_1, q_isString_n hB hk hs, w_in (q_feIn hk hb (show s < 36 by omega)), q_fe hB hk hb (show s < 36 by omega)]
      rcases (show fe S b s = 0 ∨ fe S b s = 1 ∨ fe S b s = 2 by omega) with e | e | e
      · simp only [fe, e]; exact ⟨rfl, hR⟩
      · simp only [fe, e]; exact ⟨rfl, hR⟩
      · simp only [fe, e]; exact ⟨rfl, hR⟩
    · rw [q_knowsB_n hA hk hb, w_1, q_knowsS_o hA ho, w_0]; dsimp only; rw [q_isBar_n hB hk hb, w_1, q_isString_o hB ho, w_0]
      exact ⟨rfl, hR⟩
  · rw [q_knowsB_o hA ho, w_0]; dsimp only; rw [q_isBar_o hB ho, w_0]
    exact ⟨rfl, hR⟩
theorem p12 (hk : ok S) : 2 ^ nB S ≤ 4096 := Nat.pow_le_pow_right (n := 2) (by decide) hk.znB
theorem p12o (hk : ok S) : 2 ^ nF S ≤ 4096 := Nat.pow_le_pow_right (n := 2) (by decide) hk.znO
theorem hus_tb (S : St) (set : Nat) {s : Nat} (hs : s < 36) : (hus S set).testBit s = hsh S set s := by
  unfold hus; rw [nb_tb]; simp [hs]
theorem t_sounds (h : RR σ) (a1 a2 : Int32) : v_X11_sounds a1 a2 σ (fun r σ => v_X12_sounds a1 a2 σ (fun r2 σ => r = r2 ∧ RR σ)) := by
  have hR := h
  obtain ⟨S, hA, hB, hk⟩ := h
  have h12 := p12 hk
  have h36 := hk.znS
  unfold v_X11_sounds v_X12_sounds v_X11_sounds_J47
  rcases rg a2 (nS S) (by omega) with ⟨s, hs, rfl⟩ | ho
  · rcases rg a1 (2 ^ nB S) (by omega) with ⟨b, hb, rfl⟩ | ho
    · rw [q_knowsS_n hA hk hs, w_1, q_isSetA_n hA hk hb, w_1, q_hushed hA hk (by omega), q_hasBit (hus_lt S b) (by omega), w_bI, hus_tb S b (by omega), q_asNumber_0, q_asNumber_1]
      simp only [q_isString_n hB hk hs, w_1, q_isSetB_n hB hk hb, q_doesSound hB hk (show s < 36 by omega) (show b < 2 ^ 31 by omega), w_bI]
      cases hsh S b s
      · exact ⟨trivial, hR⟩
      · exact ⟨trivial, hR⟩
    · rw [q_knowsS_n hA hk hs, w_1, q_isSetA_o hA hk ho, w_0]; dsimp only; rw [q_isString_n hB hk hs, w_1, q_isSetB_o hB hk ho, w_0]
      exact ⟨rfl, hR⟩
  · rw [q_knowsS_o hA ho, w_0]; dsimp only; rw [q_isString_o hB ho, w_0]
    exact ⟨rfl, hR⟩
theorem q_classesA (hA : A σ S) (hk : ok S) {set : Nat} (hs : set < 2 ^ nB S) : v_X7_hushed (nI set) σ (fun r_2 σ_1 => v_X10_classesAmong (r_2 ^^^ -1) σ_1 P) = P (nI (cw S set)) σ := by
  have h12 := p12 hk
  rw [q_hushed hA hk (by omega), l_not (hus_lt S set), q_classesAmong hA hk not64_lt, cam_cw hk]
theorem t_classes (h : RR σ) (a1 : Int32) : v_X11_classes a1 σ (fun r σ => v_X12_classes a1 σ (fun r2 σ => r = r2 ∧ RR σ)) := by
  have hR := h
  obtain ⟨S, hA, hB, hk⟩ := h
  have h12 := p12 hk
  unfold v_X11_classes v_X12_classes
  rcases rg a1 (2 ^ nB S) (by omega) with ⟨b, hb, rfl⟩ | ho
  · rw [q_isSetA_n hA hk hb, w_1, q_classesA hA hk hb]; dsimp only; rw [q_isSetB_n hB hk hb, w_1, q_classesWith hB hk (by omega)]
    exact ⟨rfl, hR⟩
  · rw [q_isSetA_o hA hk ho, w_0]; dsimp only; rw [q_isSetB_o hB hk ho, w_0]
    exact ⟨rfl, hR⟩
theorem t_chord (h : RR σ) (a1 : Int32) : v_X11_chord a1 σ (fun r σ => v_X12_chord a1 σ (fun r2 σ => r = r2 ∧ RR σ)) := by
  unfold v_X11_chord v_X12_chord
  rcases rg a1 96 (by omega) with ⟨c, hc, rfl⟩ | ho
  · rw [q_isChord_n hc, w_1, q_classesOfA hc]; dsimp only; rw [q_isChordM_n hc, w_1, q_classesOfB hc]
    exact ⟨rfl, h⟩
  · rw [q_isChord_o ho, w_0]; dsimp only; rw [q_isChordM_o ho, w_0]
    exact ⟨rfl, h⟩
theorem cw_lt (S : St) (set : Nat) : cw S set < 4096 := nb_lt _ 12
theorem t_gives (h : RR σ) (a1 a2 : Int32) : v_X11_gives a1 a2 σ (fun r σ => v_X12_gives a1 a2 σ (fun r2 σ => r = r2 ∧ RR σ)) := by
  have hR := h
  obtain ⟨S, hA, hB, hk⟩ := h
  have h12 := p12 hk
  unfold v_X11_gives v_X12_gives v_X11_gives_J52
  rcases rg a1 (2 ^ nB S) (by omega) with ⟨b, hb, rfl⟩ | ho
  · rcases rg a2 96 (by omega) with ⟨c, hc, rfl⟩ | ho
    · rw [q_isSetA_n hA hk hb, w_1, q_isChord_n hc, w_1, q_classesA hA hk hb]
      simp only [q_classesOfA hc, q_asNumber_0, q_asNumber_1, q_isSetB_n hB hk hb, w_1, q_isChordM_n hc, q_classesWith hB hk (show b < 2 ^ 31 by omega), q_classesOfB hc]
      by_cases e : nI (cw S b) = nI (clo c)
      · rw [w_t e, w_t e]; exact ⟨trivial, hR⟩
      · rw [w_f e, w_f e]; exact ⟨trivial, hR⟩
    · rw [q_isSetA_n hA hk hb, w_1, q_isChord_o ho, w_0]; dsimp only; rw [q_isSetB_n hB hk hb, w_1, q_isChordM_o ho, w_0]
      exact ⟨rfl, hR⟩
  · rw [q_isSetA_o hA hk ho, w_0]; dsimp only; rw [q_isSetB_o hB hk ho, w_0]
    exact ⟨rfl, hR⟩
theorem t_lack (h : RR σ) (a1 : Int32) : v_X11_lack a1 σ (fun r σ => v_X12_lack a1 σ (fun r2 σ => r = r2 ∧ RR σ)) := by
  have hR := h
  obtain ⟨S, hA, hB, hk⟩ := h
  unfold v_X11_lack v_X12_lack
  rcases rg a1 96 (by omega) with ⟨c, hc, rfl⟩ | ho
  · rw [q_isChord_n hc, w_1, q_classesOfA hc, q_all hA hk, q_allClassesA hA hk]; dsimp only; rw [q_isChordM_n hc, w_1, q_classesOfB hc, q_allClassesB hB hk]
    exact ⟨rfl, hR⟩
  · rw [q_isChord_o ho, w_0]; dsimp only; rw [q_isChordM_o ho, w_0]
    exact ⟨rfl, hR⟩
theorem t_trace (h : RR σ) : v_X11_trace σ (fun r σ => v_X12_trace σ (fun r2 σ => r = r2 ∧ RR σ)) := by
  have hR := h
  obtain ⟨S, hA, hB, hk⟩ := h
  unfold v_X11_trace v_X12_trace
  exact ⟨hA.ztr.trans hB.ztr.symm, hR⟩
theorem t_fault (h : RR σ) : v_X11_fault σ (fun r σ => v_X12_fault σ (fun r2 σ => r = r2 ∧ RR σ)) := by
  have hR := h
  obtain ⟨S, hA, hB, hk⟩ := h
  unfold v_X11_fault v_X12_fault
  exact ⟨hA.zfa.trans hB.zfa.symm, hR⟩
theorem q_freeB (hB : B σ S) (hk : ok S) : v_X12_told_L53 P 5000 0 0 σ = P (nI (fb_ct (fun s => fr S s == 1) (nS S))) σ := by
  have hnS := hk.znS
  refine lp_c (fun n k => v_X12_told_L53 P n (nI (fb_ct (fun s => fr S s == 1) k)) (nI k) σ) _ (nS S) (fun n => ?_) (fun n k hk2 => ?_) 5000 0 (by omega) (by omega)
  · (try dsimp only)
    rw [v_X12_told_L53, hB.znS, w_t (nI_le (Nat.le_refl _) (by omega))]
  · (try dsimp only)
    have h2 := hk.zfr k
    rw [v_X12_told_L53, hB.znS, w_f (nI_ge hk2 (by omega)), w_in (vi (show k < 36 by omega) (by omega)), nI_clamp (by omega), hB.zfr (show k < 36 by omega), nI_1, nI_1, fb_ct_succ, show nI (fb_ct (fun s => fr S s == 1) k) + 0 = nI (fb_ct (fun s => fr S s == 1) k + 0) from nI_add _ 0]
    rcases (show fr S k = 0 ∨ fr S k = 1 by omega) with e | e
    · rw [w_t (by rw [e]; rfl)]; simp [fr, e]
    · rw [w_f (by rw [e]; decide)]; simp [fr, e]
theorem q_freeA (hA : A σ S) (hk : ok S) : v_J13_bitCount_95d88 (σ.2 1 3) σ P = P (nI (fb_ct (fun s => fr S s == 1) (nS S))) σ := by
  have hnS := hk.znS
  rw [hA.zfrs]
  unfold frs
  rw [q_bcL (nb_lt' _ (by omega)), pc_more (nb_lt _ _) (show nS S ≤ 40 by omega), pc_nb]
theorem t_told (h : RR σ) (a1 : Int32) : v_X11_told a1 σ (fun r σ => v_X12_told a1 σ (fun r2 σ => r = r2 ∧ RR σ)) := by
  have hR := h
  obtain ⟨S, hA, hB, hk⟩ := h
  have hc : cal S < 4096 := nb_lt _ 12
  unfold v_X11_told v_X12_told
  by_cases h0 : a1 = 0
  · rw [w_t h0]; dsimp only; rw [w_t h0]; exact ⟨hA.znS.trans hB.znS.symm, hR⟩
  rw [w_f h0]
  by_cases h1 : a1 = 1
  · rw [w_t h1, q_freeA hA hk]; dsimp only; rw [w_f h0, w_t h1, q_freeB hB hk]; exact ⟨rfl, hR⟩
  rw [w_f h1]
  by_cases h2 : a1 = 2
  · rw [w_t h2]; dsimp only; rw [w_f h0, w_f h1, w_t h2]; exact ⟨hA.znB.trans hB.znB.symm, hR⟩
  rw [w_f h2]
  by_cases h3 : a1 = 3
  · rw [w_t h3]; dsimp only; rw [w_f h0, w_f h1, w_f h2, w_t h3]; exact ⟨hA.znG.trans hB.znG.symm, hR⟩
  rw [w_f h3]
  by_cases h4 : a1 = 4
  · rw [w_t h4]; dsimp only; rw [w_f h0, w_f h1, w_f h2, w_f h3, w_t h4]; exact ⟨hA.znO.trans hB.znO.symm, hR⟩
  rw [w_f h4]
  by_cases h5 : a1 = 5
  · rw [w_t h5]; dsimp only; rw [w_f h0, w_f h1, w_f h2, w_f h3, w_f h4, w_t h5]; exact ⟨hA.znR.trans hB.znR.symm, hR⟩
  rw [w_f h5]
  by_cases h6 : a1 = 6
  · rw [w_t h6, q_all hA hk, q_allClassesA hA hk, q_bcN hc]; dsimp only; rw [w_f h0, w_f h1, w_f h2, w_f h3, w_f h4, w_f h5, w_t h6, q_allClassesB hB hk, q_countOf (by omega)]
    exact ⟨rfl, hR⟩
  · rw [w_f h6]; dsimp only; rw [w_f h0, w_f h1, w_f h2, w_f h3, w_f h4, w_f h5, w_f h6]; exact ⟨rfl, hR⟩
end
