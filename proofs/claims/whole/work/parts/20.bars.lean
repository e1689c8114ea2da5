-- ===== bars: cut, felts, places =====
section
variable {σ : Mem} {S : St} {P : Int32 → Mem → Prop} {PV : Mem → Prop} {PJ : Int64 → Mem → Prop}
/-- a bar more: its chord (96: by hand), its felts -/
def stB (S : St) (c : Nat) (g : Nat → Nat) : St := uR (uN (uN (uN S 3 0 0 (nB S + 1)) 6 (nB S) 0 c) 5 (nB S) 0 (nB S)) 4 (nB S) g
theorem stB_nB {c : Nat} {g : Nat → Nat} : nB (stB S c g) = nB S + 1 := by simp [nB, stB, uN_1, uR_1]
theorem stB_bk {c b : Nat} {g : Nat → Nat} : bk (stB S c g) b = if b = nB S then c else bk S b := by simp [bk, stB, uN_1, uR_1]
theorem stB_pl {c b : Nat} {g : Nat → Nat} : pl (stB S c g) b = if b = nB S then nB S else pl S b := by simp [pl, stB, uN_1, uR_1]
theorem stB_fe {c b s : Nat} {g : Nat → Nat} : fe (stB S c g) b s = if b = nB S then g s else fe S b s := by simp [fe, stB, uN_1, uR_1]
theorem stB_o {c : Nat} {g : Nat → Nat} (i j k : Nat) (h : ¬ (3 ≤ i ∧ i ≤ 6)) : (stB S c g).1 i j k = S.1 i j k := by
  unfold stB
  rw [uR_1, if_neg (by omega), uN_1, if_neg (by omega), uN_1, if_neg (by omega), uN_1, if_neg (by omega)]
theorem ok_stB (hk : ok S) {c : Nat} {g : Nat → Nat} (hn : nB S < 12) (hc : c ≤ 96) (hg2 : ∀ s, g s ≤ 2) (hg0 : ∀ s, nS S ≤ s → g s = 0) : ok (stB S c g) := by
  obtain ⟨hs, ⟨b1, b2, b3, b4, b5⟩, hg, ho, ⟨r1, r2, r3, r4⟩, ht2⟩ := hk
  have eR : nR (stB S c g) = nR S := stB_o 14 0 0 (by omega)
  have eS : nS (stB S c g) = nS S := stB_o 0 0 0 (by omega)
  refine ⟨hs, ⟨by rw [stB_nB]; omega, fun b s => ?_, fun b hb s hs2 => ?_, fun b hb => ?_, fun b => ?_⟩, hg, ho, ⟨by rw [eR]; exact r1, fun r hr => ?_, r3, r4⟩, ht2⟩
  · rw [stB_fe]; split
    · exact hg2 s
    · exact b2 b s
  · rw [eS] at hs2
    rw [stB_nB] at hb
    rw [stB_fe]; split
    · exact hg0 s hs2
    · exact b3 b (by omega) s hs2
  · rw [stB_nB] at hb
    rw [stB_pl]; split
    · omega
    · exact b4 b (by omega)
  · rw [stB_bk]; split
    · exact hc
    · exact b5 b
  · rw [stB_nB]
    exact Nat.lt_of_lt_of_le (r2 r (by rw [← eR]; exact hr)) (Nat.pow_le_pow_right (by decide) (by omega))
theorem k_addA (hA : A σ S) (hk : ok S) {c x : Nat} {v : Int32} {g : Nat → Nat} (hn : nB S < 12) (hv : v = bcI c) (hx : x = nb (fun s => g s != 0) 36) (hw : ∀ s, g s ≠ 1) (K : ∀ σ', A σ' (stB S c g) → mS σ σ' → P (nI (nB S)) σ') : v_X7_add v (lN x) σ P := by
  have e64 : bB = 64 := rfl
  unfold v_X7_add
  rw [hA.znB, w_in (vi hn (by omega)), w_in (vi hn (by omega)), w_in (vi hn (by omega)), w_in (vi hn (by omega)), nI_clamp (by omega), nI_1]
  have hF : Fb σ (wI (wJ (wJ (wI (wI σ 5 1 (nI (nB S + 1))) (bB + nB S) 0 v) (bB + nB S) 1 (lN x)) (bB + nB S) 2 0) (bB + nB S) 3 (nI (nB S))) := ((((Fb.rf.I (by omega)).I (by omega)).J (by omega)).J (by omega)).I (by omega)
  refine K _ (hA.b_upd hk.znB hF stB_o rfl ⟨?_, fun b hb => ?_⟩) hF.m
  · rw [m_I1, if_neg (by omega), m_J1, m_J1, m_I1, if_neg (by omega), m_I1, if_pos ⟨rfl, rfl⟩, stB_nB]
  · rw [stB_nB] at hb
    simp only [m_I1, m_J1, m_I2, m_J2, Nat.add_left_cancel_iff, stB_bk, stB_pl]
    by_cases z : b = nB S
    · subst z
      have f1 : fls (stB S c g) (nB S) = x := by rw [hx]; unfold fls; exact nb_cong (fun i _ => by rw [stB_fe, if_pos rfl])
      have f2 : wos (stB S c g) (nB S) = 0 := nb_f (fun i _ => by rw [stB_fe, if_pos rfl]; exact beq_false_of_ne (hw i))
      rw [f1, f2]
      simp [hv]
      rfl
    · have f1 : fls (stB S c g) b = fls S b := by unfold fls; exact nb_cong (fun i _ => by rw [stB_fe, if_neg z])
      have f2 : wos (stB S c g) b = wos S b := by unfold wos; exact nb_cong (fun i _ => by rw [stB_fe, if_neg z])
      have hb2 : b < nB S := by omega
      rw [f1, f2]
      simp only [z, false_and, if_false]
      rw [if_neg (by omega)]
      exact ⟨hA.zbk hb2, hA.zfls hb2, hA.zwos hb2, by rw [if_neg (by omega)]; exact hA.zpl hb2⟩
/-- the felts of a bar cut for a chord -/
def cutg (S : St) (c s : Nat) : Nat := if s < nS S ∧ fr S s = 0 ∧ (clo c).testBit (tn S s % 12) = false then 2 else 0
theorem cutg_2 (c s : Nat) : cutg S c s ≤ 2 := by unfold cutg; split <;> omega
theorem cutg_1 (c s : Nat) : cutg S c s ≠ 1 := by unfold cutg; split <;> omega
theorem cutg_0 (c s : Nat) (h : nS S ≤ s) : cutg S c s = 0 := by unfold cutg; rw [if_neg (by omega)]
theorem q_notOf (h : A σ S) (hk : ok S) {c : Nat} : v_X10_notOfClasses (nI (clo c)) σ PJ = PJ (lN (nb (fun s => cutg S c s != 0) 36)) σ := by
  have hnS := hk.znS
  have hcl := clo_lt c
  unfold v_X10_notOfClasses
  have h0 : nb (fun s => fr S s == 0 && (decide (tn S s % 12 < 0) && !(clo c).testBit (tn S s % 12))) (nS S) = 0 := nb_f (fun i _ => by simp)
  have hend : nb (fun s => fr S s == 0 && (decide (tn S s % 12 < 12) && !(clo c).testBit (tn S s % 12))) (nS S) = nb (fun s => cutg S c s != 0) 36 := by
    have e : nb (fun s => cutg S c s != 0) 36 = nb (fun s => cutg S c s != 0) (nS S) := nb_more _ hnS (fun i h1 _ => by unfold cutg; rw [if_neg (by omega)]; rfl)
    rw [e]
    apply nb_cong
    intro i hi
    have m : tn S i % 12 < 12 := Nat.mod_lt _ (by decide)
    unfold cutg
    cases h1 : (clo c).testBit (tn S i % 12)
    · by_cases h2 : fr S i = 0
      · simp [h2, hi, m]
      · simp [h2]
    · simp
  have := lp_c (fun n k => v_X10_notOfClasses_L5 (nI (clo c)) PJ n (lN (nb (fun s => fr S s == 0 && (decide (tn S s % 12 < k) && !(clo c).testBit (tn S s % 12))) (nS S))) (nI k) σ) (PJ (lN (nb (fun s => cutg S c s != 0) 36)) σ) 12 (fun n => ?_) (fun n k hk2 => ?_) 5000 0 (by omega) (by omega)
  · (try dsimp only at this)
    rw [h0] at this
    exact this
  · (try dsimp only)
    rw [v_X10_notOfClasses_L5, w_t (show (12 : Int32) ≤ nI 12 by decide), hend]
  · (try dsimp only)
    rw [v_X10_notOfClasses_L5, w_f (show ¬ (12 : Int32) ≤ nI k from nI_ge (b := 12) hk2 (by omega)), q_hasBitI (by omega) (by omega), w_bI, nI_1]
    cases e : (clo c).testBit k
    · rw [if_neg (by decide), w_in (vi hk2 (by omega)), nI_clamp (by omega), h.zofC hk2, fb_orL]
      congr 2
      apply nb_of
      · exact Nat.or_lt_two_pow (nb_lt _ _) (nb_lt _ _)
      · intro i hi
        unfold ofC
        rw [Nat.testBit_or, nb_tb, nb_tb]
        simp only [hi, decide_true, Bool.true_and]
        by_cases z : tn S i % 12 = k
        · rw [z]; simp [e]
        · rw [show decide (tn S i % 12 < k + 1) = decide (tn S i % 12 < k) from decide_eq_decide.mpr (by omega)]
          simp [z]
    · rw [if_pos rfl]
      congr 2
      apply nb_cong
      intro i _
      by_cases z : tn S i % 12 = k
      · rw [z]; simp [e]
      · rw [show decide (tn S i % 12 < k + 1) = decide (tn S i % 12 < k) from decide_eq_decide.mpr (by omega)]
-- the reference
theorem k_newBar (hB : B σ S) (hk : ok S) {kd ch : Int32} (hn : nB S < 12) (K : ∀ σ', Gb σ σ' → σ'.1 33 5 = nI (nB S + 1) → (∀ b, b ≤ nB S → σ'.1 36 b = if b = nB S then kd else σ.1 36 b) → (∀ b, b ≤ nB S → σ'.1 37 b = if b = nB S then ch else σ.1 37 b) → (∀ b, b ≤ nB S → σ'.1 38 b = if b = nB S then nI (nB S) else σ.1 38 b) → (∀ i, i < 36 * nB S + 36 → σ'.1 39 i = if 36 * nB S ≤ i then 0 else σ.1 39 i) → P (nI (nB S)) σ') : v_X12_newBar kd ch σ P := by
  unfold v_X12_newBar
  rw [hB.znB, w_in (vi hn (by omega)), nI_clamp (by omega)]
  have e1 : (wI σ 36 (nB S) kd).1 33 5 = nI (nB S) := by rw [m_I1, if_neg (by omega), hB.znB]
  rw [e1, w_in (vi hn (by omega)), nI_clamp (by omega)]
  have e2 : (wI (wI σ 36 (nB S) kd) 37 (nB S) ch).1 33 5 = nI (nB S) := by rw [m_I1, if_neg (by omega), e1]
  rw [e2, w_in (vi hn (by omega)), nI_clamp (by omega)]
  refine lp_i (fun n k s => v_X12_newBar_L35 _ P n (nI k) s) (fun k s => Gb σ s ∧ s.1 33 5 = nI (nB S) ∧ (∀ b, b ≤ nB S → s.1 36 b = if b = nB S then kd else σ.1 36 b) ∧ (∀ b, b ≤ nB S → s.1 37 b = if b = nB S then ch else σ.1 37 b) ∧ (∀ b, b ≤ nB S → s.1 38 b = if b = nB S then nI (nB S) else σ.1 38 b) ∧ (∀ i, i < 36 * nB S + k → s.1 39 i = if 36 * nB S ≤ i then 0 else σ.1 39 i)) 36 (fun n s hI => ?_) (fun n k s hk2 hI ih => ?_) 5000 0 _ (by omega) (by omega) ?_
  · obtain ⟨c0, c1, c2, c3, c4, c5⟩ := hI
    (try dsimp only)
    rw [v_X12_newBar_L35, w_t (show (36 : Int32) ≤ nI 36 by decide)]
    (try dsimp only)
    rw [c1, nI_1, m_I1, if_pos ⟨rfl, rfl⟩, nI_pred]
    refine K _ (c0.I (by omega)) ?_ (fun b hb => ?_) (fun b hb => ?_) (fun b hb => ?_) (fun i hi => ?_)
    · rw [m_I1, if_pos ⟨rfl, rfl⟩]
    · rw [m_I1, if_neg (by omega), c2 b hb]
    · rw [m_I1, if_neg (by omega), c3 b hb]
    · rw [m_I1, if_neg (by omega), c4 b hb]
    · rw [m_I1, if_neg (by omega), c5 i hi]
  · obtain ⟨c0, c1, c2, c3, c4, c5⟩ := hI
    (try dsimp only)
    rw [v_X12_newBar_L35, w_f (show ¬ (36 : Int32) ≤ nI k from nI_ge (b := 36) hk2 (by omega)), c1, i_36, w_in (vi (by omega) (by omega)), nI_clamp (by omega), nI_1]
    refine ih _ ⟨c0.I (by omega), ?_, fun b hb => ?_, fun b hb => ?_, fun b hb => ?_, fun i hi => ?_⟩
    · rw [m_I1, if_neg (by omega), c1]
    · rw [m_I1, if_neg (by omega), c2 b hb]
    · rw [m_I1, if_neg (by omega), c3 b hb]
    · rw [m_I1, if_neg (by omega), c4 b hb]
    · rw [m_I1]
      by_cases z : i = 36 * nB S + k
      · rw [if_pos ⟨rfl, z⟩, if_pos (by omega)]
      · rw [if_neg (fun q => z q.2), c5 i (by omega)]
  · refine ⟨((Gb.rf.I (by omega)).I (by omega)).I (by omega), ?_, fun b hb => ?_, fun b hb => ?_, fun b hb => ?_, fun i hi => ?_⟩
    · rw [m_I1, if_neg (by omega), e2]
    · simp only [m_I1]; simp
    · simp only [m_I1]; simp
    · simp only [m_I1]; simp
    · simp only [m_I1]; simp; omega
theorem k_newBarC (hB : B σ S) (hk : ok S) {c : Nat} {kd ch : Int32} (hkd : kd = nI (kdo c)) (hch : ch = bcI c) (hn : nB S < 12) (K : ∀ σ', B σ' (stB S c (fun _ => 0)) → cS σ σ' → P (nI (nB S)) σ') : v_X12_newBar kd ch σ P := by
  refine k_newBar hB hk hn (fun σ' g c1 c2 c3 c4 c5 => K σ' (hB.b_upd g stB_o rfl ⟨by rw [c1, stB_nB], fun b hb => ?_⟩) g.c)
  rw [stB_nB] at hb
  refine ⟨?_, ?_, ?_, fun s hs => ?_⟩
  · rw [c2 b (by omega), stB_bk]
    split
    · exact hkd
    · exact hB.zkd (by omega)
  · rw [c3 b (by omega), stB_bk]
    split
    · exact hch
    · exact hB.zbk (by omega)
  · rw [c4 b (by omega), stB_pl]
    split
    · rfl
    · exact hB.zpl (by omega)
  · rw [c5 _ (by omega), stB_fe]
    by_cases z : b = nB S
    · rw [if_pos (by omega), if_pos z]; rfl
    · rw [if_neg (by omega), if_neg z, hB.zfe (by omega) hs]
/-- a felt is written -/
theorem B_fe (hB : B σ S) {b s v : Nat} {x : Int32} (hx : x = nI v) (hb : b < nB S) (hs : s < 36) : B (wI σ 39 (36 * b + s) x) (uN S 4 b s v) := by
  have g : Gb σ (wI σ 39 (36 * b + s) x) := Gb.rf.I (by omega)
  refine hB.b_upd g (fun i j k hi => by rw [uN_1, if_neg (by omega)]) rfl ⟨?_, fun b2 hb2 => ?_⟩
  · rw [m_I1, if_neg (by omega), hB.znB]; rfl
  · have hb3 : b2 < nB S := hb2
    refine ⟨?_, ?_, ?_, fun j hj => ?_⟩
    · rw [m_I1, if_neg (by omega), hB.zkd hb3]; rfl
    · rw [m_I1, if_neg (by omega), hB.zbk hb3]; rfl
    · rw [m_I1, if_neg (by omega), hB.zpl hb3]; rfl
    · rw [m_I1]
      show _ = nI ((uN S 4 b s v).1 4 b2 j)
      rw [uN_1]
      by_cases z : b2 = b ∧ j = s
      · rw [if_pos ⟨rfl, by omega⟩, if_pos ⟨rfl, z.1, z.2⟩, hx]
      · rw [if_neg (by omega), if_neg (fun q => z q.2), hB.zfe hb3 hj]
theorem stB_up {c k v : Nat} {g g2 : Nat → Nat} (h : ∀ j, g2 j = if j = k then v else g j) : uN (stB S c g) 4 (nB S) k v = stB S c g2 := by
  apply Prod.ext
  · funext i j l
    unfold stB
    rw [uN_1, uR_1, uR_1]
    by_cases z : i = 4 ∧ j = nB S
    · rw [if_pos z, if_pos z, h]
      by_cases y : l = k
      · rw [if_pos ⟨z.1, z.2, y⟩, if_pos y]
      · rw [if_neg (fun q => y q.2.2), if_neg y]
    · rw [if_neg (fun q => z ⟨q.1, q.2.1⟩), if_neg z, if_neg z]
  · rfl
theorem q_isSeventh {c : Nat} (hc : c < 96) : v_X12_isSeventh (nI c) σ P = P (bI (kdo c == 2)) σ := by
  unfold v_X12_isSeventh kdo
  rw [i_12d (by omega), if_pos hc]
  simp only [w_ite]
  have e2 : (nI (c / 12) = 2) = (c / 12 = 2) := i_eq (b := 2) (by omega) (by omega)
  have e3 : (nI (c / 12) = 3) = (c / 12 = 3) := i_eq (b := 3) (by omega) (by omega)
  have e6 : (nI (c / 12) = 6) = (c / 12 = 6) := i_eq (b := 6) (by omega) (by omega)
  simp only [e2, e3, e6]
  by_cases c2 : c / 12 = 2
  · simp [c2]; rfl
  · by_cases c3 : c / 12 = 3
    · simp [c3]; rfl
    · by_cases c6 : c / 12 = 6
      · simp [c6]; rfl
      · simp [c2, c3, c6]; rfl
theorem q_hushes (hB : B σ S) (hk : ok S) {c s : Nat} (hc : c < 96) (hs : s < nS S) : v_X12_hushes (nI c) (nI s) σ P = P (bI (cutg S c s == 2)) σ := by
  have hnS := hk.znS
  have hf := hk.zfr s
  have hcl := clo_lt c
  have m : tn S s % 12 < 12 := Nat.mod_lt _ (by decide)
  unfold v_X12_hushes cutg
  rw [w_in (vi (by omega) (by omega)), nI_clamp (by omega), hB.zfr (by omega)]
  rcases (show fr S s = 0 ∨ fr S s = 1 by omega) with z | z
  · rw [z, w_t (by rfl), q_classesOfB hc, q_classOf hB hk (by omega), i_bit (by omega) (by omega), w_bI]
    cases (clo c).testBit (tn S s % 12)
    · simp [hs, bI]
    · simp [bI]
  · rw [z, w_f (by decide)]
    simp [bI]
theorem k_cutFor (hB : B σ S) (hk : ok S) {c : Nat} (hc : c < 96) (hn : nB S < 12) (K : ∀ σ', B σ' (stB S c (cutg S c)) → cS σ σ' → P (nI (nB S)) σ') : v_X12_cutFor (nI c) σ P := by
  have hnS := hk.znS
  have main : ∀ v : Int32, v = nI (kdo c) → v_X12_cutFor_J13 P (nI c) v σ := by
    intro v hv
    unfold v_X12_cutFor_J13
    refine k_newBarC hB hk (c := c) hv (by unfold bcI; rw [if_pos hc]) hn (fun σ1 hB1 c1 => ?_)
    refine lp_i (fun n k s => v_X12_cutFor_L20 (nI c) (nI (nB S)) P n (nI k) s) (fun k s => B s (stB S c (fun j => if j < k then cutg S c j else 0)) ∧ cS σ s) (nS S) (fun n s hI => ?_) (fun n k s hk2 hI ih => ?_) 5000 0 _ (by omega) (by omega) ⟨hB1, c1⟩
    · obtain ⟨d0, d1⟩ := hI
      (try dsimp only)
      have e : (fun j => if j < nS S then cutg S c j else 0) = cutg S c := funext fun j => by
        split
        · rfl
        · unfold cutg; rw [if_neg (by omega)]
      rw [e] at d0
      rw [v_X12_cutFor_L20, d0.znS, show nS (stB S c (cutg S c)) = nS S from rfl, w_t (nI_le (Nat.le_refl _) (by omega))]
      exact K s d0 d1
    · obtain ⟨d0, d1⟩ := hI
      (try dsimp only)
      have hk1 : ok (stB S c (fun j => if j < k then cutg S c j else 0)) := ok_stB hk hn (by omega) (fun s => by
        by_cases z : s < k
        · rw [if_pos z]; exact cutg_2 c s
        · rw [if_neg z]; omega) (fun s h => by rw [if_neg (by omega)])
      have e1 : nS (stB S c (fun j => if j < k then cutg S c j else 0)) = nS S := rfl
      have e2 : nB (stB S c (fun j => if j < k then cutg S c j else 0)) = nB S + 1 := stB_nB
      have e3 : cutg (stB S c (fun j => if j < k then cutg S c j else 0)) c k = cutg S c k := rfl
      rw [v_X12_cutFor_L20, d0.znS, w_f (nI_ge (by omega) (by omega)), q_hushes d0 hk1 hc (by omega), w_bI, e3, i_36, w_in (vi (by omega) (by omega)), w_in (vi (by omega) (by omega)), nI_clamp (by omega), nI_1]
      have fin : ∀ (v : Nat) (x : Int32), x = nI v → v = cutg S c k → v_X12_cutFor_L20 (nI c) (nI (nB S)) P n (nI (k + 1)) (wI s 39 (36 * nB S + k) x) := by
        intro v x hx hv2
        have hb := B_fe d0 (b := nB S) (s := k) hx (by omega) (by omega)
        rw [stB_up (g2 := fun j => if j < k + 1 then cutg S c j else 0) (fun j => by
          by_cases z : j = k
          · subst z; rw [if_pos (by omega), if_pos rfl, hv2]
          · rw [if_neg z]
            by_cases y : j < k
            · rw [if_pos (by omega), if_pos y]
            · rw [if_neg (by omega), if_neg y])] at hb
        exact ih _ ⟨hb, d1.I (by omega)⟩
      by_cases z : cutg S c k = 2
      · rw [if_pos (by rw [z]; rfl)]; exact fin 2 2 rfl z.symm
      · have z0 : cutg S c k = 0 := by unfold cutg at z ⊢; split at z <;> simp_all
        rw [if_neg (by rw [z0]; decide)]; exact fin 0 0 rfl z0.symm
  unfold v_X12_cutFor
  rw [q_isSeventh hc, w_bI]
  have hkd : kdo c = 1 ∨ kdo c = 2 := by unfold kdo; rw [if_pos hc]; split <;> simp
  rcases hkd with e | e
  · rw [e, if_neg (by decide)]; exact main 1 (by rw [e]; rfl)
  · rw [e, if_pos (by decide)]; exact main 2 (by rw [e]; rfl)
theorem q_isFullB_n (hA : A σ S) (hk : ok S) (hn : nB S < 12) : v_X7_isFull σ P = P 0 σ := by
  unfold v_X7_isFull
  rw [hA.znB, w_t (show nI (nB S) < 12 from (nI_ltI (b := 12) (by omega) (by omega)).mpr hn)]
theorem q_isFullB_y (hA : A σ S) (hk : ok S) (hn : ¬ nB S < 12) : v_X7_isFull σ P = P 1 σ := by
  have := hk.znB
  unfold v_X7_isFull
  rw [hA.znB, w_f (show ¬ nI (nB S) < 12 from fun z => hn ((nI_ltI (b := 12) (by omega) (by omega)).mp z))]
theorem k_barA (hA : A σ S) (hk : ok S) {c : Nat} (hc : c < 96) (hn : nB S < 12) (K : ∀ σ', A σ' (stB S c (cutg S c)) → mS σ σ' → P (nI (nB S)) σ') : v_X11_bar (nI c) σ P := by
  unfold v_X11_bar
  rw [q_isChord_n hc, w_1, q_isFullB_n hA hk hn]; (try dsimp only)
  rw [w_0, q_classesOfA hc, q_notOf hA hk]
  exact k_addA hA hk hn (by unfold bcI; rw [if_pos hc]) rfl (cutg_1 c) K
theorem t_bar (h : RR σ) (a1 : Int32) : v_X11_bar a1 σ (fun r σ => v_X12_bar a1 σ (fun r2 σ => r = r2 ∧ RR σ)) := by
  have hR := h
  obtain ⟨S, hA, hB, hk⟩ := h
  have h12 := hk.znB
  rcases rg a1 96 (by omega) with ⟨c, hc, rfl⟩ | ho
  · by_cases q : nB S < 12
    · refine k_barA hA hk hc q (fun σ1 hA1 m1 => ?_)
      unfold v_X12_bar
      rw [q_isChordM_n hc, w_1, (hB.mS m1).znB, w_f (fun z => by have := (nI_eq (b := 12) (by omega) (by omega)).mp z; omega)]
      exact k_cutFor (hB.mS m1) hk hc q (fun σ2 hB2 m2 => ⟨rfl, _, hA1.cS m2, hB2, ok_stB hk q (by omega) (cutg_2 c) (cutg_0 c)⟩)
    · unfold v_X11_bar v_X12_bar
      rw [q_isChord_n hc, w_1, q_isFullB_y hA hk q]; dsimp only
      rw [w_1, q_isChordM_n hc, w_1, hB.znB, w_t (show nI (nB S) = 12 from (nI_eq (b := 12) (by omega) (by omega)).mpr (by omega))]
      exact ⟨rfl, hR⟩
  · unfold v_X11_bar v_X12_bar
    rw [q_isChord_o ho, w_0]; dsimp only; rw [q_isChordM_o ho, w_0]
    exact ⟨rfl, hR⟩
theorem t_blank (h : RR σ) : v_X11_blank σ (fun r σ => v_X12_blank σ (fun r2 σ => r = r2 ∧ RR σ)) := by
  have hR := h
  obtain ⟨S, hA, hB, hk⟩ := h
  have h12 := hk.znB
  unfold v_X11_blank v_X12_blank
  by_cases q : nB S < 12
  · rw [q_isFullB_n hA hk q]; dsimp only; rw [w_0]
    refine k_addA hA hk (c := 96) (g := fun _ => 0) (x := 0) q rfl (nb_f (fun _ _ => rfl)).symm (fun _ => by omega) (fun σ1 hA1 m1 => ?_)
    rw [(hB.mS m1).znB, w_f (fun z => by have := (nI_eq (b := 12) (by omega) (by omega)).mp z; omega)]
    exact k_newBarC (hB.mS m1) hk (c := 96) rfl rfl q (fun σ2 hB2 m2 => ⟨rfl, _, hA1.cS m2, hB2, ok_stB hk q (by omega) (fun _ => by omega) (fun _ _ => rfl)⟩)
  · rw [q_isFullB_y hA hk q]; dsimp only
    rw [w_1, hB.znB, w_t (show nI (nB S) = 12 from (nI_eq (b := 12) (by omega) (by omega)).mpr (by omega))]
    exact ⟨rfl, hR⟩
-- a felt put, taken, worn
theorem ok_fe (hk : ok S) {b s v : Nat} (hs : s < nS S) (hv : v ≤ 2) : ok (uN S 4 b s v) := by
  obtain ⟨hs0, ⟨b1, b2, b3, b4, b5⟩, hr⟩ := hk
  refine ⟨hs0, ⟨b1, fun i j => ?_, fun i hi j hj => ?_, b4, b5⟩, hr⟩
  · show (uN S 4 b s v).1 4 i j ≤ 2
    rw [uN_1]; split
    · exact hv
    · exact b2 i j
  · show (uN S 4 b s v).1 4 i j = 0
    rw [uN_1, if_neg]
    · exact b3 i hi j hj
    · have : nS S ≤ j := hj
      omega
theorem fe_uN {b s v i j : Nat} : fe (uN S 4 b s v) i j = if i = b ∧ j = s then v else fe S i j := by simp [fe, uN_1]
/-- the class' bits of a bar's felts anew -/
theorem A_fe (hA : A σ S) (hk : ok S) {b s v x y : Nat} (hb : b < nB S) (hs : s < 36) (hx : x = if (fe S b s != 0) = (v != 0) then fls S b else fls S b ^^^ 2 ^ s) (hy : y = if (fe S b s == 1) = (v == 1) then wos S b else wos S b ^^^ 2 ^ s) {σ' : Mem} (hF : Fb σ σ') (h1 : ∀ o k, σ'.1 o k = σ.1 o k) (h2 : ∀ i k, σ'.2 (bB + i) k = if i = b ∧ k = 1 then lN x else if i = b ∧ k = 2 then lN y else σ.2 (bB + i) k) : A σ' (uN S 4 b s v) := by
  refine hA.b_upd hk.znB hF (fun i j k hi => by rw [uN_1, if_neg (by omega)]) rfl ⟨by rw [h1, hA.znB]; rfl, fun i hi => ?_⟩
  have hi2 : i < nB S := hi
  refine ⟨by rw [h1, hA.zbk hi2]; rfl, ?_, ?_, by rw [h1, hA.zpl hi2]; rfl⟩
  · rw [h2]
    by_cases z : i = b
    · subst z
      rw [if_pos ⟨rfl, rfl⟩, hx]
      congr 1
      have := nb_upd (p := fun j => fe S i j != 0) (q := fun j => fe (uN S 4 i s v) i j != 0) (n := 36) hs (fun j _ z => by rw [fe_uN, if_neg (fun q => z q.2)])
      rw [show fe (uN S 4 i s v) i s = v by rw [fe_uN, if_pos ⟨rfl, rfl⟩]] at this
      exact this.symm
    · rw [if_neg (fun q => z q.1), if_neg (fun q => z q.1), hA.zfls hi2]
      congr 1
      exact nb_cong (fun j _ => by rw [fe_uN, if_neg (fun q => z q.1)])
  · rw [h2, if_neg (by omega)]
    by_cases z : i = b
    · subst z
      rw [if_pos ⟨rfl, rfl⟩, hy]
      congr 1
      have := nb_upd (p := fun j => fe S i j == 1) (q := fun j => fe (uN S 4 i s v) i j == 1) (n := 36) hs (fun j _ z => by rw [fe_uN, if_neg (fun q => z q.2)])
      rw [show fe (uN S 4 i s v) i s = v by rw [fe_uN, if_pos ⟨rfl, rfl⟩]] at this
      exact this.symm
    · rw [if_neg (fun q => z q.1), hA.zwos hi2]
      congr 1
      exact nb_cong (fun j _ => by rw [fe_uN, if_neg (fun q => z q.1)])
theorem and_not_bit {p : Nat → Bool} {s : Nat} (hs : s < 36) : nb p 36 &&& not64 (2 ^ s) = if p s = false then nb p 36 else nb p 36 ^^^ 2 ^ s := by
  have hp : 2 ^ s < 2 ^ 64 := Nat.pow_lt_pow_right (by decide) (by omega)
  have hp2 : 2 ^ s < 2 ^ 36 := Nat.pow_lt_pow_right (by decide) (by omega)
  apply tb_ext (k := 36)
  · exact Nat.lt_of_le_of_lt Nat.and_le_left (nb_lt _ 36)
  · split
    · exact nb_lt _ 36
    · exact Nat.xor_lt_two_pow (nb_lt _ 36) hp2
  · intro i hi
    rw [Nat.testBit_and, not64_tb hp, Nat.testBit_two_pow, nb_tb]
    cases h : p s
    · rw [if_pos rfl, nb_tb]
      by_cases z : s = i
      · subst z; simp [h]
      · simp [z, hi]; intro _; omega
    · rw [if_neg (by simp), Nat.testBit_xor, nb_tb, Nat.testBit_two_pow]
      by_cases z : s = i
      · subst z; simp [h, hi]
      · simp [z, hi]; intro _; omega
theorem t_felt (h : RR σ) (a1 a2 a3 : Int32) (hb3 : isB a3) : v_X11_felt a1 a2 a3 σ (fun r σ => v_X12_felt a1 a2 a3 σ (fun r2 σ => r = r2 ∧ RR σ)) := by
  have hR := h
  obtain ⟨S, hA, hB, hk⟩ := h
  have h12 := hk.znB
  have h36 := hk.znS
  obtain ⟨f, rfl⟩ : ∃ f, a3 = bI f := by rcases hb3 with rfl | rfl; exact ⟨false, rfl⟩; exact ⟨true, rfl⟩
  unfold v_X11_felt v_X12_felt
  rcases rg a1 (nB S) (by omega) with ⟨b, hb, rfl⟩ | ho
  · rcases rg a2 (nS S) (by omega) with ⟨s, hs, rfl⟩ | ho
    · have hf := hk.zfe b s
      have hfr := hk.zfr s
      rw [q_knowsB_n hA hk hb, w_1, q_knowsS_n hA hk hs, w_1, q_isFree hA hk hs, w_bI]
      rcases (show fr S s = 1 ∨ fr S s = 0 by omega) with z | z
      · rw [if_pos (by rw [z]; rfl)]; dsimp only
        rw [q_isBar_n hB hk hb, w_1, q_isString_n hB hk hs, w_1, w_in (vi (by omega) (by omega)), nI_clamp (by omega), hB.zfr (by omega), z, w_f (by decide)]
        exact ⟨rfl, hR⟩
      · rw [if_neg (by rw [z]; decide), w_in (vi (by omega) (by omega)), nI_clamp (by omega)]
        unfold v_X0_setFelt
        rw [q_hasFelt hA hk hb (by omega)]
        by_cases e : (fe S b s != 0) = f
        · rw [w_t (by rw [e])]; dsimp only
          rw [q_asNumber_0]; (try dsimp only)
          rw [q_isBar_n hB hk hb, w_1, q_isString_n hB hk hs, w_1, w_in (vi (by omega) (by omega)), nI_clamp (by omega), hB.zfr (by omega), z, w_t (by rfl), w_in (q_feIn hk hb (by omega)), q_fe hB hk hb (by omega)]
          unfold v_X12_felt_J49
          rcases (show fe S b s = 0 ∨ (fe S b s = 1 ∨ fe S b s = 2) by omega) with y | y
          · have ef : f = false := by rw [← e, y]; rfl
            rw [y, w_t (by decide), ef, w_t (by rfl)]
            exact ⟨rfl, hR⟩
          · have ef : f = true := by rw [← e]; rcases y with y | y <;> rw [y] <;> rfl
            rw [w_f (by rcases y with y | y <;> rw [y] <;> decide), ef, w_t (by rfl)]
            exact ⟨rfl, hR⟩
        · rw [w_f (fun q => e (by rw [bI_inj] at q; exact q))]; dsimp only
          rw [q_asNumber_1]
          have hx : ∀ v : Nat, (v != 0) = f → v ≠ 1 → (if (fe S b s != 0) = (v != 0) then fls S b else fls S b ^^^ 2 ^ s) = fls S b ^^^ 2 ^ s := fun v hv _ => by rw [hv, if_neg e]
          have hwos : wos S b &&& not64 (2 ^ s) = if (fe S b s == 1) = false then wos S b else wos S b ^^^ 2 ^ s := and_not_bit (by omega)
          have e64 : bB = 64 := rfl
          have l1 : (2 ^ s : Nat) < 2 ^ 64 := Nat.pow_lt_pow_right (by decide) (by omega)
          have hA1 : ∀ v : Nat, (v != 0) = f → v ≠ 1 → A (wJ (wJ σ (bB + b) 1 (σ.2 (bB + b) 1 ^^^ ((1 : Int64) <<< (Int32.toInt64 (nI s) &&& 63)))) (bB + b) 2 ((wJ σ (bB + b) 1 (σ.2 (bB + b) 1 ^^^ ((1 : Int64) <<< (Int32.toInt64 (nI s) &&& 63)))).2 (bB + b) 2 &&& (((1 : Int64) <<< (Int32.toInt64 (nI s) &&& 63)) ^^^ -1))) (uN S 4 b s v) := by
            intro v hv hv1
            refine A_fe hA hk hb (by omega) (hx v hv hv1).symm (y := wos S b &&& not64 (2 ^ s)) ?_ ((Fb.rf.J (by omega)).J (by omega)) (fun o k => rfl) (fun i k => ?_)
            · rw [hwos, show (v == 1) = false from beq_false_of_ne hv1]
            · simp only [m_J2, Nat.add_left_cancel_iff, l_sh1 (show s < 64 by omega), l_not l1, hA.zfls hb, hA.zwos hb, fb_xorL, fb_andL]
              by_cases y1 : i = b
              · subst y1
                by_cases y2 : k = 2
                · subst y2; simp; rw [fb_andL]
                · by_cases y3 : k = 1
                  · subst y3; simp
                  · simp [y2, y3]
              · simp [y1]
          have hmS : mS σ (wJ (wJ σ (bB + b) 1 (σ.2 (bB + b) 1 ^^^ ((1 : Int64) <<< (Int32.toInt64 (nI s) &&& 63)))) (bB + b) 2 ((wJ σ (bB + b) 1 (σ.2 (bB + b) 1 ^^^ ((1 : Int64) <<< (Int32.toInt64 (nI s) &&& 63)))).2 (bB + b) 2 &&& (((1 : Int64) <<< (Int32.toInt64 (nI s) &&& 63)) ^^^ -1))) := fun _ _ _ _ => rfl
          have hB1 := hB.mS hmS
          generalize wJ (wJ σ (bB + b) 1 (σ.2 (bB + b) 1 ^^^ ((1 : Int64) <<< (Int32.toInt64 (nI s) &&& 63)))) (bB + b) 2 ((wJ σ (bB + b) 1 (σ.2 (bB + b) 1 ^^^ ((1 : Int64) <<< (Int32.toInt64 (nI s) &&& 63)))).2 (bB + b) 2 &&& (((1 : Int64) <<< (Int32.toInt64 (nI s) &&& 63)) ^^^ -1)) = σ1 at hA1 hB1 ⊢
          (try dsimp only)
          rw [q_isBar_n hB1 hk hb, w_1, q_isString_n hB1 hk hs, w_1, w_in (vi (by omega) (by omega)), nI_clamp (by omega), hB1.zfr (by omega), z, w_t (by rfl), w_in (q_feIn hk hb (by omega)), q_fe hB1 hk hb (by omega)]
          unfold v_X12_felt_J49
          have fin : ∀ v : Nat, ∀ x : Int32, x = nI v → (v != 0) = f → v ≠ 1 → v ≤ 2 → RR (wI σ1 39 (36 * b + s) x) := fun v x hx hv hv1 hv2 =>
            ⟨_, (hA1 v hv hv1).cS (cS.rf.I (by omega)), B_fe hB1 hx hb (by omega), ok_fe hk hs hv2⟩
          rcases (show fe S b s = 0 ∨ (fe S b s = 1 ∨ fe S b s = 2) by omega) with y | y
          · have ef : f = true := by rw [y] at e; cases f <;> simp_all
            rw [y, w_t (by decide), ef, w_f (by decide), w_f (by decide), w_in (q_feIn hk hb (by omega)), i_36, nI_clamp (by omega)]
            exact ⟨rfl, fin 2 2 rfl (by rw [ef]; rfl) (by omega) (by omega)⟩
          · have ef : f = false := by cases f; · rfl
                                      · exfalso; apply e; rcases y with y | y <;> rw [y] <;> rfl
            rw [w_f (by rcases y with y | y <;> rw [y] <;> decide), ef, w_f (by decide), w_t (by rfl), w_in (q_feIn hk hb (by omega)), i_36, nI_clamp (by omega)]
            exact ⟨rfl, fin 0 0 rfl (by rw [ef]; rfl) (by omega) (by omega)⟩
    · rw [q_knowsB_n hA hk hb, w_1, q_knowsS_o hA ho, w_0]; dsimp only; rw [q_isBar_n hB hk hb, w_1, q_isString_o hB ho, w_0]
      exact ⟨rfl, hR⟩
  · rw [q_knowsB_o hA ho, w_0]; dsimp only; rw [q_isBar_o hB ho, w_0]
    exact ⟨rfl, hR⟩
end
