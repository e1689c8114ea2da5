-- ===== cells read; telling; bars built of offers =====
section
variable {σ : Mem} {S : St} {P : Int32 → Mem → Prop} {PV : Mem → Prop} {PJ : Int64 → Mem → Prop}
theorem q_faultAs (h : A σ S) (hk : ok S) {k l : Nat} (hk4 : k < 4) (hl : l < 3) : v_X8_faultAs (bT + k) (nI l) σ P = P (if la S k = 3 then 1 else if la S k = l then 0 else 2) σ := by
  have hla := hk.zla k
  unfold v_X8_faultAs
  rw [q_isNothing h hk hk4]
  by_cases z : la S k = 3
  · rw [if_pos z, if_pos z, w_1]
  · rw [if_neg z, if_neg z, w_0, h.zla hk4, if_pos (by omega), w_ite]
    simp only [i_eq (show la S k < 2 ^ 31 by omega) (show l < 2 ^ 31 by omega)]
    split <;> rfl
theorem t_at (h : RR σ) (a1 a2 a3 : Int32) : v_X11_at a1 a2 a3 σ (fun r σ => v_X12_at a1 a2 a3 σ (fun r2 σ => r = r2 ∧ RR σ)) := by
  obtain ⟨S1, hA, hB, hk1⟩ := h
  have h12 := hk1.znB
  unfold v_X11_at v_X12_at v_X11_at_J62 v_X12_at_J54
  have hA0 := A_fa hA h12 0
  have hB0 := hB.mS (mS_fa (σ := σ) 0 10)
  generalize wI σ 0 10 0 = σ0 at hA0 hB0 ⊢
  have hk : ok (uI S1 2 0 0 0) := hk1
  have hB00 : ∀ σ1, mS σ0 σ1 → B (wI σ1 33 0 0) (uI S1 2 0 0 0) := fun σ1 m1 => B_fa (hB0.mS m1) 0
  have fin : RR (wI σ0 33 0 0) := RRf hA0 (cS_33 _ _) (hB00 σ0 mS.rf) hk
  rcases rg a1 4 (by omega) with ⟨k, hk4, rfl⟩ | ho
  · have vk := vi hk4 (show 4 < 2 ^ 31 by omega)
    have e3 : bT = 100 := rfl
    have hla := hk.zla k
    have hsl := hk.zsl k
    rcases rg a3 3 (by omega) with ⟨l, hl, rfl⟩ | ho
    · have e33 : ∀ (s : Mem) (v : Int32), (wI s 0 10 v).1 0 10 = v := fun s v => by rw [m_I1, if_pos ⟨rfl, rfl⟩]
      rw [q_isSheet_n hk4, w_1, q_isLane_n hl, w_1, w_in vk, nI_clamp (by omega), q_faultAs hA0 hk hk4 hl, e33]
      by_cases z : la (uI S1 2 0 0 0) k = 3
      · have hB1 := hB00 _ (mS_fa (σ := σ0) 1 10)
        rw [if_pos z, w_f (by decide), w_f (by decide)]; dsimp only
        rw [q_w3_n hk4, w_1, q_w2_n hl, w_1, w_in vk, hB1.zla hk4, w_t (by rw [la_m9 hk]; exact z), w_in vk, w_t (by rw [la_m9 hk]; exact z), q_lost]
        exact ⟨rfl, RRf (A_fa2 hA0 h12) ((cS_33 _ _).tr (cS_33 _ _)) (B_fa2 hB1) (S := uI S1 2 0 0 1) hk1⟩
      · have hl3 : la (uI S1 2 0 0 0) k < 3 := by omega
        have nz : ¬ (if la (uI S1 2 0 0 0) k < 3 then nI (la (uI S1 2 0 0 0) k) else (-9 : Int32)) = -9 := by rw [la_m9 hk]; exact z
        rw [if_neg z]
        by_cases y : la (uI S1 2 0 0 0) k = l
        · rw [if_pos y, w_t rfl, w_in vk]
          have hA00 : A (wI σ0 0 10 0) (uI S1 2 0 0 0) := A_fa2 hA0 h12
          rcases rg a2 (sl (uI S1 2 0 0 0) k) (by omega) with ⟨i, hi, rfl⟩ | ho
          · have hB1 := hB00 _ (mS_fa (σ := σ0) 0 10)
            rw [q_hasCell_n hA00 hk hk4 hl3 hi, w_1, e33, w_t rfl, w_in vk, w_in (vi (show i < 64 by omega) (by omega)), hA00.zce hk4 (by rw [nI_clamp (by omega)]; omega)]; dsimp only
            rw [q_w3_n hk4, w_1, q_w2_n hl, w_1, w_in vk, hB1.zla hk4, w_f nz, w_in vk, w_t (by rw [if_pos hl3, y]), w_in vk, w_f nz, w_in vk, hB1.zsl hk4, q_wm_n hi (by omega), w_1]
            rw [i_64, w_in (vi (by omega) (by omega)), nI_clamp (by omega), nI_clamp (by omega), hB1.zce hk4 (by omega)]
            exact ⟨rfl, RRf hA00 (cS_33 _ _) hB1 hk⟩
          · have hB1 := hB00 _ ((mS_fa (σ := σ0) 0 10).tr (mS_fa 3 10))
            rw [q_hasCell_o hA00 hk4 hl3 ho, w_0, e33, w_f (by decide)]; dsimp only
            rw [q_w3_n hk4, w_1, q_w2_n hl, w_1, w_in vk, hB1.zla hk4, w_f nz, w_in vk, w_t (by rw [if_pos hl3, y]), w_in vk, w_f nz, w_in vk, hB1.zsl hk4, q_wm_o ho (by omega), w_0, q_lost]
            exact ⟨rfl, RRf (A_fa2 hA00 h12) ((cS_33 _ _).tr (cS_33 _ _)) (B_fa2 hB1) (S := uI S1 2 0 0 3) hk1⟩
        · have hB1 := hB00 _ (mS_fa (σ := σ0) 2 10)
          rw [if_neg y, w_f (by decide), w_f (by decide)]; dsimp only
          rw [q_w3_n hk4, w_1, q_w2_n hl, w_1, w_in vk, hB1.zla hk4, w_f nz, w_in vk, w_f (by rw [if_pos hl3]; exact fun q => y ((nI_eq (by omega) (by omega)).mp q)), q_lost]
          exact ⟨rfl, RRf (A_fa2 hA0 h12) ((cS_33 _ _).tr (cS_33 _ _)) (B_fa2 hB1) (S := uI S1 2 0 0 2) hk1⟩
    · rw [q_isSheet_n hk4, w_1, q_isLane_o ho, w_0]; dsimp only
      rw [q_w3_n hk4, w_1, q_w2_o ho, w_0]
      exact ⟨rfl, fin⟩
  · rw [q_isSheet_o ho, w_0]; dsimp only
    rw [q_w3_o ho, w_0]
    exact ⟨rfl, fin⟩
-- telling
abbrev stR (S : St) (a : Int32) : St := uI S 1 0 0 (31 * tr S + a)
theorem q_leave (h : A σ S) {a : Int32} : v_X11_leaveInTrace a σ PV = PV (wI σ 0 9 (31 * tr S + a)) := by
  unfold v_X11_leaveInTrace
  rw [h.ztr]
theorem q_begins (h : B σ S) {a : Int32} : v_X12_begins a σ PV = PV (wI σ 33 1 (31 * tr S + a)) := by
  unfold v_X12_begins
  rw [h.ztr]
def nfe (S : St) (b : Nat) : Nat := fb_ct (fun s => decide (0 < fe S b s ∧ fe S b s ≤ 2)) (nS S)
theorem q_byHand (h : A σ S) (hk : ok S) {b : Nat} (hb : b < nB S) : v_X11_tellByHand (bB + b) σ P = P (nI (nfe S b)) (wI σ 0 9 (31 * tr S + 1)) := by
  unfold v_X11_tellByHand
  have h1 := A_tr h hk.znB (31 * tr S + 1)
  rw [q_leave h, h1.zfls hb, q_feltsA h1 hk hb]
  rfl
theorem q_tellChord (h : A σ S) (hk : ok S) {b : Nat} (hb : b < nB S) : v_X11_tellChord (bB + b) σ P = P (nI (nfe S b) + bcI (bk S b)) (wI (wI σ 0 9 (31 * tr S + 2)) 0 9 (31 * tr (stR S 2) + 1)) := by
  unfold v_X11_tellChord
  have h1 := A_tr h hk.znB (31 * tr S + 2)
  have hk1 : ok (stR S 2) := hk
  rw [q_leave h, q_byHand h1 hk1 hb]
  have h2 := A_tr h1 hk.znB (31 * tr (stR S 2) + 1)
  rw [h2.zbk hb]
  rfl
theorem t_tell (h : RR σ) (a1 : Int32) : v_X11_tell a1 σ (fun r σ => v_X12_tell a1 σ (fun r2 σ => r = r2 ∧ RR σ)) := by
  have hR := h
  obtain ⟨S, hA, hB, hk⟩ := h
  have h12 := hk.znB
  unfold v_X11_tell v_X12_tell
  rcases rg a1 (nB S) (by omega) with ⟨b, hb, rfl⟩ | ho
  · have vb := vi (show b < 12 by omega) (show 12 < 2 ^ 31 by omega)
    have hkd := kdo_2 (bk S b)
    have e2 : ∀ {σ1 : Mem} {Q : Int32 → Mem → Prop}, B σ1 S → v_X12_feltsOf (nI b) 2 σ1 Q = Q (nI (nfe S b)) σ1 := fun hB1 => q_feltsOf (c := 2) hB1 hk hb (by omega)
    rw [q_knowsB_n hA hk hb, w_1, w_in vb, nI_clamp (by omega), q_kind hA hk hb]
    rcases (show kdo (bk S b) = 0 ∨ kdo (bk S b) = 1 ∨ kdo (bk S b) = 2 by omega) with e | e | e
    · rw [e, w_f (by decide), w_f (by decide), q_byHand hA hk hb]
      have hA1 := A_tr hA h12 (31 * tr S + 1)
      have hB1 := hB.mS (mS_fa (σ := σ) (31 * tr S + 1) 9)
      generalize wI σ 0 9 (31 * tr S + 1) = σ1 at hA1 hB1 ⊢
      dsimp only
      rw [q_isBar_n hB1 hk hb, w_1, e2 hB1, w_in vb, hB1.zkd hb, e, w_f (by decide), w_f (by decide), q_begins hB1]
      exact ⟨rfl, RRf hA1 (cS_33 _ _) (B_tr hB1 _) hk⟩
    · rw [e, w_t (by rfl), q_tellChord hA hk hb]
      have hA1 := A_tr (A_tr hA h12 (31 * tr S + 2)) h12 (31 * tr (stR S 2) + 1)
      have hB1 := hB.mS ((mS_fa (σ := σ) (31 * tr S + 2) 9).tr (mS_fa (31 * tr (stR S 2) + 1) 9))
      generalize wI (wI σ 0 9 (31 * tr S + 2)) 0 9 (31 * tr (stR S 2) + 1) = σ1 at hA1 hB1 ⊢
      dsimp only
      have hB2 := B_tr hB1 (31 * tr S + 2)
      have hB3 := B_tr hB2 (31 * tr (stR S 2) + 1)
      rw [q_isBar_n hB1 hk hb, w_1, e2 hB1, w_in vb, hB1.zkd hb, e, w_t (by rfl), q_begins hB1, q_begins hB2, w_in vb, hB3.zbk hb]
      exact ⟨rfl, RRf hA1 ((cS_33 _ _).tr (cS_33 _ _)) hB3 hk⟩
    · unfold v_X11_tellSeventh
      have hA1 := A_tr hA h12 (31 * tr S + 3)
      have hA2 := A_tr hA1 h12 (31 * tr (stR S 3) + 2)
      have hA3 := A_tr hA2 h12 (31 * tr (stR (stR S 3) 2) + 1)
      have hA4 := A_tr hA3 h12 (31 * tr (stR (stR (stR S 3) 2) 1) + 1)
      have k1 : ok (stR S 3) := hk
      have k3 : ok (stR (stR (stR S 3) 2) 1) := hk
      have n3 : nfe (stR (stR (stR S 3) 2) 1) b = nfe S b := rfl
      have n1 : nfe (stR S 3) b = nfe S b := rfl
      have n4 : bk (stR S 3) b = bk S b := rfl
      rw [e, w_f (by decide), w_t (by rfl), q_leave hA, q_tellChord hA1 k1 hb, q_byHand hA3 k3 hb, n3, n1, n4]
      have hB1 := hB.mS ((((mS_fa (σ := σ) (31 * tr S + 3) 9).tr (mS_fa (31 * tr (stR S 3) + 2) 9)).tr (mS_fa (31 * tr (stR (stR S 3) 2) + 1) 9)).tr (mS_fa (31 * tr (stR (stR (stR S 3) 2) 1) + 1) 9))
      generalize wI (wI (wI (wI σ 0 9 (31 * tr S + 3)) 0 9 (31 * tr (stR S 3) + 2)) 0 9 (31 * tr (stR (stR S 3) 2) + 1)) 0 9 (31 * tr (stR (stR (stR S 3) 2) 1) + 1) = σ1 at hA4 hB1 ⊢
      dsimp only
      have hB2 := B_tr hB1 (31 * tr S + 3)
      have hB3 := B_tr hB2 (31 * tr (stR S 3) + 2)
      have hB4 := B_tr hB3 (31 * tr (stR (stR S 3) 2) + 1)
      have hB5 := B_tr hB4 (31 * tr (stR (stR (stR S 3) 2) 1) + 1)
      rw [q_isBar_n hB1 hk hb, w_1, e2 hB1, w_in vb, hB1.zkd hb, e, w_f (by decide), w_t (by rfl), q_begins hB1, q_begins hB2, q_begins hB3, q_begins hB4, w_in vb, hB5.zbk hb]
      refine ⟨?_, RRf hA4 ((((cS_33 _ _).tr (cS_33 _ _)).tr (cS_33 _ _)).tr (cS_33 _ _)) hB5 hk⟩
      show nI (nfe S b) + bcI (bk S b) + nI (nfe S b) = 2 * nI (nfe S b) + bcI (bk S b)
      rw [show (2 : Int32) * nI (nfe S b) = nI (nfe S b) + nI (nfe S b) by rw [show (2 : Int32) = nI 2 from rfl, pk_mul, nI_add]; congr 1; omega]
      rw [Int32.add_assoc, Int32.add_assoc, Int32.add_comm (bcI (bk S b))]
  · rw [q_knowsB_o hA ho, w_0]; dsimp only; rw [q_isBar_o hB ho, w_0]
    exact ⟨rfl, hR⟩
theorem t_as (h : RR σ) (a1 a2 : Int32) : v_X11_as a1 a2 σ (fun r σ => v_X12_as a1 a2 σ (fun r2 σ => r = r2 ∧ RR σ)) := by
  obtain ⟨S1, hA, hB, hk1⟩ := h
  have h12 := hk1.znB
  unfold v_X11_as v_X12_as
  have hA0 := A_fa hA h12 0
  have hB0 := hB.mS (mS_fa (σ := σ) 0 10)
  generalize wI σ 0 10 0 = σ0 at hA0 hB0 ⊢
  have hk : ok (uI S1 2 0 0 0) := hk1
  have hB00 : ∀ σ1, mS σ0 σ1 → B (wI σ1 33 0 0) (uI S1 2 0 0 0) := fun σ1 m1 => B_fa (hB0.mS m1) 0
  have hB01 := hB00 σ0 mS.rf
  have fin : RR (wI σ0 33 0 0) := RRf hA0 (cS_33 _ _) hB01 hk
  rcases rg a1 (nB (uI S1 2 0 0 0)) (by have : nB (uI S1 2 0 0 0) = nB S1 := rfl; omega) with ⟨b, hb, rfl⟩ | ho
  · have hb2 : b < nB S1 := hb
    have vb := vi (show b < 12 by omega) (show 12 < 2 ^ 31 by omega)
    have hkd := kdo_2 (bk (uI S1 2 0 0 0) b)
    rw [q_knowsB_n hA0 hk hb, w_1]
    rcases rg a2 3 (by omega) with ⟨l, hl, rfl⟩ | ho
    · have g1 : nI l ≤ 2 := (nI_leI (b := 2) (by omega) (by omega)).mpr (by omega)
      rw [w_f (nI_pos (by omega)), w_t g1, w_in vb, nI_clamp (by omega), q_kind hA0 hk hb]
      by_cases z : l ≤ kdo (bk (uI S1 2 0 0 0) b)
      · rw [w_t (nI_le z (by omega))]; dsimp only
        rw [q_isBar_n hB01 hk hb, w_1, q_w2_n hl, w_1, w_in vb, hB01.zkd hb, w_f (nI_nlt z (by omega))]
        exact ⟨rfl, fin⟩
      · have hB1 := hB00 _ (mS_fa (σ := σ0) 2 10)
        rw [w_f (nI_ge (by omega) (by omega)), q_fail]; dsimp only
        rw [q_isBar_n hB1 hk hb, w_1, q_w2_n hl, w_1, w_in vb, hB1.zkd hb, w_t (nI_lt (by omega) (by omega)), q_fails]
        exact ⟨rfl, RRf (A_fa2 hA0 h12) ((cS_33 _ _).tr (cS_33 _ _)) (B_fa2 hB1) (S := uI S1 2 0 0 2) hk1⟩
    · have c1 : ∀ {X Y : Prop}, ((a2 < 0 → X) ∧ (¬ a2 < 0 → (a2 ≤ 2 → Y) ∧ (¬ a2 ≤ 2 → X))) = X := fun {X Y} => by
        rcases ho with ho | ho
        · rw [w_t ho]
        · have : ¬ a2 ≤ 2 := by
            intro q
            rw [fa_le, nI_toInt (by omega)] at ho
            rw [fa_le, show (2 : Int32).toInt = 2 from by decide] at q
            omega
          by_cases q : a2 < 0
          · rw [w_t q]
          · rw [w_f q, w_f this]
      rw [c1]; dsimp only
      rw [q_isBar_n hB01 hk hb, w_1, q_w2_o ho, w_0]
      exact ⟨rfl, fin⟩
  · rw [q_knowsB_o hA0 ho, w_0]; dsimp only; rw [q_isBar_o hB01 ho, w_0]
    exact ⟨rfl, fin⟩
-- bars built of offers
theorem A_nB0 (h : A σ S) (hk : nB S ≤ 12) : A (wI σ 5 1 0) (uN S 3 0 0 0) := by
  refine h.b_upd hk (Fb.rf.I (by omega)) (fun i j k hi => by rw [uN_1, if_neg (by omega)]) rfl ⟨?_, fun r hr => ?_⟩
  · rw [m_I1, if_pos ⟨rfl, rfl⟩]; rfl
  · have : nB (uN S 3 0 0 0) = 0 := rfl
    omega
theorem B_nB0 (h : B σ S) : B (wI σ 33 5 0) (uN S 3 0 0 0) := by
  refine h.b_upd (Gb.rf.I (by omega)) (fun i j k hi => by rw [uN_1, if_neg (by omega)]) rfl ⟨?_, fun r hr => ?_⟩
  · rw [m_I1, if_pos ⟨rfl, rfl⟩]; rfl
  · have : nB (uN S 3 0 0 0) = 0 := rfl
    omega
def bld (S : St) (set : Nat) : Nat → St
  | 0 => uN (uN S 3 0 0 0) 14 0 0 0
  | k + 1 => if set.testBit k = true then stB (bld S set k) (oc S k) (cutg (bld S set k) (oc S k)) else bld S set k
theorem bld_ok (hk : ok S) (set : Nat) : ∀ k, k ≤ nF S → ok (bld S set k) ∧ nB (bld S set k) ≤ k ∧ nF (bld S set k) = nF S ∧ (∀ j, oc (bld S set k) j = oc S j)
  | 0, _ => by
    have e1 : nB (bld S set 0) = 0 := rfl
    have e2 : nR (bld S set 0) = 0 := rfl
    obtain ⟨hs, ⟨b1, b2, b3, b4, b5⟩, hg, ho, ⟨r1, r2, r3, r4⟩, ht⟩ := hk
    exact ⟨⟨hs, ⟨by rw [e1]; omega, b2, fun b hb => by rw [e1] at hb; omega, fun b hb => by rw [e1] at hb; omega, b5⟩, hg, ho, ⟨by rw [e2]; omega, fun r hr => by rw [e2] at hr; omega, fun r hr => by rw [e2] at hr; omega, r4⟩, ht⟩, Nat.le_refl _, rfl, fun _ => rfl⟩
  | k + 1, hle => by
    obtain ⟨i1, i2, i3, i4⟩ := bld_ok hk set k (by omega)
    have hF := hk.znO
    have hc := hk.zoc k
    unfold bld
    by_cases e : set.testBit k = true
    · rw [if_pos e]
      refine ⟨ok_stB i1 (by omega) (by omega) (cutg_2 _) (cutg_0 _), by rw [stB_nB]; omega, ?_, fun j => ?_⟩
      · rw [← i3]; exact stB_o 12 0 0 (by omega)
      · rw [← i4 j]; exact stB_o 13 j 0 (by omega)
    · rw [if_neg e]; exact ⟨i1, by omega, i3, i4⟩
theorem t_build (h : RR σ) (a1 : Int32) : v_X11_build a1 σ (fun r σ => v_X12_build a1 σ (fun r2 σ => r = r2 ∧ RR σ)) := by
  have hR := h
  obtain ⟨S, hA, hB, hk⟩ := h
  have h12 := hk.znB
  have hF := hk.znO
  have p12 := p12o hk
  unfold v_X11_build v_X12_build v_X7_clear v_X2_clear
  rcases rg a1 (2 ^ nF S) (by omega) with ⟨set, hset, rfl⟩ | ho
  · rw [q_isSetO_n hA hk hset, w_1]
    have hA0 : A (wI (wI σ 5 1 0) 27 4 0) (bld S set 0) := A_nR0 (A_nB0 hA h12) (Nat.zero_le _)
    have m0 : mS σ (wI (wI σ 5 1 0) 27 4 0) := (mS.rf.I (by omega)).I (by omega)
    refine lp_i (fun n k s => v_X11_build_L30 (nI set) _ n (nI k) s) (fun k s => A s (bld S set k) ∧ mS σ s) (nF S) (fun n s hI => ?_) (fun n k s hk2 hI ih => ?_) 5000 0 _ (by omega) (by omega) ⟨hA0, m0⟩
    · obtain ⟨hA1, m1⟩ := hI
      obtain ⟨i1, i2, i3, i4⟩ := bld_ok hk set (nF S) (Nat.le_refl _)
      (try dsimp only)
      rw [v_X11_build_L30, hA1.znO, i3, w_t (nI_le (Nat.le_refl _) (by omega)), hA1.znB]
      have hB1 := hB.mS m1
      (try dsimp only)
      rw [q_areOffers_n hB1 hk hset, w_1]
      refine lp_i (fun n k s2 => v_X12_build_L23 (nI set) _ n (nI k) s2) (fun k s2 => B s2 (bld S set k) ∧ cS s s2) (nF S) (fun n s2 hI => ?_) (fun n k s2 hk2 hI ih => ?_) 5000 0 _ (by omega) (by omega) ⟨B_nR0 (B_nB0 hB1), (cS_33 _ _).tr (cS_33 _ _)⟩
      · obtain ⟨hB2, c2⟩ := hI
        (try dsimp only)
        rw [v_X12_build_L23, hB2.znO, i3, w_t (nI_le (Nat.le_refl _) (by omega)), hB2.znB]
        exact ⟨rfl, RRf hA1 c2 hB2 i1⟩
      · obtain ⟨hB2, c2⟩ := hI
        obtain ⟨j1, j2, j3, j4⟩ := bld_ok hk set k (by omega)
        have hc := hk.zoc k
        (try dsimp only)
        rw [v_X12_build_L23, hB2.znO, j3, w_f (nI_ge hk2 (by omega)), i_bit (by omega) (by omega), w_ite, nI_1]
        simp only [bI_1]
        have e0 : bld S set (k + 1) = if set.testBit k = true then stB (bld S set k) (oc S k) (cutg (bld S set k) (oc S k)) else bld S set k := rfl
        by_cases e : set.testBit k = true
        · rw [if_pos e, w_in (vi (show k < 12 by omega) (by omega)), nI_clamp (by omega), hB2.zoc (by omega), j4]
          rw [if_pos e] at e0
          exact k_cutFor hB2 j1 hc (by omega) (fun σ' hB' c' => ih σ' ⟨by rw [e0]; exact hB', c2.tr c'⟩)
        · rw [if_neg e]
          rw [if_neg e] at e0
          exact ih s2 ⟨by rw [e0]; exact hB2, c2⟩
    · obtain ⟨hA1, m1⟩ := hI
      obtain ⟨j1, j2, j3, j4⟩ := bld_ok hk set k (by omega)
      have hc := hk.zoc k
      (try dsimp only)
      rw [v_X11_build_L30, hA1.znO, j3, w_f (nI_ge hk2 (by omega)), q_hasBitI (by omega) (by omega), w_bI, nI_1]
      have e0 : bld S set (k + 1) = if set.testBit k = true then stB (bld S set k) (oc S k) (cutg (bld S set k) (oc S k)) else bld S set k := rfl
      by_cases e : set.testBit k = true
      · rw [if_pos e, w_in (vi (show k < 12 by omega) (by omega)), nI_clamp (by omega), hA1.zoc (by omega), j4]
        rw [if_pos e] at e0
        exact k_barA hA1 j1 hc (by omega) (fun σ' hA' m' => ih σ' ⟨by rw [e0]; exact hA', m1.tr m'⟩)
      · rw [if_neg e]
        rw [if_neg e] at e0
        exact ih s ⟨by rw [e0]; exact hA1, m1⟩
  · rw [q_isSetO_o hA hk ho, w_0]; dsimp only
    rw [q_areOffers_o hB hk ho, w_0]
    exact ⟨rfl, hR⟩
end
