-- ===== wear, places, keys, offers, rows gone, trace, fault; sheets =====
section
variable {σ : Mem} {S : St} {P : Int32 → Mem → Prop} {PV : Mem → Prop} {PJ : Int64 → Mem → Prop}
theorem A_fa (h : A σ S) (hk : nB S ≤ 12) (v : Int32) : A (wI σ 0 10 v) (uI S 2 0 0 v) := by
  refine h.t_upd hk (Ft.rf.I (by omega)) (fun _ _ _ _ => rfl) ⟨?_, ?_, fun k hk => ⟨?_, ?_, fun i hi => ?_⟩⟩
  · rw [m_I1, if_neg (by omega), h.ztr]; simp [tr, uI_2]
  · rw [m_I1, if_pos ⟨rfl, rfl⟩]; simp [fa, uI_2]
  · have e3 : bT = 100 := rfl
    rw [m_I1, if_neg (by omega), h.zla hk]; rfl
  · have e3 : bT = 100 := rfl
    rw [m_I1, if_neg (by omega), h.zsl hk]; rfl
  · have e3 : bT = 100 := rfl
    rw [m_I1, if_neg (by omega), h.zce hk hi]; simp [ce, uI_2]
theorem B_fa (h : B σ S) (v : Int32) : B (wI σ 33 0 v) (uI S 2 0 0 v) := by
  refine h.t_upd (Gt.rf.I (by omega)) (fun _ _ _ _ => rfl) ⟨?_, ?_, fun k hk => ⟨?_, ?_, fun i hi => ?_⟩⟩
  · rw [m_I1, if_neg (by omega), h.ztr]; simp [tr, uI_2]
  · rw [m_I1, if_pos ⟨rfl, rfl⟩]; simp [fa, uI_2]
  · rw [m_I1, if_neg (by omega), h.zla hk]; rfl
  · rw [m_I1, if_neg (by omega), h.zsl hk]; rfl
  · rw [m_I1, if_neg (by omega), h.zce hk hi]; simp [ce, uI_2]
theorem A_tr (h : A σ S) (hk : nB S ≤ 12) (v : Int32) : A (wI σ 0 9 v) (uI S 1 0 0 v) := by
  refine h.t_upd hk (Ft.rf.I (by omega)) (fun _ _ _ _ => rfl) ⟨?_, ?_, fun k hk => ⟨?_, ?_, fun i hi => ?_⟩⟩
  · rw [m_I1, if_pos ⟨rfl, rfl⟩]; simp [tr, uI_2]
  · rw [m_I1, if_neg (by omega), h.zfa]; simp [fa, uI_2]
  · have e3 : bT = 100 := rfl
    rw [m_I1, if_neg (by omega), h.zla hk]; rfl
  · have e3 : bT = 100 := rfl
    rw [m_I1, if_neg (by omega), h.zsl hk]; rfl
  · have e3 : bT = 100 := rfl
    rw [m_I1, if_neg (by omega), h.zce hk hi]; simp [ce, uI_2]
theorem B_tr (h : B σ S) (v : Int32) : B (wI σ 33 1 v) (uI S 1 0 0 v) := by
  refine h.t_upd (Gt.rf.I (by omega)) (fun _ _ _ _ => rfl) ⟨?_, ?_, fun k hk => ⟨?_, ?_, fun i hi => ?_⟩⟩
  · rw [m_I1, if_pos ⟨rfl, rfl⟩]; simp [tr, uI_2]
  · rw [m_I1, if_neg (by omega), h.zfa]; simp [fa, uI_2]
  · rw [m_I1, if_neg (by omega), h.zla hk]; rfl
  · rw [m_I1, if_neg (by omega), h.zsl hk]; rfl
  · rw [m_I1, if_neg (by omega), h.zce hk hi]; simp [ce, uI_2]
theorem mS_fa (v : Int32) (k : Nat) : mS σ (wI σ 0 k v) := mS.rf.I (by omega)
theorem cS_33 (v : Int32) (k : Nat) : cS σ (wI σ 33 k v) := cS.rf.I (by omega)
theorem A_pl (h : A σ S) (hk : nB S ≤ 12) {b v : Nat} (hb : b < nB S) : A (wI σ (bB + b) 3 (nI v)) (uN S 5 b 0 v) := by
  have e64 : bB = 64 := rfl
  refine h.b_upd hk (Fb.rf.I (by omega)) (fun i j k hi => by rw [uN_1, if_neg (by omega)]) rfl ⟨?_, fun i hi => ?_⟩
  · rw [m_I1, if_neg (by omega), h.znB]; rfl
  · have hi2 : i < nB S := hi
    refine ⟨?_, ?_, ?_, ?_⟩
    · rw [m_I1, if_neg (by omega), h.zbk hi2]; rfl
    · rw [m_I2, h.zfls hi2]; rfl
    · rw [m_I2, h.zwos hi2]; rfl
    · rw [m_I1]
      show _ = nI ((uN S 5 b 0 v).1 5 i 0)
      rw [uN_1]
      by_cases z : i = b
      · rw [if_pos ⟨by omega, rfl⟩, if_pos ⟨rfl, z, rfl⟩]
      · rw [if_neg (by omega), if_neg (fun q => z q.2.1), h.zpl hi2]
theorem B_pl (h : B σ S) {b v : Nat} : B (wI σ 38 b (nI v)) (uN S 5 b 0 v) := by
  refine h.b_upd (Gb.rf.I (by omega)) (fun i j k hi => by rw [uN_1, if_neg (by omega)]) rfl ⟨?_, fun i hi => ?_⟩
  · rw [m_I1, if_neg (by omega), h.znB]; rfl
  · have hi2 : i < nB S := hi
    refine ⟨?_, ?_, ?_, fun s hs => ?_⟩
    · rw [m_I1, if_neg (by omega), h.zkd hi2]; rfl
    · rw [m_I1, if_neg (by omega), h.zbk hi2]; rfl
    · rw [m_I1]
      show _ = nI ((uN S 5 b 0 v).1 5 i 0)
      rw [uN_1]
      by_cases z : i = b
      · rw [if_pos ⟨rfl, z⟩, if_pos ⟨rfl, z, rfl⟩]
      · rw [if_neg (by omega), if_neg (fun q => z q.2.1), h.zpl hi2]
    · rw [m_I1, if_neg (by omega), h.zfe hi2 hs]; rfl
theorem ok_pl (hk : ok S) {b v : Nat} (hv : v < 12) : ok (uN S 5 b 0 v) := by
  obtain ⟨hs, ⟨b1, b2, b3, b4, b5⟩, hr⟩ := hk
  refine ⟨hs, ⟨b1, b2, b3, fun i hi => ?_, b5⟩, hr⟩
  show (uN S 5 b 0 v).1 5 i 0 < 12
  rw [uN_1]; split
  · exact hv
  · exact b4 i hi
theorem t_change (h : RR σ) (a1 a2 : Int32) : v_X11_change a1 a2 σ (fun r σ => v_X12_change a1 a2 σ (fun r2 σ => r = r2 ∧ RR σ)) := by
  have hR := h
  obtain ⟨S, hA, hB, hk⟩ := h
  have h12 := hk.znB
  unfold v_X11_change v_X12_change
  rcases rg a1 (nB S) (by omega) with ⟨a, ha, rfl⟩ | ho
  · rcases rg a2 (nB S) (by omega) with ⟨b, hb, rfl⟩ | ho
    · have e64 : bB = 64 := rfl
      have va := vi (show a < 12 by omega) (show 12 < 2 ^ 31 by omega)
      have vb := vi (show b < 12 by omega) (show 12 < 2 ^ 31 by omega)
      rw [q_knowsB_n hA hk ha, w_1, q_knowsB_n hA hk hb, w_1]
      have two : ∀ σ2, B σ2 S → B (wI (wI σ2 38 a (σ2.1 38 b)) 38 b (σ2.1 38 a)) (uN (uN S 5 a 0 (pl S b)) 5 b 0 (pl S a)) := fun σ2 hB2 => by
        rw [hB2.zpl ha, hB2.zpl hb]; exact B_pl (B_pl hB2)
      by_cases e : a = b
      · rw [w_t (by rw [e])]; dsimp only
        rw [q_isBar_n hB hk ha, w_1, q_isBar_n hB hk hb, w_1, w_in va, w_in vb, w_in va, w_in vb, nI_clamp (by omega), nI_clamp (by omega), w_t (by rw [e])]
        have t := two σ hB
        subst e
        rw [uN_twice, uN_same rfl] at t
        exact ⟨rfl, S, hA.cS ((cS.rf.I (by omega)).I (by omega)), t, hk⟩
      · have ne : ¬ nI a = nI b := fun q => e ((nI_eq (by omega) (by omega)).mp q)
        rw [w_f ne, w_in va, w_in va, w_in vb, w_in vb, nI_clamp (by omega), nI_clamp (by omega), hA.zpl ha, hA.zpl hb]
        have hA1 : A (wI (wI σ (bB + a) 3 (nI (pl S b))) (bB + b) 3 (nI (pl S a))) (uN (uN S 5 a 0 (pl S b)) 5 b 0 (pl S a)) := A_pl (A_pl hA h12 ha) h12 hb
        have m1 : mS σ (wI (wI σ (bB + a) 3 (nI (pl S b))) (bB + b) 3 (nI (pl S a))) := (mS.rf.I (by omega)).I (by omega)
        have hB1 := hB.mS m1
        generalize wI (wI σ (bB + a) 3 (nI (pl S b))) (bB + b) 3 (nI (pl S a)) = σ1 at hA1 hB1 ⊢
        (try dsimp only)
        rw [q_isBar_n hB1 hk ha, w_1, q_isBar_n hB1 hk hb, w_1, w_in va, w_in vb, w_in va, w_in vb, w_f ne]
        exact ⟨rfl, _, hA1.cS ((cS.rf.I (by omega)).I (by omega)), two σ1 hB1, ok_pl (ok_pl hk (hk.zpl hb)) (hk.zpl ha)⟩
    · rw [q_knowsB_n hA hk ha, w_1, q_knowsB_o hA ho, w_0]; dsimp only; rw [q_isBar_n hB hk ha, w_1, q_isBar_o hB ho, w_0]
      exact ⟨rfl, hR⟩
  · rw [q_knowsB_o hA ho, w_0]; dsimp only; rw [q_isBar_o hB ho, w_0]
    exact ⟨rfl, hR⟩
theorem t_wear (h : RR σ) (a1 a2 a3 : Int32) (hb3 : isB a3) : v_X11_wear a1 a2 a3 σ (fun r σ => v_X12_wear a1 a2 a3 σ (fun r2 σ => r = r2 ∧ RR σ)) := by
  have hR := h
  obtain ⟨S, hA, hB, hk⟩ := h
  have h12 := hk.znB
  have h36 := hk.znS
  obtain ⟨f, rfl⟩ : ∃ f, a3 = bI f := by rcases hb3 with rfl | rfl; exact ⟨false, rfl⟩; exact ⟨true, rfl⟩
  unfold v_X11_wear v_X12_wear
  rcases rg a1 (nB S) (by omega) with ⟨b, hb, rfl⟩ | ho
  · rcases rg a2 (nS S) (by omega) with ⟨s, hs, rfl⟩ | ho
    · have hf := hk.zfe b s
      rw [q_hasFeltF hA hk hb hs, w_bI]
      by_cases e0 : fe S b s = 0
      · rw [if_neg (by rw [e0]; decide)]; dsimp only
        rw [q_isBar_n hB hk hb, w_1, q_isString_n hB hk hs, w_1, w_in (q_feIn hk hb (by omega)), q_fe hB hk hb (by omega), e0, w_t (by rfl)]
        exact ⟨rfl, hR⟩
      · rw [if_pos (by simpa using e0), w_in (vi (by omega) (by omega)), nI_clamp (by omega)]
        unfold v_X0_setWorn
        rw [q_isWorn hA hk hb (by omega)]
        -- the new value
        have hw : ∀ σ1 : Mem, B σ1 S → ∀ r : Int32, (r = if fe S b s = (if f = true then 1 else 2) then 0 else 1) → (∀ σ2, cS σ1 σ2 → B σ2 (uN S 4 b s (if f = true then 1 else 2)) → RR σ2) → v_X12_isBar (nI b) σ1 (fun (r_1 : Int32) (σ_2 : Mem) => (r_1 = 0 → r = (-1) ∧ RR σ_2) ∧ (¬ r_1 = 0 → v_X12_isString (nI s) σ_2 (fun (r_3 : Int32) (σ_4 : Mem) => (r_3 = 0 → r = (-1) ∧ RR σ_4) ∧ (¬ r_3 = 0 → vp_in ((36 * nI b) + nI s) 432 ∧ (((σ_4.1 39 (Int32.toNatClampNeg ((36 * nI b) + nI s))) = 0 → r = (-1) ∧ RR σ_4) ∧ (¬ (σ_4.1 39 (Int32.toNatClampNeg ((36 * nI b) + nI s))) = 0 → (bI f = 0 → v_X12_wear_J41 (fun r2 σ => r = r2 ∧ RR σ) (nI b) (nI s) 2 σ_4) ∧ (¬ bI f = 0 → v_X12_wear_J41 (fun r2 σ => r = r2 ∧ RR σ) (nI b) (nI s) 1 σ_4))))))) := by
          intro σ1 hB1 r hr K
          rw [q_isBar_n hB1 hk hb, w_1, q_isString_n hB1 hk hs, w_1, w_in (q_feIn hk hb (by omega)), q_fe hB1 hk hb (by omega), w_f (by rw [i_eq0 (by omega)]; exact e0), w_bI]
          have j41 : ∀ v : Nat, v = (if f = true then 1 else 2) → ∀ x : Int32, x = nI v → v_X12_wear_J41 (fun r2 σ => r = r2 ∧ RR σ) (nI b) (nI s) x σ1 := by
            intro v hv x hx
            unfold v_X12_wear_J41 v_X12_wear_J64
            have v2 : v ≤ 2 := by rw [hv]; split <;> omega
            have vv := q_feIn hk hb (show s < 36 by omega)
            have ff := q_fe hB1 hk hb (show s < 36 by omega)
            simp only [w_in vv, ff, w_ite, hx]
            simp only [i_36, nI_clamp (show 36 * b + s < 2 ^ 31 by omega)]
            have hB2 := B_fe hB1 (x := nI v) rfl hb (show s < 36 by omega)
            have hRR : RR (wI σ1 39 (36 * b + s) (nI v)) := K _ (cS.rf.I (by omega)) (by rw [← hv]; exact hB2)
            rw [← hv] at hr
            by_cases q : fe S b s = v
            · rw [if_pos (by rw [q]), hr, if_pos q]; exact ⟨rfl, hRR⟩
            · rw [if_neg (fun z => q ((nI_eq (by omega) (by omega)).mp z)), hr, if_neg q]; exact ⟨rfl, hRR⟩
          cases f
          · rw [if_neg (by decide)]; exact j41 2 rfl 2 rfl
          · rw [if_pos rfl]; exact j41 1 rfl 1 rfl
        have hnv : ∀ x : Nat, x = (if f = true then 1 else 2) → x ≤ 2 := fun x hx => by rw [hx]; split <;> omega
        by_cases e : (fe S b s == 1) = f
        · rw [w_t (by rw [e])]; dsimp only
          rw [q_asNumber_0]; (try dsimp only)
          have ev : fe S b s = (if f = true then 1 else 2) := by
            cases f
            · have : fe S b s ≠ 1 := by simpa using e
              rw [if_neg (by decide)]; omega
            · rw [if_pos rfl]; simpa using e
          refine hw σ hB 0 (by rw [if_pos ev]) (fun σ2 c2 hB2 => ⟨S, hA.cS c2, ?_, hk⟩)
          rw [uN_same ev] at hB2
          exact hB2
        · rw [w_f (fun q => e (by rw [bI_inj] at q; exact q))]; dsimp only
          rw [q_asNumber_1]
          have ev : ¬ fe S b s = (if f = true then 1 else 2) := by
            intro q
            apply e
            rw [q]; cases f <;> rfl
          have e64 : bB = 64 := rfl
          have hA1 : A (wJ σ (bB + b) 2 (σ.2 (bB + b) 2 ^^^ ((1 : Int64) <<< (Int32.toInt64 (nI s) &&& 63)))) (uN S 4 b s (if f = true then 1 else 2)) := by
            refine A_fe hA hk hb (by omega) (x := fls S b) (y := wos S b ^^^ 2 ^ s) ?_ ?_ (Fb.rf.J (by omega)) (fun o k => rfl) (fun i k => ?_)
            · rw [if_pos]
              have l1 : (fe S b s != 0) = true := by simpa using e0
              rw [l1]; cases f <;> rfl
            · rw [if_neg]
              intro q
              apply e
              rw [q]; cases f <;> rfl
            · simp only [m_J2, Nat.add_left_cancel_iff, l_sh1 (show s < 64 by omega), hA.zwos hb, fb_xorL]
              by_cases y1 : i = b
              · subst y1
                by_cases y2 : k = 2
                · subst y2; simp
                · by_cases y3 : k = 1
                  · subst y3; simp; exact hA.zfls hb
                  · simp [y2, y3]
              · simp [y1]
          have hmS : mS σ (wJ σ (bB + b) 2 (σ.2 (bB + b) 2 ^^^ ((1 : Int64) <<< (Int32.toInt64 (nI s) &&& 63)))) := fun _ _ _ _ => rfl
          have hB1 := hB.mS hmS
          generalize wJ σ (bB + b) 2 (σ.2 (bB + b) 2 ^^^ ((1 : Int64) <<< (Int32.toInt64 (nI s) &&& 63))) = σ1 at hA1 hB1 ⊢
          exact hw σ1 hB1 1 (by rw [if_neg ev]) (fun σ2 c2 hB2 => ⟨_, hA1.cS c2, hB2, ok_fe hk hs (hnv _ rfl)⟩)
    · unfold v_X11_hasFelt
      rw [q_knowsB_n hA hk hb, w_1, q_knowsS_o hA ho, w_0]; dsimp only; rw [w_0]; (try dsimp only); rw [q_isBar_n hB hk hb, w_1, q_isString_o hB ho, w_0]
      exact ⟨rfl, hR⟩
  · unfold v_X11_hasFelt
    rw [q_knowsB_o hA ho, w_0]; dsimp only; rw [w_0]; (try dsimp only); rw [q_isBar_o hB ho, w_0]
    exact ⟨rfl, hR⟩
-- keys
theorem rk (a : Int32) : (∃ j, j < 12 ∧ a = kI j) ∨ (a < (-6) ∨ 5 < a) := by
  by_cases h1 : a < (-6)
  · exact Or.inr (Or.inl h1)
  · by_cases h2 : 5 < a
    · exact Or.inr (Or.inr h2)
    · left
      rw [fa_lt, show (-6 : Int32).toInt = -6 from by decide] at h1
      rw [fa_lt, show (5 : Int32).toInt = 5 from by decide] at h2
      refine ⟨(a.toInt + 6).toNat, by omega, Int32.toInt_inj.mp ?_⟩
      unfold kI
      rw [pk_sub_toInt (by omega) (by omega)]
      omega
theorem kI_in : ∀ j, j < 12 → ¬ kI j < (-6) ∧ kI j ≤ 5 ∧ ¬ 5 < kI j := by decide +kernel
theorem A_gk (h : A σ S) (hk : nB S ≤ 12) {g j : Nat} (hg : g < 8) : A (wI σ (bG + g) 3 (kI j)) (uN S 9 g 0 j) := by
  have e1 : bG = 76 := rfl
  refine h.g_upd hk (Fg.rf.I (by omega)) (fun i j k hi => by rw [uN_1, if_neg (by omega)]) rfl ⟨?_, fun i hi => ⟨?_, ?_, fun k hk => ⟨?_, ?_⟩⟩⟩
  · rw [m_I1, if_neg (by omega), h.znG]; rfl
  · rw [m_I1, if_neg (by omega), h.zgl hi]; rfl
  · rw [m_I1]
    show _ = kI ((uN S 9 g 0 j).1 9 i 0)
    rw [uN_1]
    by_cases z : i = g
    · rw [if_pos ⟨by omega, rfl⟩, if_pos ⟨rfl, z, rfl⟩]
    · rw [if_neg (by omega), if_neg (fun q => z q.2.1), h.zgk hi]
  · rw [m_I1, if_neg (by omega), h.zgc hi hk]; rfl
  · rw [m_I1, if_neg (by omega), h.zgn hi hk]; rfl
theorem B_gk (h : B σ S) {g j : Nat} : B (wI σ 45 g (kI j)) (uN S 9 g 0 j) := by
  refine h.g_upd (Gg.rf.I (by omega)) (fun i j k hi => by rw [uN_1, if_neg (by omega)]) rfl ⟨?_, fun i hi => ⟨?_, ?_, fun k hk => ⟨?_, ?_⟩⟩⟩
  · rw [m_I1, if_neg (by omega), h.znG]; rfl
  · rw [m_I1, if_neg (by omega), h.zgl hi]; rfl
  · rw [m_I1]
    show _ = kI ((uN S 9 g 0 j).1 9 i 0)
    rw [uN_1]
    by_cases z : i = g
    · rw [if_pos ⟨rfl, z⟩, if_pos ⟨rfl, z, rfl⟩]
    · rw [if_neg (by omega), if_neg (fun q => z q.2.1), h.zgk hi]
  · rw [m_I1, if_neg (by omega), h.zgc hi hk]; rfl
  · rw [m_I1, if_neg (by omega), h.zgn hi hk]; rfl
theorem ok_gk (hk : ok S) {g j : Nat} (hg : g < nG S) (hj : j < 12) : ok (uN S 9 g 0 j) := by
  obtain ⟨hs, hb, ⟨g1, g2, g3, g4, g5, g6, g7⟩, hr⟩ := hk
  refine ⟨hs, hb, ⟨g1, g2, g3, fun i => ?_, g5, g6, fun i hi => ?_⟩, hr⟩
  · show (uN S 9 g 0 j).1 9 i 0 ≤ 11
    rw [uN_1]; split
    · omega
    · exact g4 i
  · have hi2 : nG S ≤ i := hi
    show (uN S 9 g 0 j).1 9 i 0 = 6
    rw [uN_1, if_neg (by omega)]
    exact g7 i hi2
theorem t_key (h : RR σ) (a1 a2 : Int32) : v_X11_key a1 a2 σ (fun r σ => v_X12_key a1 a2 σ (fun r2 σ => r = r2 ∧ RR σ)) := by
  have hR := h
  obtain ⟨S, hA, hB, hk⟩ := h
  have h8 := hk.znG
  have h12 := hk.znB
  unfold v_X11_key v_X12_key v_X12_within
  rcases rg a1 (nG S) (by omega) with ⟨g, hg, rfl⟩ | ho
  · have vg := vi (show g < 8 by omega) (show 8 < 2 ^ 31 by omega)
    have e1 : bG = 76 := rfl
    rw [q_knowsG_n hA hk hg, w_1]
    rcases rk a2 with ⟨j, hj, rfl⟩ | ho
    · obtain ⟨k1, k2, k3⟩ := kI_in j hj
      rw [w_f k1, w_t k2, w_in vg, w_in vg, nI_clamp (by omega), hA.zgk (by omega)]
      have hA1 := A_gk hA h12 (show g < 8 by omega) (j := j)
      have m1 : mS σ (wI σ (bG + g) 3 (kI j)) := mS.rf.I (by omega)
      have hB1 := hB.mS m1
      generalize wI σ (bG + g) 3 (kI j) = σ1 at hA1 hB1 ⊢
      dsimp only
      rw [q_isSong_n hB1 hk hg, w_1, w_f k1, w_f k3, w_1, w_in vg, w_in vg, hB1.zgk (by omega)]
      exact ⟨rfl, _, hA1.cS (cS.rf.I (by omega)), B_gk hB1, ok_gk hk hg hj⟩
    · have c1 : ∀ {X Y : Prop}, ((a2 < (-6) → X) ∧ (¬ a2 < (-6) → (a2 ≤ 5 → Y) ∧ (¬ a2 ≤ 5 → X))) = X := fun {X Y} => by
        rcases ho with ho | ho
        · rw [w_t ho]
        · have : ¬ a2 ≤ 5 := (fa_of_lt ho).2.1
          by_cases q : a2 < (-6)
          · rw [w_t q]
          · rw [w_f q, w_f this]
      have c2 : ∀ {X Y : Prop}, ((a2 < (-6) → X) ∧ (¬ a2 < (-6) → (5 < a2 → X) ∧ (¬ 5 < a2 → Y))) = X := fun {X Y} => by
        rcases ho with ho | ho
        · rw [w_t ho]
        · by_cases q : a2 < (-6)
          · rw [w_t q]
          · rw [w_f q, w_t ho]
      rw [c1]; dsimp only
      rw [q_isSong_n hB hk hg, w_1, c2, w_0]
      exact ⟨rfl, hR⟩
  · rw [q_knowsG_o hA ho, w_0]; dsimp only; rw [q_isSong_o hB ho, w_0]
    exact ⟨rfl, hR⟩
-- offers
def stO (S : St) (c : Nat) : St := uN (uN S 12 0 0 (nF S + 1)) 13 (nF S) 0 c
theorem stO_n {c : Nat} : nF (stO S c) = nF S + 1 := by simp [nF, stO, uN_1]
theorem stO_c {c k : Nat} : oc (stO S c) k = if k = nF S then c else oc S k := by simp [oc, stO, uN_1]
theorem stO_o {c : Nat} (i j k : Nat) (h : ¬ (12 ≤ i ∧ i ≤ 13)) : (stO S c).1 i j k = S.1 i j k := by
  unfold stO
  rw [uN_1, if_neg (by omega), uN_1, if_neg (by omega)]
theorem ok_stO (hk : ok S) {c : Nat} (hn : nF S < 12) (hc : c < 96) : ok (stO S c) := by
  obtain ⟨hs, hb, hg, ⟨o1, o2⟩, hr⟩ := hk
  refine ⟨hs, hb, hg, ⟨by rw [stO_n]; omega, fun k => ?_⟩, hr⟩
  rw [stO_c]; split
  · exact hc
  · exact o2 k
theorem t_offer (h : RR σ) (a1 : Int32) : v_X11_offer a1 σ (fun r σ => v_X12_offer a1 σ (fun r2 σ => r = r2 ∧ RR σ)) := by
  have hR := h
  obtain ⟨S, hA, hB, hk⟩ := h
  have h12 := hk.znO
  have hb12 := hk.znB
  unfold v_X11_offer v_X12_offer
  rcases rg a1 96 (by omega) with ⟨c, hc, rfl⟩ | ho
  · have ca : ∀ {Q : Int32 → Mem → Prop}, v_X5_hasChord (nI c) σ Q = if ex (fun k => oc S k == c) (nF S) = true then Q 1 σ else Q 0 σ := by
      intro Q
      unfold v_X5_hasChord
      have := lp_s (fun n k => v_X5_hasChord_L2 (nI c) Q n (nI k) σ) (Q 0 σ) (fun _ => Q 1 σ) (fun k => oc S k == c) (nF S) (fun n => ?_) (fun n k hk2 hp => ?_) (fun n k hk2 hp => ?_) 5000 0 (by omega) (by omega) (by omega)
      · simp only [ex_first] at this
        exact this
      · (try dsimp only)
        rw [v_X5_hasChord_L2, hA.znO, w_t (nI_le (Nat.le_refl _) (by omega))]
      · (try dsimp only)
        rw [v_X5_hasChord_L2, hA.znO, w_f (nI_ge hk2 (by omega)), w_in (vi (show k < 12 by omega) (by omega)), nI_clamp (by omega), hA.zoc (by omega), w_t (by rw [beq_iff_eq] at hp; rw [hp])]
      · (try dsimp only)
        have := hk.zoc k
        rw [beq_eq_false_iff_ne] at hp
        rw [v_X5_hasChord_L2, hA.znO, w_f (nI_ge hk2 (by omega)), w_in (vi (show k < 12 by omega) (by omega)), nI_clamp (by omega), hA.zoc (by omega), w_f (fun z => hp ((nI_eq (by omega) (by omega)).mp z)), nI_1]
    have cb : ∀ (σ1 : Mem) (K : Mem → Prop) (Q : Int32 → Mem → Prop), B σ1 S → v_X12_offer_L12 (nI c) K Q 5000 0 σ1 = if ex (fun k => oc S k == c) (nF S) = true then Q (-3) σ1 else K σ1 := by
      intro σ1 K Q hB1
      have := lp_s (fun n k => v_X12_offer_L12 (nI c) K Q n (nI k) σ1) (K σ1) (fun _ => Q (-3) σ1) (fun k => oc S k == c) (nF S) (fun n => ?_) (fun n k hk2 hp => ?_) (fun n k hk2 hp => ?_) 5000 0 (by omega) (by omega) (by omega)
      · simp only [ex_first] at this
        exact this
      · (try dsimp only)
        rw [v_X12_offer_L12, hB1.znO, w_t (nI_le (Nat.le_refl _) (by omega))]
      · (try dsimp only)
        rw [v_X12_offer_L12, hB1.znO, w_f (nI_ge hk2 (by omega)), w_in (vi (show k < 12 by omega) (by omega)), nI_clamp (by omega), hB1.zoc (by omega), w_t (by rw [beq_iff_eq] at hp; rw [hp])]
      · (try dsimp only)
        have := hk.zoc k
        rw [beq_eq_false_iff_ne] at hp
        rw [v_X12_offer_L12, hB1.znO, w_f (nI_ge hk2 (by omega)), w_in (vi (show k < 12 by omega) (by omega)), nI_clamp (by omega), hB1.zoc (by omega), w_f (fun z => hp ((nI_eq (by omega) (by omega)).mp z)), nI_1]
    rw [q_isChord_n hc, w_1, ca]
    cases he : ex (fun k => oc S k == c) (nF S)
    · rw [if_neg (by decide), w_0]
      unfold v_X5_isFull v_X5_add
      rw [hA.znO]
      by_cases q : nF S < 12
      · rw [w_t (show nI (nF S) < 12 from (nI_ltI (b := 12) (by omega) (by omega)).mpr q)]; dsimp only
        rw [w_0, hA.znO, w_in (vi q (by omega)), nI_clamp (by omega), nI_1]
        have hF : Fo σ (wI (wI σ 15 6 (nI (nF S + 1))) 16 (nF S) (nI c)) := (Fo.rf.I (by omega)).I (by omega)
        have hA1 : A (wI (wI σ 15 6 (nI (nF S + 1))) 16 (nF S) (nI c)) (stO S c) := by
          refine hA.o_upd hb12 hF stO_o rfl ⟨?_, fun k hk2 => ?_⟩
          · rw [m_I1, if_neg (by omega), m_I1, if_pos ⟨rfl, rfl⟩, stO_n]
          · rw [m_I1, m_I1, stO_c]
            by_cases z : k = nF S
            · rw [if_pos ⟨rfl, z⟩, if_pos z]
            · rw [if_neg (fun q => z q.2), if_neg (by omega), if_neg z, hA.zoc hk2]
        have hB1 := hB.mS hF.m
        generalize wI (wI σ 15 6 (nI (nF S + 1))) 16 (nF S) (nI c) = σ1 at hA1 hB1 ⊢
        (try dsimp only)
        rw [q_isChordM_n hc, w_1, cb σ1 _ _ hB1, he, if_neg (by decide), hB1.znO, w_f (fun z => by have := (nI_eq (b := 12) (by omega) (by omega)).mp z; omega), w_in (vi q (by omega)), nI_clamp (by omega)]
        have e1 : (wI σ1 51 (nF S) (nI c)).1 33 23 = nI (nF S) := by rw [m_I1, if_neg (by omega), hB1.znO]
        rw [e1, nI_1, m_I1, if_pos ⟨rfl, rfl⟩, nI_pred]
        have hG : Go σ1 (wI (wI σ1 51 (nF S) (nI c)) 33 23 (nI (nF S + 1))) := (Go.rf.I (by omega)).I (by omega)
        refine ⟨rfl, _, hA1.cS hG.c, hB1.o_upd hG stO_o rfl ⟨?_, fun k hk2 => ?_⟩, ok_stO hk q hc⟩
        · rw [m_I1, if_pos ⟨rfl, rfl⟩, stO_n]
        · rw [m_I1, if_neg (by omega), m_I1, stO_c]
          by_cases z : k = nF S
          · rw [if_pos ⟨rfl, z⟩, if_pos z]
          · rw [if_neg (fun q => z q.2), if_neg z, hB1.zoc hk2]
      · rw [w_f (show ¬ nI (nF S) < 12 from fun z => q ((nI_ltI (b := 12) (by omega) (by omega)).mp z))]; dsimp only
        rw [w_1, q_isChordM_n hc, w_1, cb σ _ _ hB, he, if_neg (by decide), hB.znO, w_t (show nI (nF S) = 12 from (nI_eq (b := 12) (by omega) (by omega)).mpr (by omega))]
        exact ⟨rfl, hR⟩
    · rw [if_pos rfl, w_1]; dsimp only
      rw [q_isChordM_n hc, w_1, cb σ _ _ hB, he, if_pos rfl]
      exact ⟨rfl, hR⟩
  · rw [q_isChord_o ho, w_0]; dsimp only; rw [q_isChordM_o ho, w_0]
    exact ⟨rfl, hR⟩
-- rows heard go
theorem A_nR0 (h : A σ S) (hk : nB S ≤ 12) : A (wI σ 27 4 0) (uN S 14 0 0 0) := by
  refine h.r_upd hk (Fr.rf.I (by omega)) (fun i j k hi => by rw [uN_1, if_neg (by omega)]) rfl ⟨?_, fun r hr => ?_⟩
  · rw [m_I1, if_pos ⟨rfl, rfl⟩]; rfl
  · have : nR (uN S 14 0 0 0) = 0 := rfl
    omega
theorem B_nR0 (h : B σ S) : B (wI σ 33 33 0) (uN S 14 0 0 0) := by
  refine h.r_upd (Gr.rf.I (by omega)) (fun i j k hi => by rw [uN_1, if_neg (by omega)]) rfl ⟨?_, fun r hr => ?_⟩
  · rw [m_I1, if_pos ⟨rfl, rfl⟩]; rfl
  · have : nR (uN S 14 0 0 0) = 0 := rfl
    omega
theorem ok_nR0 (hk : ok S) : ok (uN S 14 0 0 0) := by
  obtain ⟨hs, hb, hg, ho, ⟨r1, r2, r3, r4⟩, ht⟩ := hk
  have : nR (uN S 14 0 0 0) = 0 := rfl
  exact ⟨hs, hb, hg, ho, ⟨by omega, fun r hr => by omega, fun r hr => by omega, r4⟩, ht⟩
theorem t_unhear (h : RR σ) : v_X11_unhear σ (fun r σ => v_X12_unhear σ (fun r2 σ => r = r2 ∧ RR σ)) := by
  obtain ⟨S, hA, hB, hk⟩ := h
  unfold v_X11_unhear v_X12_unhear v_X2_clear
  have m1 : mS σ (wI σ 27 4 0) := mS.rf.I (by omega)
  have hB1 := hB.mS m1
  have hA1 := A_nR0 hA hk.znB
  rw [hA.znR]
  generalize wI σ 27 4 0 = σ1 at hA1 hB1 ⊢
  dsimp only
  rw [hB1.znR]
  exact ⟨rfl, _, hA1.cS (cS_33 _ _), B_nR0 hB1, ok_nR0 hk⟩
-- trace
theorem kdo_2 (c : Nat) : kdo c ≤ 2 := by
  unfold kdo
  split
  · split <;> omega
  · omega
theorem t_name (h : RR σ) (a1 : Int32) : v_X11_name a1 σ (fun r σ => v_X12_name a1 σ (fun r2 σ => r = r2 ∧ RR σ)) := by
  have hR := h
  obtain ⟨S, hA, hB, hk⟩ := h
  have h12 := hk.znB
  unfold v_X11_name v_X12_name v_X12_name_J26 v_X11_leaveInTrace v_X12_begins
  rcases rg a1 (nB S) (by omega) with ⟨b, hb, rfl⟩ | ho
  · have vb := vi (show b < 12 by omega) (show 12 < 2 ^ 31 by omega)
    have hkd := kdo_2 (bk S b)
    rw [q_knowsB_n hA hk hb, w_1, w_in vb, nI_clamp (by omega), q_kind hA hk hb, hA.ztr]
    have fin : ∀ v w : Int32, A (wI σ 0 9 v) (uI S 1 0 0 v) ∧ B (wI σ 0 9 v) S := fun v _ => ⟨A_tr hA h12 v, hB.mS (mS_fa v 9)⟩
    by_cases e : kdo (bk S b) = 2
    · rw [w_t (by rw [e]; rfl)]
      obtain ⟨hA1, hB1⟩ := fin (31 * tr S + 5) 0
      generalize wI σ 0 9 (31 * tr S + 5) = σ1 at hA1 hB1 ⊢
      dsimp only
      rw [q_isBar_n hB1 hk hb, w_1, w_in vb, hB1.zkd hb, e, w_t (by rfl), hB1.ztr, w_in vb, m_I1, if_neg (by omega), hB1.zkd hb, e, w_t (by rfl)]
      exact ⟨rfl, _, hA1.cS (cS_33 _ _), B_tr hB1 _, hk⟩
    · have ne : ¬ nI (kdo (bk S b)) = 2 := fun q => e ((nI_eq (b := 2) (by omega) (by omega)).mp q)
      rw [w_f ne]
      obtain ⟨hA1, hB1⟩ := fin (31 * tr S + 4) 0
      generalize wI σ 0 9 (31 * tr S + 4) = σ1 at hA1 hB1 ⊢
      dsimp only
      rw [q_isBar_n hB1 hk hb, w_1, w_in vb, hB1.zkd hb, w_f ne, hB1.ztr, w_in vb, m_I1, if_neg (by omega), hB1.zkd hb, w_f ne]
      exact ⟨rfl, _, hA1.cS (cS_33 _ _), B_tr hB1 _, hk⟩
  · rw [q_knowsB_o hA ho, w_0]; dsimp only; rw [q_isBar_o hB ho, w_0]
    exact ⟨rfl, hR⟩
end
