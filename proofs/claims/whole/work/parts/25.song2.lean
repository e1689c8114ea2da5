-- ===== song, both sides =====
section
variable {σ : Mem} {S : St} {P : Int32 → Mem → Prop} {PV : Mem → Prop} {PJ : Int64 → Mem → Prop}
theorem q_w124_n {n : Nat} (h1 : 1 ≤ n) (h2 : n ≤ 24) : v_X12_within (nI n) 1 24 σ P = P 1 σ := by
  unfold v_X12_within
  rw [w_f (show ¬ nI n < 1 from fun z => by have := (nI_ltI (b := 1) (by omega) (by omega)).mp z; omega), w_f (show ¬ (24 : Int32) < nI n from fun z => by have := (nI_ltI (a := 24) (by omega) (by omega)).mp z; omega)]
theorem q_w124_o {n : Nat} (hn : n < 2 ^ 31) (h : ¬ (1 ≤ n ∧ n ≤ 24)) : v_X12_within (nI n) 1 24 σ P = P 0 σ := by
  unfold v_X12_within
  by_cases q : n < 1
  · rw [w_t (show nI n < 1 from (nI_ltI (b := 1) (by omega) (by omega)).mpr q)]
  · rw [w_f (show ¬ nI n < 1 from fun z => q ((nI_ltI (b := 1) (by omega) (by omega)).mp z)), w_t (show (24 : Int32) < nI n from (nI_ltI (a := 24) (by omega) (by omega)).mpr (by omega))]
theorem w_124_n {n : Nat} {X Y : Prop} (h1 : 1 ≤ n) (h2 : n ≤ 24) : ((nI n < 1 → X) ∧ (¬ nI n < 1 → (24 < nI n → X) ∧ (¬ 24 < nI n → Y))) = Y := by
  rw [w_f (show ¬ nI n < 1 from fun z => by have := (nI_ltI (b := 1) (by omega) (by omega)).mp z; omega), w_f (show ¬ (24 : Int32) < nI n from fun z => by have := (nI_ltI (a := 24) (by omega) (by omega)).mp z; omega)]
theorem w_124_o {n : Nat} {X Y : Prop} (hn : n < 2 ^ 31) (h : ¬ (1 ≤ n ∧ n ≤ 24)) : ((nI n < 1 → X) ∧ (¬ nI n < 1 → (24 < nI n → X) ∧ (¬ 24 < nI n → Y))) = X := by
  by_cases q : n < 1
  · rw [w_t (show nI n < 1 from (nI_ltI (b := 1) (by omega) (by omega)).mpr q)]
  · rw [w_f (show ¬ nI n < 1 from fun z => q ((nI_ltI (b := 1) (by omega) (by omega)).mp z)), w_t (show (24 : Int32) < nI n from (nI_ltI (a := 24) (by omega) (by omega)).mpr (by omega))]
theorem i_2l {m : Nat} (hm : m < 2 ^ 31) : (2 : Int64) * Int32.toInt64 (nI m) = lN (2 * m) := by rw [nI_l hm, i_2m]
theorem q_isFullG_n (hA : A σ S) (hk : ok S) (hn : nG S < 8) : v_X1_isFull σ P = P 0 σ := by
  unfold v_X1_isFull
  rw [hA.znG, w_t (show nI (nG S) < 8 from (nI_ltI (b := 8) (by omega) (by omega)).mpr hn)]
theorem q_isFullG_y (hA : A σ S) (hk : ok S) (hn : ¬ nG S < 8) : v_X1_isFull σ P = P 1 σ := by
  have := hk.znG
  unfold v_X1_isFull
  rw [hA.znG, w_f (show ¬ nI (nG S) < 8 from fun z => hn ((nI_ltI (b := 8) (by omega) (by omega)).mp z))]
/-- the class' song, where sheet and lane fit and the fault told so far is f -/
theorem c_J77 {o : Nat} {x3 x4 f : Int32} (hf : ¬ f = 0) : v_X11_song_J77 P x3 x4 o f σ = P ((-10) - f) (wI σ 0 10 f) := by
  unfold v_X11_song_J77
  rw [w_f hf, q_fail]
theorem c_J53 {o : Nat} {x3 x4 f : Int32} (hf : ¬ f = 0) : v_X11_song_J53 P x3 x4 o f σ = P ((-10) - f) (wI σ 0 10 f) := by
  unfold v_X11_song_J53
  rw [w_f hf, c_J77 hf]
theorem m_song_eq (hB : B (wI σ 33 0 0) S) (hk : ok S) {k l : Nat} {a3 a4 : Int32} (hk4 : k < 4) (hl : l < 3) (hla : la S k = l) : v_X12_song (nI k) (nI l) a3 a4 σ P = v_X12_song_J55 P (nI k) a3 a4 (wI σ 33 0 0) := by
  have vk := vi hk4 (show 4 < 2 ^ 31 by omega)
  have nz : ¬ (if la S k < 3 then nI (la S k) else (-9 : Int32)) = -9 := by rw [la_m9 hk]; omega
  unfold v_X12_song
  rw [q_w3_n hk4, w_1, q_w2_n hl, w_1, w_in vk, nI_clamp (by omega), hB.zla hk4, w_f nz, w_in vk, w_t (by rw [if_pos (by omega), hla])]
theorem m_song_3 (hB : B (wI σ 33 0 0) S) (hk : ok S) {k l : Nat} {a3 a4 : Int32} (hk4 : k < 4) (hl : l < 3) (hla : la S k = 3) : v_X12_song (nI k) (nI l) a3 a4 σ P = P ((-10) - 1) (wI (wI σ 33 0 0) 33 0 1) := by
  have vk := vi hk4 (show 4 < 2 ^ 31 by omega)
  have z : (if la S k < 3 then nI (la S k) else (-9 : Int32)) = -9 := by rw [la_m9 hk]; exact hla
  unfold v_X12_song v_X12_song_J55
  rw [q_w3_n hk4, w_1, q_w2_n hl, w_1, w_in vk, nI_clamp (by omega), hB.zla hk4, w_t z, w_in vk, w_t z, q_fails]
theorem m_song_ne (hB : B (wI σ 33 0 0) S) (hk : ok S) {k l : Nat} {a3 a4 : Int32} (hk4 : k < 4) (hl : l < 3) (hl3 : la S k < 3) (hla : ¬ la S k = l) : v_X12_song (nI k) (nI l) a3 a4 σ P = P ((-10) - 2) (wI (wI σ 33 0 0) 33 0 2) := by
  have vk := vi hk4 (show 4 < 2 ^ 31 by omega)
  have nz : ¬ (if la S k < 3 then nI (la S k) else (-9 : Int32)) = -9 := by rw [la_m9 hk]; omega
  unfold v_X12_song
  rw [q_w3_n hk4, w_1, q_w2_n hl, w_1, w_in vk, nI_clamp (by omega), hB.zla hk4, w_f nz, w_in vk, w_f (by rw [if_pos hl3]; exact fun q => hla ((nI_eq (by omega) (by omega)).mp q)), q_fails]
theorem m_song_k {k : Nat} {a2 a3 a4 : Int32} (hk4 : k < 4) (ho : oo a2 3) : v_X12_song (nI k) a2 a3 a4 σ P = P (-2) (wI σ 33 0 0) := by
  unfold v_X12_song
  rw [q_w3_n hk4, w_1, q_w2_o ho, w_0]
theorem m_song_o {a1 a2 a3 a4 : Int32} (ho : oo a1 4) : v_X12_song a1 a2 a3 a4 σ P = P (-1) (wI σ 33 0 0) := by
  unfold v_X12_song
  rw [q_w3_o ho, w_0]
theorem m_J55_neg (hB : B σ S) (hk : ok S) {k : Nat} {a3 a4 : Int32} (hk4 : k < 4) (hl3 : la S k < 3) (q4 : ¬ 0 ≤ a4) : v_X12_song_J55 P (nI k) a3 a4 σ = P ((-10) - 4) (wI σ 33 0 4) := by
  have vk := vi hk4 (show 4 < 2 ^ 31 by omega)
  have nz : ¬ (if la S k < 3 then nI (la S k) else (-9 : Int32)) = -9 := by rw [la_m9 hk]; omega
  unfold v_X12_song_J55
  rw [w_in vk, nI_clamp (by omega), hB.zla hk4, w_f nz, w_f q4, q_fails]
theorem m_J55_i (hB : B σ S) (hk : ok S) {k : Nat} {a3 a4 : Int32} (hk4 : k < 4) (hl3 : la S k < 3) (q4 : 0 ≤ a4) (q3 : a3 < 0) : v_X12_song_J55 P (nI k) a3 a4 σ = P ((-10) - 3) (wI σ 33 0 3) := by
  have vk := vi hk4 (show 4 < 2 ^ 31 by omega)
  have nz : ¬ (if la S k < 3 then nI (la S k) else (-9 : Int32)) = -9 := by rw [la_m9 hk]; omega
  unfold v_X12_song_J55 v_X12_song_J117
  rw [w_in vk, nI_clamp (by omega), hB.zla hk4, w_f nz, w_t q4, w_t q3, q_fails]
theorem m_J55_o (hB : B σ S) (hk : ok S) {k i m : Nat} (hk4 : k < 4) (hl3 : la S k < 3) (hi : i < 2 ^ 31) (hm : m < 2 ^ 31) (hc : ¬ i + 2 * m ≤ sl S k) : v_X12_song_J55 P (nI k) (nI i) (nI m) σ = P ((-10) - 3) (wI σ 33 0 3) := by
  have vk := vi hk4 (show 4 < 2 ^ 31 by omega)
  have hsl := hk.zsl k
  have nz : ¬ (if la S k < 3 then nI (la S k) else (-9 : Int32)) = -9 := by rw [la_m9 hk]; omega
  unfold v_X12_song_J55 v_X12_song_J117
  rw [w_in vk, nI_clamp (by omega), hB.zla hk4, w_f nz, w_t (nI_pos' hm), w_f (nI_pos hi), w_in vk, hB.zsl hk4]
  by_cases q5 : sl S k < i
  · rw [w_t (nI_lt q5 (by omega)), q_fails]
  · rw [w_f (nI_nlt (by omega) (by omega)), w_in vk, i_2l hm, pk_sub (by omega), nI_l (by omega), w_f (by rw [pk_lLE (by omega) (by omega)]; omega), q_fails]
theorem m_J55_a (hB : B σ S) (hk : ok S) {k i m : Nat} (hk4 : k < 4) (hl3 : la S k < 3) (hc : i + 2 * m ≤ sl S k) (hm2 : ¬ (1 ≤ m ∧ m ≤ 24)) : v_X12_song_J55 P (nI k) (nI i) (nI m) σ = P (-2) σ := by
  have vk := vi hk4 (show 4 < 2 ^ 31 by omega)
  have hsl := hk.zsl k
  have nz : ¬ (if la S k < 3 then nI (la S k) else (-9 : Int32)) = -9 := by rw [la_m9 hk]; omega
  unfold v_X12_song_J55
  rw [w_in vk, nI_clamp (by omega), hB.zla hk4, w_f nz, w_t (nI_pos' (by omega)), w_f (nI_pos (by omega)), w_in vk, hB.zsl hk4, w_f (nI_nlt (by omega) (by omega)), w_in vk, i_2l (by omega), pk_sub (by omega), nI_l (by omega), w_t (by rw [lN_le (by omega) (by omega)]; omega), q_w124_o (by omega) hm2, w_0]
theorem m_J55_b (hB : B σ S) (hk : ok S) {k i m : Nat} (hk4 : k < 4) (hl3 : la S k < 3) (hc : i + 2 * m ≤ sl S k) (hm2 : 1 ≤ m ∧ m ≤ 24) (hb : ex (bad S k i) m = true) : v_X12_song_J55 P (nI k) (nI i) (nI m) σ = P (-2) σ := by
  have vk := vi hk4 (show 4 < 2 ^ 31 by omega)
  have hsl := hk.zsl k
  have nz : ¬ (if la S k < 3 then nI (la S k) else (-9 : Int32)) = -9 := by rw [la_m9 hk]; omega
  unfold v_X12_song_J55
  rw [w_in vk, nI_clamp (by omega), hB.zla hk4, w_f nz, w_t (nI_pos' (by omega)), w_f (nI_pos (by omega)), w_in vk, hB.zsl hk4, w_f (nI_nlt (by omega) (by omega)), w_in vk, i_2l (by omega), pk_sub (by omega), nI_l (by omega), w_t (by rw [lN_le (by omega) (by omega)]; omega), q_w124_n hm2.1 hm2.2, w_1, q_songL140 hB hk4 (by omega), hb, if_pos (by rfl)]
theorem m_J55_f (hB : B σ S) (hk : ok S) {k i m : Nat} (hk4 : k < 4) (hl3 : la S k < 3) (hc : i + 2 * m ≤ sl S k) (hm2 : 1 ≤ m ∧ m ≤ 24) (hb : ex (bad S k i) m = false) (hg : ¬ nG S < 8) : v_X12_song_J55 P (nI k) (nI i) (nI m) σ = P (-4) σ := by
  have vk := vi hk4 (show 4 < 2 ^ 31 by omega)
  have hsl := hk.zsl k
  have h8 := hk.znG
  have nz : ¬ (if la S k < 3 then nI (la S k) else (-9 : Int32)) = -9 := by rw [la_m9 hk]; omega
  unfold v_X12_song_J55
  rw [w_in vk, nI_clamp (by omega), hB.zla hk4, w_f nz, w_t (nI_pos' (by omega)), w_f (nI_pos (by omega)), w_in vk, hB.zsl hk4, w_f (nI_nlt (by omega) (by omega)), w_in vk, i_2l (by omega), pk_sub (by omega), nI_l (by omega), w_t (by rw [lN_le (by omega) (by omega)]; omega), q_w124_n hm2.1 hm2.2, w_1, q_songL140 hB hk4 (by omega), hb, if_neg (by decide), hB.znG, w_t (show nI (nG S) = 8 from (nI_eq (b := 8) (by omega) (by omega)).mpr (by omega))]
theorem m_J55_y (hB : B σ S) (hk : ok S) {k i m : Nat} (hk4 : k < 4) (hl3 : la S k < 3) (hc : i + 2 * m ≤ sl S k) (hm2 : 1 ≤ m ∧ m ≤ 24) (hb : ex (bad S k i) m = false) (hg : nG S < 8) (K : ∀ σ', B σ' (stG S k i m) → cS σ σ' → P (nI (nG S)) σ') : v_X12_song_J55 P (nI k) (nI i) (nI m) σ := by
  have vk := vi hk4 (show 4 < 2 ^ 31 by omega)
  have hsl := hk.zsl k
  have nz : ¬ (if la S k < 3 then nI (la S k) else (-9 : Int32)) = -9 := by rw [la_m9 hk]; omega
  unfold v_X12_song_J55
  rw [w_in vk, nI_clamp (by omega), hB.zla hk4, w_f nz, w_t (nI_pos' (by omega)), w_f (nI_pos (by omega)), w_in vk, hB.zsl hk4, w_f (nI_nlt (by omega) (by omega)), w_in vk, i_2l (by omega), pk_sub (by omega), nI_l (by omega), w_t (by rw [lN_le (by omega) (by omega)]; omega), q_w124_n hm2.1 hm2.2, w_1, q_songL140 hB hk4 (by omega), hb, if_neg (by decide), hB.znG, w_f (fun q => by have := (nI_eq (b := 8) (by omega) (by omega)).mp q; omega)]
  exact k_songB hB hk hk4 hg hm2.2 (by omega) hb K
theorem t_song (h : RR σ) (a1 a2 a3 a4 : Int32) : v_X11_song a1 a2 a3 a4 σ (fun r σ => v_X12_song a1 a2 a3 a4 σ (fun r2 σ => r = r2 ∧ RR σ)) := by
  obtain ⟨S1, hA, hB, hk1⟩ := h
  have h12 := hk1.znB
  unfold v_X11_song
  have hA0 := A_fa hA h12 0
  have hB0 := hB.mS (mS_fa (σ := σ) 0 10)
  generalize wI σ 0 10 0 = σ0 at hA0 hB0 ⊢
  have hk : ok (uI S1 2 0 0 0) := hk1
  have hB00 : ∀ σ1, mS σ0 σ1 → B (wI σ1 33 0 0) (uI S1 2 0 0 0) := fun σ1 m1 => B_fa (hB0.mS m1) 0
  have hB01 := hB00 σ0 mS.rf
  have fin : RR (wI σ0 33 0 0) := RRf hA0 (cS_33 _ _) hB01 hk
  have finf : ∀ v : Int32, RR (wI (wI (wI σ0 0 10 v) 33 0 0) 33 0 v) := fun v =>
    RRf (A_fa2 hA0 h12) ((cS_33 _ _).tr (cS_33 _ _)) (B_fa2 (hB00 _ (mS_fa v 10))) (S := uI S1 2 0 0 v) hk1
  rcases rg a1 4 (by omega) with ⟨k, hk4, rfl⟩ | ho
  · have vk := vi hk4 (show 4 < 2 ^ 31 by omega)
    have hla := hk.zla k
    have hsl := hk.zsl k
    rcases rg a2 3 (by omega) with ⟨l, hl, rfl⟩ | ho
    · rw [q_isSheet_n hk4, w_1, q_isLane_n hl, w_1, w_in vk, nI_clamp (by omega), q_faultAs hA0 hk hk4 hl]
      by_cases z : la (uI S1 2 0 0 0) k = 3
      · rw [if_pos z, w_f (by decide), c_J53 (by decide)]; (try dsimp only)
        rw [m_song_3 (hB00 _ (mS_fa _ _)) hk hk4 hl z]
        exact ⟨rfl, finf 1⟩
      · have hl3 : la (uI S1 2 0 0 0) k < 3 := by omega
        rw [if_neg z]
        by_cases y : la (uI S1 2 0 0 0) k = l
        · rw [if_pos y, w_t rfl]
          by_cases q4 : (0 : Int32) ≤ a4
          · rw [w_t q4]
            have q40 : ¬ a4 < 0 := fun q => (fa_of_lt q).2.1 q4
            obtain ⟨m, hm, rfl⟩ := nI_of q40
            unfold v_X11_song_J53
            rw [w_t rfl, i_2l hm]
            by_cases q3 : a3 < 0
            · rw [q_hasCells_neg q3, w_0, c_J77 (by decide)]; (try dsimp only)
              rw [m_song_eq (hB00 _ (mS_fa _ _)) hk hk4 hl y, m_J55_i (hB00 _ (mS_fa _ _)) hk hk4 hl3 q4 q3]
              exact ⟨rfl, finf 3⟩
            · obtain ⟨i, hi, rfl⟩ := nI_of q3
              by_cases hc : i + 2 * m ≤ sl (uI S1 2 0 0 0) k
              · rw [q_hasCells_n hA0 hk hk4 hl3 hc, w_1]
                unfold v_X11_song_J77
                rw [w_t rfl]
                by_cases hm2 : 1 ≤ m ∧ m ≤ 24
                · rw [w_124_n hm2.1 hm2.2, q_hasSong hA0 hk4 (by omega), w_bI]
                  cases hb : ex (bad (uI S1 2 0 0 0) k i) m
                  · rw [if_pos (by rfl)]
                    by_cases hg : nG (uI S1 2 0 0 0) < 8
                    · rw [q_isFullG_n hA0 hk hg, w_0]
                      refine k_addG hA0 hk hk4 hg hm2.2 (by omega) hb (fun σ1 hA1 m1 => ?_)
                      (try dsimp only)
                      rw [m_song_eq (hB00 _ m1) hk hk4 hl y]
                      exact m_J55_y (hB00 _ m1) hk hk4 hl3 hc hm2 hb hg (fun σ2 hB2 c2 => ⟨rfl, RRf hA1 ((cS_33 _ _).tr c2) hB2 (ok_stG hk hg hm2.2 hm2.1 hb)⟩)
                    · rw [q_isFullG_y hA0 hk hg, w_1]; (try dsimp only)
                      rw [m_song_eq hB01 hk hk4 hl y, m_J55_f hB01 hk hk4 hl3 hc hm2 hb hg]
                      exact ⟨rfl, fin⟩
                  · rw [if_neg (by decide)]; (try dsimp only)
                    rw [m_song_eq hB01 hk hk4 hl y, m_J55_b hB01 hk hk4 hl3 hc hm2 hb]
                    exact ⟨rfl, fin⟩
                · rw [w_124_o hm hm2]; (try dsimp only)
                  rw [m_song_eq hB01 hk hk4 hl y, m_J55_a hB01 hk hk4 hl3 hc hm2]
                  exact ⟨rfl, fin⟩
              · rw [q_hasCells_o hA0 hk hk4 hl3 hi (by omega) hc, w_0, c_J77 (by decide)]; (try dsimp only)
                rw [m_song_eq (hB00 _ (mS_fa _ _)) hk hk4 hl y, m_J55_o (hB00 _ (mS_fa _ _)) hk hk4 hl3 hi hm hc]
                exact ⟨rfl, finf 3⟩
          · rw [w_f q4, c_J53 (by decide)]; (try dsimp only)
            rw [m_song_eq (hB00 _ (mS_fa _ _)) hk hk4 hl y, m_J55_neg (hB00 _ (mS_fa _ _)) hk hk4 hl3 q4]
            exact ⟨rfl, finf 4⟩
        · rw [if_neg y, w_f (by decide), c_J53 (by decide)]; (try dsimp only)
          rw [m_song_ne (hB00 _ (mS_fa _ _)) hk hk4 hl hl3 y]
          exact ⟨rfl, finf 2⟩
    · rw [q_isSheet_n hk4, w_1, q_isLane_o ho, w_0]; (try dsimp only)
      rw [m_song_k hk4 ho]
      exact ⟨rfl, fin⟩
  · rw [q_isSheet_o ho, w_0]; (try dsimp only)
    rw [m_song_o ho]
    exact ⟨rfl, fin⟩
end
