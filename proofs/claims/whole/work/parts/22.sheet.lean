-- ===== sheets; telling; bars built of offers =====
section
variable {σ : Mem} {S : St} {P : Int32 → Mem → Prop} {PV : Mem → Prop} {PJ : Int64 → Mem → Prop}
theorem wI_wIr {o k : Nat} {f : Nat → Int32} {v : Int32} : wI (wIr σ o f) o k v = wIr σ o (fun j => if j = k then v else f j) := by
  apply Prod.ext
  · funext a j
    rw [m_I1, m_Ir1, m_Ir1]
    by_cases h : a = o
    · simp [h]
    · simp [h]
  · rfl
theorem wIr_self {o : Nat} : wIr σ o (σ.1 o) = σ := by
  apply Prod.ext
  · funext a j
    rw [m_Ir1]; split
    · next h => rw [h]
    · rfl
  · rfl
/-- Arrays.fill over ints -/
theorem q_fill {o n t : Nat} {v : Int32} (hk : kd o = (t, n)) (hn : n ≤ 4500) : v_J7_fill_53178 o v σ PV = PV (wIr σ o (fun j => if j < n then v else σ.1 o j)) := by
  unfold v_J7_fill_53178
  rw [hk]
  have := lp_c (fun m k => v_J7_fill_53178_L5 o v (nI n) PV m (nI k) (wIr σ o (fun j => if j < k then v else σ.1 o j))) (PV (wIr σ o (fun j => if j < n then v else σ.1 o j))) n (fun m => ?_) (fun m k hk2 => ?_) 5000 0 (by omega) (by omega)
  · (try dsimp only at this)
    simp only [Nat.not_lt_zero, if_false] at this
    rw [wIr_self] at this
    exact this
  · (try dsimp only)
    rw [v_J7_fill_53178_L5, w_t (nI_le (Nat.le_refl _) (by omega))]
  · (try dsimp only)
    rw [v_J7_fill_53178_L5, w_f (nI_ge hk2 (by omega)), hk, w_in (vi hk2 (by omega)), nI_clamp (by omega), nI_1, wI_wIr]
    congr 1
    congr 1
    funext j
    by_cases h : j = k
    · rw [if_pos h, if_pos (by omega)]
    · rw [if_neg h]
      by_cases h2 : j < k
      · rw [if_pos h2, if_pos (by omega)]
      · rw [if_neg h2, if_neg (by omega)]
/-- a sheet anew -/
def stT (S : St) (k l n : Nat) : St := uC (uN (uN S 18 k 0 l) 19 k 0 n) 0 k (fun _ => 0)
theorem stT_la {k l n i : Nat} : la (stT S k l n) i = if i = k then l else la S i := by simp [la, stT, uC_1, uN_1]
theorem stT_sl {k l n i : Nat} : sl (stT S k l n) i = if i = k then n else sl S i := by simp [sl, stT, uC_1, uN_1]
theorem stT_ce {k l n i j : Nat} : ce (stT S k l n) i j = if i = k then 0 else ce S i j := by simp [ce, stT, uC_2, uN_2]
theorem stT_o {k l n : Nat} (i j m : Nat) (h : ¬ (18 ≤ i ∧ i ≤ 19)) : (stT S k l n).1 i j m = S.1 i j m := by
  unfold stT
  rw [uC_1, uN_1, if_neg (by omega), uN_1, if_neg (by omega)]
theorem ok_stT (hk : ok S) {k l n : Nat} (hl : l ≤ 3) (hn : n ≤ 64) : ok (stT S k l n) := by
  obtain ⟨hs, hb, hg, ho, hr, t1, t2⟩ := hk
  refine ⟨hs, hb, hg, ho, hr, fun i => ?_, fun i => ?_⟩
  · rw [stT_la]; split
    · exact hl
    · exact t1 i
  · rw [stT_sl]; split
    · exact hn
    · exact t2 i
theorem q_fail {v : Int32} : v_X11_fail v σ P = P ((-10) - v) (wI σ 0 10 v) := rfl
theorem q_fails {v : Int32} : v_X12_fails v σ P = P ((-10) - v) (wI σ 33 0 v) := rfl
theorem q_lost {v : Int32} : v_X12_lost v σ PJ = PJ (-9223372036854775808) (wI σ 33 0 v) := rfl
theorem bT_ne (k : Nat) : ¬ (33 ≤ bT + k ∧ bT + k < 64) := by have : bT = 100 := rfl; omega
theorem RRf {σ1 σ2 : Mem} (hA : A σ1 S) (c : cS σ1 σ2) (hB : B σ2 S) (hk : ok S) : RR σ2 := ⟨S, hA.cS c, hB, hk⟩
theorem uI_twice {f i j : Nat} {v w : Int32} : uI (uI S f i j v) f i j w = uI S f i j w := by
  apply Prod.ext
  · rfl
  · funext a b c
    rw [uI_2, uI_2, uI_2]
    split <;> rfl
theorem A_fa2 {v0 v : Int32} (h : A σ (uI S 2 0 0 v0)) (hk : nB S ≤ 12) : A (wI σ 0 10 v) (uI S 2 0 0 v) := by
  have := A_fa h hk v
  rw [uI_twice] at this
  exact this
theorem B_fa2 {v0 v : Int32} (h : B σ (uI S 2 0 0 v0)) : B (wI σ 33 0 v) (uI S 2 0 0 v) := by
  have := B_fa h v
  rw [uI_twice] at this
  exact this
theorem Ft.Ir {σ' : Mem} {o : Nat} {f : Nat → Int32} (h : Ft σ σ') (ho : o = 0 ∨ (100 ≤ o ∧ o ≤ 107)) : Ft σ (wIr σ' o f) := fun a j h1 => by
  rw [m_Ir1, m_Ir2, if_neg (by rintro rfl; exact h1 ho)]
  exact h a j h1
theorem k_begin (hA : A σ S) (hk : nB S ≤ 12) {k l n : Nat} (hk4 : k < 4) (hl : l < 3) (K : ∀ σ', A σ' (stT S k l n) → mS σ σ' → PV σ') : v_X8_begin (bT + k) (nI l) (nI n) σ PV := by
  have e3 : bT = 100 := rfl
  unfold v_X8_begin
  rw [q_fill (kd_sheet hk4).2 (by omega)]
  have hF : Ft σ (wIr (wI (wI σ (bT + k) 1 (nI l)) (bT + k) 2 (nI n)) (bT + k + 4) (fun j => if j < 64 then 0 else (wI (wI σ (bT + k) 1 (nI l)) (bT + k) 2 (nI n)).1 (bT + k + 4) j)) := ((Ft.rf.I (by omega)).I (by omega)).Ir (by omega)
  refine K _ (hA.t_upd hk hF stT_o ⟨?_, ?_, fun i hi => ⟨?_, ?_, fun j hj => ?_⟩⟩) hF.m
  · rw [m_Ir1, if_neg (by omega), m_I1, if_neg (by omega), m_I1, if_neg (by omega), hA.ztr]; simp [tr, stT, uC_2, uN_2]
  · rw [m_Ir1, if_neg (by omega), m_I1, if_neg (by omega), m_I1, if_neg (by omega), hA.zfa]; simp [fa, stT, uC_2, uN_2]
  · rw [m_Ir1, if_neg (by omega), m_I1, if_neg (by omega), m_I1, stT_la]
    by_cases z : i = k
    · rw [if_pos ⟨by omega, rfl⟩, if_pos z, if_pos hl]
    · rw [if_neg (by omega), if_neg z, hA.zla hi]
  · rw [m_Ir1, if_neg (by omega), m_I1, stT_la, stT_sl]
    by_cases z : i = k
    · rw [if_pos ⟨by omega, rfl⟩, if_pos z, if_pos z, if_pos hl]
    · rw [if_neg (by omega), m_I1, if_neg (by omega), if_neg z, if_neg z, hA.zsl hi]
  · rw [m_Ir1, stT_ce]
    by_cases z : i = k
    · rw [if_pos (by omega), if_pos hj, if_pos z]
    · rw [if_neg (by omega), m_I1, if_neg (by omega), m_I1, if_neg (by omega), if_neg z, hA.zce hi hj]
theorem k_sheetB (hB : B σ S) {k l n : Nat} (hk4 : k < 4) (hl : l < 3) (K : ∀ σ', B σ' (stT S k l n) → cS σ σ' → P 1 σ') : v_X12_sheet_L61 (nI k) P 5000 0 (wI (wI σ 48 k (nI l)) 49 k (nI n)) := by
  refine lp_i (fun m j s => v_X12_sheet_L61 (nI k) P m (nI j) s) (fun j s => Gt σ s ∧ s.1 33 0 = σ.1 33 0 ∧ s.1 33 1 = σ.1 33 1 ∧ (∀ i, s.1 48 i = if i = k then nI l else σ.1 48 i) ∧ (∀ i, s.1 49 i = if i = k then nI n else σ.1 49 i) ∧ ∀ m, s.1 50 m = if 64 * k ≤ m ∧ m < 64 * k + j then 0 else σ.1 50 m) 64 (fun m s hI => ?_) (fun m j s hj hI ih => ?_) 5000 0 _ (by omega) (by omega) ?_
  · obtain ⟨c0, d0, d1, c1, c2, c3⟩ := hI
    (try dsimp only)
    rw [v_X12_sheet_L61, w_t (show (64 : Int32) ≤ nI 64 by decide)]
    refine K s (hB.t_upd c0 stT_o ⟨?_, ?_, fun i hi => ⟨?_, ?_, fun j hj => ?_⟩⟩) c0.c
    · rw [d1, hB.ztr]; simp [tr, stT, uC_2, uN_2]
    · rw [d0, hB.zfa]; simp [fa, stT, uC_2, uN_2]
    · rw [c1, stT_la]
      by_cases z : i = k
      · rw [if_pos z, if_pos z, if_pos hl]
      · rw [if_neg z, if_neg z, hB.zla hi]
    · rw [c2, stT_sl]
      by_cases z : i = k
      · rw [if_pos z, if_pos z]
      · rw [if_neg z, if_neg z, hB.zsl hi]
    · rw [c3, stT_ce]
      by_cases z : i = k
      · rw [if_pos (by omega), if_pos z]
      · rw [if_neg (by omega), if_neg z, hB.zce hi hj]
  · obtain ⟨c0, d0, d1, c1, c2, c3⟩ := hI
    (try dsimp only)
    rw [v_X12_sheet_L61, w_f (show ¬ (64 : Int32) ≤ nI j from nI_ge (b := 64) hj (by omega)), i_64, w_in (vi (by omega) (by omega)), nI_clamp (by omega), nI_1]
    refine ih _ ⟨c0.I (by omega), ?_, ?_, fun i => ?_, fun i => ?_, fun i => ?_⟩
    · rw [m_I1, if_neg (by omega), d0]
    · rw [m_I1, if_neg (by omega), d1]
    · rw [m_I1, if_neg (by omega), c1]
    · rw [m_I1, if_neg (by omega), c2]
    · rw [m_I1, c3]
      by_cases z : i = 64 * k + j
      · rw [if_pos ⟨rfl, z⟩, if_pos (by omega)]
      · rw [if_neg (fun q => z q.2)]
        by_cases y : 64 * k ≤ i ∧ i < 64 * k + j
        · rw [if_pos y, if_pos (by omega)]
        · rw [if_neg y, if_neg (by omega)]
  · refine ⟨(Gt.rf.I (by omega)).I (by omega), ?_, ?_, fun i => ?_, fun i => ?_, fun i => ?_⟩
    · rw [m_I1, if_neg (by omega), m_I1, if_neg (by omega)]
    · rw [m_I1, if_neg (by omega), m_I1, if_neg (by omega)]
    · simp only [m_I1]; simp
    · simp only [m_I1]; simp
    · simp only [m_I1]; rw [if_neg (by omega), if_neg (by omega), if_neg (by omega)]
theorem le64 (a : Int32) : (∃ n, n < 65 ∧ a = nI n ∧ a ≤ 64 ∧ 0 ≤ a) ∨ (a ≤ 64 ∧ ¬ 0 ≤ a) ∨ ¬ a ≤ 64 := by
  rcases rg a 65 (by omega) with ⟨n, hn, rfl⟩ | h | h
  · exact Or.inl ⟨n, hn, rfl, (nI_leI (b := 64) (by omega) (by omega)).mpr (by omega), nI_pos' (by omega)⟩
  · refine Or.inr (Or.inl ⟨?_, (fa_of_lt h).2.1⟩)
    rw [fa_le, show (64 : Int32).toInt = 64 from by decide]
    rw [fa_lt, show (0 : Int32).toInt = 0 from by decide] at h
    omega
  · refine Or.inr (Or.inr ?_)
    rw [fa_le, nI_toInt (by omega)] at h
    rw [fa_le, show (64 : Int32).toInt = 64 from by decide]
    omega
theorem t_sheet (h : RR σ) (a1 a2 a3 : Int32) : v_X11_sheet a1 a2 a3 σ (fun r σ => v_X12_sheet a1 a2 a3 σ (fun r2 σ => r = r2 ∧ RR σ)) := by
  obtain ⟨S, hA, hB, hk⟩ := h
  have h12 := hk.znB
  unfold v_X11_sheet v_X12_sheet
  have hA0 := A_fa hA h12 0
  have hB0 := hB.mS (mS_fa (σ := σ) 0 10)
  generalize wI σ 0 10 0 = σ0 at hA0 hB0 ⊢
  have hk0 : ok (uI S 2 0 0 0) := hk
  have fin : RR (wI σ0 33 0 0) := RRf hA0 (cS_33 _ _) (B_fa hB0 0) hk0
  rcases rg a1 4 (by omega) with ⟨k, hk4, rfl⟩ | ho
  · have vk := vi hk4 (show 4 < 2 ^ 31 by omega)
    rcases rg a2 3 (by omega) with ⟨l, hl, rfl⟩ | ho
    · rw [q_isSheet_n hk4, w_1, q_isLane_n hl, w_1]
      rcases le64 a3 with ⟨n, hn, rfl, g1, g2⟩ | ⟨g1, g2⟩ | g1
      · rw [w_t g1, w_t g2, w_in vk, nI_clamp (by omega)]
        refine k_begin hA0 h12 hk4 hl (fun σ1 hA1 m1 => ?_)
        dsimp only
        rw [q_w3_n hk4, w_1, q_w2_n hl, w_1, w_t g1, w_t g2, w_in vk, w_in vk]
        have hB1 := B_fa (hB0.mS m1) 0
        refine k_sheetB hB1 hk4 hl (fun σ2 hB2 c2 => ⟨rfl, RRf hA1 ((cS_33 _ _).tr c2) hB2 (ok_stT hk0 (by omega) (by omega))⟩)
      · rw [w_t g1, w_f g2, q_fail]; dsimp only
        rw [q_w3_n hk4, w_1, q_w2_n hl, w_1, w_t g1, w_f g2, q_fails]
        exact ⟨rfl, RRf (A_fa2 hA0 h12) ((cS_33 _ _).tr (cS_33 _ _)) (B_fa2 (B_fa (hB0.mS (mS_fa _ 10)) 0)) (S := uI S 2 0 0 4) hk⟩
      · rw [w_f g1]; dsimp only
        rw [q_w3_n hk4, w_1, q_w2_n hl, w_1, w_f g1]
        exact ⟨rfl, fin⟩
    · rw [q_isSheet_n hk4, w_1, q_isLane_o ho, w_0]; dsimp only
      rw [q_w3_n hk4, w_1, q_w2_o ho, w_0]
      exact ⟨rfl, fin⟩
  · rw [q_isSheet_o ho, w_0]; dsimp only
    rw [q_w3_o ho, w_0]
    exact ⟨rfl, fin⟩
-- lose
theorem la_m1 (hk : ok S) (k : Nat) : ((if la S k < 3 then nI (la S k) else (-1 : Int32)) = -1) = (la S k = 3) := by
  have := hk.zla k
  by_cases h : la S k < 3
  · rw [if_pos h, i_eqm (by omega) (by decide)]
    simp; omega
  · rw [if_neg h]; simp; omega
theorem la_m9 (hk : ok S) (k : Nat) : ((if la S k < 3 then nI (la S k) else (-9 : Int32)) = -9) = (la S k = 3) := by
  have := hk.zla k
  by_cases h : la S k < 3
  · rw [if_pos h, i_eqm (by omega) (by decide)]
    simp; omega
  · rw [if_neg h]; simp; omega
theorem A_lose (h : A σ S) (hk : nB S ≤ 12) {k : Nat} (hk4 : k < 4) : A (wI (wI σ (bT + k) 1 (-1)) (bT + k) 2 0) (uN S 18 k 0 3) := by
  have e3 : bT = 100 := rfl
  have e : ∀ i, la (uN S 18 k 0 3) i = if i = k then 3 else la S i := fun i => by simp [la, uN_1]
  refine h.t_upd hk ((Ft.rf.I (by omega)).I (by omega)) (fun i j m hi => by rw [uN_1, if_neg (by omega)]) ⟨?_, ?_, fun i hi => ⟨?_, ?_, fun j hj => ?_⟩⟩
  · rw [m_I1, if_neg (by omega), m_I1, if_neg (by omega), h.ztr]; rfl
  · rw [m_I1, if_neg (by omega), m_I1, if_neg (by omega), h.zfa]; rfl
  · rw [m_I1, if_neg (by omega), m_I1, e]
    by_cases z : i = k
    · rw [if_pos ⟨by omega, rfl⟩, if_pos z, if_neg (by omega)]
    · rw [if_neg (by omega), if_neg z, h.zla hi]
  · rw [m_I1, e]
    by_cases z : i = k
    · rw [if_pos ⟨by omega, rfl⟩, if_pos z, if_neg (by omega)]
    · rw [if_neg (by omega), m_I1, if_neg (by omega), if_neg z, h.zsl hi]; rfl
  · rw [m_I1, if_neg (by omega), m_I1, if_neg (by omega), h.zce hi hj]; rfl
theorem B_lose (h : B σ S) {k : Nat} : B (wI σ 48 k (-9)) (uN S 18 k 0 3) := by
  have e : ∀ i, la (uN S 18 k 0 3) i = if i = k then 3 else la S i := fun i => by simp [la, uN_1]
  refine h.t_upd (Gt.rf.I (by omega)) (fun i j m hi => by rw [uN_1, if_neg (by omega)]) ⟨?_, ?_, fun i hi => ⟨?_, ?_, fun j hj => ?_⟩⟩
  · rw [m_I1, if_neg (by omega), h.ztr]; rfl
  · rw [m_I1, if_neg (by omega), h.zfa]; rfl
  · rw [m_I1, e]
    by_cases z : i = k
    · rw [if_pos ⟨rfl, z⟩, if_pos z, if_neg (by omega)]
    · rw [if_neg (fun q => z q.2), if_neg z, h.zla hi]
  · rw [m_I1, if_neg (by omega), h.zsl hi]; rfl
  · rw [m_I1, if_neg (by omega), h.zce hi hj]; rfl
theorem ok_lose (hk : ok S) {k : Nat} : ok (uN S 18 k 0 3) := by
  obtain ⟨hs, hb, hg, ho, hr, t1, t2⟩ := hk
  refine ⟨hs, hb, hg, ho, hr, fun i => ?_, t2⟩
  show (uN S 18 k 0 3).1 18 i 0 ≤ 3
  rw [uN_1]; split
  · omega
  · exact t1 i
theorem t_lose (h : RR σ) (a1 : Int32) : v_X11_lose a1 σ (fun r σ => v_X12_lose a1 σ (fun r2 σ => r = r2 ∧ RR σ)) := by
  have hR := h
  obtain ⟨S, hA, hB, hk⟩ := h
  have h12 := hk.znB
  unfold v_X11_lose v_X12_lose v_X8_drop v_X8_isNothing
  rcases rg a1 4 (by omega) with ⟨k, hk4, rfl⟩ | ho
  · have vk := vi hk4 (show 4 < 2 ^ 31 by omega)
    have e3 : bT = 100 := rfl
    rw [q_isSheet_n hk4, w_1, w_in vk, nI_clamp (by omega), hA.zla hk4, w_ite]
    simp only [la_m1 hk]
    have hA1 := A_lose hA h12 hk4
    have m1 : mS σ (wI (wI σ (bT + k) 1 (-1)) (bT + k) 2 0) := (mS.rf.I (by omega)).I (by omega)
    have hB1 := hB.mS m1
    generalize wI (wI σ (bT + k) 1 (-1)) (bT + k) 2 0 = σ1 at hA1 hB1 ⊢
    have fin : RR (wI σ1 48 k (-9)) := RRf hA1 (cS.rf.I (by omega)) (B_lose hB1) (ok_lose hk)
    by_cases z : la S k = 3
    · simp only [z, if_true, w_0, w_1, q_asNumber_0, q_asNumber_1, q_w3_n hk4, w_in vk, hB1.zla hk4, w_ite, la_m9 hk]
      simp
      exact fin
    · simp only [z, if_false, w_0, w_1, q_asNumber_0, q_asNumber_1, q_w3_n hk4, w_in vk, hB1.zla hk4, w_ite, la_m9 hk]
      simp
      exact fin
  · rw [q_isSheet_o ho, w_0]; dsimp only
    rw [q_w3_o ho, w_0]
    exact ⟨rfl, hR⟩
-- put
theorem q_wm_n {j n : Nat} (h : j < n) (hn : n < 2 ^ 31) : v_X12_within (nI j) 0 (nI n - 1) σ P = P 1 σ := by
  rw [show nI n - 1 = nI (n - 1) from pk_sub (b := 1) (by omega)]
  exact q_within_n (by omega) (by omega)
theorem q_wm_o {a : Int32} {n : Nat} (h : oo a n) (hn : n < 2 ^ 31) : v_X12_within a 0 (nI n - 1) σ P = P 0 σ := by
  cases n with
  | zero =>
    unfold v_X12_within
    rw [w_ite, w_ite]
    rcases h with h | h
    · rw [if_pos h]
    · by_cases q : a < 0
      · rw [if_pos q]
      · rw [if_neg q, if_pos]
        rw [fa_le, nI_toInt (by omega)] at h
        rw [fa_lt, show (nI 0 - 1 : Int32).toInt = -1 from by decide]
        omega
  | succ m =>
    rw [nI_pred]
    exact q_within_o h hn
theorem A_ce (h : A σ S) (hk : nB S ≤ 12) {k i : Nat} {v : Int32} (hk4 : k < 4) (hi64 : i < 64) : A (wI σ (bT + k + 4) i v) (uI S 0 k i v) := by
  have e3 : bT = 100 := rfl
  refine h.t_upd hk (Ft.rf.I (by omega)) (fun _ _ _ _ => rfl) ⟨?_, ?_, fun i1 hi => ⟨?_, ?_, fun j hj => ?_⟩⟩
  · rw [m_I1, if_neg (by omega), h.ztr]; simp [tr, uI_2]
  · rw [m_I1, if_neg (by omega), h.zfa]; simp [fa, uI_2]
  · rw [m_I1, if_neg (by omega), h.zla hi]; rfl
  · rw [m_I1, if_neg (by omega), h.zsl hi]; rfl
  · rw [m_I1]
    show _ = (uI S 0 k i v).2 0 i1 j
    rw [uI_2]
    by_cases z : i1 = k ∧ j = i
    · rw [if_pos ⟨by omega, z.2⟩, if_pos ⟨rfl, z⟩]
    · rw [if_neg (by omega), if_neg (fun q => z q.2), h.zce hi hj]
theorem B_ce (h : B σ S) {k i : Nat} {v : Int32} (hi64 : i < 64) : B (wI σ 50 (64 * k + i) v) (uI S 0 k i v) := by
  refine h.t_upd (Gt.rf.I (by omega)) (fun _ _ _ _ => rfl) ⟨?_, ?_, fun i1 hi => ⟨?_, ?_, fun j hj => ?_⟩⟩
  · rw [m_I1, if_neg (by omega), h.ztr]; simp [tr, uI_2]
  · rw [m_I1, if_neg (by omega), h.zfa]; simp [fa, uI_2]
  · rw [m_I1, if_neg (by omega), h.zla hi]; rfl
  · rw [m_I1, if_neg (by omega), h.zsl hi]; rfl
  · rw [m_I1]
    show _ = (uI S 0 k i v).2 0 i1 j
    rw [uI_2]
    by_cases z : i1 = k ∧ j = i
    · rw [if_pos ⟨rfl, by omega⟩, if_pos ⟨rfl, z⟩]
    · rw [if_neg (by omega), if_neg (fun q => z q.2), h.zce hi hj]
theorem q_isNothing (h : A σ S) (hk : ok S) {k : Nat} (hk4 : k < 4) : v_X8_isNothing (bT + k) σ P = if la S k = 3 then P 1 σ else P 0 σ := by
  unfold v_X8_isNothing
  rw [h.zla hk4, w_ite]
  simp only [la_m1 hk]
theorem q_hasCell_n (h : A σ S) (hk : ok S) {k i : Nat} (hk4 : k < 4) (hl : la S k < 3) (hi : i < sl S k) : v_X8_hasCell (bT + k) (nI i) σ P = P 1 σ := by
  have := hk.zsl k
  unfold v_X8_hasCell
  rw [h.zsl hk4, if_pos hl]
  exact w_rg hi (by omega)
theorem q_hasCell_o (h : A σ S) {k : Nat} {a : Int32} (hk4 : k < 4) (hl : la S k < 3) (hi : oo a (sl S k)) : v_X8_hasCell (bT + k) a σ P = P 0 σ := by
  unfold v_X8_hasCell
  rw [h.zsl hk4, if_pos hl]
  exact w_oo hi
theorem t_put (h : RR σ) (a1 a2 a3 : Int32) : v_X11_put a1 a2 a3 σ (fun r σ => v_X12_put a1 a2 a3 σ (fun r2 σ => r = r2 ∧ RR σ)) := by
  obtain ⟨S1, hA, hB, hk1⟩ := h
  have h12 := hk1.znB
  unfold v_X11_put v_X12_put
  have hA0 := A_fa hA h12 0
  have hB0 := hB.mS (mS_fa (σ := σ) 0 10)
  generalize wI σ 0 10 0 = σ0 at hA0 hB0 ⊢
  have hk : ok (uI S1 2 0 0 0) := hk1
  have hB00 : ∀ σ1, mS σ0 σ1 → B (wI σ1 33 0 0) (uI S1 2 0 0 0) := fun σ1 m1 => B_fa (hB0.mS m1) 0
  have fin : RR (wI σ0 33 0 0) := RRf hA0 (cS_33 _ _) (hB00 σ0 mS.rf) hk
  rcases rg a1 4 (by omega) with ⟨k, hk4, rfl⟩ | ho
  · have vk := vi hk4 (show 4 < 2 ^ 31 by omega)
    have e3 : bT = 100 := rfl
    have hla := hk.zla k
    have hsl := hk.zsl k
    rw [q_isSheet_n hk4, w_1, w_in vk, nI_clamp (by omega), q_isNothing hA0 hk hk4]
    by_cases z : la (uI S1 2 0 0 0) k = 3
    · have hBz := hB00 _ (mS_fa (σ := σ0) 1 10)
      rw [if_pos z, w_1, q_fail]; dsimp only
      rw [q_w3_n hk4, w_1, w_in vk, hBz.zla hk4, w_t (by rw [la_m9 hk]; exact z), q_fails]
      exact ⟨rfl, RRf (A_fa2 hA0 h12) ((cS_33 _ _).tr (cS_33 _ _)) (B_fa2 hBz) (S := uI S1 2 0 0 1) hk1⟩
    · have hl3 : la (uI S1 2 0 0 0) k < 3 := by omega
      rw [if_neg z, w_0, w_in vk]
      rcases rg a2 (sl (uI S1 2 0 0 0) k) (by omega) with ⟨i, hi, rfl⟩ | ho
      · rw [q_hasCell_n hA0 hk hk4 hl3 hi, w_1, w_in vk]
        have ci := vi (show i < 64 by omega) (show 64 < 2 ^ 31 by omega)
        rw [show v_X8_write (bT + k) (nI i) a3 σ0 = fun PV => PV (wI σ0 (bT + k + 4) i (if la (uI S1 2 0 0 0) k = 0 then (Int32.toInt8 a3).toInt32 else if la (uI S1 2 0 0 0) k = 1 then (Int32.toInt16 a3).toInt32 else a3)) from funext fun PV => by
          unfold v_X8_write
          rw [hA0.zla hk4, if_pos hl3, nI_clamp (by omega)]
          simp only [w_in ci, w_ite, i_eq0 (show la (uI S1 2 0 0 0) k < 2 ^ 31 by omega), show (nI (la (uI S1 2 0 0 0) k) = 1) = (la (uI S1 2 0 0 0) k = 1) from i_eq (b := 1) (by omega) (by omega)]
          by_cases c0 : la (uI S1 2 0 0 0) k = 0
          · rw [if_pos c0, if_pos c0]
          · rw [if_neg c0, if_neg c0]
            by_cases c1 : la (uI S1 2 0 0 0) k = 1
            · rw [if_pos c1, if_pos c1]
            · rw [if_neg c1, if_neg c1]]
        have hA1 := A_ce hA0 h12 hk4 (show i < 64 by omega) (v := if la (uI S1 2 0 0 0) k = 0 then (Int32.toInt8 a3).toInt32 else if la (uI S1 2 0 0 0) k = 1 then (Int32.toInt16 a3).toInt32 else a3)
        have m1 : mS σ0 (wI σ0 (bT + k + 4) i (if la (uI S1 2 0 0 0) k = 0 then (Int32.toInt8 a3).toInt32 else if la (uI S1 2 0 0 0) k = 1 then (Int32.toInt16 a3).toInt32 else a3)) := mS.rf.I (by omega)
        have hB1 := hB00 _ m1
        generalize wI σ0 (bT + k + 4) i (if la (uI S1 2 0 0 0) k = 0 then (Int32.toInt8 a3).toInt32 else if la (uI S1 2 0 0 0) k = 1 then (Int32.toInt16 a3).toInt32 else a3) = σ1 at hA1 hB1 ⊢
        dsimp only
        rw [q_w3_n hk4, w_1, w_in vk, hB1.zla hk4, w_f (by rw [la_m9 hk]; exact z), w_in vk, hB1.zsl hk4, q_wm_n hi (by omega), w_1, w_in vk, hB1.zla hk4, if_pos hl3]
        have cc : vp_in (nI (64 * k + i)) 256 := vi (by omega) (by omega)
        simp only [i_64, w_in cc, w_in vk, w_ite, i_eq0 (show la (uI S1 2 0 0 0) k < 2 ^ 31 by omega), show (nI (la (uI S1 2 0 0 0) k) = 1) = (la (uI S1 2 0 0 0) k = 1) from i_eq (b := 1) (by omega) (by omega), nI_clamp (show 64 * k + i < 2 ^ 31 by omega)]
        have fin2 : ∀ v : Int32, v = (if la (uI S1 2 0 0 0) k = 0 then (Int32.toInt8 a3).toInt32 else if la (uI S1 2 0 0 0) k = 1 then (Int32.toInt16 a3).toInt32 else a3) → RR (wI (wI σ1 33 0 0) 50 (64 * k + i) v) := by
          intro v hv
          rw [← hv] at hA1
          exact RRf hA1 ((cS_33 _ _).tr (cS.rf.I (by omega))) (B_ce hB1 (by omega)) hk
        by_cases c0 : la (uI S1 2 0 0 0) k = 0
        · rw [if_pos c0]; refine ⟨?_, fin2 _ (by rw [if_pos c0])⟩; first | rfl | trivial
        · rw [if_neg c0]
          by_cases c1 : la (uI S1 2 0 0 0) k = 1
          · rw [if_pos c1]; refine ⟨?_, fin2 _ (by rw [if_neg c0, if_pos c1])⟩; first | rfl | trivial
          · rw [if_neg c1]; refine ⟨?_, fin2 _ (by rw [if_neg c0, if_neg c1])⟩; first | rfl | trivial
      · have hBz := hB00 _ (mS_fa (σ := σ0) 3 10)
        rw [q_hasCell_o hA0 hk4 hl3 ho, w_0, q_fail]; dsimp only
        rw [q_w3_n hk4, w_1, w_in vk, hBz.zla hk4, w_f (by rw [la_m9 hk]; exact z), w_in vk, hBz.zsl hk4, q_wm_o ho (by omega), w_0, q_fails]
        exact ⟨rfl, RRf (A_fa2 hA0 h12) ((cS_33 _ _).tr (cS_33 _ _)) (B_fa2 hBz) (S := uI S1 2 0 0 3) hk1⟩
  · rw [q_isSheet_o ho, w_0]; dsimp only
    rw [q_w3_o ho, w_0]
    exact ⟨rfl, fin⟩
end
