-- ===== small rows that the printed walks use; the tables' words by their places; what the tables say of each method =====
theorem vp_lt {i : Int32} {n : Nat} (h : vp_in i n) : i.toNatClampNeg < n := Nat.not_le.mp (fun q => h (Or.inr q))
theorem ne_toInt {x v : Int32} {k : Int} (h : ¬ x = v) (hk : v.toInt = k) : x.toInt ≠ k := fun q => h (Int32.toInt_inj.mp (q.trans hk.symm))
theorem cell_cls {G : Gl} {σ : Mem} {o c : Nat} (h : kd o = (c, 0)) (hc : c < 13) : ∃ fs, cellE G σ o = .inr (c, fs) := by
  unfold cellE
  rw [h]
  rcases (show c = 0 ∨ c = 1 ∨ c = 2 ∨ c = 3 ∨ c = 4 ∨ c = 5 ∨ c = 6 ∨ c = 7 ∨ c = 8 ∨ c = 9 ∨ c = 10 ∨ c = 11 ∨ c = 12 by omega) with rfl | rfl | rfl | rfl | rfl | rfl | rfl | rfl | rfl | rfl | rfl | rfl | rfl <;> exact ⟨_, rfl⟩
theorem kd_self {o t n : Nat} (h : kd o = (t, n)) : kd o = (t, (kd o).2) := by rw [h]
section CallsO
variable {X : Cx} {G : Gl} {own : String} {cc : ByteArray} {nL hh pc : Nat} {loc : List (Nat × Value)} {σ : Mem} {y : MethodName} {b : ByteArray} {n h idx na o ci : Nat} {st0 As rest : List Value} {T : u_T} {N : Nat}
theorem v_cVi {P : Int32 → Mem → Prop} {ty : FieldType} (C : Ck X G own cc nL hh) (hM : MetI (xl X) y b n ty h G (.ref (gA G o) :: As) σ P) (pk : PkV y b n (some ty) na) (lk : Cond.methodLink own idx y ∈ gT) (hk : kd o = (ci, 0)) (hci : ci < 13) (hc : vwCl[ci]? = some (y.cls, T, N)) (hlt : h < hh) (hst : st0 = As.reverse ++ .ref (gA G o) :: rest) (hna : As.length = na) (hr : (rest.map fun v => v.category).sum ≤ 8) (d : decode cc pc = .ok (.invokevirtual idx, 3)) (kk : ∀ (r : Int32) (σ : Mem), P r σ → V X G nL (pc + 3) loc (.int r :: rest) σ) : V X G nL pc loc st0 σ := by
  obtain ⟨fs, he⟩ := cell_cls (G := G) (σ := σ) hk hci
  exact v_callVi C hM pk lk (kd_lt hk (by omega)) he hc hlt hst hna hr d kk
theorem v_cVl {P : Int64 → Mem → Prop} (C : Ck X G own cc nL hh) (hM : MetJ (xl X) y b n h G (.ref (gA G o) :: As) σ P) (pk : PkV y b n (some .long) na) (lk : Cond.methodLink own idx y ∈ gT) (hk : kd o = (ci, 0)) (hci : ci < 13) (hc : vwCl[ci]? = some (y.cls, T, N)) (hlt : h < hh) (hst : st0 = As.reverse ++ .ref (gA G o) :: rest) (hna : As.length = na) (hr : (rest.map fun v => v.category).sum ≤ 8) (d : decode cc pc = .ok (.invokevirtual idx, 3)) (kk : ∀ (r : Int64) (σ : Mem), P r σ → V X G nL (pc + 3) loc (.long r :: rest) σ) : V X G nL pc loc st0 σ := by
  obtain ⟨fs, he⟩ := cell_cls (G := G) (σ := σ) hk hci
  exact v_callVl C hM pk lk (kd_lt hk (by omega)) he hc hlt hst hna hr d kk
theorem v_cVv {P : Mem → Prop} (C : Ck X G own cc nL hh) (hM : MetV (xl X) y b n h G (.ref (gA G o) :: As) σ P) (pk : PkV y b n none na) (lk : Cond.methodLink own idx y ∈ gT) (hk : kd o = (ci, 0)) (hci : ci < 13) (hc : vwCl[ci]? = some (y.cls, T, N)) (hlt : h < hh) (hst : st0 = As.reverse ++ .ref (gA G o) :: rest) (hna : As.length = na) (hr : (rest.map fun v => v.category).sum ≤ 8) (d : decode cc pc = .ok (.invokevirtual idx, 3)) (kk : ∀ (σ : Mem), P σ → V X G nL (pc + 3) loc rest σ) : V X G nL pc loc st0 σ := by
  obtain ⟨fs, he⟩ := cell_cls (G := G) (σ := σ) hk hci
  exact v_callVv C hM pk lk (kd_lt hk (by omega)) he hc hlt hst hna hr d kk
end CallsO
