-- ===== small rows that the printed walks use; the tables' words by their places; what the tables say of each method =====
theorem vp_lt {i : Int32} {n : Nat} (h : vp_in i n) : i.toNatClampNeg < n := Nat.not_le.mp (fun q => h (Or.inr q))
theorem ne_toInt {x v : Int32} {k : Int} (h : ¬ x = v) (hk : v.toInt = k) : x.toInt ≠ k := fun q => h (Int32.toInt_inj.mp (q.trans hk.symm))
theorem cell_cls {G : Gl} {σ : Mem} {o c : Nat} (h : kd o = (c, 0)) (hc : c < 13) : ∃ fs, cellE G σ o = .inr (c, fs) := by
  unfold cellE
  rw [h]
  rcases (show c = 0 ∨ c = 1 ∨ c = 2 ∨ c = 3 ∨ c = 4 ∨ c = 5 ∨ c = 6 ∨ c = 7 ∨ c = 8 ∨ c = 9 ∨ c = 10 ∨ c = 11 ∨ c = 12 by omega) with rfl | rfl | rfl | rfl | rfl | rfl | rfl | rfl | rfl | rfl | rfl | rfl | rfl <;> exact ⟨_, rfl⟩
theorem kd_self {o t n : Nat} (h : kd o = (t, n)) : kd o = (t, (kd o).2) := by rw [h]
section CallsO
variable {X : Cx} {G : Gl} {own : String} {cc : ByteArray} {nL hh pc : Nat} {loc : List (Nat × Value)} {σ : Mem} {y : MethodName} {b : ByteArray} {n h idx na o ci : Nat} {st0 As rest : List Value} {T : u_T} {N : Nat}
theorem v_cVi {P : Int32 → Mem → Prop} {ty : FieldType} (C : Ck X G own cc nL hh) (hM : MetI (xl X) y b n ty h G (.ref (gA G o) :: As) σ P) (pk : PkV y b n (some ty) na) (lk : Cond.methodLink own idx y ∈ gT) (hk : kd o = (ci, 0)) (hci : ci < 13) (hc : vwCl[ci]? = some (y.cls, T, N)) (hlt : h < hh) (hst : st0 = As.reverse ++ .ref (gA G o) :: rest) (hna : As.length = na) (hr : (rest.map fun v => v.category).sum ≤ 8) (d : decode cc pc = .ok (.invokevirtual idx, 3)) (kk : ∀ (r : Int32) (σ : Mem), P r σ → V X G nL (pc + 3) loc (.int r :: rest) σ) : V X G nL pc loc st0 σ := by
  obtain ⟨fs, he⟩ := cell_cls (G := G) (σ := σ) hk hci
  exact v_callVi C hM pk lk (kd_lt hk (by omega)) he hc hlt hst hna hr d kk
theorem v_cVl {P : Int64 → Mem → Prop} (C : Ck X G own cc nL hh) (hM : MetJ (xl X) y b n h G (.ref (gA G o) :: As) σ P) (pk : PkV y b n (some .long) na) (lk : Cond.methodLink own idx y ∈ gT) (hk : kd o = (ci, 0)) (hci : ci < 13) (hc : vwCl[ci]? = some (y.cls, T, N)) (hlt : h < hh) (hst : st0 = As.reverse ++ .ref (gA G o) :: rest) (hna : As.length = na) (hr : (rest.map fun v => v.category).sum ≤ 8) (d : decode cc pc = .ok (.invokevirtual idx, 3)) (kk : ∀ (r : Int64) (σ : Mem), P r σ → V X G nL (pc + 3) loc (.long r :: rest) σ) : V X G nL pc loc st0 σ := by
  obtain ⟨fs, he⟩ := cell_cls (G := G) (σ := σ) hk hci
  exact v_callVl C hM pk lk (kd_lt hk (by omega)) he hc hlt hst hna hr d kk
theorem v_cVv {P : Mem → Prop} (C : Ck X G own cc nL hh) (hM : MetV (xl X) y b n h G (.ref (gA G o) :: As) σ P) (pk : PkV y b n none na) (lk : Cond.methodLink own idx y ∈ gT) (hk : kd o = (ci, 0)) (hci : ci < 13) (hc : vwCl[ci]? = some (y.cls, T, N)) (hlt : h < hh) (hst : st0 = As.reverse ++ .ref (gA G o) :: rest) (hna : As.length = na) (hr : (rest.map fun v => v.category).sum ≤ 8) (d : decode cc pc = .ok (.invokevirtual idx, 3)) (kk : ∀ (σ : Mem), P σ → V X G nL (pc + 3) loc rest σ) : V X G nL pc loc st0 σ := by
  obtain ⟨fs, he⟩ := cell_cls (G := G) (σ := σ) hk hci
  exact v_callVv C hM pk lk (kd_lt hk (by omega)) he hc hlt hst hna hr d kk
end CallsO
-- a method of a class that has rows of natives, itself none (Math)
theorem Met_ofWF {l : Launch} {y : MethodName} {ws ws' : List Cond} {rm : Room} {Pc : Array Value → State → Prop} {Qc : Array Value → State → Outcome → State → Prop} {mc ms : Nat} {free : Addr → Prop} {cc : ByteArray} {maxL : Nat} {ret : Option FieldType}
    (hy : plainFor y = true) (hw : ws = Cond.code y cc maxL ret :: ws')
    (body : ∀ p e s m args below meth c s₁, BodyLoose p l y (headSpec ws rm) cc maxL ret e s m args below meth c s₁ → c.maxLocals = maxL → Pc args s →
      W p l e (headSpec ws rm).room s m args below meth c s.heap [] 0 0 (MQ below Qc args s mc ms free) (entryFrame m args maxL)) : Met l y ws rm Pc Qc mc ms free := by
  refine MetFree.of_bodySF (code := cc) (maxLocals := maxL) (ret := ret) hy ?_ ?_
  · intro args s m h hn
    obtain ⟨meth, c, h1, h2, h3, h4, h5, h6, -, -⟩ := Cond.code_spec hn (atoms_spec (ws := ws) h _ (by rw [hw]; exact List.mem_cons_self))
    exact ⟨meth, c, h1, h2, h3, h4, h5, h6⟩
  · intro p e s m args below meth c s₁ B hml hP _
    have hh0 : s₁.heap = s.heap := by rw [B.state]; rfl
    obtain ⟨t, a1, o, b1, b2, b3⟩ := body p e s m args below meth c s₁ B hml hP s₁ hh0 (Stand.of_body B)
    exact ⟨t, o, a1, b1, b2, ⟨b3.1, b3.2⟩⟩
theorem start_ofF {l : Launch} {y : MethodName} {b : ByteArray} {n h : Nat} {G : Gl} {As : List Value} {σ : Mem} {Qc : Array Value → State → Outcome → State → Prop} {ret : Option FieldType} (own : String) (hy : plainFor y = true) (hown : y.cls = own) (hlen : (lg_sl As).length ≤ n)
    (body : ∀ X : Cx, Ck X G own b n h → xQ X = MQ (xb X) Qc (xa X) (xs X) (xk X) (xn X) (inA G) → (xM X).sig.returnType = ret → V X G n 0 (lv_args 0 As) [] σ) : Met l y (wsC y b n ret) (rm h) (va_Pc As (Wd G σ)) Qc 0 0 (inA G) := by
  refine Met_ofWF (cc := b) (maxL := n) (ret := ret) hy rfl ?_
  intro p e s m args below meth c s₁ B hml hv
  obtain ⟨rfl, hP, hK, hD, hSt, hN⟩ := hv
  have hts := atoms_spec (ws := wsC y b n ret) B.pre
  have hfc : s.vm.findClass own = some m.cls := by rw [← hown]; exact findClass_of_methodNamed B.named
  have hl := lv_entry As (n := n) hlen
  rw [lg_entry_eq]
  exact body (p, l, e, (headSpec (wsC y b n ret) (rm h)).room, s, m, As.toArray, below, meth, c, MQ below Qc As.toArray s 0 0 (inA G), 0, 0) ⟨B.exec, B.bytes, hml, hfc, fun w hw => hts w (List.mem_cons_of_mem _ hw), hK, hD, hSt, ⟨Nat.le_refl _, Nat.le_refl _⟩, ⟨Nat.le_refl _, Nat.le_refl _⟩, B.notSynchronized, hN⟩ rfl B.returns s.heap [] _ hP va_S.rf hl
theorem MetI_ofF {l : Launch} {y : MethodName} {b : ByteArray} {n h : Nat} {G : Gl} {As : List Value} {σ : Mem} {P : Int32 → Mem → Prop} {ty : FieldType} (own : String) (hy : plainFor y = true) (hown : y.cls = own) (hlen : (lg_sl As).length ≤ n) (body : ∀ X : Cx, Ck X G own b n h → RetI X G ty P → V X G n 0 (lv_args 0 As) [] σ) : MetI l y b n ty h G As σ P := start_ofF own hy hown hlen (fun X C q r => body X C ⟨q, r⟩)
