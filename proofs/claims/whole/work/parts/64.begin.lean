-- ===== the start: the first memory; what the tables and the start say =====
def m0 : Mem := (fun o => if o = 48 then upd (upd (upd (upd (fun _ => 0) 0 (-9)) 1 (-9)) 2 (-9)) 3 (-9) else if 64 ≤ o ∧ o < 76 then (fun k => if k = 0 then -9 else 0) else if 100 ≤ o ∧ o < 104 then (fun k => if k = 1 then -1 else 0) else fun _ => 0, fun _ _ => 0)
def s0 : St := (fun f _ _ => if f = 9 then 6 else if f = 11 then 1 else if f = 18 then 3 else 0, fun _ _ _ => 0)
theorem m0_z {o : Nat} (k : Nat) (h1 : o ≠ 48) (h2 : ¬ (64 ≤ o ∧ o < 76)) (h3 : ¬ (100 ≤ o ∧ o < 104)) : m0.1 o k = nI 0 := by
  show (if o = 48 then upd (upd (upd (upd (fun _ => 0) 0 (-9)) 1 (-9)) 2 (-9)) 3 (-9) else if 64 ≤ o ∧ o < 76 then (fun k => if k = 0 then -9 else 0) else if 100 ≤ o ∧ o < 104 then (fun k => if k = 1 then -1 else 0) else fun _ => 0) k = _
  rw [if_neg h1, if_neg h2, if_neg h3, nI_0]
theorem m0_t {o : Nat} (k : Nat) (h : 100 ≤ o ∧ o < 104) : m0.1 o k = if k = 1 then -1 else 0 := by
  show (if o = 48 then upd (upd (upd (upd (fun _ => 0) 0 (-9)) 1 (-9)) 2 (-9)) 3 (-9) else if 64 ≤ o ∧ o < 76 then (fun k => if k = 0 then -9 else 0) else if 100 ≤ o ∧ o < 104 then (fun k => if k = 1 then -1 else 0) else fun _ => 0) k = _
  rw [if_neg (by omega), if_neg (by omega), if_pos h]
theorem m0_l : ∀ k, k < 4 → m0.1 48 k = -9 := by decide
theorem kI_6 : kI 6 = nI 0 := by decide
theorem tI_1 : tI 1 = nI 0 := by decide
theorem A_m0 : A m0 s0 := by
  refine ⟨⟨m0_z 4 (by omega) (by omega) (by omega), fun s _ => m0_z s (by omega) (by omega) (by omega), fun k _ => rfl, fun t _ => rfl, rfl⟩, ⟨m0_z 1 (by omega) (by omega) (by omega), fun b hb => absurd hb (Nat.not_lt_zero b)⟩, ⟨m0_z 1 (by omega) (by omega) (by omega), fun g hg => ⟨m0_z (o := 76 + g) 2 (by omega) (by omega) (by omega), ?_, fun i hi => ⟨m0_z (o := 76 + g + 8) i (by omega) (by omega) (by omega), ?_⟩⟩⟩, ⟨m0_z 6 (by omega) (by omega) (by omega), fun k _ => m0_z k (by omega) (by omega) (by omega)⟩, ⟨m0_z 4 (by omega) (by omega) (by omega), fun r hr => absurd hr (Nat.not_lt_zero r)⟩, ?_, ?_, fun k hk => ⟨?_, ?_, fun i hi => ?_⟩⟩
  · exact (m0_z (o := 76 + g) 3 (by omega) (by omega) (by omega)).trans kI_6.symm
  · exact (m0_z (o := 76 + g + 16) i (by omega) (by omega) (by omega)).trans tI_1.symm
  · exact (m0_z 9 (by omega) (by omega) (by omega)).trans nI_0
  · exact (m0_z 10 (by omega) (by omega) (by omega)).trans nI_0
  · exact m0_t (o := 100 + k) 1 (by omega)
  · exact m0_t (o := 100 + k) 2 (by omega)
  · exact (m0_z (o := 100 + k + 4) i (by omega) (by omega) (by omega)).trans nI_0
theorem B_m0 : B m0 s0 := by
  refine ⟨⟨m0_z 2 (by omega) (by omega) (by omega), fun s _ => ⟨m0_z s (by omega) (by omega) (by omega), m0_z s (by omega) (by omega) (by omega)⟩⟩, ⟨m0_z 5 (by omega) (by omega) (by omega), fun b hb => absurd hb (Nat.not_lt_zero b)⟩, ⟨m0_z 15 (by omega) (by omega) (by omega), fun g hg => ⟨m0_z g (by omega) (by omega) (by omega), ?_, fun i hi => ⟨m0_z _ (by omega) (by omega) (by omega), ?_⟩⟩⟩, ⟨m0_z 23 (by omega) (by omega) (by omega), fun k _ => m0_z k (by omega) (by omega) (by omega)⟩, ⟨m0_z 33 (by omega) (by omega) (by omega), fun r hr => absurd hr (Nat.not_lt_zero r)⟩, ?_, ?_, fun k hk => ⟨?_, ?_, fun i hi => ?_⟩⟩
  · exact (m0_z g (by omega) (by omega) (by omega)).trans kI_6.symm
  · exact (m0_z _ (by omega) (by omega) (by omega)).trans tI_1.symm
  · exact (m0_z 1 (by omega) (by omega) (by omega)).trans nI_0
  · exact (m0_z 0 (by omega) (by omega) (by omega)).trans nI_0
  · exact m0_l k hk
  · exact m0_z k (by omega) (by omega) (by omega)
  · exact (m0_z _ (by omega) (by omega) (by omega)).trans nI_0
theorem ok_s0 : ok s0 := by
  refine ⟨⟨Nat.zero_le _, fun _ => Nat.zero_le _, fun _ => Nat.zero_le _⟩, ⟨Nat.zero_le _, fun _ _ => Nat.zero_le _, fun b hb => absurd hb (Nat.not_lt_zero b), fun b hb => absurd hb (Nat.not_lt_zero b), fun _ => Nat.zero_le _⟩, ⟨Nat.zero_le _, fun _ => Nat.zero_le _, fun g hg => absurd hg (Nat.not_lt_zero g), fun _ => (by decide : 6 ≤ 11), fun _ _ => (by decide : 0 < 96), fun _ _ => (by decide : 1 ≤ 61), fun _ _ => rfl⟩, ⟨Nat.zero_le _, fun _ => (by decide : 0 < 96)⟩, ⟨Nat.zero_le _, fun r hr => absurd hr (Nat.not_lt_zero r), fun r hr => absurd hr (Nat.not_lt_zero r), fun _ _ => Nat.zero_le _⟩, fun _ => Nat.le_refl 3, fun _ => Nat.zero_le _⟩
theorem RR_m0 : RR m0 := ⟨s0, A_m0, B_m0, ok_s0⟩
-- the classes

theorem k_cls {s : State} {args : Array Value} (hts : ∀ w ∈ gT, w.before args s = true) : ∃ D : va_G, ∀ (k : Nat) (q : vw_C), vwCl[k]? = some q → u_Kn s q.1 q.2.1 q.2.2 (D.1 k) (D.2 k) := by
  obtain ⟨c0, i0, h0⟩ := u_known (C := RX0) (T := TX0) (N := 4) (n := 4) hts hin_0 (hts (.instantiable RX0 4) (gT_in 128 (by decide +kernel) (by decide +kernel)))
  obtain ⟨c1, i1, h1⟩ := u_known (C := RX1) (T := TX1) (N := 2) (n := 2) hts hin_1 (hts (.instantiable RX1 2) (gT_in 201 (by decide +kernel) (by decide +kernel)))
  obtain ⟨c2, i2, h2⟩ := u_known (C := RX2) (T := TX2) (N := 5) (n := 5) hts hin_2 (hts (.instantiable RX2 5) (gT_in 309 (by decide +kernel) (by decide +kernel)))
  obtain ⟨c3, i3, h3⟩ := u_known (C := RX3) (T := TX3) (N := 2) (n := 2) hts hin_3 (hts (.instantiable RX3 2) (gT_in 283 (by decide +kernel) (by decide +kernel)))
  obtain ⟨c4, i4, h4⟩ := u_known (C := RX4) (T := TX4) (N := 6) (n := 6) hts hin_4 (hts (.instantiable RX4 6) (gT_in 171 (by decide +kernel) (by decide +kernel)))
  obtain ⟨c5, i5, h5⟩ := u_known (C := RX5) (T := TX5) (N := 7) (n := 7) hts hin_5 (hts (.instantiable RX5 7) (gT_in 253 (by decide +kernel) (by decide +kernel)))
  obtain ⟨c6, i6, h6⟩ := u_known (C := RX6) (T := TX6) (N := 2) (n := 2) hts hin_6 (hts (.instantiable RX6 2) (gT_in 296 (by decide +kernel) (by decide +kernel)))
  obtain ⟨c7, i7, h7⟩ := u_known (C := RX7) (T := TX7) (N := 2) (n := 2) hts hin_7 (hts (.instantiable RX7 2) (gT_in 121 (by decide +kernel) (by decide +kernel)))
  obtain ⟨c8, i8, h8⟩ := u_known (C := RX8) (T := TX8) (N := 3) (n := 3) hts hin_8 (hts (.instantiable RX8 3) (gT_in 333 (by decide +kernel) (by decide +kernel)))
  obtain ⟨c9, i9, h9⟩ := u_known (C := RX9) (T := TX9) (N := 4) (n := 4) hts hin_9 (hts (.instantiable RX9 4) (gT_in 208 (by decide +kernel) (by decide +kernel)))
  obtain ⟨c10, i10, h10⟩ := u_known (C := RX10) (T := TX10) (N := 5) (n := 5) hts hin_10 (hts (.instantiable RX10 5) (gT_in 93 (by decide +kernel) (by decide +kernel)))
  obtain ⟨c11, i11, h11⟩ := u_known (C := RX11) (T := TX11) (N := 11) (n := 11) hts hin_11 (hts (.instantiable RX11 11) (gT_in 85 (by decide +kernel) (by decide +kernel)))
  obtain ⟨c12, i12, h12⟩ := u_known (C := RX12) (T := TX12) (N := 38) (n := 38) hts hin_12 (hts (.instantiable RX12 38) (gT_in 1109 (by decide +kernel) (by decide +kernel)))
  refine ⟨(fun k => [c0, c1, c2, c3, c4, c5, c6, c7, c8, c9, c10, c11, c12].getD k c0, fun k => [i0, i1, i2, i3, i4, i5, i6, i7, i8, i9, i10, i11, i12].getD k i0), fun k q hq => ?_⟩
  match k, hq with
  | 0, hq => cases hq; exact h0
  | 1, hq => cases hq; exact h1
  | 2, hq => cases hq; exact h2
  | 3, hq => cases hq; exact h3
  | 4, hq => cases hq; exact h4
  | 5, hq => cases hq; exact h5
  | 6, hq => cases hq; exact h6
  | 7, hq => cases hq; exact h7
  | 8, hq => cases hq; exact h8
  | 9, hq => cases hq; exact h9
  | 10, hq => cases hq; exact h10
  | 11, hq => cases hq; exact h11
  | 12, hq => cases hq; exact h12
  | k + 13, hq => simp [vwCl] at hq
theorem k_arI {s : State} {args : Array Value} {ty : FieldType} (h : (Cond.arrayClass ty).before args s = true) : ∃ c : ClassId, ArrOfT s c ty ∧ s.vm.findClass ("[" ++ ty.toString) = some c := by
  obtain ⟨c, k, comp, h1, h2, h3⟩ := Cond.arrayClass_spec h
  exact ⟨c, fun n z => ⟨fun k h => (by cases h), k, h2, comp, h3⟩, h1⟩
theorem k_arO {s : State} {args : Array Value} {E : String} (h : (Cond.arrayOver (.object E)).before args s = true) : ∃ c : ClassId, ArrOfT s c (.object E) ∧ va_RA s c (.object E) := by
  obtain ⟨comp, c, k, h1, -, h3, h4, h5⟩ := Cond.arrayOver_spec h
  exact ⟨c, fun n z => ⟨fun k h => (by cases h), k, h3, comp, h4⟩, k, comp, h3, h4, h1, h5⟩
theorem k_Kc {s : State} {args : Array Value} (htl : ∀ w ∈ lw_tbl, w.before args s = true) : ∃ (D : va_G) (cy : Nat → ClassId), Kc D cy s := by
  have hts : ∀ w ∈ gT, w.before args s = true := fun w hw => htl w (gT_lw w hw)
  obtain ⟨D, hD⟩ := k_cls hts
  obtain ⟨c0, a0, b0⟩ := k_arI (htl (.arrayClass .int) (List.mem_of_getElem? (i := 118) (by decide +kernel)))
  obtain ⟨c1, a1, b1⟩ := k_arI (htl (.arrayClass .long) (List.mem_of_getElem? (i := 119) (by decide +kernel)))
  obtain ⟨c2, a2, b2⟩ := k_arI (htl (.arrayClass .boolean) (List.mem_of_getElem? (i := 1229) (by decide +kernel)))
  have g3 : (Cond.arrayOver (.object "FeltZither$Bar")).before args s = true := htl _ (List.mem_of_getElem? (i := 127) (by decide +kernel))
  obtain ⟨c3, a3, b3⟩ := k_arO g3
  have g4 : (Cond.arrayOver (.object "FeltZither$Song")).before args s = true := htl _ (List.mem_of_getElem? (i := 207) (by decide +kernel))
  obtain ⟨c4, a4, b4⟩ := k_arO g4
  have g5 : (Cond.arrayOver (.object "FeltZither$Sheet")).before args s = true := htl _ (List.mem_of_getElem? (i := 332) (by decide +kernel))
  obtain ⟨c5, a5, b5⟩ := k_arO g5
  refine ⟨D, fun k => [c0, c1, c2, c3, c4, c5].getD k c0, ⟨hD, fun k q hq => ?_⟩, fun q hq => ?_, va_AO.of g3, va_AO.of g4, va_AO.of g5⟩
  · match k, hq with
    | 0, hq => cases hq; exact ⟨a0, b0⟩
    | 1, hq => cases hq; exact ⟨a1, b1⟩
    | 2, hq => cases hq; exact ⟨a2, b2⟩
    | 3, hq => cases hq; exact ⟨a3, b3⟩
    | 4, hq => cases hq; exact ⟨a4, b4⟩
    | 5, hq => cases hq; exact ⟨a5, b5⟩
    | k + 6, hq => simp [tyC] at hq
  · exact va_Nw.of rfl (htl _ ((show ∀ q ∈ nT, Cond.methodLinkNest q.1 q.2.1 q.2.2 "FeltZither" ∈ lw_tbl from List.forall_mem_cons.mpr ⟨List.mem_of_getElem? (i := 94) (by decide +kernel), List.forall_mem_cons.mpr ⟨List.mem_of_getElem? (i := 129) (by decide +kernel), List.forall_mem_cons.mpr ⟨List.mem_of_getElem? (i := 172) (by decide +kernel), List.forall_mem_cons.mpr ⟨List.mem_of_getElem? (i := 209) (by decide +kernel), List.forall_mem_cons.mpr ⟨List.mem_of_getElem? (i := 254) (by decide +kernel), List.forall_mem_cons.mpr ⟨List.mem_of_getElem? (i := 284) (by decide +kernel), List.forall_mem_cons.mpr ⟨List.mem_of_getElem? (i := 297) (by decide +kernel), List.forall_mem_cons.mpr ⟨List.mem_of_getElem? (i := 310) (by decide +kernel), List.forall_mem_cons.mpr ⟨List.mem_of_getElem? (i := 334) (by decide +kernel), List.forall_mem_cons.mpr ⟨List.mem_of_getElem? (i := 407) (by decide +kernel), List.forall_mem_cons.mpr ⟨List.mem_of_getElem? (i := 467) (by decide +kernel), List.forall_mem_cons.mpr ⟨List.mem_of_getElem? (i := 501) (by decide +kernel), List.forall_mem_cons.mpr ⟨List.mem_of_getElem? (i := 510) (by decide +kernel), List.forall_mem_cons.mpr ⟨List.mem_of_getElem? (i := 590) (by decide +kernel), List.forall_mem_cons.mpr ⟨List.mem_of_getElem? (i := 713) (by decide +kernel), List.forall_mem_cons.mpr ⟨List.mem_of_getElem? (i := 802) (by decide +kernel), List.forall_mem_cons.mpr ⟨List.mem_of_getElem? (i := 811) (by decide +kernel), List.forall_mem_cons.mpr ⟨List.mem_of_getElem? (i := 892) (by decide +kernel), List.forall_mem_cons.mpr ⟨List.mem_of_getElem? (i := 919) (by decide +kernel), List.forall_mem_cons.mpr ⟨List.mem_of_getElem? (i := 989) (by decide +kernel), fun _ h => absurd h List.not_mem_nil⟩⟩⟩⟩⟩⟩⟩⟩⟩⟩⟩⟩⟩⟩⟩⟩⟩⟩⟩⟩) q hq))
theorem len_lt {s : State} {args : Array Value} {tm : Term} {a : Nat} {cell : Cell} {v : Value} (ht : tm.eval args s none [] s = some (.ref a)) (hat : s.arrayAt? a = some cell) (hv : (Term.length tm).eval args s none [] s = some v) : cell.slots.size < 2 ^ 31 := by
  simp only [Term.eval, ht, hat, Option.bind_eq_bind, Option.bind_some] at hv
  by_cases hlt : cell.slots.size < 2147483648
  · exact hlt
  · simp [hlt] at hv
theorem k_row {s : State} {args : Array Value} {nm : String} {N : Nat} {f : Nat → Int32} (hN : N < 2 ^ 31) (hl : (Cond.laysStatic "FeltZither" nm "[I").before args s = true) (hini : (Cond.initialized "FeltZither").before args s = true) (harr : (Cond.arrayOf (.static "FeltZither" nm "[I") .int).before args s = true) (hlen : (Cond.eq (.length (.static "FeltZither" nm "[I")) (.int (nI N))).before args s = true) (hel : ∀ j : Nat, j < N → (Cond.eq (.elem (.static "FeltZither" nm "[I") (.int (nI j))) (.int (f j))).before args s = true) : ∃ a : Nat, va_Z "FeltZither" nm "[I" (.ref a) (fun q => s.heap.size ≤ q) s s.heap ∧ va_X a N f s s.heap ∧ a < s.heap.size := by
  have hA : ∀ a : Nat, a < s.heap.size → ¬ (fun q => s.heap.size ≤ q) a := fun a h => Nat.not_le.mpr h
  have hv := va_eqt hlen
  obtain ⟨t, ht, cell, hcell, hof, hkn, -, -, hs, -⟩ := va_Tof (A := fun q => s.heap.size ≤ q) (f := fun j => .int (f j)) hN harr hv (fun j hj => va_eqt (hel j hj)) hA
  obtain ⟨b, cell2, hb, hat, he⟩ := Term.length_spec hv
  cases ht.symm.trans hb
  have hc2 := (State.arrayAt?_spec hat).1
  cases hcell.symm.trans hc2
  have hsz : cell.slots.size < 2 ^ 31 := len_lt ht hat hv
  have hsize : cell.slots.size = N := by
    have h1 : nI N = nI cell.slots.size := Value.int.inj he
    have h2 := congrArg Int32.toInt h1
    rw [nI_toInt hN, nI_toInt hsz] at h2
    omega
  exact ⟨t, va_Zref hl hini ht hA, ⟨cell, hcell, hof, hkn, hsize, hs⟩, (Array.getElem?_eq_some_iff.mp hcell).1⟩
