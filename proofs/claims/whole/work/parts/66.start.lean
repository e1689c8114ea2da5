-- ===== the start of the law, and the claim =====
/-! THE CLAIM OUT OF ONE WALK OF THE LAW'S BODY. Your part is whole_start (and what it stands on); all else here is the same for every law, but numbers. -/
def R_law : String := "FeltZitherLaw"
def lw_P (b : Addr) (xs : List Int32) (args : Array Value) (s : State) : Prop := args = #[.ref b] ∧ s.IntsAt b xs ∧ xs.length ≤ 2560 ∧ (Jvm.Cond.and given_1 narrow_1).before args s = true
def lw_Q (_ : Array Value) (s : State) (o : Outcome) (t : State) : Prop := o = .returned (some (.int 1)) ∧ Framed s o t [] 600000 7302250
def lw_Z (below : List Frame) (a : Array Value) (s : State) : State → Prop := fun t => ∃ o, t.status = .running ∧ Ended t below o ∧ lw_Q a s o t
/-- the law's own end, with 1 on the stack, nothing written that was there before, its room as the claim has it -/
theorem lw_ret {p : Program} {l : Launch} {e : Env} {s : State} {m : MethodId} {below : List Frame} {meth : Method} {c : Code} {b : Nat} (hx : p.tables.exec = Jvm.exec) (hb : c.code = code) (hr : meth.sig.returnType = ret) (hlocks : meth.locks = false) {pc : Nat} {H : Heap} {ls : Array Slot} (hdg : decode code pc = .ok (.ireturn, 1)) : W p l e room_1 s m #[Value.ref b] below meth c H [] 600000 7302250 (lw_Z below #[Value.ref b] s) (F0 m pc ls [.int 1]) := by
  intro T hT X
  obtain ⟨fs, hret, hrun, hended, hW, hframe⟩ := X.leave (v := some (.int 1)) (hlocks := hlocks) (fun h => by rw [hr] at h; cases h)
  have hmeth' : T.vm.method? m = some meth := X.method'
  refine ⟨T.setFrames fs, ?_, .returned (some (.int 1)), hrun, hended, rfl, ⟨_, rfl⟩, hW, hframe⟩
  jvm_step X.here [X.here.top, hx, hb, hdg, hmeth', hr, ret, narrow_b1]
  (try refine ⟨rfl, ?_⟩); (try refine ⟨rfl, ?_⟩)
  first | (intro acts; rw [hret _ acts rfl rfl rfl]) | rw [hret _ _ rfl rfl rfl]
  exact Steps.refl _
/-- what holds at the law's entry: the machine, the code, the tables' words (any of lw_tbl by 'hts w (by decide +kernel)'), the script of L ints xs at the cell b, what the Statement gives of the start (any of its parts by flat_of_before) -/
def lw_At (p : Program) (s : State) (m : MethodId) (meth : Method) (c : Code) (b L : Nat) (xs : Nat → Int32) : Prop :=
  p.tables.exec = Jvm.exec ∧ c.code = code ∧ meth.sig.returnType = ret ∧ c.maxLocals = 4 ∧ s.vm.findClass R_law = some m.cls ∧ (∀ w ∈ lw_tbl, w.before #[Value.ref b] s = true) ∧ va_X b L xs s s.heap ∧ b < s.heap.size ∧ meth.locks = false ∧ (Jvm.Cond.and given_1 narrow_1).before #[Value.ref b] s = true
abbrev gG (D : va_G) (cy : Nat → ClassId) (Q : (Nat → Nat) × (Nat → Nat → Nat) × (Nat → Nat → Nat)) (x : Nat) (qm : Nat → Nat) (y aS aH : Nat) : Gl := (D, cy, adr Q x qm y, aS, aH)
theorem in_sorts : ∀ j : Nat, j < 8 → Cond.eq (.elem (.static "FeltZither" "SORTS" "[I") (.int (nI j))) (.int (tSorts j)) ∈ flatC (Jvm.Cond.and given_1 narrow_1) := by decide +kernel
theorem in_shifts : ∀ j : Nat, j < 4 → Cond.eq (.elem (.static "FeltZither" "SHIFTS" "[I") (.int (nI j))) (.int (tShifts j)) ∈ flatC (Jvm.Cond.and given_1 narrow_1) := by decide +kernel
set_option maxHeartbeats 4000000 in
set_option maxRecDepth 100000 in
theorem whole_start {p : Program} {e : Env} {s : State} {m : MethodId} {below : List Frame} {meth : Method} {c : Code} (l : Launch) (hflags : l.flags = flags0) {b L : Nat} {xs : Nat → Int32} (hL : L ≤ 2560) (C0 : lw_At p s m meth c b L xs) : W p l e room_1 s m #[Value.ref b] below meth c s.heap [] 0 0 (lw_Z below #[Value.ref b] s) (entryFrame m ([Value.ref b] : List Value).toArray 4) := by
  obtain ⟨hx, hb, hr, hml, hown, hts, hX, hbl, hlocks, hgv⟩ := C0
  have htg : ∀ w ∈ gT, w.before #[Value.ref b] s = true := fun w hw => hts w (gT_lw w hw)
  have hs := flat_of_before _ hgv
  obtain ⟨aS, zS, xS, lS⟩ := k_row (nm := "SORTS") (N := 8) (f := tSorts) (by decide) (hts _ (List.mem_of_getElem? (i := 437) (by decide +kernel))) (hts _ (List.mem_of_getElem? (i := 65) (by decide +kernel))) (hs _ (by decide +kernel)) (hs _ (by decide +kernel)) (fun j hj => hs _ (in_sorts j hj))
  obtain ⟨aH, zH, xH, lH⟩ := k_row (nm := "SHIFTS") (N := 4) (f := tShifts) (by decide) (hts _ (List.mem_of_getElem? (i := 1032) (by decide +kernel))) (hts _ (List.mem_of_getElem? (i := 65) (by decide +kernel))) (hs _ (by decide +kernel)) (hs _ (by decide +kernel)) (fun j hj => hs _ (in_shifts j hj))
  obtain ⟨D, cy, hK⟩ := k_Kc hts
  obtain ⟨X, hXe⟩ : ∃ X : Cx, X = (p, l, e, room_1, s, m, #[Value.ref b], below, meth, c, lw_Z below #[Value.ref b] s, 600000, 7302250) := ⟨_, rfl⟩
  have C : Cc X D cy (fun q => s.heap.size ≤ q) RL cL_law 4 10 600000 7302250 := by
    subst hXe
    exact ⟨hx, hb, hml, hown, htg, hK, fun _ h => h, ⟨Nat.le_of_ble_eq_true rfl, Nat.le_of_ble_eq_true rfl⟩, ⟨Nat.le_of_ble_eq_true rfl, Nat.le_of_ble_eq_true rfl⟩, hlocks⟩
  have key : Uc X D (fun q => s.heap.size ≤ q) 0 0 4 0 [(0, .ref b)] [] [] := by
    refine u_new (pc := 0) (ci := 11) (N := 11) tyX11 tyX11_ok C hin_11 i_84 i_85 k_65 rfl df_11 ⟨Nat.le_of_ble_eq_true rfl, Nat.le_of_ble_eq_true rfl⟩ dL_law_0 (fun x => ?_)
    refine u_dup (pc := 3) C dL_law_3 rfl ?_
    refine u_call (pc := 4) C (c_X11_init (W := [])) pk_X11_init rfl i_87 (Or.inl i_86) (by decide) ⟨Nat.le_of_ble_eq_true rfl, Nat.le_of_ble_eq_true rfl⟩ (Nat.le_of_ble_eq_true rfl) dL_law_4 (fun Q => ?_)
    refine u_astore_n (pc := 7) (loc' := [(1, .ref x), (0, .ref b)]) C dL_law_7 rfl (by decide) rfl ?_
    refine u_new (pc := 8) (ci := 12) (N := 38) tyX12 tyX12_ok C hin_12 i_1108 i_1109 k_77 rfl df_12 ⟨Nat.le_of_ble_eq_true rfl, Nat.le_of_ble_eq_true rfl⟩ dL_law_8 (fun y => ?_)
    refine u_dup (pc := 11) C dL_law_11 rfl ?_
    refine u_call (pc := 12) C (c_X12_init (W := w_X11 cy Q x ++ [])) pk_X12_init rfl i_1111 (Or.inl i_1110) (by decide) ⟨Nat.le_of_ble_eq_true rfl, Nat.le_of_ble_eq_true rfl⟩ (Nat.le_of_ble_eq_true rfl) dL_law_12 (fun qm => ?_)
    refine u_astore_n (pc := 15) (loc' := [(2, .ref y), (1, .ref x), (0, .ref b)]) C dL_law_15 rfl (by decide) rfl ?_
    refine u_iconst (pc := 16) (v := 0) C dL_law_16 (by decide) ?_
    refine u_istore_n (pc := 17) (loc' := [(3, .int 0), (2, .ref y), (1, .ref x), (0, .ref b)]) C dL_law_17 rfl (by decide) rfl ?_
    intro H locs ls hP hD hS hl
    have hP : va_P D vwCl (wAll cy Q x qm y) H := hP
    have hD : va_D (fun q => s.heap.size ≤ q) (wAll cy Q x qm y) := hD
    have hin : ∀ q, inA (gG D cy Q x qm y aS aH) q → s.heap.size ≤ q := by
      intro q hq
      obtain ⟨o, ho, e⟩ := hq
      rw [e]
      exact wAll_A Q x qm y hD o ho
    have hS : va_S (fun q => s.heap.size ≤ q) s.heap H locs := by subst hXe; exact hS
    have hl : lv_has ls 4 [(3, .int (nI 0)), (2, .ref (gA (gG D cy Q x qm y aS aH) 33)), (1, .ref (gA (gG D cy Q x qm y aS aH) 0)), (0, .ref b)] := by
      rw [nI_0]
      exact hl
    have C1 : Ck X (gG D cy Q x qm y aS aH) RL cL_law 4 10 := by
      subst hXe
      exact ⟨hx, hb, hml, hown, htg, hK.1, wAll_D Q x qm y hD, ⟨⟨zS.narrow hin, xS, fun z => absurd (hin _ z) (Nat.not_le.mpr lS)⟩, ⟨zH.narrow hin, xH, fun z => absurd (hin _ z) (Nat.not_le.mpr lH)⟩⟩, ⟨Nat.le_of_ble_eq_true rfl, Nat.le_of_ble_eq_true rfl⟩, ⟨Nat.le_of_ble_eq_true rfl, Nat.le_of_ble_eq_true rfl⟩, hlocks, hK.2.1⟩
    have S1 : Lw X (gG D cy Q x qm y aS aH) b L xs := by
      subst hXe
      exact ⟨hX, hbl, fun z => absurd (hin _ z) (Nat.not_le.mpr hbl), hL, fun loc σ H locs ls hP hS hl => va_forget (fun q hq => hin _ (hS.2.2 q hq)) (lw_ret hx hb hr hlocks dL_law_1684)⟩
    have hV := l_loop C1 S1 (L + 1) 0 (by omega) (Nat.zero_le _) m0 RR_m0
    subst hXe
    refine W.widen (k := 600000) (n := 7302250) (Nat.le_of_ble_eq_true rfl) (Nat.le_of_ble_eq_true rfl) ?_
    refine va_forget (fun q hq => hS.2.2 q hq) ?_
    exact hV H [] ls (wAll_P Q x qm y hP) ⟨hS.1, fun q h1 _ => hS.2.1 q h1 (Nat.not_le.mpr h1), fun _ h => by cases h⟩ hl
  have hl := lv_entry [.ref b] (n := 4) (Nat.le_of_ble_eq_true rfl)
  subst hXe
  rw [lg_entry_eq]
  exact key s.heap [] _ (fun k q h => by simp at h) ⟨fun i j p q h => by simp at h, fun k q h => by simp at h⟩ va_S.rf hl
