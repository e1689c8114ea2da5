-- ===== a step's trouble with a grip: both sides =====
def tob (S : St) (g i x : Nat) : Nat := 10 * pc 12 (cw S (gst S x) ^^^ clo (trn (gc S g i) (gk S g))) + (if lkn S g i (gk S g) (gst S x) = true then 30 else 0)
theorem tob_le (S : St) (g i x : Nat) : tob S g i x ≤ 150 := by
  have := pc_le 12 (cw S (gst S x) ^^^ clo (trn (gc S g i) (gk S g)))
  unfold tob
  split <;> omega
theorem xor_lt {a b : Nat} (ha : a < 4096) (hb : b < 4096) : a ^^^ b < 4096 := Nat.xor_lt_two_pow (n := 12) ha hb
section
variable {σ : Mem} {S : St} {P : Int32 → Mem → Prop} {PV : Mem → Prop} {PJ : Int64 → Mem → Prop}
theorem q_troubleA (h : AG σ S) (hk : ok S) {g i x : Nat} (hg : g < 8) (hi : i < 24) (hx : x < (gls (nB S)).length) : v_X6_troubleOf (bG + g) (nI i) (nI x) σ P = P (nI (tob S g i x)) σ := by
  have hl := gls_len (nB S) hk.znB
  have hgk := hk.zgk g
  have ht := trn_lt (c := gc S g i) (j := gk S g) (hk.zgc g i)
  have xl := xor_lt (cw_lt S (gst S x)) (clo_lt (trn (gc S g i) (gk S g)))
  have h10 : σ.1 10 x = nI (cw S (gst S x)) := (h.2.1.2 x hx).2.2
  unfold v_X6_troubleOf v_X6_troubleOf_J41
  rw [w_in (vi (show x < 79 by omega) (by omega)), nI_clamp (show x < 2 ^ 31 by omega), h.1.zgk hg, q_chordIn h.1 hk hg hi (by omega), q_classesOfA ht, h.1.zgk hg, q_lacks h hk hg hi (by omega) hx, w_bI, h10, fb_xorI]
  unfold tob
  cases e : lkn S g i (gk S g) (gst S x)
  · rw [if_neg (by decide), q_bcN xl, show (10 : Int32) = nI 10 from rfl, pk_mul, show (0 : Int32) = nI 0 from rfl, nI_add]; rfl
  · rw [if_pos (by rfl), q_bcN xl, show (10 : Int32) = nI 10 from rfl, pk_mul, show (30 : Int32) = nI 30 from rfl, nI_add]; rfl
theorem q_troubleB (hB : B σ S) (hG : glB σ S (gls (nB S))) (hk : ok S) {g i x : Nat} (hg : g < 8) (hi : i < 24) (hx : x < (gls (nB S)).length) : v_X12_troubleAt (nI g) (nI i) (nI x) σ P = P (nI (tob S g i x)) σ := by
  have hl := gls_len (nB S) hk.znB
  have hgk := hk.zgk g
  have h61 := hk.zgn g i
  have ht := trn_lt (c := gc S g i) (j := gk S g) (hk.zgc g i)
  have xl := xor_lt (clo_lt (trn (gc S g i) (gk S g))) (cw_lt S (gst S x))
  have gl2 := gst_lt hk (show x < 79 by omega)
  have h41 : σ.1 41 x = nI (cw S (gst S x)) := (hG.2 x hx).2
  have h40 : σ.1 40 x = nI (gst S x) := (hG.2 x hx).1
  unfold v_X12_troubleAt v_X12_troubleAt_J72 v_X12_troubleAt_J73
  rw [w_in (vi hg (by omega)), nI_clamp (show g < 2 ^ 31 by omega), hB.zgk hg, q_chordAt hB hk hg hi (by omega), q_classesOfB ht, w_in (vi (show x < 79 by omega) (by omega)), nI_clamp (show x < 2 ^ 31 by omega), h41, fb_xorI, q_countOf (by omega), q_hasNoteB hB hk hg hi, w_bI, w_in (vi hg (by omega)), hB.zgk hg, q_noteAt hB hg hi, w_in (vi (show x < 79 by omega) (by omega)), h40, q_isHeard hB hk (by omega) (by omega) (by omega), w_bI, show (10 : Int32) = nI 10 from rfl, pk_mul, Nat.xor_comm]
  unfold tob lkn
  cases e : gn S g i != 0
  · rw [if_neg (by decide), w_t rfl]; rfl
  · rw [if_pos (by rfl)]
    cases e2 : hrd S (gn S g i + gk S g) (gst S x)
    · rw [if_neg (by decide), w_f (by decide), show (30 : Int32) = nI 30 from rfl, nI_add]; rfl
    · rw [if_pos (by rfl), w_t rfl]; rfl
end
