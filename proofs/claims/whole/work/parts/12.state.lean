-- ===== the state as the document has it: numbers alone; what the class, what the reference hold of it =====
abbrev St : Type := (Nat → Nat → Nat → Nat) × (Nat → Nat → Nat → Int32)
def uN (S : St) (f i j v : Nat) : St := (fun f' i' j' => if f' = f ∧ i' = i ∧ j' = j then v else S.1 f' i' j', S.2)
def uI (S : St) (f i j : Nat) (v : Int32) : St := (S.1, fun f' i' j' => if f' = f ∧ i' = i ∧ j' = j then v else S.2 f' i' j')
/-- a whole row of numbers anew -/
def uR (S : St) (f i : Nat) (g : Nat → Nat) : St := (fun f' i' j' => if f' = f ∧ i' = i then g j' else S.1 f' i' j', S.2)
def uC (S : St) (f i : Nat) (g : Nat → Int32) : St := (S.1, fun f' i' j' => if f' = f ∧ i' = i then g j' else S.2 f' i' j')
theorem uN_1 {S : St} {f i j v a b c : Nat} : (uN S f i j v).1 a b c = if a = f ∧ b = i ∧ c = j then v else S.1 a b c := rfl
theorem uN_2 {S : St} {f i j v : Nat} : (uN S f i j v).2 = S.2 := rfl
theorem uI_1 {S : St} {f i j : Nat} {v : Int32} : (uI S f i j v).1 = S.1 := rfl
theorem uI_2 {S : St} {f i j a b c : Nat} {v : Int32} : (uI S f i j v).2 a b c = if a = f ∧ b = i ∧ c = j then v else S.2 a b c := rfl
theorem uR_1 {S : St} {f i a b c : Nat} {g : Nat → Nat} : (uR S f i g).1 a b c = if a = f ∧ b = i then g c else S.1 a b c := rfl
theorem uR_2 {S : St} {f i : Nat} {g : Nat → Nat} : (uR S f i g).2 = S.2 := rfl
theorem uC_1 {S : St} {f i : Nat} {g : Nat → Int32} : (uC S f i g).1 = S.1 := rfl
theorem uC_2 {S : St} {f i a b c : Nat} {g : Nat → Int32} : (uC S f i g).2 a b c = if a = f ∧ b = i then g c else S.2 a b c := rfl
/-- strings: how many, tone, free -/
abbrev nS (S : St) : Nat := S.1 0 0 0
abbrev tn (S : St) (s : Nat) : Nat := S.1 1 s 0
abbrev fr (S : St) (s : Nat) : Nat := S.1 2 s 0
/-- bars: how many, felt (0, 1 worn, 2 whole), place, chord (96: by hand) -/
abbrev nB (S : St) : Nat := S.1 3 0 0
abbrev fe (S : St) (b s : Nat) : Nat := S.1 4 b s
abbrev pl (S : St) (b : Nat) : Nat := S.1 5 b 0
abbrev bk (S : St) (b : Nat) : Nat := S.1 6 b 0
/-- songs: how many, steps, key and 6, chord, note and 1 (0: none) -/
abbrev nG (S : St) : Nat := S.1 7 0 0
abbrev gl (S : St) (g : Nat) : Nat := S.1 8 g 0
abbrev gk (S : St) (g : Nat) : Nat := S.1 9 g 0
abbrev gc (S : St) (g i : Nat) : Nat := S.1 10 g i
abbrev gn (S : St) (g i : Nat) : Nat := S.1 11 g i
/-- offers: how many, chord -/
abbrev nF (S : St) : Nat := S.1 12 0 0
abbrev oc (S : St) (k : Nat) : Nat := S.1 13 k 0
/-- rows heard: how many, set, how long, what was heard -/
abbrev nR (S : St) : Nat := S.1 14 0 0
abbrev rs (S : St) (r : Nat) : Nat := S.1 15 r 0
abbrev rl (S : St) (r : Nat) : Nat := S.1 16 r 0
abbrev rc (S : St) (r s : Nat) : Nat := S.1 17 r s
/-- sheets: lane (3: nothing), length, cells -/
abbrev la (S : St) (k : Nat) : Nat := S.1 18 k 0
abbrev sl (S : St) (k : Nat) : Nat := S.1 19 k 0
abbrev ce (S : St) (k i : Nat) : Int32 := S.2 0 k i
abbrev tr (S : St) : Int32 := S.2 1 0 0
abbrev fa (S : St) : Int32 := S.2 2 0 0
def kI (j : Nat) : Int32 := nI j - nI 6
def tI (n : Nat) : Int32 := nI n - nI 1
def bcI (c : Nat) : Int32 := if c < 96 then nI c else -9
def kdo (c : Nat) : Nat := if c < 96 then (if c / 12 = 2 ∨ c / 12 = 3 ∨ c / 12 = 6 then 2 else 1) else 0
/-- bits by strings -/
def ofC (S : St) (k : Nat) : Nat := nb (fun s => fr S s == 0 && tn S s % 12 == k) (nS S)
def ofT (S : St) (t : Nat) : Nat := nb (fun s => tn S s == t) (nS S)
def frs (S : St) : Nat := nb (fun s => fr S s == 1) (nS S)
def fls (S : St) (b : Nat) : Nat := nb (fun s => fe S b s != 0) 36
def wos (S : St) (b : Nat) : Nat := nb (fun s => fe S b s == 1) 36
/-- what the class holds -/
def A_s (σ : Mem) (S : St) : Prop := σ.1 1 4 = nI (nS S) ∧ (∀ s, s < 36 → σ.1 2 s = nI (tn S s)) ∧ (∀ k, k < 12 → σ.2 3 k = lN (ofC S k)) ∧ (∀ t, t < 61 → σ.2 4 t = lN (ofT S t)) ∧ σ.2 1 3 = lN (frs S)
def A_b (σ : Mem) (S : St) : Prop := σ.1 5 1 = nI (nB S) ∧ ∀ b, b < nB S → σ.1 (bB + b) 0 = bcI (bk S b) ∧ σ.2 (bB + b) 1 = lN (fls S b) ∧ σ.2 (bB + b) 2 = lN (wos S b) ∧ σ.1 (bB + b) 3 = nI (pl S b)
def A_g (σ : Mem) (S : St) : Prop := σ.1 13 1 = nI (nG S) ∧ ∀ g, g < 8 → σ.1 (bG + g) 2 = nI (gl S g) ∧ σ.1 (bG + g) 3 = kI (gk S g) ∧ ∀ i, i < 24 → σ.1 (bG + g + 8) i = nI (gc S g i) ∧ σ.1 (bG + g + 16) i = tI (gn S g i)
def A_o (σ : Mem) (S : St) : Prop := σ.1 15 6 = nI (nF S) ∧ ∀ k, k < 12 → σ.1 16 k = nI (oc S k)
def A_r (σ : Mem) (S : St) : Prop := σ.1 27 4 = nI (nR S) ∧ ∀ r, r < nR S → σ.1 28 r = nI (rs S r) ∧ σ.2 29 r = lN (nb (fun s => rc S r s == 0) (rl S r)) ∧ σ.2 30 r = lN (nb (fun s => rc S r s == 1) (rl S r))
def A_t (σ : Mem) (S : St) : Prop := σ.1 0 9 = tr S ∧ σ.1 0 10 = fa S ∧ ∀ k, k < 4 → σ.1 (bT + k) 1 = (if la S k < 3 then nI (la S k) else -1) ∧ σ.1 (bT + k) 2 = (if la S k < 3 then nI (sl S k) else 0) ∧ ∀ i, i < 64 → σ.1 (bT + k + 4) i = ce S k i
def A (σ : Mem) (S : St) : Prop := A_s σ S ∧ A_b σ S ∧ A_g σ S ∧ A_o σ S ∧ A_r σ S ∧ A_t σ S
/-- what the reference holds -/
def B_s (σ : Mem) (S : St) : Prop := σ.1 33 2 = nI (nS S) ∧ ∀ s, s < 36 → σ.1 34 s = nI (tn S s) ∧ σ.1 35 s = nI (fr S s)
def B_b (σ : Mem) (S : St) : Prop := σ.1 33 5 = nI (nB S) ∧ ∀ b, b < nB S → σ.1 36 b = nI (kdo (bk S b)) ∧ σ.1 37 b = bcI (bk S b) ∧ σ.1 38 b = nI (pl S b) ∧ ∀ s, s < 36 → σ.1 39 (36 * b + s) = nI (fe S b s)
def B_g (σ : Mem) (S : St) : Prop := σ.1 33 15 = nI (nG S) ∧ ∀ g, g < 8 → σ.1 44 g = nI (gl S g) ∧ σ.1 45 g = kI (gk S g) ∧ ∀ i, i < 24 → σ.1 46 (24 * g + i) = nI (gc S g i) ∧ σ.1 47 (24 * g + i) = tI (gn S g i)
def B_o (σ : Mem) (S : St) : Prop := σ.1 33 23 = nI (nF S) ∧ ∀ k, k < 12 → σ.1 51 k = nI (oc S k)
def B_r (σ : Mem) (S : St) : Prop := σ.1 33 33 = nI (nR S) ∧ ∀ r, r < nR S → σ.1 60 r = nI (rs S r) ∧ σ.1 61 r = nI (rl S r) ∧ ∀ s, s < rl S r → σ.1 62 (36 * r + s) = nI (rc S r s)
def B_t (σ : Mem) (S : St) : Prop := σ.1 33 1 = tr S ∧ σ.1 33 0 = fa S ∧ ∀ k, k < 4 → σ.1 48 k = (if la S k < 3 then nI (la S k) else -9) ∧ σ.1 49 k = nI (sl S k) ∧ ∀ i, i < 64 → σ.1 50 (64 * k + i) = ce S k i
def B (σ : Mem) (S : St) : Prop := B_s σ S ∧ B_b σ S ∧ B_g σ S ∧ B_o σ S ∧ B_r σ S ∧ B_t σ S
/-- bounds -/
def ok_s (S : St) : Prop := nS S ≤ 36 ∧ (∀ s, tn S s ≤ 60) ∧ ∀ s, fr S s ≤ 1
def ok_b (S : St) : Prop := nB S ≤ 12 ∧ (∀ b s, fe S b s ≤ 2) ∧ (∀ b, b < nB S → ∀ s, nS S ≤ s → fe S b s = 0) ∧ (∀ b, b < nB S → pl S b < 12) ∧ ∀ b, bk S b ≤ 96
def ok_g (S : St) : Prop := nG S ≤ 8 ∧ (∀ g, gl S g ≤ 24) ∧ (∀ g, g < nG S → 1 ≤ gl S g) ∧ (∀ g, gk S g ≤ 11) ∧ (∀ g i, gc S g i < 96) ∧ (∀ g i, gn S g i ≤ 61) ∧ ∀ g, nG S ≤ g → gk S g = 6
def ok_o (S : St) : Prop := nF S ≤ 12 ∧ ∀ k, oc S k < 96
def ok_r (S : St) : Prop := nR S ≤ 20 ∧ (∀ r, r < nR S → rs S r < 2 ^ nB S) ∧ (∀ r, r < nR S → rl S r ≤ nS S) ∧ ∀ r s, rc S r s ≤ 2
def ok_t (S : St) : Prop := (∀ k, la S k ≤ 3) ∧ ∀ k, sl S k ≤ 64
def ok (S : St) : Prop := ok_s S ∧ ok_b S ∧ ok_g S ∧ ok_o S ∧ ok_r S ∧ ok_t S
-- projections
section
variable {σ : Mem} {S : St}
theorem A.znS (h : A σ S) : σ.1 1 4 = nI (nS S) := h.1.1
theorem A.ztn (h : A σ S) {s : Nat} (hs : s < 36) : σ.1 2 s = nI (tn S s) := h.1.2.1 s hs
theorem A.zofC (h : A σ S) {k : Nat} (hs : k < 12) : σ.2 3 k = lN (ofC S k) := h.1.2.2.1 k hs
theorem A.zofT (h : A σ S) {k : Nat} (hs : k < 61) : σ.2 4 k = lN (ofT S k) := h.1.2.2.2.1 k hs
theorem A.zfrs (h : A σ S) : σ.2 1 3 = lN (frs S) := h.1.2.2.2.2
theorem A.znB (h : A σ S) : σ.1 5 1 = nI (nB S) := h.2.1.1
theorem A.zbk (h : A σ S) {b : Nat} (hb : b < nB S) : σ.1 (bB + b) 0 = bcI (bk S b) := (h.2.1.2 b hb).1
theorem A.zfls (h : A σ S) {b : Nat} (hb : b < nB S) : σ.2 (bB + b) 1 = lN (fls S b) := (h.2.1.2 b hb).2.1
theorem A.zwos (h : A σ S) {b : Nat} (hb : b < nB S) : σ.2 (bB + b) 2 = lN (wos S b) := (h.2.1.2 b hb).2.2.1
theorem A.zpl (h : A σ S) {b : Nat} (hb : b < nB S) : σ.1 (bB + b) 3 = nI (pl S b) := (h.2.1.2 b hb).2.2.2
theorem A.znG (h : A σ S) : σ.1 13 1 = nI (nG S) := h.2.2.1.1
theorem A.zgl (h : A σ S) {g : Nat} (hg : g < 8) : σ.1 (bG + g) 2 = nI (gl S g) := (h.2.2.1.2 g hg).1
theorem A.zgk (h : A σ S) {g : Nat} (hg : g < 8) : σ.1 (bG + g) 3 = kI (gk S g) := (h.2.2.1.2 g hg).2.1
theorem A.zgc (h : A σ S) {g i : Nat} (hg : g < 8) (hi : i < 24) : σ.1 (bG + g + 8) i = nI (gc S g i) := ((h.2.2.1.2 g hg).2.2 i hi).1
theorem A.zgn (h : A σ S) {g i : Nat} (hg : g < 8) (hi : i < 24) : σ.1 (bG + g + 16) i = tI (gn S g i) := ((h.2.2.1.2 g hg).2.2 i hi).2
theorem A.znO (h : A σ S) : σ.1 15 6 = nI (nF S) := h.2.2.2.1.1
theorem A.zoc (h : A σ S) {k : Nat} (hk : k < 12) : σ.1 16 k = nI (oc S k) := h.2.2.2.1.2 k hk
theorem A.znR (h : A σ S) : σ.1 27 4 = nI (nR S) := h.2.2.2.2.1.1
theorem A.zrs (h : A σ S) {r : Nat} (hr : r < nR S) : σ.1 28 r = nI (rs S r) := (h.2.2.2.2.1.2 r hr).1
theorem A.zr0 (h : A σ S) {r : Nat} (hr : r < nR S) : σ.2 29 r = lN (nb (fun s => rc S r s == 0) (rl S r)) := (h.2.2.2.2.1.2 r hr).2.1
theorem A.zr1 (h : A σ S) {r : Nat} (hr : r < nR S) : σ.2 30 r = lN (nb (fun s => rc S r s == 1) (rl S r)) := (h.2.2.2.2.1.2 r hr).2.2
theorem A.ztr (h : A σ S) : σ.1 0 9 = tr S := h.2.2.2.2.2.1
theorem A.zfa (h : A σ S) : σ.1 0 10 = fa S := h.2.2.2.2.2.2.1
theorem A.zla (h : A σ S) {k : Nat} (hk : k < 4) : σ.1 (bT + k) 1 = (if la S k < 3 then nI (la S k) else -1) := (h.2.2.2.2.2.2.2 k hk).1
theorem A.zsl (h : A σ S) {k : Nat} (hk : k < 4) : σ.1 (bT + k) 2 = (if la S k < 3 then nI (sl S k) else 0) := (h.2.2.2.2.2.2.2 k hk).2.1
theorem A.zce (h : A σ S) {k i : Nat} (hk : k < 4) (hi : i < 64) : σ.1 (bT + k + 4) i = ce S k i := (h.2.2.2.2.2.2.2 k hk).2.2 i hi
theorem B.znS (h : B σ S) : σ.1 33 2 = nI (nS S) := h.1.1
theorem B.ztn (h : B σ S) {s : Nat} (hs : s < 36) : σ.1 34 s = nI (tn S s) := (h.1.2 s hs).1
theorem B.zfr (h : B σ S) {s : Nat} (hs : s < 36) : σ.1 35 s = nI (fr S s) := (h.1.2 s hs).2
theorem B.znB (h : B σ S) : σ.1 33 5 = nI (nB S) := h.2.1.1
theorem B.zkd (h : B σ S) {b : Nat} (hb : b < nB S) : σ.1 36 b = nI (kdo (bk S b)) := (h.2.1.2 b hb).1
theorem B.zbk (h : B σ S) {b : Nat} (hb : b < nB S) : σ.1 37 b = bcI (bk S b) := (h.2.1.2 b hb).2.1
theorem B.zpl (h : B σ S) {b : Nat} (hb : b < nB S) : σ.1 38 b = nI (pl S b) := (h.2.1.2 b hb).2.2.1
theorem B.zfe (h : B σ S) {b s : Nat} (hb : b < nB S) (hs : s < 36) : σ.1 39 (36 * b + s) = nI (fe S b s) := (h.2.1.2 b hb).2.2.2 s hs
theorem B.znG (h : B σ S) : σ.1 33 15 = nI (nG S) := h.2.2.1.1
theorem B.zgl (h : B σ S) {g : Nat} (hg : g < 8) : σ.1 44 g = nI (gl S g) := (h.2.2.1.2 g hg).1
theorem B.zgk (h : B σ S) {g : Nat} (hg : g < 8) : σ.1 45 g = kI (gk S g) := (h.2.2.1.2 g hg).2.1
theorem B.zgc (h : B σ S) {g i : Nat} (hg : g < 8) (hi : i < 24) : σ.1 46 (24 * g + i) = nI (gc S g i) := ((h.2.2.1.2 g hg).2.2 i hi).1
theorem B.zgn (h : B σ S) {g i : Nat} (hg : g < 8) (hi : i < 24) : σ.1 47 (24 * g + i) = tI (gn S g i) := ((h.2.2.1.2 g hg).2.2 i hi).2
theorem B.znO (h : B σ S) : σ.1 33 23 = nI (nF S) := h.2.2.2.1.1
theorem B.zoc (h : B σ S) {k : Nat} (hk : k < 12) : σ.1 51 k = nI (oc S k) := h.2.2.2.1.2 k hk
theorem B.znR (h : B σ S) : σ.1 33 33 = nI (nR S) := h.2.2.2.2.1.1
theorem B.zrs (h : B σ S) {r : Nat} (hr : r < nR S) : σ.1 60 r = nI (rs S r) := (h.2.2.2.2.1.2 r hr).1
theorem B.zrl (h : B σ S) {r : Nat} (hr : r < nR S) : σ.1 61 r = nI (rl S r) := (h.2.2.2.2.1.2 r hr).2.1
theorem B.zrc (h : B σ S) {r s : Nat} (hr : r < nR S) (hs : s < rl S r) : σ.1 62 (36 * r + s) = nI (rc S r s) := (h.2.2.2.2.1.2 r hr).2.2 s hs
theorem B.ztr (h : B σ S) : σ.1 33 1 = tr S := h.2.2.2.2.2.1
theorem B.zfa (h : B σ S) : σ.1 33 0 = fa S := h.2.2.2.2.2.2.1
theorem B.zla (h : B σ S) {k : Nat} (hk : k < 4) : σ.1 48 k = (if la S k < 3 then nI (la S k) else -9) := (h.2.2.2.2.2.2.2 k hk).1
theorem B.zsl (h : B σ S) {k : Nat} (hk : k < 4) : σ.1 49 k = nI (sl S k) := (h.2.2.2.2.2.2.2 k hk).2.1
theorem B.zce (h : B σ S) {k i : Nat} (hk : k < 4) (hi : i < 64) : σ.1 50 (64 * k + i) = ce S k i := (h.2.2.2.2.2.2.2 k hk).2.2 i hi
theorem ok.znS (h : ok S) : nS S ≤ 36 := h.1.1
theorem ok.ztn (h : ok S) (s : Nat) : tn S s ≤ 60 := h.1.2.1 s
theorem ok.zfr (h : ok S) (s : Nat) : fr S s ≤ 1 := h.1.2.2 s
theorem ok.znB (h : ok S) : nB S ≤ 12 := h.2.1.1
theorem ok.zfe (h : ok S) (b s : Nat) : fe S b s ≤ 2 := h.2.1.2.1 b s
theorem ok.zfe0 (h : ok S) {b s : Nat} (hb : b < nB S) (hs : nS S ≤ s) : fe S b s = 0 := h.2.1.2.2.1 b hb s hs
theorem ok.zpl (h : ok S) {b : Nat} (hb : b < nB S) : pl S b < 12 := h.2.1.2.2.2.1 b hb
theorem ok.zbk (h : ok S) (b : Nat) : bk S b ≤ 96 := h.2.1.2.2.2.2 b
theorem ok.znG (h : ok S) : nG S ≤ 8 := h.2.2.1.1
theorem ok.zgl (h : ok S) (g : Nat) : gl S g ≤ 24 := h.2.2.1.2.1 g
theorem ok.zgl1 (h : ok S) {g : Nat} (hg : g < nG S) : 1 ≤ gl S g := h.2.2.1.2.2.1 g hg
theorem ok.zgk (h : ok S) (g : Nat) : gk S g ≤ 11 := h.2.2.1.2.2.2.1 g
theorem ok.zgc (h : ok S) (g i : Nat) : gc S g i < 96 := h.2.2.1.2.2.2.2.1 g i
theorem ok.zgn (h : ok S) (g i : Nat) : gn S g i ≤ 61 := h.2.2.1.2.2.2.2.2.1 g i
theorem ok.zgk6 (h : ok S) {g : Nat} (hg : nG S ≤ g) : gk S g = 6 := h.2.2.1.2.2.2.2.2.2 g hg
theorem ok.znO (h : ok S) : nF S ≤ 12 := h.2.2.2.1.1
theorem ok.zoc (h : ok S) (k : Nat) : oc S k < 96 := h.2.2.2.1.2 k
theorem ok.znR (h : ok S) : nR S ≤ 20 := h.2.2.2.2.1.1
theorem ok.zrs (h : ok S) {r : Nat} (hr : r < nR S) : rs S r < 2 ^ nB S := h.2.2.2.2.1.2.1 r hr
theorem ok.zrl (h : ok S) {r : Nat} (hr : r < nR S) : rl S r ≤ nS S := h.2.2.2.2.1.2.2.1 r hr
theorem ok.zrc (h : ok S) (r s : Nat) : rc S r s ≤ 2 := h.2.2.2.2.1.2.2.2 r s
theorem ok.zla (h : ok S) (k : Nat) : la S k ≤ 3 := h.2.2.2.2.2.1 k
theorem ok.zsl (h : ok S) (k : Nat) : sl S k ≤ 64 := h.2.2.2.2.2.2 k
end
/-- nothing but the class' own numbers for one call has changed -/
def aS (σ σ' : Mem) : Prop := ∀ o k, ¬ (7 ≤ o ∧ o ≤ 12) → ¬ (17 ≤ o ∧ o ≤ 26) → o ≠ 31 → ¬ (o = 15 ∧ k = 5) → σ'.1 o k = σ.1 o k ∧ σ'.2 o k = σ.2 o k
/-- nothing but the reference's own numbers for one call has changed -/
def bS (σ σ' : Mem) : Prop := ∀ o k, ¬ (o = 33 ∧ k = 10) → ¬ (40 ≤ o ∧ o ≤ 43) → ¬ (52 ≤ o ∧ o ≤ 59) → o ≠ 63 → σ'.1 o k = σ.1 o k ∧ σ'.2 o k = σ.2 o k
/-- the reference's objects are as they were -/
def mS (σ σ' : Mem) : Prop := ∀ o, 33 ≤ o → o < 64 → ∀ k, σ'.1 o k = σ.1 o k
/-- the class' objects are as they were -/
def cS (σ σ' : Mem) : Prop := ∀ o, ¬ (33 ≤ o ∧ o < 64) → ∀ k, σ'.1 o k = σ.1 o k ∧ σ'.2 o k = σ.2 o k
section
variable {σ σ' σ'' : Mem} {S : St}
theorem aS.rf : aS σ σ := fun _ _ _ _ _ _ => ⟨rfl, rfl⟩
theorem bS.rf : bS σ σ := fun _ _ _ _ _ _ => ⟨rfl, rfl⟩
theorem mS.rf : mS σ σ := fun _ _ _ _ => rfl
theorem cS.rf : cS σ σ := fun _ _ _ => ⟨rfl, rfl⟩
theorem aS.tr (h : aS σ σ') (h2 : aS σ' σ'') : aS σ σ'' := fun o k a b c d => ⟨(h2 o k a b c d).1.trans (h o k a b c d).1, (h2 o k a b c d).2.trans (h o k a b c d).2⟩
theorem bS.tr (h : bS σ σ') (h2 : bS σ' σ'') : bS σ σ'' := fun o k a b c d => ⟨(h2 o k a b c d).1.trans (h o k a b c d).1, (h2 o k a b c d).2.trans (h o k a b c d).2⟩
theorem mS.tr (h : mS σ σ') (h2 : mS σ' σ'') : mS σ σ'' := fun o a b k => (h2 o a b k).trans (h o a b k)
theorem cS.tr (h : cS σ σ') (h2 : cS σ' σ'') : cS σ σ'' := fun o a k => ⟨(h2 o a k).1.trans (h o a k).1, (h2 o a k).2.trans (h o a k).2⟩
theorem aS.m (h : aS σ σ') : mS σ σ' := fun o a b k => (h o k (by omega) (by omega) (by omega) (by omega)).1
theorem bS.c (h : bS σ σ') : cS σ σ' := fun o a k => h o k (by omega) (by omega) (by omega) (by omega)
theorem aS.I {o k : Nat} {v : Int32} (h : aS σ σ') (ho : (7 ≤ o ∧ o ≤ 12) ∨ (17 ≤ o ∧ o ≤ 26) ∨ o = 31 ∨ (o = 15 ∧ k = 5)) : aS σ (wI σ' o k v) := fun a j h1 h2 h3 h4 => by
  rw [m_I1, m_I2, if_neg (by omega)]
  exact h a j h1 h2 h3 h4
theorem aS.J {o k : Nat} {v : Int64} (h : aS σ σ') (ho : (7 ≤ o ∧ o ≤ 12) ∨ (17 ≤ o ∧ o ≤ 26) ∨ o = 31 ∨ (o = 15 ∧ k = 5)) : aS σ (wJ σ' o k v) := fun a j h1 h2 h3 h4 => by
  rw [m_J1, m_J2, if_neg (by omega)]
  exact h a j h1 h2 h3 h4
theorem aS.Jr {o : Nat} {f : Nat → Int64} (h : aS σ σ') (ho : (7 ≤ o ∧ o ≤ 12) ∨ (17 ≤ o ∧ o ≤ 26) ∨ o = 31) : aS σ (wJr σ' o f) := fun a j h1 h2 h3 h4 => by
  rw [m_Jr1, m_Jr2, if_neg (by omega)]
  exact h a j h1 h2 h3 h4
theorem bS.I {o k : Nat} {v : Int32} (h : bS σ σ') (ho : (40 ≤ o ∧ o ≤ 43) ∨ (52 ≤ o ∧ o ≤ 59) ∨ o = 63 ∨ (o = 33 ∧ k = 10)) : bS σ (wI σ' o k v) := fun a j h1 h2 h3 h4 => by
  rw [m_I1, m_I2, if_neg (by omega)]
  exact h a j h1 h2 h3 h4
theorem mS.I {o k : Nat} {v : Int32} (h : mS σ σ') (ho : ¬ (33 ≤ o ∧ o < 64)) : mS σ (wI σ' o k v) := fun a h1 h2 j => by
  rw [m_I1, if_neg (by omega)]
  exact h a h1 h2 j
theorem mS.J {o k : Nat} {v : Int64} (h : mS σ σ') : mS σ (wJ σ' o k v) := h
theorem cS.I {o k : Nat} {v : Int32} (h : cS σ σ') (ho : 33 ≤ o ∧ o < 64) : cS σ (wI σ' o k v) := fun a h1 j => by
  rw [m_I1, m_I2, if_neg (by omega)]
  exact h a h1 j
theorem A.aS (h : A σ S) (q : aS σ σ') : A σ' S := by
  have e1 : bB = 64 := rfl
  have e2 : bG = 76 := rfl
  have e3 : bT = 100 := rfl
  obtain ⟨⟨s1, s2, s3, s4, s5⟩, ⟨b1, b2⟩, ⟨g1, g2⟩, ⟨o1, o2⟩, ⟨r1, r2⟩, t1, t2, t3⟩ := h
  have q1 : ∀ o k, ¬ (7 ≤ o ∧ o ≤ 12) → ¬ (17 ≤ o ∧ o ≤ 26) → o ≠ 31 → ¬ (o = 15 ∧ k = 5) → σ'.1 o k = σ.1 o k := fun o k a b c d => (q o k a b c d).1
  have q2 : ∀ o k, ¬ (7 ≤ o ∧ o ≤ 12) → ¬ (17 ≤ o ∧ o ≤ 26) → o ≠ 31 → ¬ (o = 15 ∧ k = 5) → σ'.2 o k = σ.2 o k := fun o k a b c d => (q o k a b c d).2
  refine ⟨⟨?_, fun s hs => ?_, fun s hs => ?_, fun s hs => ?_, ?_⟩, ⟨?_, fun b hb => ⟨?_, ?_, ?_, ?_⟩⟩, ⟨?_, fun g hg => ⟨?_, ?_, fun i hi => ⟨?_, ?_⟩⟩⟩, ⟨?_, fun k hk => ?_⟩, ⟨?_, fun r hr => ⟨?_, ?_, ?_⟩⟩, ?_, ?_, fun k hk => ⟨?_, ?_, fun i hi => ?_⟩⟩
  · rw [q1 _ _ (by omega) (by omega) (by omega) (by omega)]; exact s1
  · rw [q1 _ _ (by omega) (by omega) (by omega) (by omega)]; exact s2 s hs
  · rw [q2 _ _ (by omega) (by omega) (by omega) (by omega)]; exact s3 s hs
  · rw [q2 _ _ (by omega) (by omega) (by omega) (by omega)]; exact s4 s hs
  · rw [q2 _ _ (by omega) (by omega) (by omega) (by omega)]; exact s5
  · rw [q1 _ _ (by omega) (by omega) (by omega) (by omega)]; exact b1
  · rw [q1 _ _ (by omega) (by omega) (by omega) (by omega)]; exact (b2 b hb).1
  · rw [q2 _ _ (by omega) (by omega) (by omega) (by omega)]; exact (b2 b hb).2.1
  · rw [q2 _ _ (by omega) (by omega) (by omega) (by omega)]; exact (b2 b hb).2.2.1
  · rw [q1 _ _ (by omega) (by omega) (by omega) (by omega)]; exact (b2 b hb).2.2.2
  · rw [q1 _ _ (by omega) (by omega) (by omega) (by omega)]; exact g1
  · rw [q1 _ _ (by omega) (by omega) (by omega) (by omega)]; exact (g2 g hg).1
  · rw [q1 _ _ (by omega) (by omega) (by omega) (by omega)]; exact (g2 g hg).2.1
  · rw [q1 _ _ (by omega) (by omega) (by omega) (by omega)]; exact ((g2 g hg).2.2 i hi).1
  · rw [q1 _ _ (by omega) (by omega) (by omega) (by omega)]; exact ((g2 g hg).2.2 i hi).2
  · rw [q1 _ _ (by omega) (by omega) (by omega) (by omega)]; exact o1
  · rw [q1 _ _ (by omega) (by omega) (by omega) (by omega)]; exact o2 k hk
  · rw [q1 _ _ (by omega) (by omega) (by omega) (by omega)]; exact r1
  · rw [q1 _ _ (by omega) (by omega) (by omega) (by omega)]; exact (r2 r hr).1
  · rw [q2 _ _ (by omega) (by omega) (by omega) (by omega)]; exact (r2 r hr).2.1
  · rw [q2 _ _ (by omega) (by omega) (by omega) (by omega)]; exact (r2 r hr).2.2
  · rw [q1 _ _ (by omega) (by omega) (by omega) (by omega)]; exact t1
  · rw [q1 _ _ (by omega) (by omega) (by omega) (by omega)]; exact t2
  · rw [q1 _ _ (by omega) (by omega) (by omega) (by omega)]; exact (t3 k hk).1
  · rw [q1 _ _ (by omega) (by omega) (by omega) (by omega)]; exact (t3 k hk).2.1
  · rw [q1 _ _ (by omega) (by omega) (by omega) (by omega)]; exact (t3 k hk).2.2 i hi
theorem A.cS (h : A σ S) (q : cS σ σ') : A σ' S := by
  have e1 : bB = 64 := rfl
  have e2 : bG = 76 := rfl
  have e3 : bT = 100 := rfl
  obtain ⟨⟨s1, s2, s3, s4, s5⟩, ⟨b1, b2⟩, ⟨g1, g2⟩, ⟨o1, o2⟩, ⟨r1, r2⟩, t1, t2, t3⟩ := h
  have q1 : ∀ o k, ¬ (33 ≤ o ∧ o < 64) → σ'.1 o k = σ.1 o k := fun o k a => (q o a k).1
  have q2 : ∀ o k, ¬ (33 ≤ o ∧ o < 64) → σ'.2 o k = σ.2 o k := fun o k a => (q o a k).2
  refine ⟨⟨?_, fun s hs => ?_, fun s hs => ?_, fun s hs => ?_, ?_⟩, ⟨?_, fun b hb => ⟨?_, ?_, ?_, ?_⟩⟩, ⟨?_, fun g hg => ⟨?_, ?_, fun i hi => ⟨?_, ?_⟩⟩⟩, ⟨?_, fun k hk => ?_⟩, ⟨?_, fun r hr => ⟨?_, ?_, ?_⟩⟩, ?_, ?_, fun k hk => ⟨?_, ?_, fun i hi => ?_⟩⟩
  · rw [q1 _ _ (by omega)]; exact s1
  · rw [q1 _ _ (by omega)]; exact s2 s hs
  · rw [q2 _ _ (by omega)]; exact s3 s hs
  · rw [q2 _ _ (by omega)]; exact s4 s hs
  · rw [q2 _ _ (by omega)]; exact s5
  · rw [q1 _ _ (by omega)]; exact b1
  · rw [q1 _ _ (by omega)]; exact (b2 b hb).1
  · rw [q2 _ _ (by omega)]; exact (b2 b hb).2.1
  · rw [q2 _ _ (by omega)]; exact (b2 b hb).2.2.1
  · rw [q1 _ _ (by omega)]; exact (b2 b hb).2.2.2
  · rw [q1 _ _ (by omega)]; exact g1
  · rw [q1 _ _ (by omega)]; exact (g2 g hg).1
  · rw [q1 _ _ (by omega)]; exact (g2 g hg).2.1
  · rw [q1 _ _ (by omega)]; exact ((g2 g hg).2.2 i hi).1
  · rw [q1 _ _ (by omega)]; exact ((g2 g hg).2.2 i hi).2
  · rw [q1 _ _ (by omega)]; exact o1
  · rw [q1 _ _ (by omega)]; exact o2 k hk
  · rw [q1 _ _ (by omega)]; exact r1
  · rw [q1 _ _ (by omega)]; exact (r2 r hr).1
  · rw [q2 _ _ (by omega)]; exact (r2 r hr).2.1
  · rw [q2 _ _ (by omega)]; exact (r2 r hr).2.2
  · rw [q1 _ _ (by omega)]; exact t1
  · rw [q1 _ _ (by omega)]; exact t2
  · rw [q1 _ _ (by omega)]; exact (t3 k hk).1
  · rw [q1 _ _ (by omega)]; exact (t3 k hk).2.1
  · rw [q1 _ _ (by omega)]; exact (t3 k hk).2.2 i hi
theorem B_of (h : B σ S) (q1 : ∀ o k, 33 ≤ o → o < 64 → ¬ (o = 33 ∧ k = 10) → ¬ (40 ≤ o ∧ o ≤ 43) → ¬ (52 ≤ o ∧ o ≤ 59) → o ≠ 63 → σ'.1 o k = σ.1 o k) : B σ' S := by
  obtain ⟨⟨s1, s2⟩, ⟨b1, b2⟩, ⟨g1, g2⟩, ⟨o1, o2⟩, ⟨r1, r2⟩, t1, t2, t3⟩ := h
  refine ⟨⟨?_, fun s hs => ⟨?_, ?_⟩⟩, ⟨?_, fun b hb => ⟨?_, ?_, ?_, fun s hs => ?_⟩⟩, ⟨?_, fun g hg => ⟨?_, ?_, fun i hi => ⟨?_, ?_⟩⟩⟩, ⟨?_, fun k hk => ?_⟩, ⟨?_, fun r hr => ⟨?_, ?_, fun s hs => ?_⟩⟩, ?_, ?_, fun k hk => ⟨?_, ?_, fun i hi => ?_⟩⟩
  · rw [q1 _ _ (by omega) (by omega) (by omega) (by omega) (by omega) (by omega)]; exact s1
  · rw [q1 _ _ (by omega) (by omega) (by omega) (by omega) (by omega) (by omega)]; exact (s2 s hs).1
  · rw [q1 _ _ (by omega) (by omega) (by omega) (by omega) (by omega) (by omega)]; exact (s2 s hs).2
  · rw [q1 _ _ (by omega) (by omega) (by omega) (by omega) (by omega) (by omega)]; exact b1
  · rw [q1 _ _ (by omega) (by omega) (by omega) (by omega) (by omega) (by omega)]; exact (b2 b hb).1
  · rw [q1 _ _ (by omega) (by omega) (by omega) (by omega) (by omega) (by omega)]; exact (b2 b hb).2.1
  · rw [q1 _ _ (by omega) (by omega) (by omega) (by omega) (by omega) (by omega)]; exact (b2 b hb).2.2.1
  · rw [q1 _ _ (by omega) (by omega) (by omega) (by omega) (by omega) (by omega)]; exact (b2 b hb).2.2.2 s hs
  · rw [q1 _ _ (by omega) (by omega) (by omega) (by omega) (by omega) (by omega)]; exact g1
  · rw [q1 _ _ (by omega) (by omega) (by omega) (by omega) (by omega) (by omega)]; exact (g2 g hg).1
  · rw [q1 _ _ (by omega) (by omega) (by omega) (by omega) (by omega) (by omega)]; exact (g2 g hg).2.1
  · rw [q1 _ _ (by omega) (by omega) (by omega) (by omega) (by omega) (by omega)]; exact ((g2 g hg).2.2 i hi).1
  · rw [q1 _ _ (by omega) (by omega) (by omega) (by omega) (by omega) (by omega)]; exact ((g2 g hg).2.2 i hi).2
  · rw [q1 _ _ (by omega) (by omega) (by omega) (by omega) (by omega) (by omega)]; exact o1
  · rw [q1 _ _ (by omega) (by omega) (by omega) (by omega) (by omega) (by omega)]; exact o2 k hk
  · rw [q1 _ _ (by omega) (by omega) (by omega) (by omega) (by omega) (by omega)]; exact r1
  · rw [q1 _ _ (by omega) (by omega) (by omega) (by omega) (by omega) (by omega)]; exact (r2 r hr).1
  · rw [q1 _ _ (by omega) (by omega) (by omega) (by omega) (by omega) (by omega)]; exact (r2 r hr).2.1
  · rw [q1 _ _ (by omega) (by omega) (by omega) (by omega) (by omega) (by omega)]; exact (r2 r hr).2.2 s hs
  · rw [q1 _ _ (by omega) (by omega) (by omega) (by omega) (by omega) (by omega)]; exact t1
  · rw [q1 _ _ (by omega) (by omega) (by omega) (by omega) (by omega) (by omega)]; exact t2
  · rw [q1 _ _ (by omega) (by omega) (by omega) (by omega) (by omega) (by omega)]; exact (t3 k hk).1
  · rw [q1 _ _ (by omega) (by omega) (by omega) (by omega) (by omega) (by omega)]; exact (t3 k hk).2.1
  · rw [q1 _ _ (by omega) (by omega) (by omega) (by omega) (by omega) (by omega)]; exact (t3 k hk).2.2 i hi
theorem B.mS (h : B σ S) (q : mS σ σ') : B σ' S := B_of h (fun o k a b _ _ _ _ => q o a b k)
theorem B.bS (h : B σ S) (q : bS σ σ') : B σ' S := B_of h (fun o k _ _ a b c d => (q o k a b c d).1)
-- parts that an update leaves alone
variable {S' : St}
theorem A_s_of (h : A_s σ S) (q : ∀ o k, 1 ≤ o → o ≤ 4 → σ'.1 o k = σ.1 o k ∧ σ'.2 o k = σ.2 o k) (hS : ∀ i j k, i ≤ 2 → S'.1 i j k = S.1 i j k) : A_s σ' S' := by
  obtain ⟨s1, s2, s3, s4, s5⟩ := h
  have f : ofC S' = ofC S ∧ ofT S' = ofT S ∧ frs S' = frs S := by
    refine ⟨funext fun k => ?_, funext fun k => ?_, ?_⟩ <;> simp only [ofC, ofT, frs, nS, tn, fr, hS 0 _ _ (by omega), hS 1 _ _ (by omega), hS 2 _ _ (by omega)]
  refine ⟨?_, fun s hs => ?_, fun k hk => ?_, fun k hk => ?_, ?_⟩
  · rw [(q 1 4 (by omega) (by omega)).1, s1]; simp only [nS, hS 0 _ _ (by omega)]
  · rw [(q 2 s (by omega) (by omega)).1, s2 s hs]; simp only [tn, hS 1 _ _ (by omega)]
  · rw [(q 3 k (by omega) (by omega)).2, s3 k hk, f.1]
  · rw [(q 4 k (by omega) (by omega)).2, s4 k hk, f.2.1]
  · rw [(q 1 3 (by omega) (by omega)).2, s5, f.2.2]
theorem A_b_of (h : A_b σ S) (q5 : σ'.1 5 1 = σ.1 5 1) (q : ∀ o k, 64 ≤ o → o ≤ 75 → σ'.1 o k = σ.1 o k ∧ σ'.2 o k = σ.2 o k) (hn : nB S ≤ 12) (hS : ∀ i j k, 3 ≤ i → i ≤ 6 → S'.1 i j k = S.1 i j k) : A_b σ' S' := by
  obtain ⟨b1, b2⟩ := h
  have e1 : bB = 64 := rfl
  have f : fls S' = fls S ∧ wos S' = wos S := by
    refine ⟨funext fun k => ?_, funext fun k => ?_⟩ <;> simp only [fls, wos, fe, hS 4 _ _ (by omega) (by omega)]
  have fn : nB S' = nB S := hS 3 0 0 (by omega) (by omega)
  refine ⟨by rw [q5, b1, fn], fun b hb => ?_⟩
  rw [fn] at hb
  obtain ⟨c1, c2, c3, c4⟩ := b2 b hb
  refine ⟨?_, ?_, ?_, ?_⟩
  · rw [(q (bB + b) 0 (by omega) (by omega)).1, c1]; simp only [bk, hS 6 _ _ (by omega) (by omega)]
  · rw [(q (bB + b) 1 (by omega) (by omega)).2, c2, f.1]
  · rw [(q (bB + b) 2 (by omega) (by omega)).2, c3, f.2]
  · rw [(q (bB + b) 3 (by omega) (by omega)).1, c4]; simp only [pl, hS 5 _ _ (by omega) (by omega)]
theorem A_g_of (h : A_g σ S) (q5 : σ'.1 13 1 = σ.1 13 1) (q : ∀ o k, 76 ≤ o → o ≤ 99 → σ'.1 o k = σ.1 o k) (hS : ∀ i j k, 7 ≤ i → i ≤ 11 → S'.1 i j k = S.1 i j k) : A_g σ' S' := by
  obtain ⟨b1, b2⟩ := h
  have e1 : bG = 76 := rfl
  refine ⟨by rw [q5, b1]; simp only [nG, hS 7 _ _ (by omega) (by omega)], fun g hg => ?_⟩
  obtain ⟨c1, c2, c3⟩ := b2 g hg
  refine ⟨?_, ?_, fun i hi => ⟨?_, ?_⟩⟩
  · rw [q (bG + g) 2 (by omega) (by omega), c1]; simp only [gl, hS 8 _ _ (by omega) (by omega)]
  · rw [q (bG + g) 3 (by omega) (by omega), c2]; simp only [gk, hS 9 _ _ (by omega) (by omega)]
  · rw [q (bG + g + 8) i (by omega) (by omega), (c3 i hi).1]; simp only [gc, hS 10 _ _ (by omega) (by omega)]
  · rw [q (bG + g + 16) i (by omega) (by omega), (c3 i hi).2]; simp only [gn, hS 11 _ _ (by omega) (by omega)]
theorem A_o_of (h : A_o σ S) (q5 : σ'.1 15 6 = σ.1 15 6) (q : ∀ k, σ'.1 16 k = σ.1 16 k) (hS : ∀ i j k, 12 ≤ i → i ≤ 13 → S'.1 i j k = S.1 i j k) : A_o σ' S' := by
  obtain ⟨b1, b2⟩ := h
  refine ⟨by rw [q5, b1]; simp only [nF, hS 12 _ _ (by omega) (by omega)], fun k hk => ?_⟩
  rw [q k, b2 k hk]; simp only [oc, hS 13 _ _ (by omega) (by omega)]
theorem A_r_of (h : A_r σ S) (q : ∀ o k, 27 ≤ o → o ≤ 30 → σ'.1 o k = σ.1 o k ∧ σ'.2 o k = σ.2 o k) (hS : ∀ i j k, 14 ≤ i → i ≤ 17 → S'.1 i j k = S.1 i j k) : A_r σ' S' := by
  obtain ⟨b1, b2⟩ := h
  have fn : nR S' = nR S := hS 14 0 0 (by omega) (by omega)
  refine ⟨by rw [(q 27 4 (by omega) (by omega)).1, b1, fn], fun r hr => ?_⟩
  rw [fn] at hr
  obtain ⟨c1, c2, c3⟩ := b2 r hr
  refine ⟨?_, ?_, ?_⟩
  · rw [(q 28 r (by omega) (by omega)).1, c1]; simp only [rs, hS 15 _ _ (by omega) (by omega)]
  · rw [(q 29 r (by omega) (by omega)).2, c2]; simp only [rc, rl, hS 16 _ _ (by omega) (by omega), hS 17 _ _ (by omega) (by omega)]
  · rw [(q 30 r (by omega) (by omega)).2, c3]; simp only [rc, rl, hS 16 _ _ (by omega) (by omega), hS 17 _ _ (by omega) (by omega)]
theorem A_t_of (h : A_t σ S) (q0 : ∀ k, 9 ≤ k → σ'.1 0 k = σ.1 0 k) (q : ∀ o k, 100 ≤ o → o ≤ 107 → σ'.1 o k = σ.1 o k) (hS : ∀ i j k, 18 ≤ i → i ≤ 19 → S'.1 i j k = S.1 i j k) (hS2 : S'.2 = S.2) : A_t σ' S' := by
  obtain ⟨b1, b2, b3⟩ := h
  have e1 : bT = 100 := rfl
  refine ⟨by rw [q0 9 (by omega), b1]; simp only [tr, hS2], by rw [q0 10 (by omega), b2]; simp only [fa, hS2], fun k hk => ?_⟩
  obtain ⟨c1, c2, c3⟩ := b3 k hk
  refine ⟨?_, ?_, fun i hi => ?_⟩
  · rw [q (bT + k) 1 (by omega) (by omega), c1]; simp only [la, hS 18 _ _ (by omega) (by omega)]
  · rw [q (bT + k) 2 (by omega) (by omega), c2]; simp only [la, sl, hS 18 _ _ (by omega) (by omega), hS 19 _ _ (by omega) (by omega)]
  · rw [q (bT + k + 4) i (by omega) (by omega), c3 i hi]; simp only [ce, hS2]
theorem B_s_of (h : B_s σ S) (q0 : σ'.1 33 2 = σ.1 33 2) (q : ∀ o k, 34 ≤ o → o ≤ 35 → σ'.1 o k = σ.1 o k) (hS : ∀ i j k, i ≤ 2 → S'.1 i j k = S.1 i j k) : B_s σ' S' := by
  obtain ⟨b1, b2⟩ := h
  refine ⟨by rw [q0, b1]; simp only [nS, hS 0 _ _ (by omega)], fun s hs => ⟨?_, ?_⟩⟩
  · rw [q 34 s (by omega) (by omega), (b2 s hs).1]; simp only [tn, hS 1 _ _ (by omega)]
  · rw [q 35 s (by omega) (by omega), (b2 s hs).2]; simp only [fr, hS 2 _ _ (by omega)]
theorem B_b_of (h : B_b σ S) (q0 : σ'.1 33 5 = σ.1 33 5) (q : ∀ o k, 36 ≤ o → o ≤ 39 → σ'.1 o k = σ.1 o k) (hS : ∀ i j k, 3 ≤ i → i ≤ 6 → S'.1 i j k = S.1 i j k) : B_b σ' S' := by
  obtain ⟨b1, b2⟩ := h
  have fn : nB S' = nB S := hS 3 0 0 (by omega) (by omega)
  refine ⟨by rw [q0, b1, fn], fun b hb => ?_⟩
  rw [fn] at hb
  obtain ⟨c1, c2, c3, c4⟩ := b2 b hb
  refine ⟨?_, ?_, ?_, fun s hs => ?_⟩
  · rw [q 36 b (by omega) (by omega), c1]; simp only [bk, hS 6 _ _ (by omega) (by omega)]
  · rw [q 37 b (by omega) (by omega), c2]; simp only [bk, hS 6 _ _ (by omega) (by omega)]
  · rw [q 38 b (by omega) (by omega), c3]; simp only [pl, hS 5 _ _ (by omega) (by omega)]
  · rw [q 39 _ (by omega) (by omega), c4 s hs]; simp only [fe, hS 4 _ _ (by omega) (by omega)]
theorem B_g_of (h : B_g σ S) (q0 : σ'.1 33 15 = σ.1 33 15) (q : ∀ o k, 44 ≤ o → o ≤ 47 → σ'.1 o k = σ.1 o k) (hS : ∀ i j k, 7 ≤ i → i ≤ 11 → S'.1 i j k = S.1 i j k) : B_g σ' S' := by
  obtain ⟨b1, b2⟩ := h
  refine ⟨by rw [q0, b1]; simp only [nG, hS 7 _ _ (by omega) (by omega)], fun g hg => ?_⟩
  obtain ⟨c1, c2, c3⟩ := b2 g hg
  refine ⟨?_, ?_, fun i hi => ⟨?_, ?_⟩⟩
  · rw [q 44 g (by omega) (by omega), c1]; simp only [gl, hS 8 _ _ (by omega) (by omega)]
  · rw [q 45 g (by omega) (by omega), c2]; simp only [gk, hS 9 _ _ (by omega) (by omega)]
  · rw [q 46 _ (by omega) (by omega), (c3 i hi).1]; simp only [gc, hS 10 _ _ (by omega) (by omega)]
  · rw [q 47 _ (by omega) (by omega), (c3 i hi).2]; simp only [gn, hS 11 _ _ (by omega) (by omega)]
theorem B_o_of (h : B_o σ S) (q0 : σ'.1 33 23 = σ.1 33 23) (q : ∀ k, σ'.1 51 k = σ.1 51 k) (hS : ∀ i j k, 12 ≤ i → i ≤ 13 → S'.1 i j k = S.1 i j k) : B_o σ' S' := by
  obtain ⟨b1, b2⟩ := h
  refine ⟨by rw [q0, b1]; simp only [nF, hS 12 _ _ (by omega) (by omega)], fun k hk => ?_⟩
  rw [q k, b2 k hk]; simp only [oc, hS 13 _ _ (by omega) (by omega)]
theorem B_r_of (h : B_r σ S) (q0 : σ'.1 33 33 = σ.1 33 33) (q : ∀ o k, 60 ≤ o → o ≤ 62 → σ'.1 o k = σ.1 o k) (hS : ∀ i j k, 14 ≤ i → i ≤ 17 → S'.1 i j k = S.1 i j k) : B_r σ' S' := by
  obtain ⟨b1, b2⟩ := h
  have fn : nR S' = nR S := hS 14 0 0 (by omega) (by omega)
  refine ⟨by rw [q0, b1, fn], fun r hr => ?_⟩
  rw [fn] at hr
  obtain ⟨c1, c2, c3⟩ := b2 r hr
  refine ⟨?_, ?_, fun s hs => ?_⟩
  · rw [q 60 r (by omega) (by omega), c1]; simp only [rs, hS 15 _ _ (by omega) (by omega)]
  · rw [q 61 r (by omega) (by omega), c2]; simp only [rl, hS 16 _ _ (by omega) (by omega)]
  · rw [q 62 _ (by omega) (by omega), c3 s (by have e : rl S' r = rl S r := hS 16 _ _ (by omega) (by omega); omega)]; simp only [rc, hS 17 _ _ (by omega) (by omega)]
theorem B_t_of (h : B_t σ S) (q0 : ∀ k, k ≤ 1 → σ'.1 33 k = σ.1 33 k) (q : ∀ o k, 48 ≤ o → o ≤ 50 → σ'.1 o k = σ.1 o k) (hS : ∀ i j k, 18 ≤ i → i ≤ 19 → S'.1 i j k = S.1 i j k) (hS2 : S'.2 = S.2) : B_t σ' S' := by
  obtain ⟨b1, b2, b3⟩ := h
  refine ⟨by rw [q0 1 (by omega), b1]; simp only [tr, hS2], by rw [q0 0 (by omega), b2]; simp only [fa, hS2], fun k hk => ?_⟩
  obtain ⟨c1, c2, c3⟩ := b3 k hk
  refine ⟨?_, ?_, fun i hi => ?_⟩
  · rw [q 48 k (by omega) (by omega), c1]; simp only [la, hS 18 _ _ (by omega) (by omega)]
  · rw [q 49 k (by omega) (by omega), c2]; simp only [sl, hS 19 _ _ (by omega) (by omega)]
  · rw [q 50 _ (by omega) (by omega), c3 i hi]; simp only [ce, hS2]
end
