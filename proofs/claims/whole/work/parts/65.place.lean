-- ===== where the objects lie behind the constructors =====
def adr (Q : (Nat → Nat) × (Nat → Nat → Nat) × (Nat → Nat → Nat)) (x : Nat) (qm : Nat → Nat) (y : Nat) (o : Nat) : Nat := [x, Q.1 0, Q.2.1 0 0, Q.2.1 0 1, Q.2.1 0 2, Q.1 1, Q.2.1 1 0, Q.1 2, Q.2.1 2 0, Q.2.1 2 1, Q.2.1 2 2, Q.2.1 2 3, Q.2.1 2 4, Q.1 3, Q.2.2 0 0, Q.1 4, Q.2.1 3 0, Q.2.1 3 1, Q.2.1 3 2, Q.2.1 3 3, Q.2.1 3 4, Q.1 5, Q.2.1 4 0, Q.2.1 4 1, Q.1 6, Q.2.1 5 0, Q.2.1 5 1, Q.1 7, Q.2.1 6 0, Q.2.1 6 1, Q.2.1 6 2, Q.2.1 6 3, Q.1 8, y, qm 0, qm 1, qm 2, qm 3, qm 4, qm 5, qm 6, qm 7, qm 8, qm 9, qm 10, qm 11, qm 12, qm 13, qm 14, qm 15, qm 16, qm 17, qm 18, qm 19, qm 20, qm 21, qm 22, qm 23, qm 24, qm 25, qm 26, qm 27, qm 28, qm 29, Q.2.1 1 1, Q.2.1 1 2, Q.2.1 1 3, Q.2.1 1 4, Q.2.1 1 5, Q.2.1 1 6, Q.2.1 1 7, Q.2.1 1 8, Q.2.1 1 9, Q.2.1 1 10, Q.2.1 1 11, Q.2.1 1 12, Q.2.2 0 1, Q.2.2 0 2, Q.2.2 0 3, Q.2.2 0 4, Q.2.2 0 5, Q.2.2 0 6, Q.2.2 0 7, Q.2.2 0 8, Q.2.2 1 0, Q.2.2 2 0, Q.2.2 3 0, Q.2.2 4 0, Q.2.2 5 0, Q.2.2 6 0, Q.2.2 7 0, Q.2.2 8 0, Q.2.2 1 1, Q.2.2 2 1, Q.2.2 3 1, Q.2.2 4 1, Q.2.2 5 1, Q.2.2 6 1, Q.2.2 7 1, Q.2.2 8 1, Q.1 9, Q.1 10, Q.1 11, Q.1 12, Q.2.1 7 0, Q.2.1 8 0, Q.2.1 9 0, Q.2.1 10 0].getD o 0
def plc (o : Nat) : Nat := ([107, 106, 105, 104, 103, 102, 101, 88, 87, 86, 85, 84, 83, 82, 81, 56, 55, 54, 53, 52, 51, 50, 49, 48, 47, 46, 45, 44, 43, 42, 41, 40, 39, 30, 29, 28, 27, 26, 25, 24, 23, 22, 21, 20, 19, 18, 17, 16, 15, 14, 13, 12, 11, 10, 9, 8, 7, 6, 5, 4, 3, 2, 1, 0, 100, 99, 98, 97, 96, 95, 94, 93, 92, 91, 90, 89, 80, 77, 74, 71, 68, 65, 62, 59, 79, 76, 73, 70, 67, 64, 61, 58, 78, 75, 72, 69, 66, 63, 60, 57, 38, 36, 34, 32, 37, 35, 33, 31] : List Nat).getD o 0
def plv (i : Nat) : Nat := ([63, 62, 61, 60, 59, 58, 57, 56, 55, 54, 53, 52, 51, 50, 49, 48, 47, 46, 45, 44, 43, 42, 41, 40, 39, 38, 37, 36, 35, 34, 33, 107, 103, 106, 102, 105, 101, 104, 100, 32, 31, 30, 29, 28, 27, 26, 25, 24, 23, 22, 21, 20, 19, 18, 17, 16, 15, 99, 91, 83, 98, 90, 82, 97, 89, 81, 96, 88, 80, 95, 87, 79, 94, 86, 78, 93, 85, 77, 92, 84, 76, 14, 13, 12, 11, 10, 9, 8, 7, 75, 74, 73, 72, 71, 70, 69, 68, 67, 66, 65, 64, 6, 5, 4, 3, 2, 1, 0] : List Nat).getD i 0
theorem plv_plc : ∀ o, o < 108 → plv (plc o) = o := by decide +kernel
def wAll (cy : Nat → ClassId) (Q : (Nat → Nat) × (Nat → Nat → Nat) × (Nat → Nat → Nat)) (x : Nat) (qm : Nat → Nat) (y : Nat) : va_W := w_X12 cy qm y ++ (w_X11 cy Q x ++ [])
theorem va_at_q {D : va_G} {cl : List vw_C} {a n : Nat} {cA : ClassId} {f f' : Nat → Option Nat} {H : Heap} (h : va_at D cl (a, .inl (cA, n, .inr (.inr (.inr (.inr f))))) H) (hf : ∀ j, j < n → f j = f' j) : va_at D cl (a, .inl (cA, n, .inr (.inr (.inr (.inr f'))))) H := by
  have e : vp_cell cA (n, .inr (.inr (.inr (.inr f)))) = vp_cell cA (n, .inr (.inr (.inr (.inr f')))) := by
    rw [vp_cell_q, vp_cell_q]
    unfold arrV
    congr 2
    funext j
    show va_rf (f j.val) = va_rf (f' j.val)
    rw [hf j.val j.isLt]
  show H[a]? = some (vp_cell cA (n, .inr (.inr (.inr (.inr f')))))
  rw [← e]
  exact h
set_option maxRecDepth 100000 in
theorem at_0 {D : va_G} {cy : Nat → ClassId} (Q : (Nat → Nat) × (Nat → Nat → Nat) × (Nat → Nat → Nat)) (x : Nat) (qm : Nat → Nat) (y : Nat) {aS aH : Nat} : ∃ e, (wAll cy Q x qm y)[107]? = some (adr Q x qm y 0, e) ∧ ∀ H, va_at D vwCl (adr Q x qm y 0, e) H → va_at D vwCl (adr Q x qm y 0, cellE ((D, cy, adr Q x qm y, aS, aH) : Gl) m0 0) H := ⟨_, rfl, fun _ h => h⟩
set_option maxRecDepth 100000 in
theorem at_1 {D : va_G} {cy : Nat → ClassId} (Q : (Nat → Nat) × (Nat → Nat → Nat) × (Nat → Nat → Nat)) (x : Nat) (qm : Nat → Nat) (y : Nat) {aS aH : Nat} : ∃ e, (wAll cy Q x qm y)[106]? = some (adr Q x qm y 1, e) ∧ ∀ H, va_at D vwCl (adr Q x qm y 1, e) H → va_at D vwCl (adr Q x qm y 1, cellE ((D, cy, adr Q x qm y, aS, aH) : Gl) m0 1) H := ⟨_, rfl, fun _ h => h⟩
set_option maxRecDepth 100000 in
theorem at_2 {D : va_G} {cy : Nat → ClassId} (Q : (Nat → Nat) × (Nat → Nat → Nat) × (Nat → Nat → Nat)) (x : Nat) (qm : Nat → Nat) (y : Nat) {aS aH : Nat} : ∃ e, (wAll cy Q x qm y)[105]? = some (adr Q x qm y 2, e) ∧ ∀ H, va_at D vwCl (adr Q x qm y 2, e) H → va_at D vwCl (adr Q x qm y 2, cellE ((D, cy, adr Q x qm y, aS, aH) : Gl) m0 2) H := ⟨_, rfl, fun _ h => h⟩
set_option maxRecDepth 100000 in
theorem at_3 {D : va_G} {cy : Nat → ClassId} (Q : (Nat → Nat) × (Nat → Nat → Nat) × (Nat → Nat → Nat)) (x : Nat) (qm : Nat → Nat) (y : Nat) {aS aH : Nat} : ∃ e, (wAll cy Q x qm y)[104]? = some (adr Q x qm y 3, e) ∧ ∀ H, va_at D vwCl (adr Q x qm y 3, e) H → va_at D vwCl (adr Q x qm y 3, cellE ((D, cy, adr Q x qm y, aS, aH) : Gl) m0 3) H := ⟨_, rfl, fun _ h => h⟩
set_option maxRecDepth 100000 in
theorem at_4 {D : va_G} {cy : Nat → ClassId} (Q : (Nat → Nat) × (Nat → Nat → Nat) × (Nat → Nat → Nat)) (x : Nat) (qm : Nat → Nat) (y : Nat) {aS aH : Nat} : ∃ e, (wAll cy Q x qm y)[103]? = some (adr Q x qm y 4, e) ∧ ∀ H, va_at D vwCl (adr Q x qm y 4, e) H → va_at D vwCl (adr Q x qm y 4, cellE ((D, cy, adr Q x qm y, aS, aH) : Gl) m0 4) H := ⟨_, rfl, fun _ h => h⟩
set_option maxRecDepth 100000 in
theorem at_5 {D : va_G} {cy : Nat → ClassId} (Q : (Nat → Nat) × (Nat → Nat → Nat) × (Nat → Nat → Nat)) (x : Nat) (qm : Nat → Nat) (y : Nat) {aS aH : Nat} : ∃ e, (wAll cy Q x qm y)[102]? = some (adr Q x qm y 5, e) ∧ ∀ H, va_at D vwCl (adr Q x qm y 5, e) H → va_at D vwCl (adr Q x qm y 5, cellE ((D, cy, adr Q x qm y, aS, aH) : Gl) m0 5) H := ⟨_, rfl, fun _ h => h⟩
set_option maxRecDepth 100000 in
theorem at_6 {D : va_G} {cy : Nat → ClassId} (Q : (Nat → Nat) × (Nat → Nat → Nat) × (Nat → Nat → Nat)) (x : Nat) (qm : Nat → Nat) (y : Nat) {aS aH : Nat} : ∃ e, (wAll cy Q x qm y)[101]? = some (adr Q x qm y 6, e) ∧ ∀ H, va_at D vwCl (adr Q x qm y 6, e) H → va_at D vwCl (adr Q x qm y 6, cellE ((D, cy, adr Q x qm y, aS, aH) : Gl) m0 6) H := ⟨_, rfl, fun _ h => va_at_q (n := 12) h (fun j hj => match j, hj with | 0, _ => rfl | 1, _ => rfl | 2, _ => rfl | 3, _ => rfl | 4, _ => rfl | 5, _ => rfl | 6, _ => rfl | 7, _ => rfl | 8, _ => rfl | 9, _ => rfl | 10, _ => rfl | 11, _ => rfl | j + 12, h => absurd h (by omega))⟩
set_option maxRecDepth 100000 in
theorem at_7 {D : va_G} {cy : Nat → ClassId} (Q : (Nat → Nat) × (Nat → Nat → Nat) × (Nat → Nat → Nat)) (x : Nat) (qm : Nat → Nat) (y : Nat) {aS aH : Nat} : ∃ e, (wAll cy Q x qm y)[88]? = some (adr Q x qm y 7, e) ∧ ∀ H, va_at D vwCl (adr Q x qm y 7, e) H → va_at D vwCl (adr Q x qm y 7, cellE ((D, cy, adr Q x qm y, aS, aH) : Gl) m0 7) H := ⟨_, rfl, fun _ h => h⟩
set_option maxRecDepth 100000 in
theorem at_8 {D : va_G} {cy : Nat → ClassId} (Q : (Nat → Nat) × (Nat → Nat → Nat) × (Nat → Nat → Nat)) (x : Nat) (qm : Nat → Nat) (y : Nat) {aS aH : Nat} : ∃ e, (wAll cy Q x qm y)[87]? = some (adr Q x qm y 8, e) ∧ ∀ H, va_at D vwCl (adr Q x qm y 8, e) H → va_at D vwCl (adr Q x qm y 8, cellE ((D, cy, adr Q x qm y, aS, aH) : Gl) m0 8) H := ⟨_, rfl, fun _ h => h⟩
set_option maxRecDepth 100000 in
theorem at_9 {D : va_G} {cy : Nat → ClassId} (Q : (Nat → Nat) × (Nat → Nat → Nat) × (Nat → Nat → Nat)) (x : Nat) (qm : Nat → Nat) (y : Nat) {aS aH : Nat} : ∃ e, (wAll cy Q x qm y)[86]? = some (adr Q x qm y 9, e) ∧ ∀ H, va_at D vwCl (adr Q x qm y 9, e) H → va_at D vwCl (adr Q x qm y 9, cellE ((D, cy, adr Q x qm y, aS, aH) : Gl) m0 9) H := ⟨_, rfl, fun _ h => h⟩
set_option maxRecDepth 100000 in
theorem at_10 {D : va_G} {cy : Nat → ClassId} (Q : (Nat → Nat) × (Nat → Nat → Nat) × (Nat → Nat → Nat)) (x : Nat) (qm : Nat → Nat) (y : Nat) {aS aH : Nat} : ∃ e, (wAll cy Q x qm y)[85]? = some (adr Q x qm y 10, e) ∧ ∀ H, va_at D vwCl (adr Q x qm y 10, e) H → va_at D vwCl (adr Q x qm y 10, cellE ((D, cy, adr Q x qm y, aS, aH) : Gl) m0 10) H := ⟨_, rfl, fun _ h => h⟩
set_option maxRecDepth 100000 in
theorem at_11 {D : va_G} {cy : Nat → ClassId} (Q : (Nat → Nat) × (Nat → Nat → Nat) × (Nat → Nat → Nat)) (x : Nat) (qm : Nat → Nat) (y : Nat) {aS aH : Nat} : ∃ e, (wAll cy Q x qm y)[84]? = some (adr Q x qm y 11, e) ∧ ∀ H, va_at D vwCl (adr Q x qm y 11, e) H → va_at D vwCl (adr Q x qm y 11, cellE ((D, cy, adr Q x qm y, aS, aH) : Gl) m0 11) H := ⟨_, rfl, fun _ h => h⟩
set_option maxRecDepth 100000 in
theorem at_12 {D : va_G} {cy : Nat → ClassId} (Q : (Nat → Nat) × (Nat → Nat → Nat) × (Nat → Nat → Nat)) (x : Nat) (qm : Nat → Nat) (y : Nat) {aS aH : Nat} : ∃ e, (wAll cy Q x qm y)[83]? = some (adr Q x qm y 12, e) ∧ ∀ H, va_at D vwCl (adr Q x qm y 12, e) H → va_at D vwCl (adr Q x qm y 12, cellE ((D, cy, adr Q x qm y, aS, aH) : Gl) m0 12) H := ⟨_, rfl, fun _ h => h⟩
set_option maxRecDepth 100000 in
theorem at_13 {D : va_G} {cy : Nat → ClassId} (Q : (Nat → Nat) × (Nat → Nat → Nat) × (Nat → Nat → Nat)) (x : Nat) (qm : Nat → Nat) (y : Nat) {aS aH : Nat} : ∃ e, (wAll cy Q x qm y)[82]? = some (adr Q x qm y 13, e) ∧ ∀ H, va_at D vwCl (adr Q x qm y 13, e) H → va_at D vwCl (adr Q x qm y 13, cellE ((D, cy, adr Q x qm y, aS, aH) : Gl) m0 13) H := ⟨_, rfl, fun _ h => h⟩
set_option maxRecDepth 100000 in
theorem at_14 {D : va_G} {cy : Nat → ClassId} (Q : (Nat → Nat) × (Nat → Nat → Nat) × (Nat → Nat → Nat)) (x : Nat) (qm : Nat → Nat) (y : Nat) {aS aH : Nat} : ∃ e, (wAll cy Q x qm y)[81]? = some (adr Q x qm y 14, e) ∧ ∀ H, va_at D vwCl (adr Q x qm y 14, e) H → va_at D vwCl (adr Q x qm y 14, cellE ((D, cy, adr Q x qm y, aS, aH) : Gl) m0 14) H := ⟨_, rfl, fun _ h => va_at_q (n := 8) h (fun j hj => match j, hj with | 0, _ => rfl | 1, _ => rfl | 2, _ => rfl | 3, _ => rfl | 4, _ => rfl | 5, _ => rfl | 6, _ => rfl | 7, _ => rfl | j + 8, h => absurd h (by omega))⟩
set_option maxRecDepth 100000 in
theorem at_15 {D : va_G} {cy : Nat → ClassId} (Q : (Nat → Nat) × (Nat → Nat → Nat) × (Nat → Nat → Nat)) (x : Nat) (qm : Nat → Nat) (y : Nat) {aS aH : Nat} : ∃ e, (wAll cy Q x qm y)[56]? = some (adr Q x qm y 15, e) ∧ ∀ H, va_at D vwCl (adr Q x qm y 15, e) H → va_at D vwCl (adr Q x qm y 15, cellE ((D, cy, adr Q x qm y, aS, aH) : Gl) m0 15) H := ⟨_, rfl, fun _ h => h⟩
set_option maxRecDepth 100000 in
theorem at_16 {D : va_G} {cy : Nat → ClassId} (Q : (Nat → Nat) × (Nat → Nat → Nat) × (Nat → Nat → Nat)) (x : Nat) (qm : Nat → Nat) (y : Nat) {aS aH : Nat} : ∃ e, (wAll cy Q x qm y)[55]? = some (adr Q x qm y 16, e) ∧ ∀ H, va_at D vwCl (adr Q x qm y 16, e) H → va_at D vwCl (adr Q x qm y 16, cellE ((D, cy, adr Q x qm y, aS, aH) : Gl) m0 16) H := ⟨_, rfl, fun _ h => h⟩
set_option maxRecDepth 100000 in
theorem at_17 {D : va_G} {cy : Nat → ClassId} (Q : (Nat → Nat) × (Nat → Nat → Nat) × (Nat → Nat → Nat)) (x : Nat) (qm : Nat → Nat) (y : Nat) {aS aH : Nat} : ∃ e, (wAll cy Q x qm y)[54]? = some (adr Q x qm y 17, e) ∧ ∀ H, va_at D vwCl (adr Q x qm y 17, e) H → va_at D vwCl (adr Q x qm y 17, cellE ((D, cy, adr Q x qm y, aS, aH) : Gl) m0 17) H := ⟨_, rfl, fun _ h => h⟩
set_option maxRecDepth 100000 in
theorem at_18 {D : va_G} {cy : Nat → ClassId} (Q : (Nat → Nat) × (Nat → Nat → Nat) × (Nat → Nat → Nat)) (x : Nat) (qm : Nat → Nat) (y : Nat) {aS aH : Nat} : ∃ e, (wAll cy Q x qm y)[53]? = some (adr Q x qm y 18, e) ∧ ∀ H, va_at D vwCl (adr Q x qm y 18, e) H → va_at D vwCl (adr Q x qm y 18, cellE ((D, cy, adr Q x qm y, aS, aH) : Gl) m0 18) H := ⟨_, rfl, fun _ h => h⟩
set_option maxRecDepth 100000 in
theorem at_19 {D : va_G} {cy : Nat → ClassId} (Q : (Nat → Nat) × (Nat → Nat → Nat) × (Nat → Nat → Nat)) (x : Nat) (qm : Nat → Nat) (y : Nat) {aS aH : Nat} : ∃ e, (wAll cy Q x qm y)[52]? = some (adr Q x qm y 19, e) ∧ ∀ H, va_at D vwCl (adr Q x qm y 19, e) H → va_at D vwCl (adr Q x qm y 19, cellE ((D, cy, adr Q x qm y, aS, aH) : Gl) m0 19) H := ⟨_, rfl, fun _ h => h⟩
set_option maxRecDepth 100000 in
theorem at_20 {D : va_G} {cy : Nat → ClassId} (Q : (Nat → Nat) × (Nat → Nat → Nat) × (Nat → Nat → Nat)) (x : Nat) (qm : Nat → Nat) (y : Nat) {aS aH : Nat} : ∃ e, (wAll cy Q x qm y)[51]? = some (adr Q x qm y 20, e) ∧ ∀ H, va_at D vwCl (adr Q x qm y 20, e) H → va_at D vwCl (adr Q x qm y 20, cellE ((D, cy, adr Q x qm y, aS, aH) : Gl) m0 20) H := ⟨_, rfl, fun _ h => h⟩
set_option maxRecDepth 100000 in
theorem at_21 {D : va_G} {cy : Nat → ClassId} (Q : (Nat → Nat) × (Nat → Nat → Nat) × (Nat → Nat → Nat)) (x : Nat) (qm : Nat → Nat) (y : Nat) {aS aH : Nat} : ∃ e, (wAll cy Q x qm y)[50]? = some (adr Q x qm y 21, e) ∧ ∀ H, va_at D vwCl (adr Q x qm y 21, e) H → va_at D vwCl (adr Q x qm y 21, cellE ((D, cy, adr Q x qm y, aS, aH) : Gl) m0 21) H := ⟨_, rfl, fun _ h => h⟩
set_option maxRecDepth 100000 in
theorem at_22 {D : va_G} {cy : Nat → ClassId} (Q : (Nat → Nat) × (Nat → Nat → Nat) × (Nat → Nat → Nat)) (x : Nat) (qm : Nat → Nat) (y : Nat) {aS aH : Nat} : ∃ e, (wAll cy Q x qm y)[49]? = some (adr Q x qm y 22, e) ∧ ∀ H, va_at D vwCl (adr Q x qm y 22, e) H → va_at D vwCl (adr Q x qm y 22, cellE ((D, cy, adr Q x qm y, aS, aH) : Gl) m0 22) H := ⟨_, rfl, fun _ h => h⟩
set_option maxRecDepth 100000 in
theorem at_23 {D : va_G} {cy : Nat → ClassId} (Q : (Nat → Nat) × (Nat → Nat → Nat) × (Nat → Nat → Nat)) (x : Nat) (qm : Nat → Nat) (y : Nat) {aS aH : Nat} : ∃ e, (wAll cy Q x qm y)[48]? = some (adr Q x qm y 23, e) ∧ ∀ H, va_at D vwCl (adr Q x qm y 23, e) H → va_at D vwCl (adr Q x qm y 23, cellE ((D, cy, adr Q x qm y, aS, aH) : Gl) m0 23) H := ⟨_, rfl, fun _ h => h⟩
set_option maxRecDepth 100000 in
theorem at_24 {D : va_G} {cy : Nat → ClassId} (Q : (Nat → Nat) × (Nat → Nat → Nat) × (Nat → Nat → Nat)) (x : Nat) (qm : Nat → Nat) (y : Nat) {aS aH : Nat} : ∃ e, (wAll cy Q x qm y)[47]? = some (adr Q x qm y 24, e) ∧ ∀ H, va_at D vwCl (adr Q x qm y 24, e) H → va_at D vwCl (adr Q x qm y 24, cellE ((D, cy, adr Q x qm y, aS, aH) : Gl) m0 24) H := ⟨_, rfl, fun _ h => h⟩
set_option maxRecDepth 100000 in
theorem at_25 {D : va_G} {cy : Nat → ClassId} (Q : (Nat → Nat) × (Nat → Nat → Nat) × (Nat → Nat → Nat)) (x : Nat) (qm : Nat → Nat) (y : Nat) {aS aH : Nat} : ∃ e, (wAll cy Q x qm y)[46]? = some (adr Q x qm y 25, e) ∧ ∀ H, va_at D vwCl (adr Q x qm y 25, e) H → va_at D vwCl (adr Q x qm y 25, cellE ((D, cy, adr Q x qm y, aS, aH) : Gl) m0 25) H := ⟨_, rfl, fun _ h => h⟩
set_option maxRecDepth 100000 in
theorem at_26 {D : va_G} {cy : Nat → ClassId} (Q : (Nat → Nat) × (Nat → Nat → Nat) × (Nat → Nat → Nat)) (x : Nat) (qm : Nat → Nat) (y : Nat) {aS aH : Nat} : ∃ e, (wAll cy Q x qm y)[45]? = some (adr Q x qm y 26, e) ∧ ∀ H, va_at D vwCl (adr Q x qm y 26, e) H → va_at D vwCl (adr Q x qm y 26, cellE ((D, cy, adr Q x qm y, aS, aH) : Gl) m0 26) H := ⟨_, rfl, fun _ h => h⟩
set_option maxRecDepth 100000 in
theorem at_27 {D : va_G} {cy : Nat → ClassId} (Q : (Nat → Nat) × (Nat → Nat → Nat) × (Nat → Nat → Nat)) (x : Nat) (qm : Nat → Nat) (y : Nat) {aS aH : Nat} : ∃ e, (wAll cy Q x qm y)[44]? = some (adr Q x qm y 27, e) ∧ ∀ H, va_at D vwCl (adr Q x qm y 27, e) H → va_at D vwCl (adr Q x qm y 27, cellE ((D, cy, adr Q x qm y, aS, aH) : Gl) m0 27) H := ⟨_, rfl, fun _ h => h⟩
set_option maxRecDepth 100000 in
theorem at_28 {D : va_G} {cy : Nat → ClassId} (Q : (Nat → Nat) × (Nat → Nat → Nat) × (Nat → Nat → Nat)) (x : Nat) (qm : Nat → Nat) (y : Nat) {aS aH : Nat} : ∃ e, (wAll cy Q x qm y)[43]? = some (adr Q x qm y 28, e) ∧ ∀ H, va_at D vwCl (adr Q x qm y 28, e) H → va_at D vwCl (adr Q x qm y 28, cellE ((D, cy, adr Q x qm y, aS, aH) : Gl) m0 28) H := ⟨_, rfl, fun _ h => h⟩
set_option maxRecDepth 100000 in
theorem at_29 {D : va_G} {cy : Nat → ClassId} (Q : (Nat → Nat) × (Nat → Nat → Nat) × (Nat → Nat → Nat)) (x : Nat) (qm : Nat → Nat) (y : Nat) {aS aH : Nat} : ∃ e, (wAll cy Q x qm y)[42]? = some (adr Q x qm y 29, e) ∧ ∀ H, va_at D vwCl (adr Q x qm y 29, e) H → va_at D vwCl (adr Q x qm y 29, cellE ((D, cy, adr Q x qm y, aS, aH) : Gl) m0 29) H := ⟨_, rfl, fun _ h => h⟩
set_option maxRecDepth 100000 in
theorem at_30 {D : va_G} {cy : Nat → ClassId} (Q : (Nat → Nat) × (Nat → Nat → Nat) × (Nat → Nat → Nat)) (x : Nat) (qm : Nat → Nat) (y : Nat) {aS aH : Nat} : ∃ e, (wAll cy Q x qm y)[41]? = some (adr Q x qm y 30, e) ∧ ∀ H, va_at D vwCl (adr Q x qm y 30, e) H → va_at D vwCl (adr Q x qm y 30, cellE ((D, cy, adr Q x qm y, aS, aH) : Gl) m0 30) H := ⟨_, rfl, fun _ h => h⟩
set_option maxRecDepth 100000 in
theorem at_31 {D : va_G} {cy : Nat → ClassId} (Q : (Nat → Nat) × (Nat → Nat → Nat) × (Nat → Nat → Nat)) (x : Nat) (qm : Nat → Nat) (y : Nat) {aS aH : Nat} : ∃ e, (wAll cy Q x qm y)[40]? = some (adr Q x qm y 31, e) ∧ ∀ H, va_at D vwCl (adr Q x qm y 31, e) H → va_at D vwCl (adr Q x qm y 31, cellE ((D, cy, adr Q x qm y, aS, aH) : Gl) m0 31) H := ⟨_, rfl, fun _ h => h⟩
set_option maxRecDepth 100000 in
theorem at_32 {D : va_G} {cy : Nat → ClassId} (Q : (Nat → Nat) × (Nat → Nat → Nat) × (Nat → Nat → Nat)) (x : Nat) (qm : Nat → Nat) (y : Nat) {aS aH : Nat} : ∃ e, (wAll cy Q x qm y)[39]? = some (adr Q x qm y 32, e) ∧ ∀ H, va_at D vwCl (adr Q x qm y 32, e) H → va_at D vwCl (adr Q x qm y 32, cellE ((D, cy, adr Q x qm y, aS, aH) : Gl) m0 32) H := ⟨_, rfl, fun _ h => va_at_q (n := 4) h (fun j hj => match j, hj with | 0, _ => rfl | 1, _ => rfl | 2, _ => rfl | 3, _ => rfl | j + 4, h => absurd h (by omega))⟩
set_option maxRecDepth 100000 in
theorem at_33 {D : va_G} {cy : Nat → ClassId} (Q : (Nat → Nat) × (Nat → Nat → Nat) × (Nat → Nat → Nat)) (x : Nat) (qm : Nat → Nat) (y : Nat) {aS aH : Nat} : ∃ e, (wAll cy Q x qm y)[30]? = some (adr Q x qm y 33, e) ∧ ∀ H, va_at D vwCl (adr Q x qm y 33, e) H → va_at D vwCl (adr Q x qm y 33, cellE ((D, cy, adr Q x qm y, aS, aH) : Gl) m0 33) H := ⟨_, rfl, fun _ h => h⟩
set_option maxRecDepth 100000 in
theorem at_34 {D : va_G} {cy : Nat → ClassId} (Q : (Nat → Nat) × (Nat → Nat → Nat) × (Nat → Nat → Nat)) (x : Nat) (qm : Nat → Nat) (y : Nat) {aS aH : Nat} : ∃ e, (wAll cy Q x qm y)[29]? = some (adr Q x qm y 34, e) ∧ ∀ H, va_at D vwCl (adr Q x qm y 34, e) H → va_at D vwCl (adr Q x qm y 34, cellE ((D, cy, adr Q x qm y, aS, aH) : Gl) m0 34) H := ⟨_, rfl, fun _ h => h⟩
set_option maxRecDepth 100000 in
theorem at_35 {D : va_G} {cy : Nat → ClassId} (Q : (Nat → Nat) × (Nat → Nat → Nat) × (Nat → Nat → Nat)) (x : Nat) (qm : Nat → Nat) (y : Nat) {aS aH : Nat} : ∃ e, (wAll cy Q x qm y)[28]? = some (adr Q x qm y 35, e) ∧ ∀ H, va_at D vwCl (adr Q x qm y 35, e) H → va_at D vwCl (adr Q x qm y 35, cellE ((D, cy, adr Q x qm y, aS, aH) : Gl) m0 35) H := ⟨_, rfl, fun _ h => h⟩
set_option maxRecDepth 100000 in
theorem at_36 {D : va_G} {cy : Nat → ClassId} (Q : (Nat → Nat) × (Nat → Nat → Nat) × (Nat → Nat → Nat)) (x : Nat) (qm : Nat → Nat) (y : Nat) {aS aH : Nat} : ∃ e, (wAll cy Q x qm y)[27]? = some (adr Q x qm y 36, e) ∧ ∀ H, va_at D vwCl (adr Q x qm y 36, e) H → va_at D vwCl (adr Q x qm y 36, cellE ((D, cy, adr Q x qm y, aS, aH) : Gl) m0 36) H := ⟨_, rfl, fun _ h => h⟩
set_option maxRecDepth 100000 in
theorem at_37 {D : va_G} {cy : Nat → ClassId} (Q : (Nat → Nat) × (Nat → Nat → Nat) × (Nat → Nat → Nat)) (x : Nat) (qm : Nat → Nat) (y : Nat) {aS aH : Nat} : ∃ e, (wAll cy Q x qm y)[26]? = some (adr Q x qm y 37, e) ∧ ∀ H, va_at D vwCl (adr Q x qm y 37, e) H → va_at D vwCl (adr Q x qm y 37, cellE ((D, cy, adr Q x qm y, aS, aH) : Gl) m0 37) H := ⟨_, rfl, fun _ h => h⟩
set_option maxRecDepth 100000 in
theorem at_38 {D : va_G} {cy : Nat → ClassId} (Q : (Nat → Nat) × (Nat → Nat → Nat) × (Nat → Nat → Nat)) (x : Nat) (qm : Nat → Nat) (y : Nat) {aS aH : Nat} : ∃ e, (wAll cy Q x qm y)[25]? = some (adr Q x qm y 38, e) ∧ ∀ H, va_at D vwCl (adr Q x qm y 38, e) H → va_at D vwCl (adr Q x qm y 38, cellE ((D, cy, adr Q x qm y, aS, aH) : Gl) m0 38) H := ⟨_, rfl, fun _ h => h⟩
set_option maxRecDepth 100000 in
theorem at_39 {D : va_G} {cy : Nat → ClassId} (Q : (Nat → Nat) × (Nat → Nat → Nat) × (Nat → Nat → Nat)) (x : Nat) (qm : Nat → Nat) (y : Nat) {aS aH : Nat} : ∃ e, (wAll cy Q x qm y)[24]? = some (adr Q x qm y 39, e) ∧ ∀ H, va_at D vwCl (adr Q x qm y 39, e) H → va_at D vwCl (adr Q x qm y 39, cellE ((D, cy, adr Q x qm y, aS, aH) : Gl) m0 39) H := ⟨_, rfl, fun _ h => h⟩
set_option maxRecDepth 100000 in
theorem at_40 {D : va_G} {cy : Nat → ClassId} (Q : (Nat → Nat) × (Nat → Nat → Nat) × (Nat → Nat → Nat)) (x : Nat) (qm : Nat → Nat) (y : Nat) {aS aH : Nat} : ∃ e, (wAll cy Q x qm y)[23]? = some (adr Q x qm y 40, e) ∧ ∀ H, va_at D vwCl (adr Q x qm y 40, e) H → va_at D vwCl (adr Q x qm y 40, cellE ((D, cy, adr Q x qm y, aS, aH) : Gl) m0 40) H := ⟨_, rfl, fun _ h => h⟩
set_option maxRecDepth 100000 in
theorem at_41 {D : va_G} {cy : Nat → ClassId} (Q : (Nat → Nat) × (Nat → Nat → Nat) × (Nat → Nat → Nat)) (x : Nat) (qm : Nat → Nat) (y : Nat) {aS aH : Nat} : ∃ e, (wAll cy Q x qm y)[22]? = some (adr Q x qm y 41, e) ∧ ∀ H, va_at D vwCl (adr Q x qm y 41, e) H → va_at D vwCl (adr Q x qm y 41, cellE ((D, cy, adr Q x qm y, aS, aH) : Gl) m0 41) H := ⟨_, rfl, fun _ h => h⟩
set_option maxRecDepth 100000 in
theorem at_42 {D : va_G} {cy : Nat → ClassId} (Q : (Nat → Nat) × (Nat → Nat → Nat) × (Nat → Nat → Nat)) (x : Nat) (qm : Nat → Nat) (y : Nat) {aS aH : Nat} : ∃ e, (wAll cy Q x qm y)[21]? = some (adr Q x qm y 42, e) ∧ ∀ H, va_at D vwCl (adr Q x qm y 42, e) H → va_at D vwCl (adr Q x qm y 42, cellE ((D, cy, adr Q x qm y, aS, aH) : Gl) m0 42) H := ⟨_, rfl, fun _ h => h⟩
set_option maxRecDepth 100000 in
theorem at_43 {D : va_G} {cy : Nat → ClassId} (Q : (Nat → Nat) × (Nat → Nat → Nat) × (Nat → Nat → Nat)) (x : Nat) (qm : Nat → Nat) (y : Nat) {aS aH : Nat} : ∃ e, (wAll cy Q x qm y)[20]? = some (adr Q x qm y 43, e) ∧ ∀ H, va_at D vwCl (adr Q x qm y 43, e) H → va_at D vwCl (adr Q x qm y 43, cellE ((D, cy, adr Q x qm y, aS, aH) : Gl) m0 43) H := ⟨_, rfl, fun _ h => h⟩
set_option maxRecDepth 100000 in
theorem at_44 {D : va_G} {cy : Nat → ClassId} (Q : (Nat → Nat) × (Nat → Nat → Nat) × (Nat → Nat → Nat)) (x : Nat) (qm : Nat → Nat) (y : Nat) {aS aH : Nat} : ∃ e, (wAll cy Q x qm y)[19]? = some (adr Q x qm y 44, e) ∧ ∀ H, va_at D vwCl (adr Q x qm y 44, e) H → va_at D vwCl (adr Q x qm y 44, cellE ((D, cy, adr Q x qm y, aS, aH) : Gl) m0 44) H := ⟨_, rfl, fun _ h => h⟩
set_option maxRecDepth 100000 in
theorem at_45 {D : va_G} {cy : Nat → ClassId} (Q : (Nat → Nat) × (Nat → Nat → Nat) × (Nat → Nat → Nat)) (x : Nat) (qm : Nat → Nat) (y : Nat) {aS aH : Nat} : ∃ e, (wAll cy Q x qm y)[18]? = some (adr Q x qm y 45, e) ∧ ∀ H, va_at D vwCl (adr Q x qm y 45, e) H → va_at D vwCl (adr Q x qm y 45, cellE ((D, cy, adr Q x qm y, aS, aH) : Gl) m0 45) H := ⟨_, rfl, fun _ h => h⟩
set_option maxRecDepth 100000 in
theorem at_46 {D : va_G} {cy : Nat → ClassId} (Q : (Nat → Nat) × (Nat → Nat → Nat) × (Nat → Nat → Nat)) (x : Nat) (qm : Nat → Nat) (y : Nat) {aS aH : Nat} : ∃ e, (wAll cy Q x qm y)[17]? = some (adr Q x qm y 46, e) ∧ ∀ H, va_at D vwCl (adr Q x qm y 46, e) H → va_at D vwCl (adr Q x qm y 46, cellE ((D, cy, adr Q x qm y, aS, aH) : Gl) m0 46) H := ⟨_, rfl, fun _ h => h⟩
set_option maxRecDepth 100000 in
theorem at_47 {D : va_G} {cy : Nat → ClassId} (Q : (Nat → Nat) × (Nat → Nat → Nat) × (Nat → Nat → Nat)) (x : Nat) (qm : Nat → Nat) (y : Nat) {aS aH : Nat} : ∃ e, (wAll cy Q x qm y)[16]? = some (adr Q x qm y 47, e) ∧ ∀ H, va_at D vwCl (adr Q x qm y 47, e) H → va_at D vwCl (adr Q x qm y 47, cellE ((D, cy, adr Q x qm y, aS, aH) : Gl) m0 47) H := ⟨_, rfl, fun _ h => h⟩
set_option maxRecDepth 100000 in
theorem at_48 {D : va_G} {cy : Nat → ClassId} (Q : (Nat → Nat) × (Nat → Nat → Nat) × (Nat → Nat → Nat)) (x : Nat) (qm : Nat → Nat) (y : Nat) {aS aH : Nat} : ∃ e, (wAll cy Q x qm y)[15]? = some (adr Q x qm y 48, e) ∧ ∀ H, va_at D vwCl (adr Q x qm y 48, e) H → va_at D vwCl (adr Q x qm y 48, cellE ((D, cy, adr Q x qm y, aS, aH) : Gl) m0 48) H := ⟨_, rfl, fun _ h => h⟩
set_option maxRecDepth 100000 in
theorem at_49 {D : va_G} {cy : Nat → ClassId} (Q : (Nat → Nat) × (Nat → Nat → Nat) × (Nat → Nat → Nat)) (x : Nat) (qm : Nat → Nat) (y : Nat) {aS aH : Nat} : ∃ e, (wAll cy Q x qm y)[14]? = some (adr Q x qm y 49, e) ∧ ∀ H, va_at D vwCl (adr Q x qm y 49, e) H → va_at D vwCl (adr Q x qm y 49, cellE ((D, cy, adr Q x qm y, aS, aH) : Gl) m0 49) H := ⟨_, rfl, fun _ h => h⟩
set_option maxRecDepth 100000 in
theorem at_50 {D : va_G} {cy : Nat → ClassId} (Q : (Nat → Nat) × (Nat → Nat → Nat) × (Nat → Nat → Nat)) (x : Nat) (qm : Nat → Nat) (y : Nat) {aS aH : Nat} : ∃ e, (wAll cy Q x qm y)[13]? = some (adr Q x qm y 50, e) ∧ ∀ H, va_at D vwCl (adr Q x qm y 50, e) H → va_at D vwCl (adr Q x qm y 50, cellE ((D, cy, adr Q x qm y, aS, aH) : Gl) m0 50) H := ⟨_, rfl, fun _ h => h⟩
set_option maxRecDepth 100000 in
theorem at_51 {D : va_G} {cy : Nat → ClassId} (Q : (Nat → Nat) × (Nat → Nat → Nat) × (Nat → Nat → Nat)) (x : Nat) (qm : Nat → Nat) (y : Nat) {aS aH : Nat} : ∃ e, (wAll cy Q x qm y)[12]? = some (adr Q x qm y 51, e) ∧ ∀ H, va_at D vwCl (adr Q x qm y 51, e) H → va_at D vwCl (adr Q x qm y 51, cellE ((D, cy, adr Q x qm y, aS, aH) : Gl) m0 51) H := ⟨_, rfl, fun _ h => h⟩
set_option maxRecDepth 100000 in
theorem at_52 {D : va_G} {cy : Nat → ClassId} (Q : (Nat → Nat) × (Nat → Nat → Nat) × (Nat → Nat → Nat)) (x : Nat) (qm : Nat → Nat) (y : Nat) {aS aH : Nat} : ∃ e, (wAll cy Q x qm y)[11]? = some (adr Q x qm y 52, e) ∧ ∀ H, va_at D vwCl (adr Q x qm y 52, e) H → va_at D vwCl (adr Q x qm y 52, cellE ((D, cy, adr Q x qm y, aS, aH) : Gl) m0 52) H := ⟨_, rfl, fun _ h => h⟩
set_option maxRecDepth 100000 in
theorem at_53 {D : va_G} {cy : Nat → ClassId} (Q : (Nat → Nat) × (Nat → Nat → Nat) × (Nat → Nat → Nat)) (x : Nat) (qm : Nat → Nat) (y : Nat) {aS aH : Nat} : ∃ e, (wAll cy Q x qm y)[10]? = some (adr Q x qm y 53, e) ∧ ∀ H, va_at D vwCl (adr Q x qm y 53, e) H → va_at D vwCl (adr Q x qm y 53, cellE ((D, cy, adr Q x qm y, aS, aH) : Gl) m0 53) H := ⟨_, rfl, fun _ h => h⟩
set_option maxRecDepth 100000 in
theorem at_54 {D : va_G} {cy : Nat → ClassId} (Q : (Nat → Nat) × (Nat → Nat → Nat) × (Nat → Nat → Nat)) (x : Nat) (qm : Nat → Nat) (y : Nat) {aS aH : Nat} : ∃ e, (wAll cy Q x qm y)[9]? = some (adr Q x qm y 54, e) ∧ ∀ H, va_at D vwCl (adr Q x qm y 54, e) H → va_at D vwCl (adr Q x qm y 54, cellE ((D, cy, adr Q x qm y, aS, aH) : Gl) m0 54) H := ⟨_, rfl, fun _ h => h⟩
set_option maxRecDepth 100000 in
theorem at_55 {D : va_G} {cy : Nat → ClassId} (Q : (Nat → Nat) × (Nat → Nat → Nat) × (Nat → Nat → Nat)) (x : Nat) (qm : Nat → Nat) (y : Nat) {aS aH : Nat} : ∃ e, (wAll cy Q x qm y)[8]? = some (adr Q x qm y 55, e) ∧ ∀ H, va_at D vwCl (adr Q x qm y 55, e) H → va_at D vwCl (adr Q x qm y 55, cellE ((D, cy, adr Q x qm y, aS, aH) : Gl) m0 55) H := ⟨_, rfl, fun _ h => h⟩
set_option maxRecDepth 100000 in
theorem at_56 {D : va_G} {cy : Nat → ClassId} (Q : (Nat → Nat) × (Nat → Nat → Nat) × (Nat → Nat → Nat)) (x : Nat) (qm : Nat → Nat) (y : Nat) {aS aH : Nat} : ∃ e, (wAll cy Q x qm y)[7]? = some (adr Q x qm y 56, e) ∧ ∀ H, va_at D vwCl (adr Q x qm y 56, e) H → va_at D vwCl (adr Q x qm y 56, cellE ((D, cy, adr Q x qm y, aS, aH) : Gl) m0 56) H := ⟨_, rfl, fun _ h => h⟩
set_option maxRecDepth 100000 in
theorem at_57 {D : va_G} {cy : Nat → ClassId} (Q : (Nat → Nat) × (Nat → Nat → Nat) × (Nat → Nat → Nat)) (x : Nat) (qm : Nat → Nat) (y : Nat) {aS aH : Nat} : ∃ e, (wAll cy Q x qm y)[6]? = some (adr Q x qm y 57, e) ∧ ∀ H, va_at D vwCl (adr Q x qm y 57, e) H → va_at D vwCl (adr Q x qm y 57, cellE ((D, cy, adr Q x qm y, aS, aH) : Gl) m0 57) H := ⟨_, rfl, fun _ h => h⟩
set_option maxRecDepth 100000 in
theorem at_58 {D : va_G} {cy : Nat → ClassId} (Q : (Nat → Nat) × (Nat → Nat → Nat) × (Nat → Nat → Nat)) (x : Nat) (qm : Nat → Nat) (y : Nat) {aS aH : Nat} : ∃ e, (wAll cy Q x qm y)[5]? = some (adr Q x qm y 58, e) ∧ ∀ H, va_at D vwCl (adr Q x qm y 58, e) H → va_at D vwCl (adr Q x qm y 58, cellE ((D, cy, adr Q x qm y, aS, aH) : Gl) m0 58) H := ⟨_, rfl, fun _ h => h⟩
set_option maxRecDepth 100000 in
theorem at_59 {D : va_G} {cy : Nat → ClassId} (Q : (Nat → Nat) × (Nat → Nat → Nat) × (Nat → Nat → Nat)) (x : Nat) (qm : Nat → Nat) (y : Nat) {aS aH : Nat} : ∃ e, (wAll cy Q x qm y)[4]? = some (adr Q x qm y 59, e) ∧ ∀ H, va_at D vwCl (adr Q x qm y 59, e) H → va_at D vwCl (adr Q x qm y 59, cellE ((D, cy, adr Q x qm y, aS, aH) : Gl) m0 59) H := ⟨_, rfl, fun _ h => h⟩
set_option maxRecDepth 100000 in
theorem at_60 {D : va_G} {cy : Nat → ClassId} (Q : (Nat → Nat) × (Nat → Nat → Nat) × (Nat → Nat → Nat)) (x : Nat) (qm : Nat → Nat) (y : Nat) {aS aH : Nat} : ∃ e, (wAll cy Q x qm y)[3]? = some (adr Q x qm y 60, e) ∧ ∀ H, va_at D vwCl (adr Q x qm y 60, e) H → va_at D vwCl (adr Q x qm y 60, cellE ((D, cy, adr Q x qm y, aS, aH) : Gl) m0 60) H := ⟨_, rfl, fun _ h => h⟩
set_option maxRecDepth 100000 in
theorem at_61 {D : va_G} {cy : Nat → ClassId} (Q : (Nat → Nat) × (Nat → Nat → Nat) × (Nat → Nat → Nat)) (x : Nat) (qm : Nat → Nat) (y : Nat) {aS aH : Nat} : ∃ e, (wAll cy Q x qm y)[2]? = some (adr Q x qm y 61, e) ∧ ∀ H, va_at D vwCl (adr Q x qm y 61, e) H → va_at D vwCl (adr Q x qm y 61, cellE ((D, cy, adr Q x qm y, aS, aH) : Gl) m0 61) H := ⟨_, rfl, fun _ h => h⟩
set_option maxRecDepth 100000 in
theorem at_62 {D : va_G} {cy : Nat → ClassId} (Q : (Nat → Nat) × (Nat → Nat → Nat) × (Nat → Nat → Nat)) (x : Nat) (qm : Nat → Nat) (y : Nat) {aS aH : Nat} : ∃ e, (wAll cy Q x qm y)[1]? = some (adr Q x qm y 62, e) ∧ ∀ H, va_at D vwCl (adr Q x qm y 62, e) H → va_at D vwCl (adr Q x qm y 62, cellE ((D, cy, adr Q x qm y, aS, aH) : Gl) m0 62) H := ⟨_, rfl, fun _ h => h⟩
set_option maxRecDepth 100000 in
theorem at_63 {D : va_G} {cy : Nat → ClassId} (Q : (Nat → Nat) × (Nat → Nat → Nat) × (Nat → Nat → Nat)) (x : Nat) (qm : Nat → Nat) (y : Nat) {aS aH : Nat} : ∃ e, (wAll cy Q x qm y)[0]? = some (adr Q x qm y 63, e) ∧ ∀ H, va_at D vwCl (adr Q x qm y 63, e) H → va_at D vwCl (adr Q x qm y 63, cellE ((D, cy, adr Q x qm y, aS, aH) : Gl) m0 63) H := ⟨_, rfl, fun _ h => h⟩
set_option maxRecDepth 100000 in
theorem at_64 {D : va_G} {cy : Nat → ClassId} (Q : (Nat → Nat) × (Nat → Nat → Nat) × (Nat → Nat → Nat)) (x : Nat) (qm : Nat → Nat) (y : Nat) {aS aH : Nat} : ∃ e, (wAll cy Q x qm y)[100]? = some (adr Q x qm y 64, e) ∧ ∀ H, va_at D vwCl (adr Q x qm y 64, e) H → va_at D vwCl (adr Q x qm y 64, cellE ((D, cy, adr Q x qm y, aS, aH) : Gl) m0 64) H := ⟨_, rfl, fun _ h => h⟩
set_option maxRecDepth 100000 in
theorem at_65 {D : va_G} {cy : Nat → ClassId} (Q : (Nat → Nat) × (Nat → Nat → Nat) × (Nat → Nat → Nat)) (x : Nat) (qm : Nat → Nat) (y : Nat) {aS aH : Nat} : ∃ e, (wAll cy Q x qm y)[99]? = some (adr Q x qm y 65, e) ∧ ∀ H, va_at D vwCl (adr Q x qm y 65, e) H → va_at D vwCl (adr Q x qm y 65, cellE ((D, cy, adr Q x qm y, aS, aH) : Gl) m0 65) H := ⟨_, rfl, fun _ h => h⟩
set_option maxRecDepth 100000 in
theorem at_66 {D : va_G} {cy : Nat → ClassId} (Q : (Nat → Nat) × (Nat → Nat → Nat) × (Nat → Nat → Nat)) (x : Nat) (qm : Nat → Nat) (y : Nat) {aS aH : Nat} : ∃ e, (wAll cy Q x qm y)[98]? = some (adr Q x qm y 66, e) ∧ ∀ H, va_at D vwCl (adr Q x qm y 66, e) H → va_at D vwCl (adr Q x qm y 66, cellE ((D, cy, adr Q x qm y, aS, aH) : Gl) m0 66) H := ⟨_, rfl, fun _ h => h⟩
set_option maxRecDepth 100000 in
theorem at_67 {D : va_G} {cy : Nat → ClassId} (Q : (Nat → Nat) × (Nat → Nat → Nat) × (Nat → Nat → Nat)) (x : Nat) (qm : Nat → Nat) (y : Nat) {aS aH : Nat} : ∃ e, (wAll cy Q x qm y)[97]? = some (adr Q x qm y 67, e) ∧ ∀ H, va_at D vwCl (adr Q x qm y 67, e) H → va_at D vwCl (adr Q x qm y 67, cellE ((D, cy, adr Q x qm y, aS, aH) : Gl) m0 67) H := ⟨_, rfl, fun _ h => h⟩
set_option maxRecDepth 100000 in
theorem at_68 {D : va_G} {cy : Nat → ClassId} (Q : (Nat → Nat) × (Nat → Nat → Nat) × (Nat → Nat → Nat)) (x : Nat) (qm : Nat → Nat) (y : Nat) {aS aH : Nat} : ∃ e, (wAll cy Q x qm y)[96]? = some (adr Q x qm y 68, e) ∧ ∀ H, va_at D vwCl (adr Q x qm y 68, e) H → va_at D vwCl (adr Q x qm y 68, cellE ((D, cy, adr Q x qm y, aS, aH) : Gl) m0 68) H := ⟨_, rfl, fun _ h => h⟩
set_option maxRecDepth 100000 in
theorem at_69 {D : va_G} {cy : Nat → ClassId} (Q : (Nat → Nat) × (Nat → Nat → Nat) × (Nat → Nat → Nat)) (x : Nat) (qm : Nat → Nat) (y : Nat) {aS aH : Nat} : ∃ e, (wAll cy Q x qm y)[95]? = some (adr Q x qm y 69, e) ∧ ∀ H, va_at D vwCl (adr Q x qm y 69, e) H → va_at D vwCl (adr Q x qm y 69, cellE ((D, cy, adr Q x qm y, aS, aH) : Gl) m0 69) H := ⟨_, rfl, fun _ h => h⟩
set_option maxRecDepth 100000 in
theorem at_70 {D : va_G} {cy : Nat → ClassId} (Q : (Nat → Nat) × (Nat → Nat → Nat) × (Nat → Nat → Nat)) (x : Nat) (qm : Nat → Nat) (y : Nat) {aS aH : Nat} : ∃ e, (wAll cy Q x qm y)[94]? = some (adr Q x qm y 70, e) ∧ ∀ H, va_at D vwCl (adr Q x qm y 70, e) H → va_at D vwCl (adr Q x qm y 70, cellE ((D, cy, adr Q x qm y, aS, aH) : Gl) m0 70) H := ⟨_, rfl, fun _ h => h⟩
set_option maxRecDepth 100000 in
theorem at_71 {D : va_G} {cy : Nat → ClassId} (Q : (Nat → Nat) × (Nat → Nat → Nat) × (Nat → Nat → Nat)) (x : Nat) (qm : Nat → Nat) (y : Nat) {aS aH : Nat} : ∃ e, (wAll cy Q x qm y)[93]? = some (adr Q x qm y 71, e) ∧ ∀ H, va_at D vwCl (adr Q x qm y 71, e) H → va_at D vwCl (adr Q x qm y 71, cellE ((D, cy, adr Q x qm y, aS, aH) : Gl) m0 71) H := ⟨_, rfl, fun _ h => h⟩
set_option maxRecDepth 100000 in
theorem at_72 {D : va_G} {cy : Nat → ClassId} (Q : (Nat → Nat) × (Nat → Nat → Nat) × (Nat → Nat → Nat)) (x : Nat) (qm : Nat → Nat) (y : Nat) {aS aH : Nat} : ∃ e, (wAll cy Q x qm y)[92]? = some (adr Q x qm y 72, e) ∧ ∀ H, va_at D vwCl (adr Q x qm y 72, e) H → va_at D vwCl (adr Q x qm y 72, cellE ((D, cy, adr Q x qm y, aS, aH) : Gl) m0 72) H := ⟨_, rfl, fun _ h => h⟩
set_option maxRecDepth 100000 in
theorem at_73 {D : va_G} {cy : Nat → ClassId} (Q : (Nat → Nat) × (Nat → Nat → Nat) × (Nat → Nat → Nat)) (x : Nat) (qm : Nat → Nat) (y : Nat) {aS aH : Nat} : ∃ e, (wAll cy Q x qm y)[91]? = some (adr Q x qm y 73, e) ∧ ∀ H, va_at D vwCl (adr Q x qm y 73, e) H → va_at D vwCl (adr Q x qm y 73, cellE ((D, cy, adr Q x qm y, aS, aH) : Gl) m0 73) H := ⟨_, rfl, fun _ h => h⟩
set_option maxRecDepth 100000 in
theorem at_74 {D : va_G} {cy : Nat → ClassId} (Q : (Nat → Nat) × (Nat → Nat → Nat) × (Nat → Nat → Nat)) (x : Nat) (qm : Nat → Nat) (y : Nat) {aS aH : Nat} : ∃ e, (wAll cy Q x qm y)[90]? = some (adr Q x qm y 74, e) ∧ ∀ H, va_at D vwCl (adr Q x qm y 74, e) H → va_at D vwCl (adr Q x qm y 74, cellE ((D, cy, adr Q x qm y, aS, aH) : Gl) m0 74) H := ⟨_, rfl, fun _ h => h⟩
set_option maxRecDepth 100000 in
theorem at_75 {D : va_G} {cy : Nat → ClassId} (Q : (Nat → Nat) × (Nat → Nat → Nat) × (Nat → Nat → Nat)) (x : Nat) (qm : Nat → Nat) (y : Nat) {aS aH : Nat} : ∃ e, (wAll cy Q x qm y)[89]? = some (adr Q x qm y 75, e) ∧ ∀ H, va_at D vwCl (adr Q x qm y 75, e) H → va_at D vwCl (adr Q x qm y 75, cellE ((D, cy, adr Q x qm y, aS, aH) : Gl) m0 75) H := ⟨_, rfl, fun _ h => h⟩
set_option maxRecDepth 100000 in
theorem at_76 {D : va_G} {cy : Nat → ClassId} (Q : (Nat → Nat) × (Nat → Nat → Nat) × (Nat → Nat → Nat)) (x : Nat) (qm : Nat → Nat) (y : Nat) {aS aH : Nat} : ∃ e, (wAll cy Q x qm y)[80]? = some (adr Q x qm y 76, e) ∧ ∀ H, va_at D vwCl (adr Q x qm y 76, e) H → va_at D vwCl (adr Q x qm y 76, cellE ((D, cy, adr Q x qm y, aS, aH) : Gl) m0 76) H := ⟨_, rfl, fun _ h => h⟩
set_option maxRecDepth 100000 in
theorem at_77 {D : va_G} {cy : Nat → ClassId} (Q : (Nat → Nat) × (Nat → Nat → Nat) × (Nat → Nat → Nat)) (x : Nat) (qm : Nat → Nat) (y : Nat) {aS aH : Nat} : ∃ e, (wAll cy Q x qm y)[77]? = some (adr Q x qm y 77, e) ∧ ∀ H, va_at D vwCl (adr Q x qm y 77, e) H → va_at D vwCl (adr Q x qm y 77, cellE ((D, cy, adr Q x qm y, aS, aH) : Gl) m0 77) H := ⟨_, rfl, fun _ h => h⟩
set_option maxRecDepth 100000 in
theorem at_78 {D : va_G} {cy : Nat → ClassId} (Q : (Nat → Nat) × (Nat → Nat → Nat) × (Nat → Nat → Nat)) (x : Nat) (qm : Nat → Nat) (y : Nat) {aS aH : Nat} : ∃ e, (wAll cy Q x qm y)[74]? = some (adr Q x qm y 78, e) ∧ ∀ H, va_at D vwCl (adr Q x qm y 78, e) H → va_at D vwCl (adr Q x qm y 78, cellE ((D, cy, adr Q x qm y, aS, aH) : Gl) m0 78) H := ⟨_, rfl, fun _ h => h⟩
set_option maxRecDepth 100000 in
theorem at_79 {D : va_G} {cy : Nat → ClassId} (Q : (Nat → Nat) × (Nat → Nat → Nat) × (Nat → Nat → Nat)) (x : Nat) (qm : Nat → Nat) (y : Nat) {aS aH : Nat} : ∃ e, (wAll cy Q x qm y)[71]? = some (adr Q x qm y 79, e) ∧ ∀ H, va_at D vwCl (adr Q x qm y 79, e) H → va_at D vwCl (adr Q x qm y 79, cellE ((D, cy, adr Q x qm y, aS, aH) : Gl) m0 79) H := ⟨_, rfl, fun _ h => h⟩
set_option maxRecDepth 100000 in
theorem at_80 {D : va_G} {cy : Nat → ClassId} (Q : (Nat → Nat) × (Nat → Nat → Nat) × (Nat → Nat → Nat)) (x : Nat) (qm : Nat → Nat) (y : Nat) {aS aH : Nat} : ∃ e, (wAll cy Q x qm y)[68]? = some (adr Q x qm y 80, e) ∧ ∀ H, va_at D vwCl (adr Q x qm y 80, e) H → va_at D vwCl (adr Q x qm y 80, cellE ((D, cy, adr Q x qm y, aS, aH) : Gl) m0 80) H := ⟨_, rfl, fun _ h => h⟩
set_option maxRecDepth 100000 in
theorem at_81 {D : va_G} {cy : Nat → ClassId} (Q : (Nat → Nat) × (Nat → Nat → Nat) × (Nat → Nat → Nat)) (x : Nat) (qm : Nat → Nat) (y : Nat) {aS aH : Nat} : ∃ e, (wAll cy Q x qm y)[65]? = some (adr Q x qm y 81, e) ∧ ∀ H, va_at D vwCl (adr Q x qm y 81, e) H → va_at D vwCl (adr Q x qm y 81, cellE ((D, cy, adr Q x qm y, aS, aH) : Gl) m0 81) H := ⟨_, rfl, fun _ h => h⟩
set_option maxRecDepth 100000 in
theorem at_82 {D : va_G} {cy : Nat → ClassId} (Q : (Nat → Nat) × (Nat → Nat → Nat) × (Nat → Nat → Nat)) (x : Nat) (qm : Nat → Nat) (y : Nat) {aS aH : Nat} : ∃ e, (wAll cy Q x qm y)[62]? = some (adr Q x qm y 82, e) ∧ ∀ H, va_at D vwCl (adr Q x qm y 82, e) H → va_at D vwCl (adr Q x qm y 82, cellE ((D, cy, adr Q x qm y, aS, aH) : Gl) m0 82) H := ⟨_, rfl, fun _ h => h⟩
set_option maxRecDepth 100000 in
theorem at_83 {D : va_G} {cy : Nat → ClassId} (Q : (Nat → Nat) × (Nat → Nat → Nat) × (Nat → Nat → Nat)) (x : Nat) (qm : Nat → Nat) (y : Nat) {aS aH : Nat} : ∃ e, (wAll cy Q x qm y)[59]? = some (adr Q x qm y 83, e) ∧ ∀ H, va_at D vwCl (adr Q x qm y 83, e) H → va_at D vwCl (adr Q x qm y 83, cellE ((D, cy, adr Q x qm y, aS, aH) : Gl) m0 83) H := ⟨_, rfl, fun _ h => h⟩
set_option maxRecDepth 100000 in
theorem at_84 {D : va_G} {cy : Nat → ClassId} (Q : (Nat → Nat) × (Nat → Nat → Nat) × (Nat → Nat → Nat)) (x : Nat) (qm : Nat → Nat) (y : Nat) {aS aH : Nat} : ∃ e, (wAll cy Q x qm y)[79]? = some (adr Q x qm y 84, e) ∧ ∀ H, va_at D vwCl (adr Q x qm y 84, e) H → va_at D vwCl (adr Q x qm y 84, cellE ((D, cy, adr Q x qm y, aS, aH) : Gl) m0 84) H := ⟨_, rfl, fun _ h => h⟩
set_option maxRecDepth 100000 in
theorem at_85 {D : va_G} {cy : Nat → ClassId} (Q : (Nat → Nat) × (Nat → Nat → Nat) × (Nat → Nat → Nat)) (x : Nat) (qm : Nat → Nat) (y : Nat) {aS aH : Nat} : ∃ e, (wAll cy Q x qm y)[76]? = some (adr Q x qm y 85, e) ∧ ∀ H, va_at D vwCl (adr Q x qm y 85, e) H → va_at D vwCl (adr Q x qm y 85, cellE ((D, cy, adr Q x qm y, aS, aH) : Gl) m0 85) H := ⟨_, rfl, fun _ h => h⟩
set_option maxRecDepth 100000 in
theorem at_86 {D : va_G} {cy : Nat → ClassId} (Q : (Nat → Nat) × (Nat → Nat → Nat) × (Nat → Nat → Nat)) (x : Nat) (qm : Nat → Nat) (y : Nat) {aS aH : Nat} : ∃ e, (wAll cy Q x qm y)[73]? = some (adr Q x qm y 86, e) ∧ ∀ H, va_at D vwCl (adr Q x qm y 86, e) H → va_at D vwCl (adr Q x qm y 86, cellE ((D, cy, adr Q x qm y, aS, aH) : Gl) m0 86) H := ⟨_, rfl, fun _ h => h⟩
set_option maxRecDepth 100000 in
theorem at_87 {D : va_G} {cy : Nat → ClassId} (Q : (Nat → Nat) × (Nat → Nat → Nat) × (Nat → Nat → Nat)) (x : Nat) (qm : Nat → Nat) (y : Nat) {aS aH : Nat} : ∃ e, (wAll cy Q x qm y)[70]? = some (adr Q x qm y 87, e) ∧ ∀ H, va_at D vwCl (adr Q x qm y 87, e) H → va_at D vwCl (adr Q x qm y 87, cellE ((D, cy, adr Q x qm y, aS, aH) : Gl) m0 87) H := ⟨_, rfl, fun _ h => h⟩
set_option maxRecDepth 100000 in
theorem at_88 {D : va_G} {cy : Nat → ClassId} (Q : (Nat → Nat) × (Nat → Nat → Nat) × (Nat → Nat → Nat)) (x : Nat) (qm : Nat → Nat) (y : Nat) {aS aH : Nat} : ∃ e, (wAll cy Q x qm y)[67]? = some (adr Q x qm y 88, e) ∧ ∀ H, va_at D vwCl (adr Q x qm y 88, e) H → va_at D vwCl (adr Q x qm y 88, cellE ((D, cy, adr Q x qm y, aS, aH) : Gl) m0 88) H := ⟨_, rfl, fun _ h => h⟩
set_option maxRecDepth 100000 in
theorem at_89 {D : va_G} {cy : Nat → ClassId} (Q : (Nat → Nat) × (Nat → Nat → Nat) × (Nat → Nat → Nat)) (x : Nat) (qm : Nat → Nat) (y : Nat) {aS aH : Nat} : ∃ e, (wAll cy Q x qm y)[64]? = some (adr Q x qm y 89, e) ∧ ∀ H, va_at D vwCl (adr Q x qm y 89, e) H → va_at D vwCl (adr Q x qm y 89, cellE ((D, cy, adr Q x qm y, aS, aH) : Gl) m0 89) H := ⟨_, rfl, fun _ h => h⟩
set_option maxRecDepth 100000 in
theorem at_90 {D : va_G} {cy : Nat → ClassId} (Q : (Nat → Nat) × (Nat → Nat → Nat) × (Nat → Nat → Nat)) (x : Nat) (qm : Nat → Nat) (y : Nat) {aS aH : Nat} : ∃ e, (wAll cy Q x qm y)[61]? = some (adr Q x qm y 90, e) ∧ ∀ H, va_at D vwCl (adr Q x qm y 90, e) H → va_at D vwCl (adr Q x qm y 90, cellE ((D, cy, adr Q x qm y, aS, aH) : Gl) m0 90) H := ⟨_, rfl, fun _ h => h⟩
set_option maxRecDepth 100000 in
theorem at_91 {D : va_G} {cy : Nat → ClassId} (Q : (Nat → Nat) × (Nat → Nat → Nat) × (Nat → Nat → Nat)) (x : Nat) (qm : Nat → Nat) (y : Nat) {aS aH : Nat} : ∃ e, (wAll cy Q x qm y)[58]? = some (adr Q x qm y 91, e) ∧ ∀ H, va_at D vwCl (adr Q x qm y 91, e) H → va_at D vwCl (adr Q x qm y 91, cellE ((D, cy, adr Q x qm y, aS, aH) : Gl) m0 91) H := ⟨_, rfl, fun _ h => h⟩
set_option maxRecDepth 100000 in
theorem at_92 {D : va_G} {cy : Nat → ClassId} (Q : (Nat → Nat) × (Nat → Nat → Nat) × (Nat → Nat → Nat)) (x : Nat) (qm : Nat → Nat) (y : Nat) {aS aH : Nat} : ∃ e, (wAll cy Q x qm y)[78]? = some (adr Q x qm y 92, e) ∧ ∀ H, va_at D vwCl (adr Q x qm y 92, e) H → va_at D vwCl (adr Q x qm y 92, cellE ((D, cy, adr Q x qm y, aS, aH) : Gl) m0 92) H := ⟨_, rfl, fun _ h => h⟩
set_option maxRecDepth 100000 in
theorem at_93 {D : va_G} {cy : Nat → ClassId} (Q : (Nat → Nat) × (Nat → Nat → Nat) × (Nat → Nat → Nat)) (x : Nat) (qm : Nat → Nat) (y : Nat) {aS aH : Nat} : ∃ e, (wAll cy Q x qm y)[75]? = some (adr Q x qm y 93, e) ∧ ∀ H, va_at D vwCl (adr Q x qm y 93, e) H → va_at D vwCl (adr Q x qm y 93, cellE ((D, cy, adr Q x qm y, aS, aH) : Gl) m0 93) H := ⟨_, rfl, fun _ h => h⟩
set_option maxRecDepth 100000 in
theorem at_94 {D : va_G} {cy : Nat → ClassId} (Q : (Nat → Nat) × (Nat → Nat → Nat) × (Nat → Nat → Nat)) (x : Nat) (qm : Nat → Nat) (y : Nat) {aS aH : Nat} : ∃ e, (wAll cy Q x qm y)[72]? = some (adr Q x qm y 94, e) ∧ ∀ H, va_at D vwCl (adr Q x qm y 94, e) H → va_at D vwCl (adr Q x qm y 94, cellE ((D, cy, adr Q x qm y, aS, aH) : Gl) m0 94) H := ⟨_, rfl, fun _ h => h⟩
set_option maxRecDepth 100000 in
theorem at_95 {D : va_G} {cy : Nat → ClassId} (Q : (Nat → Nat) × (Nat → Nat → Nat) × (Nat → Nat → Nat)) (x : Nat) (qm : Nat → Nat) (y : Nat) {aS aH : Nat} : ∃ e, (wAll cy Q x qm y)[69]? = some (adr Q x qm y 95, e) ∧ ∀ H, va_at D vwCl (adr Q x qm y 95, e) H → va_at D vwCl (adr Q x qm y 95, cellE ((D, cy, adr Q x qm y, aS, aH) : Gl) m0 95) H := ⟨_, rfl, fun _ h => h⟩
set_option maxRecDepth 100000 in
theorem at_96 {D : va_G} {cy : Nat → ClassId} (Q : (Nat → Nat) × (Nat → Nat → Nat) × (Nat → Nat → Nat)) (x : Nat) (qm : Nat → Nat) (y : Nat) {aS aH : Nat} : ∃ e, (wAll cy Q x qm y)[66]? = some (adr Q x qm y 96, e) ∧ ∀ H, va_at D vwCl (adr Q x qm y 96, e) H → va_at D vwCl (adr Q x qm y 96, cellE ((D, cy, adr Q x qm y, aS, aH) : Gl) m0 96) H := ⟨_, rfl, fun _ h => h⟩
set_option maxRecDepth 100000 in
theorem at_97 {D : va_G} {cy : Nat → ClassId} (Q : (Nat → Nat) × (Nat → Nat → Nat) × (Nat → Nat → Nat)) (x : Nat) (qm : Nat → Nat) (y : Nat) {aS aH : Nat} : ∃ e, (wAll cy Q x qm y)[63]? = some (adr Q x qm y 97, e) ∧ ∀ H, va_at D vwCl (adr Q x qm y 97, e) H → va_at D vwCl (adr Q x qm y 97, cellE ((D, cy, adr Q x qm y, aS, aH) : Gl) m0 97) H := ⟨_, rfl, fun _ h => h⟩
set_option maxRecDepth 100000 in
theorem at_98 {D : va_G} {cy : Nat → ClassId} (Q : (Nat → Nat) × (Nat → Nat → Nat) × (Nat → Nat → Nat)) (x : Nat) (qm : Nat → Nat) (y : Nat) {aS aH : Nat} : ∃ e, (wAll cy Q x qm y)[60]? = some (adr Q x qm y 98, e) ∧ ∀ H, va_at D vwCl (adr Q x qm y 98, e) H → va_at D vwCl (adr Q x qm y 98, cellE ((D, cy, adr Q x qm y, aS, aH) : Gl) m0 98) H := ⟨_, rfl, fun _ h => h⟩
set_option maxRecDepth 100000 in
theorem at_99 {D : va_G} {cy : Nat → ClassId} (Q : (Nat → Nat) × (Nat → Nat → Nat) × (Nat → Nat → Nat)) (x : Nat) (qm : Nat → Nat) (y : Nat) {aS aH : Nat} : ∃ e, (wAll cy Q x qm y)[57]? = some (adr Q x qm y 99, e) ∧ ∀ H, va_at D vwCl (adr Q x qm y 99, e) H → va_at D vwCl (adr Q x qm y 99, cellE ((D, cy, adr Q x qm y, aS, aH) : Gl) m0 99) H := ⟨_, rfl, fun _ h => h⟩
set_option maxRecDepth 100000 in
theorem at_100 {D : va_G} {cy : Nat → ClassId} (Q : (Nat → Nat) × (Nat → Nat → Nat) × (Nat → Nat → Nat)) (x : Nat) (qm : Nat → Nat) (y : Nat) {aS aH : Nat} : ∃ e, (wAll cy Q x qm y)[38]? = some (adr Q x qm y 100, e) ∧ ∀ H, va_at D vwCl (adr Q x qm y 100, e) H → va_at D vwCl (adr Q x qm y 100, cellE ((D, cy, adr Q x qm y, aS, aH) : Gl) m0 100) H := ⟨_, rfl, fun _ h => h⟩
set_option maxRecDepth 100000 in
theorem at_101 {D : va_G} {cy : Nat → ClassId} (Q : (Nat → Nat) × (Nat → Nat → Nat) × (Nat → Nat → Nat)) (x : Nat) (qm : Nat → Nat) (y : Nat) {aS aH : Nat} : ∃ e, (wAll cy Q x qm y)[36]? = some (adr Q x qm y 101, e) ∧ ∀ H, va_at D vwCl (adr Q x qm y 101, e) H → va_at D vwCl (adr Q x qm y 101, cellE ((D, cy, adr Q x qm y, aS, aH) : Gl) m0 101) H := ⟨_, rfl, fun _ h => h⟩
set_option maxRecDepth 100000 in
theorem at_102 {D : va_G} {cy : Nat → ClassId} (Q : (Nat → Nat) × (Nat → Nat → Nat) × (Nat → Nat → Nat)) (x : Nat) (qm : Nat → Nat) (y : Nat) {aS aH : Nat} : ∃ e, (wAll cy Q x qm y)[34]? = some (adr Q x qm y 102, e) ∧ ∀ H, va_at D vwCl (adr Q x qm y 102, e) H → va_at D vwCl (adr Q x qm y 102, cellE ((D, cy, adr Q x qm y, aS, aH) : Gl) m0 102) H := ⟨_, rfl, fun _ h => h⟩
set_option maxRecDepth 100000 in
theorem at_103 {D : va_G} {cy : Nat → ClassId} (Q : (Nat → Nat) × (Nat → Nat → Nat) × (Nat → Nat → Nat)) (x : Nat) (qm : Nat → Nat) (y : Nat) {aS aH : Nat} : ∃ e, (wAll cy Q x qm y)[32]? = some (adr Q x qm y 103, e) ∧ ∀ H, va_at D vwCl (adr Q x qm y 103, e) H → va_at D vwCl (adr Q x qm y 103, cellE ((D, cy, adr Q x qm y, aS, aH) : Gl) m0 103) H := ⟨_, rfl, fun _ h => h⟩
set_option maxRecDepth 100000 in
theorem at_104 {D : va_G} {cy : Nat → ClassId} (Q : (Nat → Nat) × (Nat → Nat → Nat) × (Nat → Nat → Nat)) (x : Nat) (qm : Nat → Nat) (y : Nat) {aS aH : Nat} : ∃ e, (wAll cy Q x qm y)[37]? = some (adr Q x qm y 104, e) ∧ ∀ H, va_at D vwCl (adr Q x qm y 104, e) H → va_at D vwCl (adr Q x qm y 104, cellE ((D, cy, adr Q x qm y, aS, aH) : Gl) m0 104) H := ⟨_, rfl, fun _ h => h⟩
set_option maxRecDepth 100000 in
theorem at_105 {D : va_G} {cy : Nat → ClassId} (Q : (Nat → Nat) × (Nat → Nat → Nat) × (Nat → Nat → Nat)) (x : Nat) (qm : Nat → Nat) (y : Nat) {aS aH : Nat} : ∃ e, (wAll cy Q x qm y)[35]? = some (adr Q x qm y 105, e) ∧ ∀ H, va_at D vwCl (adr Q x qm y 105, e) H → va_at D vwCl (adr Q x qm y 105, cellE ((D, cy, adr Q x qm y, aS, aH) : Gl) m0 105) H := ⟨_, rfl, fun _ h => h⟩
set_option maxRecDepth 100000 in
theorem at_106 {D : va_G} {cy : Nat → ClassId} (Q : (Nat → Nat) × (Nat → Nat → Nat) × (Nat → Nat → Nat)) (x : Nat) (qm : Nat → Nat) (y : Nat) {aS aH : Nat} : ∃ e, (wAll cy Q x qm y)[33]? = some (adr Q x qm y 106, e) ∧ ∀ H, va_at D vwCl (adr Q x qm y 106, e) H → va_at D vwCl (adr Q x qm y 106, cellE ((D, cy, adr Q x qm y, aS, aH) : Gl) m0 106) H := ⟨_, rfl, fun _ h => h⟩
set_option maxRecDepth 100000 in
theorem at_107 {D : va_G} {cy : Nat → ClassId} (Q : (Nat → Nat) × (Nat → Nat → Nat) × (Nat → Nat → Nat)) (x : Nat) (qm : Nat → Nat) (y : Nat) {aS aH : Nat} : ∃ e, (wAll cy Q x qm y)[31]? = some (adr Q x qm y 107, e) ∧ ∀ H, va_at D vwCl (adr Q x qm y 107, e) H → va_at D vwCl (adr Q x qm y 107, cellE ((D, cy, adr Q x qm y, aS, aH) : Gl) m0 107) H := ⟨_, rfl, fun _ h => h⟩
set_option maxRecDepth 100000 in
theorem at_all {D : va_G} {cy : Nat → ClassId} (Q : (Nat → Nat) × (Nat → Nat → Nat) × (Nat → Nat → Nat)) (x : Nat) (qm : Nat → Nat) (y : Nat) {aS aH : Nat} : ∀ o, o < 108 → ∃ e, (wAll cy Q x qm y)[plc o]? = some (adr Q x qm y o, e) ∧ ∀ H, va_at D vwCl (adr Q x qm y o, e) H → va_at D vwCl (adr Q x qm y o, cellE ((D, cy, adr Q x qm y, aS, aH) : Gl) m0 o) H := by
  intro o ho
  match o, ho with
  | 0, _ => exact at_0 Q x qm y
  | 1, _ => exact at_1 Q x qm y
  | 2, _ => exact at_2 Q x qm y
  | 3, _ => exact at_3 Q x qm y
  | 4, _ => exact at_4 Q x qm y
  | 5, _ => exact at_5 Q x qm y
  | 6, _ => exact at_6 Q x qm y
  | 7, _ => exact at_7 Q x qm y
  | 8, _ => exact at_8 Q x qm y
  | 9, _ => exact at_9 Q x qm y
  | 10, _ => exact at_10 Q x qm y
  | 11, _ => exact at_11 Q x qm y
  | 12, _ => exact at_12 Q x qm y
  | 13, _ => exact at_13 Q x qm y
  | 14, _ => exact at_14 Q x qm y
  | 15, _ => exact at_15 Q x qm y
  | 16, _ => exact at_16 Q x qm y
  | 17, _ => exact at_17 Q x qm y
  | 18, _ => exact at_18 Q x qm y
  | 19, _ => exact at_19 Q x qm y
  | 20, _ => exact at_20 Q x qm y
  | 21, _ => exact at_21 Q x qm y
  | 22, _ => exact at_22 Q x qm y
  | 23, _ => exact at_23 Q x qm y
  | 24, _ => exact at_24 Q x qm y
  | 25, _ => exact at_25 Q x qm y
  | 26, _ => exact at_26 Q x qm y
  | 27, _ => exact at_27 Q x qm y
  | 28, _ => exact at_28 Q x qm y
  | 29, _ => exact at_29 Q x qm y
  | 30, _ => exact at_30 Q x qm y
  | 31, _ => exact at_31 Q x qm y
  | 32, _ => exact at_32 Q x qm y
  | 33, _ => exact at_33 Q x qm y
  | 34, _ => exact at_34 Q x qm y
  | 35, _ => exact at_35 Q x qm y
  | 36, _ => exact at_36 Q x qm y
  | 37, _ => exact at_37 Q x qm y
  | 38, _ => exact at_38 Q x qm y
  | 39, _ => exact at_39 Q x qm y
  | 40, _ => exact at_40 Q x qm y
  | 41, _ => exact at_41 Q x qm y
  | 42, _ => exact at_42 Q x qm y
  | 43, _ => exact at_43 Q x qm y
  | 44, _ => exact at_44 Q x qm y
  | 45, _ => exact at_45 Q x qm y
  | 46, _ => exact at_46 Q x qm y
  | 47, _ => exact at_47 Q x qm y
  | 48, _ => exact at_48 Q x qm y
  | 49, _ => exact at_49 Q x qm y
  | 50, _ => exact at_50 Q x qm y
  | 51, _ => exact at_51 Q x qm y
  | 52, _ => exact at_52 Q x qm y
  | 53, _ => exact at_53 Q x qm y
  | 54, _ => exact at_54 Q x qm y
  | 55, _ => exact at_55 Q x qm y
  | 56, _ => exact at_56 Q x qm y
  | 57, _ => exact at_57 Q x qm y
  | 58, _ => exact at_58 Q x qm y
  | 59, _ => exact at_59 Q x qm y
  | 60, _ => exact at_60 Q x qm y
  | 61, _ => exact at_61 Q x qm y
  | 62, _ => exact at_62 Q x qm y
  | 63, _ => exact at_63 Q x qm y
  | 64, _ => exact at_64 Q x qm y
  | 65, _ => exact at_65 Q x qm y
  | 66, _ => exact at_66 Q x qm y
  | 67, _ => exact at_67 Q x qm y
  | 68, _ => exact at_68 Q x qm y
  | 69, _ => exact at_69 Q x qm y
  | 70, _ => exact at_70 Q x qm y
  | 71, _ => exact at_71 Q x qm y
  | 72, _ => exact at_72 Q x qm y
  | 73, _ => exact at_73 Q x qm y
  | 74, _ => exact at_74 Q x qm y
  | 75, _ => exact at_75 Q x qm y
  | 76, _ => exact at_76 Q x qm y
  | 77, _ => exact at_77 Q x qm y
  | 78, _ => exact at_78 Q x qm y
  | 79, _ => exact at_79 Q x qm y
  | 80, _ => exact at_80 Q x qm y
  | 81, _ => exact at_81 Q x qm y
  | 82, _ => exact at_82 Q x qm y
  | 83, _ => exact at_83 Q x qm y
  | 84, _ => exact at_84 Q x qm y
  | 85, _ => exact at_85 Q x qm y
  | 86, _ => exact at_86 Q x qm y
  | 87, _ => exact at_87 Q x qm y
  | 88, _ => exact at_88 Q x qm y
  | 89, _ => exact at_89 Q x qm y
  | 90, _ => exact at_90 Q x qm y
  | 91, _ => exact at_91 Q x qm y
  | 92, _ => exact at_92 Q x qm y
  | 93, _ => exact at_93 Q x qm y
  | 94, _ => exact at_94 Q x qm y
  | 95, _ => exact at_95 Q x qm y
  | 96, _ => exact at_96 Q x qm y
  | 97, _ => exact at_97 Q x qm y
  | 98, _ => exact at_98 Q x qm y
  | 99, _ => exact at_99 Q x qm y
  | 100, _ => exact at_100 Q x qm y
  | 101, _ => exact at_101 Q x qm y
  | 102, _ => exact at_102 Q x qm y
  | 103, _ => exact at_103 Q x qm y
  | 104, _ => exact at_104 Q x qm y
  | 105, _ => exact at_105 Q x qm y
  | 106, _ => exact at_106 Q x qm y
  | 107, _ => exact at_107 Q x qm y
  | o + 108, h => omega
theorem wAll_P {D : va_G} {cy : Nat → ClassId} (Q : (Nat → Nat) × (Nat → Nat → Nat) × (Nat → Nat → Nat)) (x : Nat) (qm : Nat → Nat) (y : Nat) {aS aH : Nat} {H : Heap} (hP : va_P D vwCl (wAll cy Q x qm y) H) : va_P D vwCl (cellsW ((D, cy, adr Q x qm y, aS, aH) : Gl) m0) H := by
  intro k q hk
  have hl : k < nO := by
    have h1 := (List.getElem?_eq_some_iff.mp hk).1
    simpa [cellsW] using h1
  rw [cellsW_get hl] at hk
  cases hk
  obtain ⟨e, h1, h2⟩ := at_all (D := D) (cy := cy) (aS := aS) (aH := aH) Q x qm y k hl
  exact h2 H (hP _ _ h1)
theorem wAll_A {cy : Nat → ClassId} (Q : (Nat → Nat) × (Nat → Nat → Nat) × (Nat → Nat → Nat)) (x : Nat) (qm : Nat → Nat) (y : Nat) {A : Nat → Prop} (hD : va_D A (wAll cy Q x qm y)) : ∀ o, o < nO → A (adr Q x qm y o) := by
  intro o ho
  obtain ⟨e, h1, -⟩ := at_all (D := (fun _ => 0, fun _ _ => 0)) (cy := cy) (aS := 0) (aH := 0) Q x qm y o ho
  exact hD.2 _ _ h1
theorem wAll_D {cy : Nat → ClassId} (Q : (Nat → Nat) × (Nat → Nat → Nat) × (Nat → Nat → Nat)) (x : Nat) (qm : Nat → Nat) (y : Nat) {A : Nat → Prop} (hD : va_D A (wAll cy Q x qm y)) : ∀ i j, i < nO → j < nO → adr Q x qm y i = adr Q x qm y j → i = j := by
  intro i j hi hj h
  obtain ⟨e, h1, -⟩ := at_all (D := (fun _ => 0, fun _ _ => 0)) (cy := cy) (aS := 0) (aH := 0) Q x qm y i hi
  obtain ⟨e2, h2, -⟩ := at_all (D := (fun _ => 0, fun _ _ => 0)) (cy := cy) (aS := 0) (aH := 0) Q x qm y j hj
  have h3 := hD.1 _ _ _ _ h1 h2 h
  rw [← plv_plc i hi, ← plv_plc j hj, h3]
