-- ===== what an update leaves alone, by the kind of thing that it changes =====
def Fs (σ σ' : Mem) : Prop := ∀ o k, ¬ (1 ≤ o ∧ o ≤ 4) → σ'.1 o k = σ.1 o k ∧ σ'.2 o k = σ.2 o k
theorem Fs.rf {σ : Mem} : Fs σ σ := fun _ _ _ => ⟨rfl, rfl⟩
theorem Fs.tr {σ σ' σ'' : Mem} (h : Fs σ σ') (h2 : Fs σ' σ'') : Fs σ σ'' := fun o k a => ⟨(h2 o k a).1.trans (h o k a).1, (h2 o k a).2.trans (h o k a).2⟩
theorem Fs.I {σ σ' : Mem} {o k : Nat} {v : Int32} (h : Fs σ σ') (ho : 1 ≤ o ∧ o ≤ 4) : Fs σ (wI σ' o k v) := fun a j h1 => by
  rw [m_I1, m_I2, if_neg (by rintro ⟨rfl, rfl⟩; exact h1 ho)]
  exact h a j h1
theorem Fs.J {σ σ' : Mem} {o k : Nat} {v : Int64} (h : Fs σ σ') (ho : 1 ≤ o ∧ o ≤ 4) : Fs σ (wJ σ' o k v) := fun a j h1 => by
  rw [m_J1, m_J2, if_neg (by rintro ⟨rfl, rfl⟩; exact h1 ho)]
  exact h a j h1
theorem Fs.m {σ σ' : Mem} (h : Fs σ σ') : mS σ σ' := fun o a b k => (h o k (by omega)).1
theorem A.s_upd {σ σ' : Mem} {S S' : St} (h : A σ S) (hn : nB S ≤ 12) (F : Fs σ σ') (hS : ∀ i j k, ¬ i ≤ 2 → S'.1 i j k = S.1 i j k) (hS2 : S'.2 = S.2) (new : A_s σ' S') : A σ' S' :=
  ⟨new, A_b_of h.2.1 (F 5 1 (by omega)).1 (fun o k h1 h2 => F o k (by omega)) hn (fun i j k h1 h2 => hS i j k (by omega)), A_g_of h.2.2.1 (F 13 1 (by omega)).1 (fun o k h1 h2 => (F o k (by omega)).1) (fun i j k h1 h2 => hS i j k (by omega)), A_o_of h.2.2.2.1 (F 15 6 (by omega)).1 (fun k => (F 16 k (by omega)).1) (fun i j k h1 h2 => hS i j k (by omega)), A_r_of h.2.2.2.2.1 (fun o k h1 h2 => F o k (by omega)) (fun i j k h1 h2 => hS i j k (by omega)), A_t_of h.2.2.2.2.2 (fun k h1 => (F 0 k (by omega)).1) (fun o k h1 h2 => (F o k (by omega)).1) (fun i j k h1 h2 => hS i j k (by omega)) hS2⟩
def Fb (σ σ' : Mem) : Prop := ∀ o k, ¬ (o = 5 ∨ (64 ≤ o ∧ o ≤ 75)) → σ'.1 o k = σ.1 o k ∧ σ'.2 o k = σ.2 o k
theorem Fb.rf {σ : Mem} : Fb σ σ := fun _ _ _ => ⟨rfl, rfl⟩
theorem Fb.tr {σ σ' σ'' : Mem} (h : Fb σ σ') (h2 : Fb σ' σ'') : Fb σ σ'' := fun o k a => ⟨(h2 o k a).1.trans (h o k a).1, (h2 o k a).2.trans (h o k a).2⟩
theorem Fb.I {σ σ' : Mem} {o k : Nat} {v : Int32} (h : Fb σ σ') (ho : o = 5 ∨ (64 ≤ o ∧ o ≤ 75)) : Fb σ (wI σ' o k v) := fun a j h1 => by
  rw [m_I1, m_I2, if_neg (by rintro ⟨rfl, rfl⟩; exact h1 ho)]
  exact h a j h1
theorem Fb.J {σ σ' : Mem} {o k : Nat} {v : Int64} (h : Fb σ σ') (ho : o = 5 ∨ (64 ≤ o ∧ o ≤ 75)) : Fb σ (wJ σ' o k v) := fun a j h1 => by
  rw [m_J1, m_J2, if_neg (by rintro ⟨rfl, rfl⟩; exact h1 ho)]
  exact h a j h1
theorem Fb.m {σ σ' : Mem} (h : Fb σ σ') : mS σ σ' := fun o a b k => (h o k (by omega)).1
theorem A.b_upd {σ σ' : Mem} {S S' : St} (h : A σ S) (hn : nB S ≤ 12) (F : Fb σ σ') (hS : ∀ i j k, ¬ (3 ≤ i ∧ i ≤ 6) → S'.1 i j k = S.1 i j k) (hS2 : S'.2 = S.2) (new : A_b σ' S') : A σ' S' :=
  ⟨A_s_of h.1 (fun o k h1 h2 => F o k (by omega)) (fun i j k h1 => hS i j k (by omega)), new, A_g_of h.2.2.1 (F 13 1 (by omega)).1 (fun o k h1 h2 => (F o k (by omega)).1) (fun i j k h1 h2 => hS i j k (by omega)), A_o_of h.2.2.2.1 (F 15 6 (by omega)).1 (fun k => (F 16 k (by omega)).1) (fun i j k h1 h2 => hS i j k (by omega)), A_r_of h.2.2.2.2.1 (fun o k h1 h2 => F o k (by omega)) (fun i j k h1 h2 => hS i j k (by omega)), A_t_of h.2.2.2.2.2 (fun k h1 => (F 0 k (by omega)).1) (fun o k h1 h2 => (F o k (by omega)).1) (fun i j k h1 h2 => hS i j k (by omega)) hS2⟩
def Fg (σ σ' : Mem) : Prop := ∀ o k, ¬ (o = 13 ∨ (76 ≤ o ∧ o ≤ 99)) → σ'.1 o k = σ.1 o k ∧ σ'.2 o k = σ.2 o k
theorem Fg.rf {σ : Mem} : Fg σ σ := fun _ _ _ => ⟨rfl, rfl⟩
theorem Fg.tr {σ σ' σ'' : Mem} (h : Fg σ σ') (h2 : Fg σ' σ'') : Fg σ σ'' := fun o k a => ⟨(h2 o k a).1.trans (h o k a).1, (h2 o k a).2.trans (h o k a).2⟩
theorem Fg.I {σ σ' : Mem} {o k : Nat} {v : Int32} (h : Fg σ σ') (ho : o = 13 ∨ (76 ≤ o ∧ o ≤ 99)) : Fg σ (wI σ' o k v) := fun a j h1 => by
  rw [m_I1, m_I2, if_neg (by rintro ⟨rfl, rfl⟩; exact h1 ho)]
  exact h a j h1
theorem Fg.J {σ σ' : Mem} {o k : Nat} {v : Int64} (h : Fg σ σ') (ho : o = 13 ∨ (76 ≤ o ∧ o ≤ 99)) : Fg σ (wJ σ' o k v) := fun a j h1 => by
  rw [m_J1, m_J2, if_neg (by rintro ⟨rfl, rfl⟩; exact h1 ho)]
  exact h a j h1
theorem Fg.m {σ σ' : Mem} (h : Fg σ σ') : mS σ σ' := fun o a b k => (h o k (by omega)).1
theorem A.g_upd {σ σ' : Mem} {S S' : St} (h : A σ S) (hn : nB S ≤ 12) (F : Fg σ σ') (hS : ∀ i j k, ¬ (7 ≤ i ∧ i ≤ 11) → S'.1 i j k = S.1 i j k) (hS2 : S'.2 = S.2) (new : A_g σ' S') : A σ' S' :=
  ⟨A_s_of h.1 (fun o k h1 h2 => F o k (by omega)) (fun i j k h1 => hS i j k (by omega)), A_b_of h.2.1 (F 5 1 (by omega)).1 (fun o k h1 h2 => F o k (by omega)) hn (fun i j k h1 h2 => hS i j k (by omega)), new, A_o_of h.2.2.2.1 (F 15 6 (by omega)).1 (fun k => (F 16 k (by omega)).1) (fun i j k h1 h2 => hS i j k (by omega)), A_r_of h.2.2.2.2.1 (fun o k h1 h2 => F o k (by omega)) (fun i j k h1 h2 => hS i j k (by omega)), A_t_of h.2.2.2.2.2 (fun k h1 => (F 0 k (by omega)).1) (fun o k h1 h2 => (F o k (by omega)).1) (fun i j k h1 h2 => hS i j k (by omega)) hS2⟩
def Fo (σ σ' : Mem) : Prop := ∀ o k, ¬ (o = 15 ∨ o = 16) → σ'.1 o k = σ.1 o k ∧ σ'.2 o k = σ.2 o k
theorem Fo.rf {σ : Mem} : Fo σ σ := fun _ _ _ => ⟨rfl, rfl⟩
theorem Fo.tr {σ σ' σ'' : Mem} (h : Fo σ σ') (h2 : Fo σ' σ'') : Fo σ σ'' := fun o k a => ⟨(h2 o k a).1.trans (h o k a).1, (h2 o k a).2.trans (h o k a).2⟩
theorem Fo.I {σ σ' : Mem} {o k : Nat} {v : Int32} (h : Fo σ σ') (ho : o = 15 ∨ o = 16) : Fo σ (wI σ' o k v) := fun a j h1 => by
  rw [m_I1, m_I2, if_neg (by rintro ⟨rfl, rfl⟩; exact h1 ho)]
  exact h a j h1
theorem Fo.J {σ σ' : Mem} {o k : Nat} {v : Int64} (h : Fo σ σ') (ho : o = 15 ∨ o = 16) : Fo σ (wJ σ' o k v) := fun a j h1 => by
  rw [m_J1, m_J2, if_neg (by rintro ⟨rfl, rfl⟩; exact h1 ho)]
  exact h a j h1
theorem Fo.m {σ σ' : Mem} (h : Fo σ σ') : mS σ σ' := fun o a b k => (h o k (by omega)).1
theorem A.o_upd {σ σ' : Mem} {S S' : St} (h : A σ S) (hn : nB S ≤ 12) (F : Fo σ σ') (hS : ∀ i j k, ¬ (12 ≤ i ∧ i ≤ 13) → S'.1 i j k = S.1 i j k) (hS2 : S'.2 = S.2) (new : A_o σ' S') : A σ' S' :=
  ⟨A_s_of h.1 (fun o k h1 h2 => F o k (by omega)) (fun i j k h1 => hS i j k (by omega)), A_b_of h.2.1 (F 5 1 (by omega)).1 (fun o k h1 h2 => F o k (by omega)) hn (fun i j k h1 h2 => hS i j k (by omega)), A_g_of h.2.2.1 (F 13 1 (by omega)).1 (fun o k h1 h2 => (F o k (by omega)).1) (fun i j k h1 h2 => hS i j k (by omega)), new, A_r_of h.2.2.2.2.1 (fun o k h1 h2 => F o k (by omega)) (fun i j k h1 h2 => hS i j k (by omega)), A_t_of h.2.2.2.2.2 (fun k h1 => (F 0 k (by omega)).1) (fun o k h1 h2 => (F o k (by omega)).1) (fun i j k h1 h2 => hS i j k (by omega)) hS2⟩
def Fr (σ σ' : Mem) : Prop := ∀ o k, ¬ (27 ≤ o ∧ o ≤ 30) → σ'.1 o k = σ.1 o k ∧ σ'.2 o k = σ.2 o k
theorem Fr.rf {σ : Mem} : Fr σ σ := fun _ _ _ => ⟨rfl, rfl⟩
theorem Fr.tr {σ σ' σ'' : Mem} (h : Fr σ σ') (h2 : Fr σ' σ'') : Fr σ σ'' := fun o k a => ⟨(h2 o k a).1.trans (h o k a).1, (h2 o k a).2.trans (h o k a).2⟩
theorem Fr.I {σ σ' : Mem} {o k : Nat} {v : Int32} (h : Fr σ σ') (ho : 27 ≤ o ∧ o ≤ 30) : Fr σ (wI σ' o k v) := fun a j h1 => by
  rw [m_I1, m_I2, if_neg (by rintro ⟨rfl, rfl⟩; exact h1 ho)]
  exact h a j h1
theorem Fr.J {σ σ' : Mem} {o k : Nat} {v : Int64} (h : Fr σ σ') (ho : 27 ≤ o ∧ o ≤ 30) : Fr σ (wJ σ' o k v) := fun a j h1 => by
  rw [m_J1, m_J2, if_neg (by rintro ⟨rfl, rfl⟩; exact h1 ho)]
  exact h a j h1
theorem Fr.m {σ σ' : Mem} (h : Fr σ σ') : mS σ σ' := fun o a b k => (h o k (by omega)).1
theorem A.r_upd {σ σ' : Mem} {S S' : St} (h : A σ S) (hn : nB S ≤ 12) (F : Fr σ σ') (hS : ∀ i j k, ¬ (14 ≤ i ∧ i ≤ 17) → S'.1 i j k = S.1 i j k) (hS2 : S'.2 = S.2) (new : A_r σ' S') : A σ' S' :=
  ⟨A_s_of h.1 (fun o k h1 h2 => F o k (by omega)) (fun i j k h1 => hS i j k (by omega)), A_b_of h.2.1 (F 5 1 (by omega)).1 (fun o k h1 h2 => F o k (by omega)) hn (fun i j k h1 h2 => hS i j k (by omega)), A_g_of h.2.2.1 (F 13 1 (by omega)).1 (fun o k h1 h2 => (F o k (by omega)).1) (fun i j k h1 h2 => hS i j k (by omega)), A_o_of h.2.2.2.1 (F 15 6 (by omega)).1 (fun k => (F 16 k (by omega)).1) (fun i j k h1 h2 => hS i j k (by omega)), new, A_t_of h.2.2.2.2.2 (fun k h1 => (F 0 k (by omega)).1) (fun o k h1 h2 => (F o k (by omega)).1) (fun i j k h1 h2 => hS i j k (by omega)) hS2⟩
def Ft (σ σ' : Mem) : Prop := ∀ o k, ¬ (o = 0 ∨ (100 ≤ o ∧ o ≤ 107)) → σ'.1 o k = σ.1 o k ∧ σ'.2 o k = σ.2 o k
theorem Ft.rf {σ : Mem} : Ft σ σ := fun _ _ _ => ⟨rfl, rfl⟩
theorem Ft.tr {σ σ' σ'' : Mem} (h : Ft σ σ') (h2 : Ft σ' σ'') : Ft σ σ'' := fun o k a => ⟨(h2 o k a).1.trans (h o k a).1, (h2 o k a).2.trans (h o k a).2⟩
theorem Ft.I {σ σ' : Mem} {o k : Nat} {v : Int32} (h : Ft σ σ') (ho : o = 0 ∨ (100 ≤ o ∧ o ≤ 107)) : Ft σ (wI σ' o k v) := fun a j h1 => by
  rw [m_I1, m_I2, if_neg (by rintro ⟨rfl, rfl⟩; exact h1 ho)]
  exact h a j h1
theorem Ft.J {σ σ' : Mem} {o k : Nat} {v : Int64} (h : Ft σ σ') (ho : o = 0 ∨ (100 ≤ o ∧ o ≤ 107)) : Ft σ (wJ σ' o k v) := fun a j h1 => by
  rw [m_J1, m_J2, if_neg (by rintro ⟨rfl, rfl⟩; exact h1 ho)]
  exact h a j h1
theorem Ft.m {σ σ' : Mem} (h : Ft σ σ') : mS σ σ' := fun o a b k => (h o k (by omega)).1
theorem A.t_upd {σ σ' : Mem} {S S' : St} (h : A σ S) (hn : nB S ≤ 12) (F : Ft σ σ') (hS : ∀ i j k, ¬ (18 ≤ i ∧ i ≤ 19) → S'.1 i j k = S.1 i j k) (new : A_t σ' S') : A σ' S' :=
  ⟨A_s_of h.1 (fun o k h1 h2 => F o k (by omega)) (fun i j k h1 => hS i j k (by omega)), A_b_of h.2.1 (F 5 1 (by omega)).1 (fun o k h1 h2 => F o k (by omega)) hn (fun i j k h1 h2 => hS i j k (by omega)), A_g_of h.2.2.1 (F 13 1 (by omega)).1 (fun o k h1 h2 => (F o k (by omega)).1) (fun i j k h1 h2 => hS i j k (by omega)), A_o_of h.2.2.2.1 (F 15 6 (by omega)).1 (fun k => (F 16 k (by omega)).1) (fun i j k h1 h2 => hS i j k (by omega)), A_r_of h.2.2.2.2.1 (fun o k h1 h2 => F o k (by omega)) (fun i j k h1 h2 => hS i j k (by omega)), new⟩
def Gs (σ σ' : Mem) : Prop := (∀ o k, ¬ ((o = 33 ∧ k = 2) ∨ o = 34 ∨ o = 35) → σ'.1 o k = σ.1 o k) ∧ σ'.2 = σ.2
theorem Gs.rf {σ : Mem} : Gs σ σ := ⟨fun _ _ _ => rfl, rfl⟩
theorem Gs.tr {σ σ' σ'' : Mem} (h : Gs σ σ') (h2 : Gs σ' σ'') : Gs σ σ'' := ⟨fun o k a => (h2.1 o k a).trans (h.1 o k a), h2.2.trans h.2⟩
theorem Gs.I {σ σ' : Mem} {o k : Nat} {v : Int32} (h : Gs σ σ') (ho : (o = 33 ∧ k = 2) ∨ o = 34 ∨ o = 35) : Gs σ (wI σ' o k v) := ⟨fun a j h1 => by
  rw [m_I1, if_neg (by rintro ⟨rfl, rfl⟩; exact h1 ho)]
  exact h.1 a j h1, h.2⟩
theorem Gs.c {σ σ' : Mem} (h : Gs σ σ') : cS σ σ' := fun o a k => ⟨h.1 o k (by omega), by rw [h.2]⟩
theorem B.s_upd {σ σ' : Mem} {S S' : St} (h : B σ S) (F : Gs σ σ') (hS : ∀ i j k, ¬ i ≤ 2 → S'.1 i j k = S.1 i j k) (hS2 : S'.2 = S.2) (new : B_s σ' S') : B σ' S' :=
  ⟨new, B_b_of h.2.1 (F.1 33 5 (by omega)) (fun o k h1 h2 => F.1 o k (by omega)) (fun i j k h1 h2 => hS i j k (by omega)), B_g_of h.2.2.1 (F.1 33 15 (by omega)) (fun o k h1 h2 => F.1 o k (by omega)) (fun i j k h1 h2 => hS i j k (by omega)), B_o_of h.2.2.2.1 (F.1 33 23 (by omega)) (fun k => F.1 51 k (by omega)) (fun i j k h1 h2 => hS i j k (by omega)), B_r_of h.2.2.2.2.1 (F.1 33 33 (by omega)) (fun o k h1 h2 => F.1 o k (by omega)) (fun i j k h1 h2 => hS i j k (by omega)), B_t_of h.2.2.2.2.2 (fun k h1 => F.1 33 k (by omega)) (fun o k h1 h2 => F.1 o k (by omega)) (fun i j k h1 h2 => hS i j k (by omega)) hS2⟩
def Gb (σ σ' : Mem) : Prop := (∀ o k, ¬ ((o = 33 ∧ k = 5) ∨ (36 ≤ o ∧ o ≤ 39)) → σ'.1 o k = σ.1 o k) ∧ σ'.2 = σ.2
theorem Gb.rf {σ : Mem} : Gb σ σ := ⟨fun _ _ _ => rfl, rfl⟩
theorem Gb.tr {σ σ' σ'' : Mem} (h : Gb σ σ') (h2 : Gb σ' σ'') : Gb σ σ'' := ⟨fun o k a => (h2.1 o k a).trans (h.1 o k a), h2.2.trans h.2⟩
theorem Gb.I {σ σ' : Mem} {o k : Nat} {v : Int32} (h : Gb σ σ') (ho : (o = 33 ∧ k = 5) ∨ (36 ≤ o ∧ o ≤ 39)) : Gb σ (wI σ' o k v) := ⟨fun a j h1 => by
  rw [m_I1, if_neg (by rintro ⟨rfl, rfl⟩; exact h1 ho)]
  exact h.1 a j h1, h.2⟩
theorem Gb.c {σ σ' : Mem} (h : Gb σ σ') : cS σ σ' := fun o a k => ⟨h.1 o k (by omega), by rw [h.2]⟩
theorem B.b_upd {σ σ' : Mem} {S S' : St} (h : B σ S) (F : Gb σ σ') (hS : ∀ i j k, ¬ (3 ≤ i ∧ i ≤ 6) → S'.1 i j k = S.1 i j k) (hS2 : S'.2 = S.2) (new : B_b σ' S') : B σ' S' :=
  ⟨B_s_of h.1 (F.1 33 2 (by omega)) (fun o k h1 h2 => F.1 o k (by omega)) (fun i j k h1 => hS i j k (by omega)), new, B_g_of h.2.2.1 (F.1 33 15 (by omega)) (fun o k h1 h2 => F.1 o k (by omega)) (fun i j k h1 h2 => hS i j k (by omega)), B_o_of h.2.2.2.1 (F.1 33 23 (by omega)) (fun k => F.1 51 k (by omega)) (fun i j k h1 h2 => hS i j k (by omega)), B_r_of h.2.2.2.2.1 (F.1 33 33 (by omega)) (fun o k h1 h2 => F.1 o k (by omega)) (fun i j k h1 h2 => hS i j k (by omega)), B_t_of h.2.2.2.2.2 (fun k h1 => F.1 33 k (by omega)) (fun o k h1 h2 => F.1 o k (by omega)) (fun i j k h1 h2 => hS i j k (by omega)) hS2⟩
def Gg (σ σ' : Mem) : Prop := (∀ o k, ¬ ((o = 33 ∧ k = 15) ∨ (44 ≤ o ∧ o ≤ 47)) → σ'.1 o k = σ.1 o k) ∧ σ'.2 = σ.2
theorem Gg.rf {σ : Mem} : Gg σ σ := ⟨fun _ _ _ => rfl, rfl⟩
theorem Gg.tr {σ σ' σ'' : Mem} (h : Gg σ σ') (h2 : Gg σ' σ'') : Gg σ σ'' := ⟨fun o k a => (h2.1 o k a).trans (h.1 o k a), h2.2.trans h.2⟩
theorem Gg.I {σ σ' : Mem} {o k : Nat} {v : Int32} (h : Gg σ σ') (ho : (o = 33 ∧ k = 15) ∨ (44 ≤ o ∧ o ≤ 47)) : Gg σ (wI σ' o k v) := ⟨fun a j h1 => by
  rw [m_I1, if_neg (by rintro ⟨rfl, rfl⟩; exact h1 ho)]
  exact h.1 a j h1, h.2⟩
theorem Gg.c {σ σ' : Mem} (h : Gg σ σ') : cS σ σ' := fun o a k => ⟨h.1 o k (by omega), by rw [h.2]⟩
theorem B.g_upd {σ σ' : Mem} {S S' : St} (h : B σ S) (F : Gg σ σ') (hS : ∀ i j k, ¬ (7 ≤ i ∧ i ≤ 11) → S'.1 i j k = S.1 i j k) (hS2 : S'.2 = S.2) (new : B_g σ' S') : B σ' S' :=
  ⟨B_s_of h.1 (F.1 33 2 (by omega)) (fun o k h1 h2 => F.1 o k (by omega)) (fun i j k h1 => hS i j k (by omega)), B_b_of h.2.1 (F.1 33 5 (by omega)) (fun o k h1 h2 => F.1 o k (by omega)) (fun i j k h1 h2 => hS i j k (by omega)), new, B_o_of h.2.2.2.1 (F.1 33 23 (by omega)) (fun k => F.1 51 k (by omega)) (fun i j k h1 h2 => hS i j k (by omega)), B_r_of h.2.2.2.2.1 (F.1 33 33 (by omega)) (fun o k h1 h2 => F.1 o k (by omega)) (fun i j k h1 h2 => hS i j k (by omega)), B_t_of h.2.2.2.2.2 (fun k h1 => F.1 33 k (by omega)) (fun o k h1 h2 => F.1 o k (by omega)) (fun i j k h1 h2 => hS i j k (by omega)) hS2⟩
def Go (σ σ' : Mem) : Prop := (∀ o k, ¬ ((o = 33 ∧ k = 23) ∨ o = 51) → σ'.1 o k = σ.1 o k) ∧ σ'.2 = σ.2
theorem Go.rf {σ : Mem} : Go σ σ := ⟨fun _ _ _ => rfl, rfl⟩
theorem Go.tr {σ σ' σ'' : Mem} (h : Go σ σ') (h2 : Go σ' σ'') : Go σ σ'' := ⟨fun o k a => (h2.1 o k a).trans (h.1 o k a), h2.2.trans h.2⟩
theorem Go.I {σ σ' : Mem} {o k : Nat} {v : Int32} (h : Go σ σ') (ho : (o = 33 ∧ k = 23) ∨ o = 51) : Go σ (wI σ' o k v) := ⟨fun a j h1 => by
  rw [m_I1, if_neg (by rintro ⟨rfl, rfl⟩; exact h1 ho)]
  exact h.1 a j h1, h.2⟩
theorem Go.c {σ σ' : Mem} (h : Go σ σ') : cS σ σ' := fun o a k => ⟨h.1 o k (by omega), by rw [h.2]⟩
theorem B.o_upd {σ σ' : Mem} {S S' : St} (h : B σ S) (F : Go σ σ') (hS : ∀ i j k, ¬ (12 ≤ i ∧ i ≤ 13) → S'.1 i j k = S.1 i j k) (hS2 : S'.2 = S.2) (new : B_o σ' S') : B σ' S' :=
  ⟨B_s_of h.1 (F.1 33 2 (by omega)) (fun o k h1 h2 => F.1 o k (by omega)) (fun i j k h1 => hS i j k (by omega)), B_b_of h.2.1 (F.1 33 5 (by omega)) (fun o k h1 h2 => F.1 o k (by omega)) (fun i j k h1 h2 => hS i j k (by omega)), B_g_of h.2.2.1 (F.1 33 15 (by omega)) (fun o k h1 h2 => F.1 o k (by omega)) (fun i j k h1 h2 => hS i j k (by omega)), new, B_r_of h.2.2.2.2.1 (F.1 33 33 (by omega)) (fun o k h1 h2 => F.1 o k (by omega)) (fun i j k h1 h2 => hS i j k (by omega)), B_t_of h.2.2.2.2.2 (fun k h1 => F.1 33 k (by omega)) (fun o k h1 h2 => F.1 o k (by omega)) (fun i j k h1 h2 => hS i j k (by omega)) hS2⟩
def Gr (σ σ' : Mem) : Prop := (∀ o k, ¬ ((o = 33 ∧ k = 33) ∨ (60 ≤ o ∧ o ≤ 62)) → σ'.1 o k = σ.1 o k) ∧ σ'.2 = σ.2
theorem Gr.rf {σ : Mem} : Gr σ σ := ⟨fun _ _ _ => rfl, rfl⟩
theorem Gr.tr {σ σ' σ'' : Mem} (h : Gr σ σ') (h2 : Gr σ' σ'') : Gr σ σ'' := ⟨fun o k a => (h2.1 o k a).trans (h.1 o k a), h2.2.trans h.2⟩
theorem Gr.I {σ σ' : Mem} {o k : Nat} {v : Int32} (h : Gr σ σ') (ho : (o = 33 ∧ k = 33) ∨ (60 ≤ o ∧ o ≤ 62)) : Gr σ (wI σ' o k v) := ⟨fun a j h1 => by
  rw [m_I1, if_neg (by rintro ⟨rfl, rfl⟩; exact h1 ho)]
  exact h.1 a j h1, h.2⟩
theorem Gr.c {σ σ' : Mem} (h : Gr σ σ') : cS σ σ' := fun o a k => ⟨h.1 o k (by omega), by rw [h.2]⟩
theorem B.r_upd {σ σ' : Mem} {S S' : St} (h : B σ S) (F : Gr σ σ') (hS : ∀ i j k, ¬ (14 ≤ i ∧ i ≤ 17) → S'.1 i j k = S.1 i j k) (hS2 : S'.2 = S.2) (new : B_r σ' S') : B σ' S' :=
  ⟨B_s_of h.1 (F.1 33 2 (by omega)) (fun o k h1 h2 => F.1 o k (by omega)) (fun i j k h1 => hS i j k (by omega)), B_b_of h.2.1 (F.1 33 5 (by omega)) (fun o k h1 h2 => F.1 o k (by omega)) (fun i j k h1 h2 => hS i j k (by omega)), B_g_of h.2.2.1 (F.1 33 15 (by omega)) (fun o k h1 h2 => F.1 o k (by omega)) (fun i j k h1 h2 => hS i j k (by omega)), B_o_of h.2.2.2.1 (F.1 33 23 (by omega)) (fun k => F.1 51 k (by omega)) (fun i j k h1 h2 => hS i j k (by omega)), new, B_t_of h.2.2.2.2.2 (fun k h1 => F.1 33 k (by omega)) (fun o k h1 h2 => F.1 o k (by omega)) (fun i j k h1 h2 => hS i j k (by omega)) hS2⟩
def Gt (σ σ' : Mem) : Prop := (∀ o k, ¬ ((o = 33 ∧ k ≤ 1) ∨ (48 ≤ o ∧ o ≤ 50)) → σ'.1 o k = σ.1 o k) ∧ σ'.2 = σ.2
theorem Gt.rf {σ : Mem} : Gt σ σ := ⟨fun _ _ _ => rfl, rfl⟩
theorem Gt.tr {σ σ' σ'' : Mem} (h : Gt σ σ') (h2 : Gt σ' σ'') : Gt σ σ'' := ⟨fun o k a => (h2.1 o k a).trans (h.1 o k a), h2.2.trans h.2⟩
theorem Gt.I {σ σ' : Mem} {o k : Nat} {v : Int32} (h : Gt σ σ') (ho : (o = 33 ∧ k ≤ 1) ∨ (48 ≤ o ∧ o ≤ 50)) : Gt σ (wI σ' o k v) := ⟨fun a j h1 => by
  rw [m_I1, if_neg (by rintro ⟨rfl, rfl⟩; exact h1 ho)]
  exact h.1 a j h1, h.2⟩
theorem Gt.c {σ σ' : Mem} (h : Gt σ σ') : cS σ σ' := fun o a k => ⟨h.1 o k (by omega), by rw [h.2]⟩
theorem B.t_upd {σ σ' : Mem} {S S' : St} (h : B σ S) (F : Gt σ σ') (hS : ∀ i j k, ¬ (18 ≤ i ∧ i ≤ 19) → S'.1 i j k = S.1 i j k) (new : B_t σ' S') : B σ' S' :=
  ⟨B_s_of h.1 (F.1 33 2 (by omega)) (fun o k h1 h2 => F.1 o k (by omega)) (fun i j k h1 => hS i j k (by omega)), B_b_of h.2.1 (F.1 33 5 (by omega)) (fun o k h1 h2 => F.1 o k (by omega)) (fun i j k h1 h2 => hS i j k (by omega)), B_g_of h.2.2.1 (F.1 33 15 (by omega)) (fun o k h1 h2 => F.1 o k (by omega)) (fun i j k h1 h2 => hS i j k (by omega)), B_o_of h.2.2.2.1 (F.1 33 23 (by omega)) (fun k => F.1 51 k (by omega)) (fun i j k h1 h2 => hS i j k (by omega)), B_r_of h.2.2.2.2.1 (F.1 33 33 (by omega)) (fun o k h1 h2 => F.1 o k (by omega)) (fun i j k h1 h2 => hS i j k (by omega)), new⟩
