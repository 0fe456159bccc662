/-! ===== every method as a function of the heap ===== -/
def vq (j : Int32) (n : Nat) : Bool := !(decide (j < 0) || decide (n ≤ j.toNatClampNeg))
theorem vq_in {j : Int32} {n : Nat} (h : vq j n = true) : vp_in j n := by
  unfold vq at h
  unfold vp_in
  simpa using h
theorem vq_lt {j : Int32} {n : Nat} (h : vq j n = true) : j.toNatClampNeg < n := by
  unfold vq at h
  simp at h
  omega
def bd {σ τ : Type} (x : Option (σ × pm_II × pm_JJ)) (f : σ → pm_II → pm_JJ → Option τ) : Option τ := match x with
  | none => none
  | some (r, I, J) => f r I J
theorem bd_e {σ τ : Type} {x : Option (σ × pm_II × pm_JJ)} {f : σ → pm_II → pm_JJ → Option τ} {t : τ} (h : bd x f = some t) : ∃ r I J, x = some (r, I, J) ∧ f r I J = some t := by
  match x, h with
  | none, h => cases h
  | some (r, I, J), h => exact ⟨r, I, J, rfl, h⟩
theorem bd_s {σ τ : Type} (r : σ) (I : pm_II) (J : pm_JJ) (f : σ → pm_II → pm_JJ → Option τ) : bd (some (r, I, J)) f = f r I J := rfl
theorem gd_e {τ : Type} {c : Bool} {x : Option τ} {t : τ} (h : cond c x none = some t) : c = true ∧ x = some t := by
  cases c with
  | false => cases h
  | true => exact ⟨rfl, h⟩
theorem ge_e {τ : Type} {c : Prop} {i : Decidable c} {x : Option τ} {t : τ} (h : (if c then x else none) = some t) : c ∧ x = some t := by
  by_cases z : c
  · rw [if_pos z] at h; exact ⟨z, h⟩
  · rw [if_neg z] at h; cases h
theorem ret_q {σ : Type} {a a2 : σ} {b b2 : pm_II} {c c2 : pm_JJ} {Q : σ → pm_II → pm_JJ → Prop} (h : some (a, b, c) = some (a2, b2, c2)) (hq : Q a2 b2 c2) : Q a b c := by
  injection h with h
  injection h with h1 h
  injection h with h2 h3
  subst h1 h2 h3
  exact hq
theorem sw_ne {X : Int32} {hi i : Nat} (h : X < 0 ∨ nI hi < X) (hi2 : hi < 1000) (h3 : i ≤ hi) : ¬ X = nI i := by
  intro e
  rw [e] at h
  rcases h with h | h
  · exact nI_pos (by omega) h
  · rw [nI_ltI (by omega) (by omega)] at h; omega
def cpI (I : pm_II) (a sp b dp n : Nat) : pm_II := fun c => cond (Nat.beq c b) (va_cpy (I a) (I b) sp dp n) (I c)
/-- piles, lines of type, rows of jobs, texts -/
def oP (a : Nat) : Prop := a = 110 ∨ a = 115
def oT (a : Nat) : Prop := ∃ j, j < 16 ∧ a = 57 + 2 * j
def oW (a : Nat) : Prop := a = 106 ∨ a = 107
def oM (a : Nat) : Prop := a = 173 ∨ a = 174
def oS (a : Nat) : Prop := 3 ≤ a ∧ a < 11

theorem oP_ob {a : Nat} (h : oP a) : pm_ob a 3 := by
  rcases h with rfl | rfl
  · exact ⟨rfl, rfl, rfl⟩
  · exact ⟨rfl, rfl, rfl⟩
theorem oP_ar1 {a : Nat} (h : oP a) : pm_ob (a + 1) 100 := by
  rcases h with rfl | rfl
  · exact ⟨rfl, rfl, rfl⟩
  · exact ⟨rfl, rfl, rfl⟩
theorem oP_rt0 {a pa pb : Nat} {ga : Nat → Nat} (h : oP a) : pm_RT pa pb ga a 0 = .ref (a + 1) := by
  rcases h with rfl | rfl
  · rfl
  · rfl
theorem oP_in1 {a : Nat} {j : Int32} (h : oP a) (g : vq j 31 = true) : vp_in j (pm_sh (a + 1)).2 := by
  rcases h with rfl | rfl
  · exact vq_in g
  · exact vq_in g
theorem oP_ar2 {a : Nat} (h : oP a) : pm_ob (a + 2) 100 := by
  rcases h with rfl | rfl
  · exact ⟨rfl, rfl, rfl⟩
  · exact ⟨rfl, rfl, rfl⟩
theorem oP_rt1 {a pa pb : Nat} {ga : Nat → Nat} (h : oP a) : pm_RT pa pb ga a 1 = .ref (a + 2) := by
  rcases h with rfl | rfl
  · rfl
  · rfl
theorem oP_in2 {a : Nat} {j : Int32} (h : oP a) (g : vq j 31 = true) : vp_in j (pm_sh (a + 2)).2 := by
  rcases h with rfl | rfl
  · exact vq_in g
  · exact vq_in g
theorem oP_ar3 {a : Nat} (h : oP a) : pm_ob (a + 3) 100 := by
  rcases h with rfl | rfl
  · exact ⟨rfl, rfl, rfl⟩
  · exact ⟨rfl, rfl, rfl⟩
theorem oP_rt2 {a pa pb : Nat} {ga : Nat → Nat} (h : oP a) : pm_RT pa pb ga a 2 = .ref (a + 3) := by
  rcases h with rfl | rfl
  · rfl
  · rfl
theorem oP_in3 {a : Nat} {j : Int32} (h : oP a) (g : vq j 31 = true) : vp_in j (pm_sh (a + 3)).2 := by
  rcases h with rfl | rfl
  · exact vq_in g
  · exact vq_in g
theorem oP_ar4 {a : Nat} (h : oP a) : pm_ob (a + 4) 100 := by
  rcases h with rfl | rfl
  · exact ⟨rfl, rfl, rfl⟩
  · exact ⟨rfl, rfl, rfl⟩
theorem oP_rt3 {a pa pb : Nat} {ga : Nat → Nat} (h : oP a) : pm_RT pa pb ga a 3 = .ref (a + 4) := by
  rcases h with rfl | rfl
  · rfl
  · rfl
theorem oP_in4 {a : Nat} {j : Int32} (h : oP a) (g : vq j 31 = true) : vp_in j (pm_sh (a + 4)).2 := by
  rcases h with rfl | rfl
  · exact vq_in g
  · exact vq_in g
theorem oT_ob {a : Nat} (h : oT a) : pm_ob a 8 := by
  obtain ⟨i, hi, rfl⟩ := h
  match i, hi with
  | 0, _ => exact ⟨rfl, rfl, rfl⟩
  | 1, _ => exact ⟨rfl, rfl, rfl⟩
  | 2, _ => exact ⟨rfl, rfl, rfl⟩
  | 3, _ => exact ⟨rfl, rfl, rfl⟩
  | 4, _ => exact ⟨rfl, rfl, rfl⟩
  | 5, _ => exact ⟨rfl, rfl, rfl⟩
  | 6, _ => exact ⟨rfl, rfl, rfl⟩
  | 7, _ => exact ⟨rfl, rfl, rfl⟩
  | 8, _ => exact ⟨rfl, rfl, rfl⟩
  | 9, _ => exact ⟨rfl, rfl, rfl⟩
  | 10, _ => exact ⟨rfl, rfl, rfl⟩
  | 11, _ => exact ⟨rfl, rfl, rfl⟩
  | 12, _ => exact ⟨rfl, rfl, rfl⟩
  | 13, _ => exact ⟨rfl, rfl, rfl⟩
  | 14, _ => exact ⟨rfl, rfl, rfl⟩
  | 15, _ => exact ⟨rfl, rfl, rfl⟩
  | n + 16, hi => exact absurd hi (by omega)
theorem oT_ar1 {a : Nat} (h : oT a) : pm_ob (a + 1) 100 := by
  obtain ⟨i, hi, rfl⟩ := h
  match i, hi with
  | 0, _ => exact ⟨rfl, rfl, rfl⟩
  | 1, _ => exact ⟨rfl, rfl, rfl⟩
  | 2, _ => exact ⟨rfl, rfl, rfl⟩
  | 3, _ => exact ⟨rfl, rfl, rfl⟩
  | 4, _ => exact ⟨rfl, rfl, rfl⟩
  | 5, _ => exact ⟨rfl, rfl, rfl⟩
  | 6, _ => exact ⟨rfl, rfl, rfl⟩
  | 7, _ => exact ⟨rfl, rfl, rfl⟩
  | 8, _ => exact ⟨rfl, rfl, rfl⟩
  | 9, _ => exact ⟨rfl, rfl, rfl⟩
  | 10, _ => exact ⟨rfl, rfl, rfl⟩
  | 11, _ => exact ⟨rfl, rfl, rfl⟩
  | 12, _ => exact ⟨rfl, rfl, rfl⟩
  | 13, _ => exact ⟨rfl, rfl, rfl⟩
  | 14, _ => exact ⟨rfl, rfl, rfl⟩
  | 15, _ => exact ⟨rfl, rfl, rfl⟩
  | n + 16, hi => exact absurd hi (by omega)
theorem oT_rt0 {a pa pb : Nat} {ga : Nat → Nat} (h : oT a) : pm_RT pa pb ga a 0 = .ref (a + 1) := by
  obtain ⟨i, hi, rfl⟩ := h
  match i, hi with
  | 0, _ => exact rfl
  | 1, _ => exact rfl
  | 2, _ => exact rfl
  | 3, _ => exact rfl
  | 4, _ => exact rfl
  | 5, _ => exact rfl
  | 6, _ => exact rfl
  | 7, _ => exact rfl
  | 8, _ => exact rfl
  | 9, _ => exact rfl
  | 10, _ => exact rfl
  | 11, _ => exact rfl
  | 12, _ => exact rfl
  | 13, _ => exact rfl
  | 14, _ => exact rfl
  | 15, _ => exact rfl
  | n + 16, hi => exact absurd hi (by omega)
theorem oT_in1 {a : Nat} {j : Int32} (h : oT a) (g : vq j 155 = true) : vp_in j (pm_sh (a + 1)).2 := by
  obtain ⟨i, hi, rfl⟩ := h
  match i, hi with
  | 0, _ => exact vq_in g
  | 1, _ => exact vq_in g
  | 2, _ => exact vq_in g
  | 3, _ => exact vq_in g
  | 4, _ => exact vq_in g
  | 5, _ => exact vq_in g
  | 6, _ => exact vq_in g
  | 7, _ => exact vq_in g
  | 8, _ => exact vq_in g
  | 9, _ => exact vq_in g
  | 10, _ => exact vq_in g
  | 11, _ => exact vq_in g
  | 12, _ => exact vq_in g
  | 13, _ => exact vq_in g
  | 14, _ => exact vq_in g
  | 15, _ => exact vq_in g
  | n + 16, hi => exact absurd hi (by omega)
theorem oW_ob {a : Nat} (h : oW a) : pm_ob a 100 := by
  rcases h with rfl | rfl
  · exact ⟨rfl, rfl, rfl⟩
  · exact ⟨rfl, rfl, rfl⟩
theorem oW_in {a : Nat} {j : Int32} (h : oW a) (g : vq j 6 = true) : vp_in j (pm_sh a).2 := by
  rcases h with rfl | rfl
  · exact vq_in g
  · exact vq_in g
theorem oM_ob {a : Nat} (h : oM a) : pm_ob a 100 := by
  rcases h with rfl | rfl
  · exact ⟨rfl, rfl, rfl⟩
  · exact ⟨rfl, rfl, rfl⟩
theorem oM_in {a : Nat} {j : Int32} (h : oM a) (g : vq j 6 = true) : vp_in j (pm_sh a).2 := by
  rcases h with rfl | rfl
  · exact vq_in g
  · exact vq_in g
