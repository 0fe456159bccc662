/-! ===== the script stays as it is ===== -/
def c0 (h h2 : pm_H) : Prop := h2.2.1 0 = h.2.1 0 ∧ h2.2.2.1 0 = h.2.2.1 0
theorem c0.refl (h : pm_H) : c0 h h := ⟨rfl, rfl⟩
theorem c0.trans {a b c : pm_H} (h : c0 a b) (h2 : c0 b c) : c0 a c := ⟨h2.1.trans h.1, h2.2.trans h.2⟩
theorem c0_wI {h h2 : pm_H} {a f : Nat} {x : Int32} (hK : pm_K ≤ a) (z : c0 (pm_wI h a f x) h2) : c0 h h2 := ⟨z.1.trans (pm_up_ne (by unfold pm_K at hK; omega)), z.2⟩
theorem c0_wJ {h h2 : pm_H} {a f : Nat} {x : Int64} (hK : pm_K ≤ a) (z : c0 (pm_wJ h a f x) h2) : c0 h h2 := ⟨z.1, z.2.trans (pm_up_ne (by unfold pm_K at hK; omega))⟩
theorem c0_wR {h h2 : pm_H} {a f : Nat} {x : Value} (z : c0 (pm_wR h a f x) h2) : c0 h h2 := z
theorem c0_z {h h2 : pm_H} (hK : pm_K ≤ h.1) (z : c0 (pm_z h) h2) : c0 h h2 := by
  have e : Nat.beq 0 h.1 = false := nb_f (by unfold pm_K at hK; omega)
  refine ⟨z.1.trans ?_, z.2.trans ?_⟩
  · show cond (Nat.beq 0 h.1) (fun _ => 0) (h.2.1 0) = _
    rw [e]; rfl
  · show cond (Nat.beq 0 h.1) (fun _ => 0) (h.2.2.1 0) = _
    rw [e]; rfl
theorem c0_cpy {h h2 : pm_H} {a sp b dp n : Nat} (hK : pm_K ≤ b) (z : c0 (pm_cpy h a sp b dp n) h2) : c0 h h2 := by
  have e : Nat.beq 0 b = false := nb_f (by unfold pm_K at hK; omega)
  refine ⟨z.1.trans ?_, z.2⟩
  show cond (Nat.beq 0 b) _ (h.2.1 0) = _
  rw [e]; rfl
def c0P : pm_J := fun k N Y pc L st h Q => Px k N Y pc L st h (fun r h2 => Q r h2 ∧ c0 h h2)
theorem c0_c0 : pm_c0 c0P := fun k N Y pc L st h Q Q' q0 q1 => x_m (fun r h2 z => ⟨q0 r h2 z.1, z.2⟩) q1
theorem c0_c1 : pm_c1 c0P := fun k N Y pc L st h Q i len x st' q0 q1 q2 => fun P0 hP0 => hP0.1.2.1 _ _ _ _ _ _ _ _ _ _ _ _ q0 q1 (q2 P0 hP0)
theorem c0_c2 : pm_c2 c0P := fun k N Y pc L st h Q i len x v q0 q1 q2 => x_l _ q0 q1 rfl q2
theorem c0_c3 : pm_c3 c0P := fun k N Y pc L st h Q i len x st' L' q0 q1 q2 => x_t _ q0 q1 rfl q2
theorem c0_c4 : pm_c4 c0P := fun k N Y pc L st h Q i len t x c st' q0 q1 q2 q3 => fun P0 hP0 => hP0.1.2.2.2.2.1 _ _ _ _ _ _ _ _ _ _ _ _ _ _ q0 q1 (fun z => q2 z P0 hP0) (fun z => q3 z P0 hP0)
theorem c0_c5 : pm_c5 c0P := fun k N Y pc L st h Q o len t x q0 q1 => fun P0 hP0 => hP0.1.2.2.2.2.2.1 _ _ _ _ _ _ _ _ _ _ _ _ q0 (q1 P0 hP0)
theorem c0_c6 : pm_c6 c0P := fun k N Y pc L st h Q d lo hi offs len x v tgt off q0 q1 q2 q3 q4 q5 => fun P0 hP0 => hP0.1.2.2.2.2.2.2.1 _ _ _ _ _ _ _ _ _ _ _ _ _ _ _ _ _ q0 q1 q2 q3 q4 (q5 P0 hP0)
theorem c0_c7 : pm_c7 c0P := fun k N Y pc L st h Q d lo hi offs len x v tgt q0 q1 q2 q3 => fun P0 hP0 => hP0.1.2.2.2.2.2.2.2.1 _ _ _ _ _ _ _ _ _ _ _ _ _ _ _ _ q0 q1 q2 (q3 P0 hP0)
theorem c0_c8 : pm_c8 c0P := fun k N Y pc L st h Q len x v w q0 q1 q2 => fun P0 hP0 => hP0.1.2.2.2.2.2.2.2.2.1 _ _ _ _ _ _ _ _ _ _ _ _ q0 q1 (q2 P0 hP0)
theorem c0_c9 : pm_c9 c0P := fun k N Y pc L st h Q len x v w q0 q1 q2 => fun P0 hP0 => hP0.1.2.2.2.2.2.2.2.2.2.1 _ _ _ _ _ _ _ _ _ _ _ _ q0 q1 (q2 P0 hP0)
theorem c0_c10 : pm_c10 c0P := fun k N Y pc L st h Q len x v w q0 q1 q2 => fun P0 hP0 => hP0.1.2.2.2.2.2.2.2.2.2.2.1 _ _ _ _ _ _ _ _ _ _ _ _ q0 q1 (q2 P0 hP0)
theorem c0_c11 : pm_c11 c0P := fun k N Y pc L st h Q len x v w q0 q1 => fun P0 hP0 => hP0.1.2.2.2.2.2.2.2.2.2.2.2 _ _ _ _ _ _ _ _ _ _ _ _ q0 (q1 P0 hP0)
theorem c0_c12 : pm_c12 c0P := fun k N Y pc L st h Q idx len ci f t a q0 q1 q2 q3 q4 => fun P0 hP0 => hP0.2.1.1 _ _ _ _ _ _ _ _ _ _ _ _ _ _ q0 q1 q2 q3 (q4 P0 hP0)
theorem c0_c13 : pm_c13 c0P := fun k N Y pc L st h Q idx len ci f t a x q0 q1 q2 q3 q4 q5 q6 q7 => fun P0 hP0 => hP0.2.1.2.1 _ _ _ _ _ _ _ _ _ _ _ _ _ _ _ q0 q1 q2 q3 q4 q5 q6 (x_m (fun r h2 z => ⟨z.1, c0_wI q5 z.2⟩) q7 P0 hP0)
theorem c0_c14 : pm_c14 c0P := fun k N Y pc L st h Q idx len ci f a x q0 q1 q2 q3 q4 q5 => fun P0 hP0 => hP0.2.1.2.2.1 _ _ _ _ _ _ _ _ _ _ _ _ _ _ q0 q1 q2 q3 q4 (x_m (fun r h2 z => ⟨z.1, c0_wJ q3 z.2⟩) q5 P0 hP0)
theorem c0_c15 : pm_c15 c0P := fun k N Y pc L st h Q idx len ci f a b q0 q1 q2 q3 q4 q5 => fun P0 hP0 => hP0.2.1.2.2.2.1 _ _ _ _ _ _ _ _ _ _ _ _ _ _ q0 q1 q2 q3 q4 (x_m (fun r h2 z => ⟨z.1, c0_wR z.2⟩) q5 P0 hP0)
theorem c0_c16 : pm_c16 c0P := fun k N Y pc L st h Q len x a j q0 q1 q2 q3 q4 q5 => fun P0 hP0 => hP0.2.1.2.2.2.2.1 _ _ _ _ _ _ _ _ _ _ _ _ q0 q1 q2 q3 q4 (q5 P0 hP0)
theorem c0_c17 : pm_c17 c0P := fun k N Y pc L st h Q len x a j v q0 q1 q2 q3 q4 q5 => fun P0 hP0 => hP0.2.1.2.2.2.2.2.1 _ _ _ _ _ _ _ _ _ _ _ _ _ q0 q1 q2 q3 q4 (x_m (fun r h2 z => ⟨z.1, c0_wI q2 z.2⟩) q5 P0 hP0)
theorem c0_c18 : pm_c18 c0P := fun k N Y pc L st h Q len x a j q0 q1 q2 q3 q4 q5 => fun P0 hP0 => hP0.2.1.2.2.2.2.2.2.1 _ _ _ _ _ _ _ _ _ _ _ _ q0 q1 q2 q3 q4 (q5 P0 hP0)
theorem c0_c19 : pm_c19 c0P := fun k N Y pc L st h Q len x a j v q0 q1 q2 q3 q4 q5 q6 => fun P0 hP0 => hP0.2.1.2.2.2.2.2.2.2.1 _ _ _ _ _ _ _ _ _ _ _ _ _ q0 q1 q2 q3 q4 q5 (x_m (fun r h2 z => ⟨z.1, c0_wI q2 z.2⟩) q6 P0 hP0)
theorem c0_c20 : pm_c20 c0P := fun k N Y pc L st h Q len x a j q0 q1 q2 q3 q4 q5 => fun P0 hP0 => hP0.2.1.2.2.2.2.2.2.2.2.1 _ _ _ _ _ _ _ _ _ _ _ _ q0 q1 q2 q3 q4 (q5 P0 hP0)
theorem c0_c21 : pm_c21 c0P := fun k N Y pc L st h Q len x a j v q0 q1 q2 q3 q4 q5 => fun P0 hP0 => hP0.2.1.2.2.2.2.2.2.2.2.2.1 _ _ _ _ _ _ _ _ _ _ _ _ _ q0 q1 q2 q3 q4 (x_m (fun r h2 z => ⟨z.1, c0_wJ q2 z.2⟩) q5 P0 hP0)
theorem c0_c22 : pm_c22 c0P := fun k N Y pc L st h Q len x a j q0 q1 q2 q3 q4 q5 => fun P0 hP0 => hP0.2.1.2.2.2.2.2.2.2.2.2.2.1 _ _ _ _ _ _ _ _ _ _ _ _ q0 q1 q2 q3 q4 (q5 P0 hP0)
theorem c0_c23 : pm_c23 c0P := fun k N Y pc L st h Q len x a b j q0 q1 q2 q3 q4 q5 q6 q7 q8 => fun P0 hP0 => hP0.2.1.2.2.2.2.2.2.2.2.2.2.2.1 _ _ _ _ _ _ _ _ _ _ _ _ _ q0 q1 q2 q3 q4 q5 q6 q7 (x_m (fun r h2 z => ⟨z.1, c0_wR z.2⟩) q8 P0 hP0)
theorem c0_c24 : pm_c24 c0P := fun k N Y pc L st h Q len x a q0 q1 q2 q3 q4 => fun P0 hP0 => hP0.2.1.2.2.2.2.2.2.2.2.2.2.2.2 _ _ _ _ _ _ _ _ _ _ _ q0 q1 q2 q3 (q4 P0 hP0)
theorem c0_c25 : pm_c25 c0P := fun k N Y pc L st h Q len x q0 q1 => fun P0 hP0 => hP0.2.2.1.1 _ _ _ _ _ _ _ _ _ _ q0 (q1 P0 hP0)
theorem c0_c26 : pm_c26 c0P := fun k N Y pc L st h Q len x j q0 q1 q2 => fun P0 hP0 => hP0.2.2.1.2.1 _ _ _ _ _ _ _ _ _ _ _ q0 q1 (q2 P0 hP0)
theorem c0_c27 : pm_c27 c0P := fun k N Y pc L st h Q len x a j q0 q1 q2 q3 => fun P0 hP0 => hP0.2.2.1.2.2.1 _ _ _ _ _ _ _ _ _ _ _ _ q0 q1 q2 (q3 P0 hP0)
theorem c0_c28 : pm_c28 c0P := fun k N Y pc L st h Q idx len t x q0 q1 => fun P0 hP0 => hP0.2.2.1.2.2.2.1 _ _ _ _ _ _ _ _ _ _ _ _ q0 (q1 P0 hP0)
theorem c0_c29 : pm_c29 c0P := fun k N Y pc L st h Q i idx len v x q0 q1 q2 => fun P0 hP0 => hP0.2.2.1.2.2.2.2.1 _ _ _ _ _ _ _ _ _ _ _ _ _ q0 q1 (q2 P0 hP0)
theorem c0_c30 : pm_c30 c0P := fun k N Y pc L st h Q idx len v x t q0 q1 => fun P0 hP0 => hP0.2.2.1.2.2.2.2.2.1 _ _ _ _ _ _ _ _ _ _ _ _ _ q0 (q1 P0 hP0)
theorem c0_c31 : pm_c31 c0P := fun k N Y pc L st h Q i idx len v x q0 q1 q2 => fun P0 hP0 => hP0.2.2.1.2.2.2.2.2.2.1 _ _ _ _ _ _ _ _ _ _ _ _ _ q0 q1 (q2 P0 hP0)
theorem c0_c32 : pm_c32 c0P := fun k N Y pc L st h Q idx len x a q0 q1 q2 q3 q4 q5 q6 => fun P0 hP0 => hP0.2.2.1.2.2.2.2.2.2.2.1 _ _ _ _ _ _ _ _ _ _ _ _ q0 q1 q2 q3 q4 q5 (q6 P0 hP0)
theorem c0_c33 : pm_c33 c0P := fun k N Y pc L st h Q idx len x a j q0 q1 q2 q3 q4 q5 q6 q7 => fun P0 hP0 => hP0.2.2.1.2.2.2.2.2.2.2.2.1 _ _ _ _ _ _ _ _ _ _ _ _ _ q0 q1 q2 q3 q4 q5 q6 (q7 P0 hP0)
theorem c0_c34 : pm_c34 c0P := fun k N Y pc L st h Q idx len ci x q0 q1 q2 q3 q4 => fun P0 hP0 => hP0.2.2.1.2.2.2.2.2.2.2.2.2.1 _ _ _ _ _ _ _ _ _ _ _ _ q0 q1 q2 q3 (x_m (fun r h2 z => ⟨z.1, c0_z q2 z.2⟩) q4 P0 hP0)
theorem c0_c35 : pm_c35 c0P := fun k N Y pc L st h Q len x at' v q0 q1 q2 q3 q4 q5 q6 => fun P0 hP0 => hP0.2.2.1.2.2.2.2.2.2.2.2.2.2.1 _ _ _ _ _ _ _ _ _ _ _ _ q0 q1 q2 q3 q4 q5 (x_m (fun r h2 z => ⟨z.1, c0_z q4 z.2⟩) q6 P0 hP0)
theorem c0_c36 : pm_c36 c0P := fun k N Y pc L st h Q idx len x v q0 q1 q2 q3 q4 q5 q6 q7 => fun P0 hP0 => hP0.2.2.1.2.2.2.2.2.2.2.2.2.2.2 _ _ _ _ _ _ _ _ _ _ _ _ q0 q1 q2 q3 q4 q5 q6 (x_m (fun r h2 z => ⟨z.1, c0_z q5 z.2⟩) q7 P0 hP0)
theorem c0_c37 : pm_c37 c0P := fun k N N' Y pc L rest h Q idx len z x Y' As b q0 q1 q2 q3 q4 q5 q6 q7 q8 q9 q10 q11 q12 => fun P0 hP0 => hP0.2.2.2.1 _ _ _ _ _ _ _ _ _ _ _ _ _ _ _ _ q0 q1 q2 q3 q4 q5 q6 q7 q8 q9 q10 q11 (hP0.1.1 _ _ _ _ _ _ _ _ _ (fun r h' z => ⟨z.1.1, (x_m (fun r2 h3 y => ⟨y.1, z.2.trans y.2⟩) z.1.2) P0 hP0⟩) (q12 P0 hP0))
theorem c0_c38 : pm_c38 c0P := fun k N N' Y pc L rest h Q idx len z x Y' As q0 q1 q2 q3 q4 q5 q6 q7 q8 => fun P0 hP0 => hP0.2.2.2.2.1 _ _ _ _ _ _ _ _ _ _ _ _ _ _ _ q0 q1 q2 q3 q4 q5 q6 q7 (hP0.1.1 _ _ _ _ _ _ _ _ _ (fun r h' z => ⟨z.1.1, (x_m (fun r2 h3 y => ⟨y.1, z.2.trans y.2⟩) z.1.2) P0 hP0⟩) (q8 P0 hP0))
theorem c0_c39 : pm_c39 c0P := fun k N N' Y pc L rest h Q idx len z x Y' As b q0 q1 q2 q3 q4 q5 q6 q7 q8 => fun P0 hP0 => hP0.2.2.2.2.2.1 _ _ _ _ _ _ _ _ _ _ _ _ _ _ _ _ q0 q1 q2 q3 q4 q5 q6 q7 (hP0.1.1 _ _ _ _ _ _ _ _ _ (fun r h' z => ⟨z.1.1, (x_m (fun r2 h3 y => ⟨y.1, z.2.trans y.2⟩) z.1.2) P0 hP0⟩) (q8 P0 hP0))
theorem c0_c40 : pm_c40 c0P := fun k N Y pc L rest h Q idx len x b q0 q1 q2 q3 => fun P0 hP0 => hP0.2.2.2.2.2.2.1 _ _ _ _ _ _ _ _ _ _ _ _ q0 q1 q2 (q3 P0 hP0)
theorem c0_c41 : pm_c41 c0P := fun k N Y pc L rest h Q idx len x a b sp dp n q0 q1 q2 q3 q4 q5 q6 q7 q8 q9 q10 q11 q12 q13 q14 => fun P0 hP0 => hP0.2.2.2.2.2.2.2.1 _ _ _ _ _ _ _ _ _ _ _ _ _ _ _ _ q0 q1 q2 q3 q4 q5 q6 q7 q8 q9 q10 q11 q12 q13 (x_m (fun r h2 z => ⟨z.1, c0_cpy q5 z.2⟩) q14 P0 hP0)
theorem c0_c42 : pm_c42 c0P := fun k N Y pc L h Q len x v q0 q1 q2 => fun P0 hP0 => hP0.2.2.2.2.2.2.2.2.1 _ _ _ _ _ _ _ _ _ _ q0 q1 ⟨q2, c0.refl _⟩
theorem c0_c43 : pm_c43 c0P := fun k N Y pc L h Q len x v q0 q1 q2 => fun P0 hP0 => hP0.2.2.2.2.2.2.2.2.2.1 _ _ _ _ _ _ _ _ _ _ q0 q1 ⟨q2, c0.refl _⟩
theorem c0_c44 : pm_c44 c0P := fun k N Y pc L h Q len x q0 q1 q2 => fun P0 hP0 => hP0.2.2.2.2.2.2.2.2.2.2 _ _ _ _ _ _ _ _ _ q0 q1 ⟨q2, c0.refl _⟩
theorem Px_c0 {k N : Nat} {Y : pm_M} {pc : Nat} {L st : List Value} {h : pm_H} {Q : Option Value → pm_H → Prop} (hk : Px k N Y pc L st h Q) : Px k N Y pc L st h (fun r h2 => Q r h2 ∧ c0 h h2) :=
  hk c0P ⟨⟨c0_c0, c0_c1, c0_c2, c0_c3, c0_c4, c0_c5, c0_c6, c0_c7, c0_c8, c0_c9, c0_c10, c0_c11⟩, ⟨c0_c12, c0_c13, c0_c14, c0_c15, c0_c16, c0_c17, c0_c18, c0_c19, c0_c20, c0_c21, c0_c22, c0_c23, c0_c24⟩, ⟨c0_c25, c0_c26, c0_c27, c0_c28, c0_c29, c0_c30, c0_c31, c0_c32, c0_c33, c0_c34, c0_c35, c0_c36⟩, c0_c37, c0_c38, c0_c39, c0_c40, c0_c41, c0_c42, c0_c43, c0_c44⟩
