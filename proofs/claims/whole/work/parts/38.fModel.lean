def F_Mo_turned_269 (u : Nat) (K17 : Int32 → Int32 → Int32 → pm_II → pm_JJ → Option (Unit × pm_II × pm_JJ)) (K65 : Int32 → Int32 → Int32 → Int32 → Int32 → Int32 → Int32 → Int32 → Int32 → Int32 → Int32 → Int32 → pm_II → pm_JJ → Option (Unit × pm_II × pm_JJ)) (x1 : Int32) (x2 : Int32) (x3 : Int32) (x4 : Int32) (x5 : Int32) (x6 : Int32) (x7 : Int32) (x8 : Int32) (x9 : Int32) (x10 : Int32) (x11 : Int32) (x12 : Int32) (x14 : Int32) (x15 : Int32) (s0 : Int32) (I : pm_II) (J : pm_JJ) : Option (Unit × pm_II × pm_JJ) :=
  if x14 = 0 then (
    K65 x1 x2 x3 s0 x5 x15 x7 x8 (x9 * (2 : Int32)) x10 x11 (x12 + Int32.ofInt 1) I J)
  else (
    K65 x1 x2 x3 x4 s0 x6 x15 x8 (x9 * (2 : Int32)) x10 x11 (x12 + Int32.ofInt 1) I J)
def F_Mo_turned_245 (u : Nat) (K17 : Int32 → Int32 → Int32 → pm_II → pm_JJ → Option (Unit × pm_II × pm_JJ)) (K65 : Int32 → Int32 → Int32 → Int32 → Int32 → Int32 → Int32 → Int32 → Int32 → Int32 → Int32 → Int32 → pm_II → pm_JJ → Option (Unit × pm_II × pm_JJ)) (x1 : Int32) (x2 : Int32) (x3 : Int32) (x4 : Int32) (x5 : Int32) (x6 : Int32) (x7 : Int32) (x8 : Int32) (x9 : Int32) (x10 : Int32) (x11 : Int32) (x12 : Int32) (x13 : Int32) (x14 : Int32) (x15 : Int32) (x16 : Int32) (I : pm_II) (J : pm_JJ) : Option (Unit × pm_II × pm_JJ) :=
  if x13 = 108 then (
    F_Mo_turned_269 u K17 K65 x1 x2 x3 x4 x5 x6 x7 x8 x9 x10 x11 x12 x14 x15 (x16 - x15) I J)
  else (
    if ¬ x13 = 116 then (
      F_Mo_turned_269 u K17 K65 x1 x2 x3 x4 x5 x6 x7 x8 x9 x10 x11 x12 x14 x15 x16 I J)
    else (
      F_Mo_turned_269 u K17 K65 x1 x2 x3 x4 x5 x6 x7 x8 x9 x10 x11 x12 x14 x15 (x16 - x15) I J))
def F_Mo_turned_225 (u : Nat) (K17 : Int32 → Int32 → Int32 → pm_II → pm_JJ → Option (Unit × pm_II × pm_JJ)) (K65 : Int32 → Int32 → Int32 → Int32 → Int32 → Int32 → Int32 → Int32 → Int32 → Int32 → Int32 → Int32 → pm_II → pm_JJ → Option (Unit × pm_II × pm_JJ)) (x1 : Int32) (x2 : Int32) (x3 : Int32) (x4 : Int32) (x5 : Int32) (x6 : Int32) (x7 : Int32) (x8 : Int32) (x9 : Int32) (x10 : Int32) (x12 : Int32) (x13 : Int32) (x14 : Int32) (x15 : Int32) (x16 : Int32) (s0 : Int32) (s1 : Int32) (I : pm_II) (J : pm_JJ) : Option (Unit × pm_II × pm_JJ) :=
  if s0 = s1 then (
    F_Mo_turned_245 u K17 K65 x1 x2 x3 x4 x5 x6 x7 x8 x9 x10 (0 : Int32) x12 x13 x14 x15 x16 I J)
  else (
    F_Mo_turned_245 u K17 K65 x1 x2 x3 x4 x5 x6 x7 x8 x9 x10 (1 : Int32) x12 x13 x14 x15 x16 I J)
def F_Mo_turned_211 (u : Nat) (K17 : Int32 → Int32 → Int32 → pm_II → pm_JJ → Option (Unit × pm_II × pm_JJ)) (K65 : Int32 → Int32 → Int32 → Int32 → Int32 → Int32 → Int32 → Int32 → Int32 → Int32 → Int32 → Int32 → pm_II → pm_JJ → Option (Unit × pm_II × pm_JJ)) (x1 : Int32) (x2 : Int32) (x3 : Int32) (x4 : Int32) (x5 : Int32) (x6 : Int32) (x7 : Int32) (x8 : Int32) (x9 : Int32) (x11 : Int32) (x12 : Int32) (x13 : Int32) (x14 : Int32) (x15 : Int32) (x16 : Int32) (s0 : Int32) (I : pm_II) (J : pm_JJ) : Option (Unit × pm_II × pm_JJ) :=
  if ¬ x14 = 0 then (
    F_Mo_turned_225 u K17 K65 x1 x2 x3 x4 x5 x6 x7 x8 x9 s0 x12 x13 x14 x15 x16 x11 (0 : Int32) I J)
  else (
    F_Mo_turned_225 u K17 K65 x1 x2 x3 x4 x5 x6 x7 x8 x9 s0 x12 x13 x14 x15 x16 x11 (1 : Int32) I J)
def F_Mo_turned_174 (u : Nat) (K17 : Int32 → Int32 → Int32 → pm_II → pm_JJ → Option (Unit × pm_II × pm_JJ)) (K65 : Int32 → Int32 → Int32 → Int32 → Int32 → Int32 → Int32 → Int32 → Int32 → Int32 → Int32 → Int32 → pm_II → pm_JJ → Option (Unit × pm_II × pm_JJ)) (x1 : Int32) (x2 : Int32) (x3 : Int32) (x4 : Int32) (x5 : Int32) (x6 : Int32) (x7 : Int32) (x8 : Int32) (x9 : Int32) (x10 : Int32) (x11 : Int32) (x12 : Int32) (x13 : Int32) (x14 : Int32) (x15 : Int32) (x16 : Int32) (s0 : Int32) (I : pm_II) (J : pm_JJ) : Option (Unit × pm_II × pm_JJ) :=
  if s0 = 0 then (
    F_Mo_turned_245 u K17 K65 x1 x2 x3 x4 x5 x6 x7 (x8 + x9) x9 x10 x11 x12 x13 x14 x15 x16 I J)
  else (
    if ¬ x10 = 0 then (
      F_Mo_turned_211 u K17 K65 x1 x2 x3 x4 x5 x6 x7 ((x9 - (1 : Int32)) - x8) x9 x11 x12 x13 x14 x15 ((((2 : Int32) * x15) - (1 : Int32)) - x16) (0 : Int32) I J)
    else (
      F_Mo_turned_211 u K17 K65 x1 x2 x3 x4 x5 x6 x7 ((x9 - (1 : Int32)) - x8) x9 x11 x12 x13 x14 x15 ((((2 : Int32) * x15) - (1 : Int32)) - x16) (1 : Int32) I J))
def F_Mo_turned_147 (u : Nat) (K17 : Int32 → Int32 → Int32 → pm_II → pm_JJ → Option (Unit × pm_II × pm_JJ)) (K65 : Int32 → Int32 → Int32 → Int32 → Int32 → Int32 → Int32 → Int32 → Int32 → Int32 → Int32 → Int32 → pm_II → pm_JJ → Option (Unit × pm_II × pm_JJ)) (x1 : Int32) (x2 : Int32) (x3 : Int32) (x4 : Int32) (x5 : Int32) (x6 : Int32) (x7 : Int32) (x8 : Int32) (x9 : Int32) (x10 : Int32) (x11 : Int32) (x12 : Int32) (x13 : Int32) (x14 : Int32) (x15 : Int32) (x16 : Int32) (I : pm_II) (J : pm_JJ) : Option (Unit × pm_II × pm_JJ) :=
  if x15 ≤ x16 then (
    F_Mo_turned_174 u K17 K65 x1 x2 x3 x4 x5 x6 x7 x8 x9 x10 x11 x12 x13 x14 x15 x16 (0 : Int32) I J)
  else (
    F_Mo_turned_174 u K17 K65 x1 x2 x3 x4 x5 x6 x7 x8 x9 x10 x11 x12 x13 x14 x15 x16 (1 : Int32) I J)
def F_Mo_turned_131 (u : Nat) (K17 : Int32 → Int32 → Int32 → pm_II → pm_JJ → Option (Unit × pm_II × pm_JJ)) (K65 : Int32 → Int32 → Int32 → Int32 → Int32 → Int32 → Int32 → Int32 → Int32 → Int32 → Int32 → Int32 → pm_II → pm_JJ → Option (Unit × pm_II × pm_JJ)) (x1 : Int32) (x2 : Int32) (x3 : Int32) (x4 : Int32) (x5 : Int32) (x6 : Int32) (x7 : Int32) (x8 : Int32) (x9 : Int32) (x10 : Int32) (x11 : Int32) (x12 : Int32) (x13 : Int32) (x14 : Int32) (x15 : Int32) (s0 : Int32) (I : pm_II) (J : pm_JJ) : Option (Unit × pm_II × pm_JJ) :=
  if x13 = 108 then (
    F_Mo_turned_147 u K17 K65 x1 x2 x3 x4 x5 x6 x7 x8 x9 x10 x11 x12 x13 x14 x15 s0 I J)
  else (
    if ¬ x13 = 116 then (
      if s0 < x15 then (
        F_Mo_turned_174 u K17 K65 x1 x2 x3 x4 x5 x6 x7 x8 x9 x10 x11 x12 x13 x14 x15 s0 (0 : Int32) I J)
      else (
        F_Mo_turned_174 u K17 K65 x1 x2 x3 x4 x5 x6 x7 x8 x9 x10 x11 x12 x13 x14 x15 s0 (1 : Int32) I J))
    else (
      F_Mo_turned_147 u K17 K65 x1 x2 x3 x4 x5 x6 x7 x8 x9 x10 x11 x12 x13 x14 x15 s0 I J))
def F_Mo_turned_117 (u : Nat) (K17 : Int32 → Int32 → Int32 → pm_II → pm_JJ → Option (Unit × pm_II × pm_JJ)) (K65 : Int32 → Int32 → Int32 → Int32 → Int32 → Int32 → Int32 → Int32 → Int32 → Int32 → Int32 → Int32 → pm_II → pm_JJ → Option (Unit × pm_II × pm_JJ)) (x1 : Int32) (x2 : Int32) (x3 : Int32) (x4 : Int32) (x5 : Int32) (x6 : Int32) (x7 : Int32) (x8 : Int32) (x9 : Int32) (x10 : Int32) (x11 : Int32) (x12 : Int32) (x13 : Int32) (x14 : Int32) (s0 : Int32) (I : pm_II) (J : pm_JJ) : Option (Unit × pm_II × pm_JJ) :=
  if x14 = 0 then (
    F_Mo_turned_131 u K17 K65 x1 x2 x3 x4 x5 x6 x7 x8 x9 x10 x11 x12 x13 x14 s0 x4 I J)
  else (
    F_Mo_turned_131 u K17 K65 x1 x2 x3 x4 x5 x6 x7 x8 x9 x10 x11 x12 x13 x14 s0 x5 I J)
def F_Mo_turned_99 (u : Nat) (K17 : Int32 → Int32 → Int32 → pm_II → pm_JJ → Option (Unit × pm_II × pm_JJ)) (K65 : Int32 → Int32 → Int32 → Int32 → Int32 → Int32 → Int32 → Int32 → Int32 → Int32 → Int32 → Int32 → pm_II → pm_JJ → Option (Unit × pm_II × pm_JJ)) (x1 : Int32) (x2 : Int32) (x3 : Int32) (x4 : Int32) (x5 : Int32) (x6 : Int32) (x7 : Int32) (x8 : Int32) (x9 : Int32) (x10 : Int32) (x11 : Int32) (x12 : Int32) (x13 : Int32) (s0 : Int32) (I : pm_II) (J : pm_JJ) : Option (Unit × pm_II × pm_JJ) :=
  if s0 = 0 then (
    F_Mo_turned_117 u K17 K65 x1 x2 x3 x4 x5 x6 x7 x8 x9 x10 x11 x12 x13 s0 (x6 / 2) I J)
  else (
    F_Mo_turned_117 u K17 K65 x1 x2 x3 x4 x5 x6 x7 x8 x9 x10 x11 x12 x13 s0 (x7 / 2) I J)
def F_Mo_turned_65 (u : Nat) (K17 : Int32 → Int32 → Int32 → pm_II → pm_JJ → Option (Unit × pm_II × pm_JJ)) : Nat → Int32 → Int32 → Int32 → Int32 → Int32 → Int32 → Int32 → Int32 → Int32 → Int32 → Int32 → Int32 → pm_II → pm_JJ → Option (Unit × pm_II × pm_JJ)
  | 0, _, _, _, _, _, _, _, _, _, _, _, _, _, _ => none
  | n + 1, x1, x2, x3, x4, x5, x6, x7, x8, x9, x10, x11, x12, I, J =>
    if x1 ≤ x12 then (
      if ¬ (I 120 19) = 0 then (
      if ¬ (I 120 19) = 0 then (
      cond (vq (((8 : Int32) * (x3 / (I 120 19))) + (x3 - x3 / (I 120 19) * (I 120 19))) 64) (
      if ¬ (I 120 19) = 0 then (
      if ¬ (I 120 19) = 0 then (
      cond (vq (((8 : Int32) * (x3 / (I 120 19))) + (x3 - x3 / (I 120 19) * (I 120 19))) 64) (
      if (x10 = 0 ∨ x10 = 1) then (
      if ¬ (I 120 19) = 0 then (
      if ¬ (I 120 19) = 0 then (
      cond (vq (((8 : Int32) * (x3 / (I 120 19))) + (x3 - x3 / (I 120 19) * (I 120 19))) 64) (
      if (x11 = 0 ∨ x11 = 1) then (
      K17 x1 x2 (x3 + Int32.ofInt 1) (pm_up (pm_up (pm_up I 132 (((((8 : Int32) * (x3 / (I 120 19))) + (x3 - x3 / (I 120 19) * (I 120 19))) : Int32).toNatClampNeg) x8) 133 (((((8 : Int32) * (x3 / (I 120 19))) + (x3 - x3 / (I 120 19) * (I 120 19))) : Int32).toNatClampNeg) x10) 134 (((((8 : Int32) * (x3 / (I 120 19))) + (x3 - x3 / (I 120 19) * (I 120 19))) : Int32).toNatClampNeg) x11) J) else none) none) else none) else none) else none) none) else none) else none) none) else none) else none)
    else (
      cond (vq x12 6) (
      if (I 131 ((x12 : Int32).toNatClampNeg)) = 108 then (
        F_Mo_turned_99 u K17 (F_Mo_turned_65 u K17 n) x1 x2 x3 x4 x5 x6 x7 x8 x9 x10 x11 x12 (I 131 ((x12 : Int32).toNatClampNeg)) (1 : Int32) I J)
      else (
        if ¬ (I 131 ((x12 : Int32).toNatClampNeg)) = 114 then (
          F_Mo_turned_99 u K17 (F_Mo_turned_65 u K17 n) x1 x2 x3 x4 x5 x6 x7 x8 x9 x10 x11 x12 (I 131 ((x12 : Int32).toNatClampNeg)) (0 : Int32) I J)
        else (
          F_Mo_turned_99 u K17 (F_Mo_turned_65 u K17 n) x1 x2 x3 x4 x5 x6 x7 x8 x9 x10 x11 x12 (I 131 ((x12 : Int32).toNatClampNeg)) (1 : Int32) I J))) none)
def F_Mo_turned_17 (u : Nat) : Nat → Int32 → Int32 → Int32 → pm_II → pm_JJ → Option (Unit × pm_II × pm_JJ)
  | 0, _, _, _, _, _ => none
  | n + 1, x1, x2, x3, I, J =>
    if x2 ≤ x3 then (
      some ((), I, J))
    else (
      if ¬ (I 120 19) = 0 then (
      if ¬ (I 120 19) = 0 then (
      F_Mo_turned_65 u (F_Mo_turned_17 u n) u x1 x2 x3 (x3 / (I 120 19)) (x3 - x3 / (I 120 19) * (I 120 19)) (I 120 18) (I 120 19) (0 : Int32) (1 : Int32) (0 : Int32) (0 : Int32) (0 : Int32) I J) else none) else none)
def F_Mo_turned (u : Nat) (I : pm_II) (J : pm_JJ) : Option (Unit × pm_II × pm_JJ) :=
  F_Mo_turned_17 u u (I 120 27) ((I 120 18) * (I 120 19)) (0 : Int32) I J
theorem fx_Mo_turned_269 {u k : Nat} {pa pb : Nat} {ga : Nat → Nat} {Q : Option Value → pm_H → Prop} {K17 : Int32 → Int32 → Int32 → pm_II → pm_JJ → Option (Unit × pm_II × pm_JJ)} {K65 : Int32 → Int32 → Int32 → Int32 → Int32 → Int32 → Int32 → Int32 → Int32 → Int32 → Int32 → Int32 → pm_II → pm_JJ → Option (Unit × pm_II × pm_JJ)} {x1 : Int32} {x2 : Int32} {x3 : Int32} {x4 : Int32} {x5 : Int32} {x6 : Int32} {x7 : Int32} {x8 : Int32} {x9 : Int32} {x10 : Int32} {x11 : Int32} {x12 : Int32} {x13 : Int32} {x14 : Int32} {x15 : Int32} {x16 : Int32} {x17 : Int32} {s0 : Int32} {I : pm_II} {J : pm_JJ} {r : Unit} {I2 : pm_II} {J2 : pm_JJ} (hk : 0 ≤ k) (hK17 : ∀ (x1 : Int32) (x2 : Int32) (x3 : Int32) (I : pm_II) (J : pm_JJ) (r : Unit) (I2 : pm_II) (J2 : pm_JJ), K17 x1 x2 x3 I J = some (r, I2, J2) → Q none (hp I2 J2 (pm_RT pa pb ga)) → Px k 176 m_Mo_turned 17 [.ref 120, .int x1, .int x2, .int x3, .null, .null, .null, .null, .null, .null, .null, .null, .null, .null, .null, .null, .null, .null] [] (hp I J (pm_RT pa pb ga)) Q) (hK65 : ∀ (x1 : Int32) (x2 : Int32) (x3 : Int32) (x4 : Int32) (x5 : Int32) (x6 : Int32) (x7 : Int32) (x8 : Int32) (x9 : Int32) (x10 : Int32) (x11 : Int32) (x12 : Int32) (I : pm_II) (J : pm_JJ) (r : Unit) (I2 : pm_II) (J2 : pm_JJ), K65 x1 x2 x3 x4 x5 x6 x7 x8 x9 x10 x11 x12 I J = some (r, I2, J2) → Q none (hp I2 J2 (pm_RT pa pb ga)) → Px k 176 m_Mo_turned 65 [.ref 120, .int x1, .int x2, .int x3, .int x4, .int x5, .int x6, .int x7, .int x8, .int x9, .int x10, .int x11, .int x12, .null, .null, .null, .null, .null] [] (hp I J (pm_RT pa pb ga)) Q) (hF : F_Mo_turned_269 u K17 K65 x1 x2 x3 x4 x5 x6 x7 x8 x9 x10 x11 x12 x14 x15 s0 I J = some (r, I2, J2)) (hQ : Q none (hp I2 J2 (pm_RT pa pb ga))) : Px k 176 m_Mo_turned 269 [.ref 120, .int x1, .int x2, .int x3, .int x4, .int x5, .int x6, .int x7, .int x8, .int x9, .int x10, .int x11, .int x12, .int x13, .int x14, .int x15, .int x16, .int x17] [.int s0] (hp I J (pm_RT pa pb ga)) Q := by
  unfold F_Mo_turned_269 at hF
  refine bk_Mo_turned_269 ?_
  refine ⟨fun z => ?_, fun z => ?_⟩
  · rw [if_pos z] at hF
    exact Px_wk (hK65 _ _ _ _ _ _ _ _ _ _ _ _ _ _ _ _ _ hF hQ) ⟨Or.inl rfl, Or.inl rfl, Or.inl rfl, Or.inl rfl, Or.inl rfl, Or.inl rfl, Or.inl rfl, Or.inl rfl, Or.inl rfl, Or.inl rfl, Or.inl rfl, Or.inl rfl, Or.inl rfl, Or.inr ⟨rfl, rfl⟩, Or.inr ⟨rfl, rfl⟩, Or.inr ⟨rfl, rfl⟩, Or.inr ⟨rfl, rfl⟩, Or.inr ⟨rfl, rfl⟩, trivial⟩
  · rw [if_neg z] at hF
    exact Px_wk (hK65 _ _ _ _ _ _ _ _ _ _ _ _ _ _ _ _ _ hF hQ) ⟨Or.inl rfl, Or.inl rfl, Or.inl rfl, Or.inl rfl, Or.inl rfl, Or.inl rfl, Or.inl rfl, Or.inl rfl, Or.inl rfl, Or.inl rfl, Or.inl rfl, Or.inl rfl, Or.inl rfl, Or.inr ⟨rfl, rfl⟩, Or.inr ⟨rfl, rfl⟩, Or.inr ⟨rfl, rfl⟩, Or.inr ⟨rfl, rfl⟩, Or.inr ⟨rfl, rfl⟩, trivial⟩
theorem fx_Mo_turned_245 {u k : Nat} {pa pb : Nat} {ga : Nat → Nat} {Q : Option Value → pm_H → Prop} {K17 : Int32 → Int32 → Int32 → pm_II → pm_JJ → Option (Unit × pm_II × pm_JJ)} {K65 : Int32 → Int32 → Int32 → Int32 → Int32 → Int32 → Int32 → Int32 → Int32 → Int32 → Int32 → Int32 → pm_II → pm_JJ → Option (Unit × pm_II × pm_JJ)} {x1 : Int32} {x2 : Int32} {x3 : Int32} {x4 : Int32} {x5 : Int32} {x6 : Int32} {x7 : Int32} {x8 : Int32} {x9 : Int32} {x10 : Int32} {x11 : Int32} {x12 : Int32} {x13 : Int32} {x14 : Int32} {x15 : Int32} {x16 : Int32} {x17 : Int32} {I : pm_II} {J : pm_JJ} {r : Unit} {I2 : pm_II} {J2 : pm_JJ} (hk : 0 ≤ k) (hK17 : ∀ (x1 : Int32) (x2 : Int32) (x3 : Int32) (I : pm_II) (J : pm_JJ) (r : Unit) (I2 : pm_II) (J2 : pm_JJ), K17 x1 x2 x3 I J = some (r, I2, J2) → Q none (hp I2 J2 (pm_RT pa pb ga)) → Px k 176 m_Mo_turned 17 [.ref 120, .int x1, .int x2, .int x3, .null, .null, .null, .null, .null, .null, .null, .null, .null, .null, .null, .null, .null, .null] [] (hp I J (pm_RT pa pb ga)) Q) (hK65 : ∀ (x1 : Int32) (x2 : Int32) (x3 : Int32) (x4 : Int32) (x5 : Int32) (x6 : Int32) (x7 : Int32) (x8 : Int32) (x9 : Int32) (x10 : Int32) (x11 : Int32) (x12 : Int32) (I : pm_II) (J : pm_JJ) (r : Unit) (I2 : pm_II) (J2 : pm_JJ), K65 x1 x2 x3 x4 x5 x6 x7 x8 x9 x10 x11 x12 I J = some (r, I2, J2) → Q none (hp I2 J2 (pm_RT pa pb ga)) → Px k 176 m_Mo_turned 65 [.ref 120, .int x1, .int x2, .int x3, .int x4, .int x5, .int x6, .int x7, .int x8, .int x9, .int x10, .int x11, .int x12, .null, .null, .null, .null, .null] [] (hp I J (pm_RT pa pb ga)) Q) (hF : F_Mo_turned_245 u K17 K65 x1 x2 x3 x4 x5 x6 x7 x8 x9 x10 x11 x12 x13 x14 x15 x16 I J = some (r, I2, J2)) (hQ : Q none (hp I2 J2 (pm_RT pa pb ga))) : Px k 176 m_Mo_turned 245 [.ref 120, .int x1, .int x2, .int x3, .int x4, .int x5, .int x6, .int x7, .int x8, .int x9, .int x10, .int x11, .int x12, .int x13, .int x14, .int x15, .int x16, .int x17] [] (hp I J (pm_RT pa pb ga)) Q := by
  unfold F_Mo_turned_245 at hF
  refine bk_Mo_turned_245 ?_
  refine ⟨fun z => ?_, fun z => ?_⟩
  · rw [if_pos z] at hF
    exact fx_Mo_turned_269 hk hK17 hK65 hF hQ
  · rw [if_neg z] at hF
    refine ⟨fun z => ?_, fun z => ?_⟩
    · rw [if_pos z] at hF
      exact fx_Mo_turned_269 hk hK17 hK65 hF hQ
    · rw [if_neg z] at hF
      exact fx_Mo_turned_269 hk hK17 hK65 hF hQ
theorem fx_Mo_turned_225 {u k : Nat} {pa pb : Nat} {ga : Nat → Nat} {Q : Option Value → pm_H → Prop} {K17 : Int32 → Int32 → Int32 → pm_II → pm_JJ → Option (Unit × pm_II × pm_JJ)} {K65 : Int32 → Int32 → Int32 → Int32 → Int32 → Int32 → Int32 → Int32 → Int32 → Int32 → Int32 → Int32 → pm_II → pm_JJ → Option (Unit × pm_II × pm_JJ)} {x1 : Int32} {x2 : Int32} {x3 : Int32} {x4 : Int32} {x5 : Int32} {x6 : Int32} {x7 : Int32} {x8 : Int32} {x9 : Int32} {x10 : Int32} {x11 : Int32} {x12 : Int32} {x13 : Int32} {x14 : Int32} {x15 : Int32} {x16 : Int32} {x17 : Int32} {s0 : Int32} {s1 : Int32} {I : pm_II} {J : pm_JJ} {r : Unit} {I2 : pm_II} {J2 : pm_JJ} (hk : 0 ≤ k) (hK17 : ∀ (x1 : Int32) (x2 : Int32) (x3 : Int32) (I : pm_II) (J : pm_JJ) (r : Unit) (I2 : pm_II) (J2 : pm_JJ), K17 x1 x2 x3 I J = some (r, I2, J2) → Q none (hp I2 J2 (pm_RT pa pb ga)) → Px k 176 m_Mo_turned 17 [.ref 120, .int x1, .int x2, .int x3, .null, .null, .null, .null, .null, .null, .null, .null, .null, .null, .null, .null, .null, .null] [] (hp I J (pm_RT pa pb ga)) Q) (hK65 : ∀ (x1 : Int32) (x2 : Int32) (x3 : Int32) (x4 : Int32) (x5 : Int32) (x6 : Int32) (x7 : Int32) (x8 : Int32) (x9 : Int32) (x10 : Int32) (x11 : Int32) (x12 : Int32) (I : pm_II) (J : pm_JJ) (r : Unit) (I2 : pm_II) (J2 : pm_JJ), K65 x1 x2 x3 x4 x5 x6 x7 x8 x9 x10 x11 x12 I J = some (r, I2, J2) → Q none (hp I2 J2 (pm_RT pa pb ga)) → Px k 176 m_Mo_turned 65 [.ref 120, .int x1, .int x2, .int x3, .int x4, .int x5, .int x6, .int x7, .int x8, .int x9, .int x10, .int x11, .int x12, .null, .null, .null, .null, .null] [] (hp I J (pm_RT pa pb ga)) Q) (hF : F_Mo_turned_225 u K17 K65 x1 x2 x3 x4 x5 x6 x7 x8 x9 x10 x12 x13 x14 x15 x16 s0 s1 I J = some (r, I2, J2)) (hQ : Q none (hp I2 J2 (pm_RT pa pb ga))) : Px k 176 m_Mo_turned 225 [.ref 120, .int x1, .int x2, .int x3, .int x4, .int x5, .int x6, .int x7, .int x8, .int x9, .int x10, .int x11, .int x12, .int x13, .int x14, .int x15, .int x16, .int x17] [.int s1, .int s0] (hp I J (pm_RT pa pb ga)) Q := by
  unfold F_Mo_turned_225 at hF
  refine bk_Mo_turned_225 ?_
  refine ⟨fun z => ?_, fun z => ?_⟩
  · rw [if_pos z] at hF
    exact fx_Mo_turned_245 hk hK17 hK65 hF hQ
  · rw [if_neg z] at hF
    exact fx_Mo_turned_245 hk hK17 hK65 hF hQ
theorem fx_Mo_turned_211 {u k : Nat} {pa pb : Nat} {ga : Nat → Nat} {Q : Option Value → pm_H → Prop} {K17 : Int32 → Int32 → Int32 → pm_II → pm_JJ → Option (Unit × pm_II × pm_JJ)} {K65 : Int32 → Int32 → Int32 → Int32 → Int32 → Int32 → Int32 → Int32 → Int32 → Int32 → Int32 → Int32 → pm_II → pm_JJ → Option (Unit × pm_II × pm_JJ)} {x1 : Int32} {x2 : Int32} {x3 : Int32} {x4 : Int32} {x5 : Int32} {x6 : Int32} {x7 : Int32} {x8 : Int32} {x9 : Int32} {x10 : Int32} {x11 : Int32} {x12 : Int32} {x13 : Int32} {x14 : Int32} {x15 : Int32} {x16 : Int32} {x17 : Int32} {s0 : Int32} {I : pm_II} {J : pm_JJ} {r : Unit} {I2 : pm_II} {J2 : pm_JJ} (hk : 0 ≤ k) (hK17 : ∀ (x1 : Int32) (x2 : Int32) (x3 : Int32) (I : pm_II) (J : pm_JJ) (r : Unit) (I2 : pm_II) (J2 : pm_JJ), K17 x1 x2 x3 I J = some (r, I2, J2) → Q none (hp I2 J2 (pm_RT pa pb ga)) → Px k 176 m_Mo_turned 17 [.ref 120, .int x1, .int x2, .int x3, .null, .null, .null, .null, .null, .null, .null, .null, .null, .null, .null, .null, .null, .null] [] (hp I J (pm_RT pa pb ga)) Q) (hK65 : ∀ (x1 : Int32) (x2 : Int32) (x3 : Int32) (x4 : Int32) (x5 : Int32) (x6 : Int32) (x7 : Int32) (x8 : Int32) (x9 : Int32) (x10 : Int32) (x11 : Int32) (x12 : Int32) (I : pm_II) (J : pm_JJ) (r : Unit) (I2 : pm_II) (J2 : pm_JJ), K65 x1 x2 x3 x4 x5 x6 x7 x8 x9 x10 x11 x12 I J = some (r, I2, J2) → Q none (hp I2 J2 (pm_RT pa pb ga)) → Px k 176 m_Mo_turned 65 [.ref 120, .int x1, .int x2, .int x3, .int x4, .int x5, .int x6, .int x7, .int x8, .int x9, .int x10, .int x11, .int x12, .null, .null, .null, .null, .null] [] (hp I J (pm_RT pa pb ga)) Q) (hF : F_Mo_turned_211 u K17 K65 x1 x2 x3 x4 x5 x6 x7 x8 x9 x11 x12 x13 x14 x15 x16 s0 I J = some (r, I2, J2)) (hQ : Q none (hp I2 J2 (pm_RT pa pb ga))) : Px k 176 m_Mo_turned 211 [.ref 120, .int x1, .int x2, .int x3, .int x4, .int x5, .int x6, .int x7, .int x8, .int x9, .int x10, .int x11, .int x12, .int x13, .int x14, .int x15, .int x16, .int x17] [.int s0] (hp I J (pm_RT pa pb ga)) Q := by
  unfold F_Mo_turned_211 at hF
  refine bk_Mo_turned_211 ?_
  refine ⟨fun z => ?_, fun z => ?_⟩
  · rw [if_pos z] at hF
    exact fx_Mo_turned_225 hk hK17 hK65 hF hQ
  · rw [if_neg z] at hF
    exact fx_Mo_turned_225 hk hK17 hK65 hF hQ
theorem fx_Mo_turned_174 {u k : Nat} {pa pb : Nat} {ga : Nat → Nat} {Q : Option Value → pm_H → Prop} {K17 : Int32 → Int32 → Int32 → pm_II → pm_JJ → Option (Unit × pm_II × pm_JJ)} {K65 : Int32 → Int32 → Int32 → Int32 → Int32 → Int32 → Int32 → Int32 → Int32 → Int32 → Int32 → Int32 → pm_II → pm_JJ → Option (Unit × pm_II × pm_JJ)} {x1 : Int32} {x2 : Int32} {x3 : Int32} {x4 : Int32} {x5 : Int32} {x6 : Int32} {x7 : Int32} {x8 : Int32} {x9 : Int32} {x10 : Int32} {x11 : Int32} {x12 : Int32} {x13 : Int32} {x14 : Int32} {x15 : Int32} {x16 : Int32} {s0 : Int32} {I : pm_II} {J : pm_JJ} {r : Unit} {I2 : pm_II} {J2 : pm_JJ} (hk : 0 ≤ k) (hK17 : ∀ (x1 : Int32) (x2 : Int32) (x3 : Int32) (I : pm_II) (J : pm_JJ) (r : Unit) (I2 : pm_II) (J2 : pm_JJ), K17 x1 x2 x3 I J = some (r, I2, J2) → Q none (hp I2 J2 (pm_RT pa pb ga)) → Px k 176 m_Mo_turned 17 [.ref 120, .int x1, .int x2, .int x3, .null, .null, .null, .null, .null, .null, .null, .null, .null, .null, .null, .null, .null, .null] [] (hp I J (pm_RT pa pb ga)) Q) (hK65 : ∀ (x1 : Int32) (x2 : Int32) (x3 : Int32) (x4 : Int32) (x5 : Int32) (x6 : Int32) (x7 : Int32) (x8 : Int32) (x9 : Int32) (x10 : Int32) (x11 : Int32) (x12 : Int32) (I : pm_II) (J : pm_JJ) (r : Unit) (I2 : pm_II) (J2 : pm_JJ), K65 x1 x2 x3 x4 x5 x6 x7 x8 x9 x10 x11 x12 I J = some (r, I2, J2) → Q none (hp I2 J2 (pm_RT pa pb ga)) → Px k 176 m_Mo_turned 65 [.ref 120, .int x1, .int x2, .int x3, .int x4, .int x5, .int x6, .int x7, .int x8, .int x9, .int x10, .int x11, .int x12, .null, .null, .null, .null, .null] [] (hp I J (pm_RT pa pb ga)) Q) (hF : F_Mo_turned_174 u K17 K65 x1 x2 x3 x4 x5 x6 x7 x8 x9 x10 x11 x12 x13 x14 x15 x16 s0 I J = some (r, I2, J2)) (hQ : Q none (hp I2 J2 (pm_RT pa pb ga))) : Px k 176 m_Mo_turned 174 [.ref 120, .int x1, .int x2, .int x3, .int x4, .int x5, .int x6, .int x7, .int x8, .int x9, .int x10, .int x11, .int x12, .int x13, .int x14, .int x15, .int x16, .null] [.int s0] (hp I J (pm_RT pa pb ga)) Q := by
  unfold F_Mo_turned_174 at hF
  refine bk_Mo_turned_174 ?_
  refine ⟨fun z => ?_, fun z => ?_⟩
  · rw [if_pos z] at hF
    exact fx_Mo_turned_245 hk hK17 hK65 hF hQ
  · rw [if_neg z] at hF
    refine ⟨fun z => ?_, fun z => ?_⟩
    · rw [if_pos z] at hF
      exact fx_Mo_turned_211 hk hK17 hK65 hF hQ
    · rw [if_neg z] at hF
      exact fx_Mo_turned_211 hk hK17 hK65 hF hQ
theorem fx_Mo_turned_147 {u k : Nat} {pa pb : Nat} {ga : Nat → Nat} {Q : Option Value → pm_H → Prop} {K17 : Int32 → Int32 → Int32 → pm_II → pm_JJ → Option (Unit × pm_II × pm_JJ)} {K65 : Int32 → Int32 → Int32 → Int32 → Int32 → Int32 → Int32 → Int32 → Int32 → Int32 → Int32 → Int32 → pm_II → pm_JJ → Option (Unit × pm_II × pm_JJ)} {x1 : Int32} {x2 : Int32} {x3 : Int32} {x4 : Int32} {x5 : Int32} {x6 : Int32} {x7 : Int32} {x8 : Int32} {x9 : Int32} {x10 : Int32} {x11 : Int32} {x12 : Int32} {x13 : Int32} {x14 : Int32} {x15 : Int32} {x16 : Int32} {I : pm_II} {J : pm_JJ} {r : Unit} {I2 : pm_II} {J2 : pm_JJ} (hk : 0 ≤ k) (hK17 : ∀ (x1 : Int32) (x2 : Int32) (x3 : Int32) (I : pm_II) (J : pm_JJ) (r : Unit) (I2 : pm_II) (J2 : pm_JJ), K17 x1 x2 x3 I J = some (r, I2, J2) → Q none (hp I2 J2 (pm_RT pa pb ga)) → Px k 176 m_Mo_turned 17 [.ref 120, .int x1, .int x2, .int x3, .null, .null, .null, .null, .null, .null, .null, .null, .null, .null, .null, .null, .null, .null] [] (hp I J (pm_RT pa pb ga)) Q) (hK65 : ∀ (x1 : Int32) (x2 : Int32) (x3 : Int32) (x4 : Int32) (x5 : Int32) (x6 : Int32) (x7 : Int32) (x8 : Int32) (x9 : Int32) (x10 : Int32) (x11 : Int32) (x12 : Int32) (I : pm_II) (J : pm_JJ) (r : Unit) (I2 : pm_II) (J2 : pm_JJ), K65 x1 x2 x3 x4 x5 x6 x7 x8 x9 x10 x11 x12 I J = some (r, I2, J2) → Q none (hp I2 J2 (pm_RT pa pb ga)) → Px k 176 m_Mo_turned 65 [.ref 120, .int x1, .int x2, .int x3, .int x4, .int x5, .int x6, .int x7, .int x8, .int x9, .int x10, .int x11, .int x12, .null, .null, .null, .null, .null] [] (hp I J (pm_RT pa pb ga)) Q) (hF : F_Mo_turned_147 u K17 K65 x1 x2 x3 x4 x5 x6 x7 x8 x9 x10 x11 x12 x13 x14 x15 x16 I J = some (r, I2, J2)) (hQ : Q none (hp I2 J2 (pm_RT pa pb ga))) : Px k 176 m_Mo_turned 147 [.ref 120, .int x1, .int x2, .int x3, .int x4, .int x5, .int x6, .int x7, .int x8, .int x9, .int x10, .int x11, .int x12, .int x13, .int x14, .int x15, .int x16, .null] [] (hp I J (pm_RT pa pb ga)) Q := by
  unfold F_Mo_turned_147 at hF
  refine bk_Mo_turned_147 ?_
  refine ⟨fun z => ?_, fun z => ?_⟩
  · rw [if_pos z] at hF
    exact fx_Mo_turned_174 hk hK17 hK65 hF hQ
  · rw [if_neg z] at hF
    exact fx_Mo_turned_174 hk hK17 hK65 hF hQ
theorem fx_Mo_turned_131 {u k : Nat} {pa pb : Nat} {ga : Nat → Nat} {Q : Option Value → pm_H → Prop} {K17 : Int32 → Int32 → Int32 → pm_II → pm_JJ → Option (Unit × pm_II × pm_JJ)} {K65 : Int32 → Int32 → Int32 → Int32 → Int32 → Int32 → Int32 → Int32 → Int32 → Int32 → Int32 → Int32 → pm_II → pm_JJ → Option (Unit × pm_II × pm_JJ)} {x1 : Int32} {x2 : Int32} {x3 : Int32} {x4 : Int32} {x5 : Int32} {x6 : Int32} {x7 : Int32} {x8 : Int32} {x9 : Int32} {x10 : Int32} {x11 : Int32} {x12 : Int32} {x13 : Int32} {x14 : Int32} {x15 : Int32} {s0 : Int32} {I : pm_II} {J : pm_JJ} {r : Unit} {I2 : pm_II} {J2 : pm_JJ} (hk : 0 ≤ k) (hK17 : ∀ (x1 : Int32) (x2 : Int32) (x3 : Int32) (I : pm_II) (J : pm_JJ) (r : Unit) (I2 : pm_II) (J2 : pm_JJ), K17 x1 x2 x3 I J = some (r, I2, J2) → Q none (hp I2 J2 (pm_RT pa pb ga)) → Px k 176 m_Mo_turned 17 [.ref 120, .int x1, .int x2, .int x3, .null, .null, .null, .null, .null, .null, .null, .null, .null, .null, .null, .null, .null, .null] [] (hp I J (pm_RT pa pb ga)) Q) (hK65 : ∀ (x1 : Int32) (x2 : Int32) (x3 : Int32) (x4 : Int32) (x5 : Int32) (x6 : Int32) (x7 : Int32) (x8 : Int32) (x9 : Int32) (x10 : Int32) (x11 : Int32) (x12 : Int32) (I : pm_II) (J : pm_JJ) (r : Unit) (I2 : pm_II) (J2 : pm_JJ), K65 x1 x2 x3 x4 x5 x6 x7 x8 x9 x10 x11 x12 I J = some (r, I2, J2) → Q none (hp I2 J2 (pm_RT pa pb ga)) → Px k 176 m_Mo_turned 65 [.ref 120, .int x1, .int x2, .int x3, .int x4, .int x5, .int x6, .int x7, .int x8, .int x9, .int x10, .int x11, .int x12, .null, .null, .null, .null, .null] [] (hp I J (pm_RT pa pb ga)) Q) (hF : F_Mo_turned_131 u K17 K65 x1 x2 x3 x4 x5 x6 x7 x8 x9 x10 x11 x12 x13 x14 x15 s0 I J = some (r, I2, J2)) (hQ : Q none (hp I2 J2 (pm_RT pa pb ga))) : Px k 176 m_Mo_turned 131 [.ref 120, .int x1, .int x2, .int x3, .int x4, .int x5, .int x6, .int x7, .int x8, .int x9, .int x10, .int x11, .int x12, .int x13, .int x14, .int x15, .null, .null] [.int s0] (hp I J (pm_RT pa pb ga)) Q := by
  unfold F_Mo_turned_131 at hF
  refine bk_Mo_turned_131 ?_
  refine ⟨fun z => ?_, fun z => ?_⟩
  · rw [if_pos z] at hF
    exact fx_Mo_turned_147 hk hK17 hK65 hF hQ
  · rw [if_neg z] at hF
    refine ⟨fun z => ?_, fun z => ?_⟩
    · rw [if_pos z] at hF
      refine ⟨fun z => ?_, fun z => ?_⟩
      · rw [if_pos z] at hF
        exact fx_Mo_turned_174 hk hK17 hK65 hF hQ
      · rw [if_neg z] at hF
        exact fx_Mo_turned_174 hk hK17 hK65 hF hQ
    · rw [if_neg z] at hF
      exact fx_Mo_turned_147 hk hK17 hK65 hF hQ
theorem fx_Mo_turned_117 {u k : Nat} {pa pb : Nat} {ga : Nat → Nat} {Q : Option Value → pm_H → Prop} {K17 : Int32 → Int32 → Int32 → pm_II → pm_JJ → Option (Unit × pm_II × pm_JJ)} {K65 : Int32 → Int32 → Int32 → Int32 → Int32 → Int32 → Int32 → Int32 → Int32 → Int32 → Int32 → Int32 → pm_II → pm_JJ → Option (Unit × pm_II × pm_JJ)} {x1 : Int32} {x2 : Int32} {x3 : Int32} {x4 : Int32} {x5 : Int32} {x6 : Int32} {x7 : Int32} {x8 : Int32} {x9 : Int32} {x10 : Int32} {x11 : Int32} {x12 : Int32} {x13 : Int32} {x14 : Int32} {s0 : Int32} {I : pm_II} {J : pm_JJ} {r : Unit} {I2 : pm_II} {J2 : pm_JJ} (hk : 0 ≤ k) (hK17 : ∀ (x1 : Int32) (x2 : Int32) (x3 : Int32) (I : pm_II) (J : pm_JJ) (r : Unit) (I2 : pm_II) (J2 : pm_JJ), K17 x1 x2 x3 I J = some (r, I2, J2) → Q none (hp I2 J2 (pm_RT pa pb ga)) → Px k 176 m_Mo_turned 17 [.ref 120, .int x1, .int x2, .int x3, .null, .null, .null, .null, .null, .null, .null, .null, .null, .null, .null, .null, .null, .null] [] (hp I J (pm_RT pa pb ga)) Q) (hK65 : ∀ (x1 : Int32) (x2 : Int32) (x3 : Int32) (x4 : Int32) (x5 : Int32) (x6 : Int32) (x7 : Int32) (x8 : Int32) (x9 : Int32) (x10 : Int32) (x11 : Int32) (x12 : Int32) (I : pm_II) (J : pm_JJ) (r : Unit) (I2 : pm_II) (J2 : pm_JJ), K65 x1 x2 x3 x4 x5 x6 x7 x8 x9 x10 x11 x12 I J = some (r, I2, J2) → Q none (hp I2 J2 (pm_RT pa pb ga)) → Px k 176 m_Mo_turned 65 [.ref 120, .int x1, .int x2, .int x3, .int x4, .int x5, .int x6, .int x7, .int x8, .int x9, .int x10, .int x11, .int x12, .null, .null, .null, .null, .null] [] (hp I J (pm_RT pa pb ga)) Q) (hF : F_Mo_turned_117 u K17 K65 x1 x2 x3 x4 x5 x6 x7 x8 x9 x10 x11 x12 x13 x14 s0 I J = some (r, I2, J2)) (hQ : Q none (hp I2 J2 (pm_RT pa pb ga))) : Px k 176 m_Mo_turned 117 [.ref 120, .int x1, .int x2, .int x3, .int x4, .int x5, .int x6, .int x7, .int x8, .int x9, .int x10, .int x11, .int x12, .int x13, .int x14, .null, .null, .null] [.int s0] (hp I J (pm_RT pa pb ga)) Q := by
  unfold F_Mo_turned_117 at hF
  refine bk_Mo_turned_117 ?_
  refine ⟨fun z => ?_, fun z => ?_⟩
  · rw [if_pos z] at hF
    exact fx_Mo_turned_131 hk hK17 hK65 hF hQ
  · rw [if_neg z] at hF
    exact fx_Mo_turned_131 hk hK17 hK65 hF hQ
theorem fx_Mo_turned_99 {u k : Nat} {pa pb : Nat} {ga : Nat → Nat} {Q : Option Value → pm_H → Prop} {K17 : Int32 → Int32 → Int32 → pm_II → pm_JJ → Option (Unit × pm_II × pm_JJ)} {K65 : Int32 → Int32 → Int32 → Int32 → Int32 → Int32 → Int32 → Int32 → Int32 → Int32 → Int32 → Int32 → pm_II → pm_JJ → Option (Unit × pm_II × pm_JJ)} {x1 : Int32} {x2 : Int32} {x3 : Int32} {x4 : Int32} {x5 : Int32} {x6 : Int32} {x7 : Int32} {x8 : Int32} {x9 : Int32} {x10 : Int32} {x11 : Int32} {x12 : Int32} {x13 : Int32} {s0 : Int32} {I : pm_II} {J : pm_JJ} {r : Unit} {I2 : pm_II} {J2 : pm_JJ} (hk : 0 ≤ k) (hK17 : ∀ (x1 : Int32) (x2 : Int32) (x3 : Int32) (I : pm_II) (J : pm_JJ) (r : Unit) (I2 : pm_II) (J2 : pm_JJ), K17 x1 x2 x3 I J = some (r, I2, J2) → Q none (hp I2 J2 (pm_RT pa pb ga)) → Px k 176 m_Mo_turned 17 [.ref 120, .int x1, .int x2, .int x3, .null, .null, .null, .null, .null, .null, .null, .null, .null, .null, .null, .null, .null, .null] [] (hp I J (pm_RT pa pb ga)) Q) (hK65 : ∀ (x1 : Int32) (x2 : Int32) (x3 : Int32) (x4 : Int32) (x5 : Int32) (x6 : Int32) (x7 : Int32) (x8 : Int32) (x9 : Int32) (x10 : Int32) (x11 : Int32) (x12 : Int32) (I : pm_II) (J : pm_JJ) (r : Unit) (I2 : pm_II) (J2 : pm_JJ), K65 x1 x2 x3 x4 x5 x6 x7 x8 x9 x10 x11 x12 I J = some (r, I2, J2) → Q none (hp I2 J2 (pm_RT pa pb ga)) → Px k 176 m_Mo_turned 65 [.ref 120, .int x1, .int x2, .int x3, .int x4, .int x5, .int x6, .int x7, .int x8, .int x9, .int x10, .int x11, .int x12, .null, .null, .null, .null, .null] [] (hp I J (pm_RT pa pb ga)) Q) (hF : F_Mo_turned_99 u K17 K65 x1 x2 x3 x4 x5 x6 x7 x8 x9 x10 x11 x12 x13 s0 I J = some (r, I2, J2)) (hQ : Q none (hp I2 J2 (pm_RT pa pb ga))) : Px k 176 m_Mo_turned 99 [.ref 120, .int x1, .int x2, .int x3, .int x4, .int x5, .int x6, .int x7, .int x8, .int x9, .int x10, .int x11, .int x12, .int x13, .null, .null, .null, .null] [.int s0] (hp I J (pm_RT pa pb ga)) Q := by
  unfold F_Mo_turned_99 at hF
  refine bk_Mo_turned_99 ?_
  refine ⟨fun z => ?_, fun z => ?_⟩
  · rw [if_pos z] at hF
    exact fx_Mo_turned_117 hk hK17 hK65 hF hQ
  · rw [if_neg z] at hF
    exact fx_Mo_turned_117 hk hK17 hK65 hF hQ
theorem fx_Mo_turned_65 {u k : Nat} {pa pb : Nat} {ga : Nat → Nat} {Q : Option Value → pm_H → Prop} {K17 : Int32 → Int32 → Int32 → pm_II → pm_JJ → Option (Unit × pm_II × pm_JJ)} (hk : 0 ≤ k) (hK17 : ∀ (x1 : Int32) (x2 : Int32) (x3 : Int32) (I : pm_II) (J : pm_JJ) (r : Unit) (I2 : pm_II) (J2 : pm_JJ), K17 x1 x2 x3 I J = some (r, I2, J2) → Q none (hp I2 J2 (pm_RT pa pb ga)) → Px k 176 m_Mo_turned 17 [.ref 120, .int x1, .int x2, .int x3, .null, .null, .null, .null, .null, .null, .null, .null, .null, .null, .null, .null, .null, .null] [] (hp I J (pm_RT pa pb ga)) Q) : ∀ (n : Nat), ∀ (x1 : Int32) (x2 : Int32) (x3 : Int32) (x4 : Int32) (x5 : Int32) (x6 : Int32) (x7 : Int32) (x8 : Int32) (x9 : Int32) (x10 : Int32) (x11 : Int32) (x12 : Int32) (I : pm_II) (J : pm_JJ) (r : Unit) (I2 : pm_II) (J2 : pm_JJ), F_Mo_turned_65 u K17 n x1 x2 x3 x4 x5 x6 x7 x8 x9 x10 x11 x12 I J = some (r, I2, J2) → Q none (hp I2 J2 (pm_RT pa pb ga)) → Px k 176 m_Mo_turned 65 [.ref 120, .int x1, .int x2, .int x3, .int x4, .int x5, .int x6, .int x7, .int x8, .int x9, .int x10, .int x11, .int x12, .null, .null, .null, .null, .null] [] (hp I J (pm_RT pa pb ga)) Q := by
  intro n
  induction n with
  | zero => intro x1 x2 x3 x4 x5 x6 x7 x8 x9 x10 x11 x12 I J r I2 J2  hF; cases hF
  | succ n ih =>
    intro x1 x2 x3 x4 x5 x6 x7 x8 x9 x10 x11 x12 I J r I2 J2  hF hQ
    rw [F_Mo_turned_65] at hF
    refine bk_Mo_turned_65 ?_
    refine ⟨fun z => ?_, fun z => ?_⟩
    · rw [if_pos z] at hF
      obtain ⟨g, hF⟩ := ge_e hF
      refine ⟨g, ?_⟩
      obtain ⟨g, hF⟩ := ge_e hF
      refine ⟨g, ?_⟩
      obtain ⟨g, hF⟩ := gd_e hF
      refine ⟨vq_in g, ?_⟩
      obtain ⟨g, hF⟩ := ge_e hF
      refine ⟨g, ?_⟩
      obtain ⟨g, hF⟩ := ge_e hF
      refine ⟨g, ?_⟩
      obtain ⟨g, hF⟩ := gd_e hF
      refine ⟨vq_in g, ?_⟩
      obtain ⟨g, hF⟩ := ge_e hF
      refine ⟨g, ?_⟩
      obtain ⟨g, hF⟩ := ge_e hF
      refine ⟨g, ?_⟩
      obtain ⟨g, hF⟩ := ge_e hF
      refine ⟨g, ?_⟩
      obtain ⟨g, hF⟩ := gd_e hF
      refine ⟨vq_in g, ?_⟩
      obtain ⟨g, hF⟩ := ge_e hF
      refine ⟨g, ?_⟩
      exact Px_wk (hK17 _ _ _ _ _ _ _ _ hF hQ) ⟨Or.inl rfl, Or.inl rfl, Or.inl rfl, Or.inl rfl, Or.inr ⟨rfl, rfl⟩, Or.inr ⟨rfl, rfl⟩, Or.inr ⟨rfl, rfl⟩, Or.inr ⟨rfl, rfl⟩, Or.inr ⟨rfl, rfl⟩, Or.inr ⟨rfl, rfl⟩, Or.inr ⟨rfl, rfl⟩, Or.inr ⟨rfl, rfl⟩, Or.inr ⟨rfl, rfl⟩, Or.inl rfl, Or.inl rfl, Or.inl rfl, Or.inl rfl, Or.inl rfl, trivial⟩
    · rw [if_neg z] at hF
      obtain ⟨g, hF⟩ := gd_e hF
      refine ⟨vq_in g, ?_⟩
      refine ⟨fun z => ?_, fun z => ?_⟩
      · rw [if_pos z] at hF
        exact fx_Mo_turned_99 hk hK17 ih hF hQ
      · rw [if_neg z] at hF
        refine ⟨fun z => ?_, fun z => ?_⟩
        · rw [if_pos z] at hF
          exact fx_Mo_turned_99 hk hK17 ih hF hQ
        · rw [if_neg z] at hF
          exact fx_Mo_turned_99 hk hK17 ih hF hQ
theorem fx_Mo_turned_17 {u k : Nat} {pa pb : Nat} {ga : Nat → Nat} {Q : Option Value → pm_H → Prop} (hk : 0 ≤ k) : ∀ (n : Nat), ∀ (x1 : Int32) (x2 : Int32) (x3 : Int32) (I : pm_II) (J : pm_JJ) (r : Unit) (I2 : pm_II) (J2 : pm_JJ), F_Mo_turned_17 u n x1 x2 x3 I J = some (r, I2, J2) → Q none (hp I2 J2 (pm_RT pa pb ga)) → Px k 176 m_Mo_turned 17 [.ref 120, .int x1, .int x2, .int x3, .null, .null, .null, .null, .null, .null, .null, .null, .null, .null, .null, .null, .null, .null] [] (hp I J (pm_RT pa pb ga)) Q := by
  intro n
  induction n with
  | zero => intro x1 x2 x3 I J r I2 J2  hF; cases hF
  | succ n ih =>
    intro x1 x2 x3 I J r I2 J2  hF hQ
    rw [F_Mo_turned_17] at hF
    refine bk_Mo_turned_17 ?_
    refine ⟨fun z => ?_, fun z => ?_⟩
    · rw [if_pos z] at hF
      exact ret_q (Q := fun a b c => Q none (hp b c (pm_RT pa pb ga))) hF hQ
    · rw [if_neg z] at hF
      obtain ⟨g, hF⟩ := ge_e hF
      refine ⟨g, ?_⟩
      obtain ⟨g, hF⟩ := ge_e hF
      refine ⟨g, ?_⟩
      exact fx_Mo_turned_65 hk ih u _ _ _ _ _ _ _ _ _ _ _ _ _ _ _ _ _ hF hQ
theorem fx_Mo_turned {u k : Nat} {pa pb : Nat} {ga : Nat → Nat} {Q : Option Value → pm_H → Prop} {I : pm_II} {J : pm_JJ} {r : Unit} {I2 : pm_II} {J2 : pm_JJ} (hk : 0 ≤ k) (hF : F_Mo_turned u  I J = some (r, I2, J2)) (hQ : Q none (hp I2 J2 (pm_RT pa pb ga))) : Px k 176 m_Mo_turned 0 [.ref 120, .null, .null, .null, .null, .null, .null, .null, .null, .null, .null, .null, .null, .null, .null, .null, .null, .null] [] (hp I J (pm_RT pa pb ga)) Q := by
  unfold F_Mo_turned at hF
  refine bk_Mo_turned_0 ?_
  exact fx_Mo_turned_17 hk u _ _ _ _ _ _ _ _ hF hQ
def F_Mo_four_3 (u : Nat) : Nat → Int32 → Int32 → pm_II → pm_JJ → Option (Unit × pm_II × pm_JJ)
  | 0, _, _, _, _ => none
  | n + 1, x1, x2, I, J =>
    if x2 < 0 then (
      some ((), I, J))
    else (
      cond (vq (I 120 2) 1600) (
      F_Mo_four_3 u n x1 (x2 + Int32.ofInt (-8)) (pm_up (pm_up I 121 (((I 120 2) : Int32).toNatClampNeg) ((x1 >>> (x2 &&& 31)) &&& (255 : Int32))) 120 2 ((I 120 2) + (1 : Int32))) J) none)
def F_Mo_four (u : Nat) (x1 : Int32) (I : pm_II) (J : pm_JJ) : Option (Unit × pm_II × pm_JJ) :=
  F_Mo_four_3 u u x1 (24 : Int32) I J
theorem fx_Mo_four_3 {u k : Nat} {pa pb : Nat} {ga : Nat → Nat} {Q : Option Value → pm_H → Prop} (hk : 0 ≤ k) : ∀ (n : Nat), ∀ (x1 : Int32) (x2 : Int32) (I : pm_II) (J : pm_JJ) (r : Unit) (I2 : pm_II) (J2 : pm_JJ), F_Mo_four_3 u n x1 x2 I J = some (r, I2, J2) → Q none (hp I2 J2 (pm_RT pa pb ga)) → Px k 176 m_Mo_four 3 [.ref 120, .int x1, .int x2] [] (hp I J (pm_RT pa pb ga)) Q := by
  intro n
  induction n with
  | zero => intro x1 x2 I J r I2 J2  hF; cases hF
  | succ n ih =>
    intro x1 x2 I J r I2 J2  hF hQ
    rw [F_Mo_four_3] at hF
    refine bk_Mo_four_3 ?_
    refine ⟨fun z => ?_, fun z => ?_⟩
    · rw [if_pos z] at hF
      exact ret_q (Q := fun a b c => Q none (hp b c (pm_RT pa pb ga))) hF hQ
    · rw [if_neg z] at hF
      obtain ⟨g, hF⟩ := gd_e hF
      refine ⟨vq_in g, ?_⟩
      exact ih _ _ _ _ _ _ _ hF hQ
theorem fx_Mo_four {u k : Nat} {pa pb : Nat} {ga : Nat → Nat} {Q : Option Value → pm_H → Prop} {x1 : Int32} {I : pm_II} {J : pm_JJ} {r : Unit} {I2 : pm_II} {J2 : pm_JJ} (hk : 0 ≤ k) (hF : F_Mo_four u x1 I J = some (r, I2, J2)) (hQ : Q none (hp I2 J2 (pm_RT pa pb ga))) : Px k 176 m_Mo_four 0 [.ref 120, .int x1, .null] [] (hp I J (pm_RT pa pb ga)) Q := by
  unfold F_Mo_four at hF
  refine bk_Mo_four_0 ?_
  exact fx_Mo_four_3 hk u _ _ _ _ _ _ _ hF hQ
def F_Mo_feed (u : Nat) (x1 : Int32) (x2 : Int32) (x3 : Int32) (x4 : Int32) (x5 : Int32) (I : pm_II) (J : pm_JJ) : Option (Int32 × pm_II × pm_JJ) :=
  if ((I 120 2) + (20 : Int32)) ≤ 1600 then (
    bd (F_Mo_four u x1 I J) fun _ I18 J18 =>
    bd (F_Mo_four u x2 I18 J18) fun _ I23 J23 =>
    bd (F_Mo_four u x3 I23 J23) fun _ I28 J28 =>
    bd (F_Mo_four u x4 I28 J28) fun _ I34 J34 =>
    bd (F_Mo_four u x5 I34 J34) fun _ I40 J40 =>
    some ((I40 120 2), I40, J40))
  else (
    some (((-4) : Int32), I, J))
theorem fx_Mo_feed {u k : Nat} {pa pb : Nat} {ga : Nat → Nat} {Q : Option Value → pm_H → Prop} {x1 : Int32} {x2 : Int32} {x3 : Int32} {x4 : Int32} {x5 : Int32} {I : pm_II} {J : pm_JJ} {r : Int32} {I2 : pm_II} {J2 : pm_JJ} (hk : 1 ≤ k) (hF : F_Mo_feed u x1 x2 x3 x4 x5 I J = some (r, I2, J2)) (hQ : Q (some (.int r)) (hp I2 J2 (pm_RT pa pb ga))) : Px k 176 m_Mo_feed 0 [.ref 120, .int x1, .int x2, .int x3, .int x4, .int x5] [] (hp I J (pm_RT pa pb ga)) Q := by
  obtain ⟨k, rfl⟩ : ∃ j, k = j + 1 := ⟨k - 1, by omega⟩
  unfold F_Mo_feed at hF
  refine bk_Mo_feed_0 ?_
  refine ⟨fun z => ?_, fun z => ?_⟩
  · rw [if_pos z] at hF
    obtain ⟨r18, I18, J18, hC18, hF⟩ := bd_e hF
    refine fx_Mo_four (by omega) hC18 ⟨rfl, ?_⟩
    refine bk_Mo_feed_21 ?_
    obtain ⟨r23, I23, J23, hC23, hF⟩ := bd_e hF
    refine fx_Mo_four (by omega) hC23 ⟨rfl, ?_⟩
    refine bk_Mo_feed_26 ?_
    obtain ⟨r28, I28, J28, hC28, hF⟩ := bd_e hF
    refine fx_Mo_four (by omega) hC28 ⟨rfl, ?_⟩
    refine bk_Mo_feed_31 ?_
    obtain ⟨r34, I34, J34, hC34, hF⟩ := bd_e hF
    refine fx_Mo_four (by omega) hC34 ⟨rfl, ?_⟩
    refine bk_Mo_feed_37 ?_
    obtain ⟨r40, I40, J40, hC40, hF⟩ := bd_e hF
    refine fx_Mo_four (by omega) hC40 ⟨rfl, ?_⟩
    refine bk_Mo_feed_43 ?_
    exact ret_q (Q := fun a b c => Q (some (.int a)) (hp b c (pm_RT pa pb ga))) hF hQ
  · rw [if_neg z] at hF
    exact ret_q (Q := fun a b c => Q (some (.int a)) (hp b c (pm_RT pa pb ga))) hF hQ
def F_Mo_end (u : Nat) (x1 : Int32) (I : pm_II) (J : pm_JJ) : Option (Int32 × pm_II × pm_JJ) :=
  if x1 < 0 then (
    some (((-1) : Int32), I, J))
  else (
    if x1 ≤ (I 120 2) then (
      some (x1, (pm_up I 120 2 x1), J))
    else (
      some (((-1) : Int32), I, J)))
theorem fx_Mo_end {u k : Nat} {pa pb : Nat} {ga : Nat → Nat} {Q : Option Value → pm_H → Prop} {x1 : Int32} {I : pm_II} {J : pm_JJ} {r : Int32} {I2 : pm_II} {J2 : pm_JJ} (hk : 0 ≤ k) (hF : F_Mo_end u x1 I J = some (r, I2, J2)) (hQ : Q (some (.int r)) (hp I2 J2 (pm_RT pa pb ga))) : Px k 176 m_Mo_end 0 [.ref 120, .int x1] [] (hp I J (pm_RT pa pb ga)) Q := by
  unfold F_Mo_end at hF
  refine bk_Mo_end_0 ?_
  refine ⟨fun z => ?_, fun z => ?_⟩
  · rw [if_pos z] at hF
    exact ret_q (Q := fun a b c => Q (some (.int a)) (hp b c (pm_RT pa pb ga))) hF hQ
  · rw [if_neg z] at hF
    refine ⟨fun z => ?_, fun z => ?_⟩
    · rw [if_pos z] at hF
      exact ret_q (Q := fun a b c => Q (some (.int a)) (hp b c (pm_RT pa pb ga))) hF hQ
    · rw [if_neg z] at hF
      exact ret_q (Q := fun a b c => Q (some (.int a)) (hp b c (pm_RT pa pb ga))) hF hQ
def F_Mo_bad (u : Nat) (I : pm_II) (J : pm_JJ) : Option (Int32 × pm_II × pm_JJ) :=
  if (I 120 5) < 0 then (
    some ((0 : Int32), I, J))
  else (
    some ((1 : Int32), I, J))
theorem fx_Mo_bad {u k : Nat} {pa pb : Nat} {ga : Nat → Nat} {Q : Option Value → pm_H → Prop} {I : pm_II} {J : pm_JJ} {r : Int32} {I2 : pm_II} {J2 : pm_JJ} (hk : 0 ≤ k) (hF : F_Mo_bad u  I J = some (r, I2, J2)) (hQ : Q (some (.int r)) (hp I2 J2 (pm_RT pa pb ga))) : Px k 176 m_Mo_bad 0 [.ref 120] [] (hp I J (pm_RT pa pb ga)) Q := by
  unfold F_Mo_bad at hF
  refine bk_Mo_bad_0 ?_
  refine ⟨fun z => ?_, fun z => ?_⟩
  · rw [if_pos z] at hF
    exact ret_q (Q := fun a b c => Q (some (.int a)) (hp b c (pm_RT pa pb ga))) hF hQ
  · rw [if_neg z] at hF
    exact ret_q (Q := fun a b c => Q (some (.int a)) (hp b c (pm_RT pa pb ga))) hF hQ
def F_Mo_fail (u : Nat) (x1 : Int32) (I : pm_II) (J : pm_JJ) : Option (Unit × pm_II × pm_JJ) :=
  if 0 ≤ (I 120 5) then (
    some ((), I, J))
  else (
    some ((), (pm_up I 120 5 x1), J))
theorem fx_Mo_fail {u k : Nat} {pa pb : Nat} {ga : Nat → Nat} {Q : Option Value → pm_H → Prop} {x1 : Int32} {I : pm_II} {J : pm_JJ} {r : Unit} {I2 : pm_II} {J2 : pm_JJ} (hk : 0 ≤ k) (hF : F_Mo_fail u x1 I J = some (r, I2, J2)) (hQ : Q none (hp I2 J2 (pm_RT pa pb ga))) : Px k 176 m_Mo_fail 0 [.ref 120, .int x1] [] (hp I J (pm_RT pa pb ga)) Q := by
  unfold F_Mo_fail at hF
  refine bk_Mo_fail_0 ?_
  refine ⟨fun z => ?_, fun z => ?_⟩
  · rw [if_pos z] at hF
    exact ret_q (Q := fun a b c => Q none (hp b c (pm_RT pa pb ga))) hF hQ
  · rw [if_neg z] at hF
    exact ret_q (Q := fun a b c => Q none (hp b c (pm_RT pa pb ga))) hF hQ
def F_Mo_here (u : Nat) (I : pm_II) (J : pm_JJ) : Option (Int32 × pm_II × pm_JJ) :=
  if (I 120 3) ≤ (I 120 4) then (
    some (((-1) : Int32), I, J))
  else (
    cond (vq (I 120 4) 1600) (
    some ((I 122 (((I 120 4) : Int32).toNatClampNeg)), I, J)) none)
theorem fx_Mo_here {u k : Nat} {pa pb : Nat} {ga : Nat → Nat} {Q : Option Value → pm_H → Prop} {I : pm_II} {J : pm_JJ} {r : Int32} {I2 : pm_II} {J2 : pm_JJ} (hk : 0 ≤ k) (hF : F_Mo_here u  I J = some (r, I2, J2)) (hQ : Q (some (.int r)) (hp I2 J2 (pm_RT pa pb ga))) : Px k 176 m_Mo_here 0 [.ref 120] [] (hp I J (pm_RT pa pb ga)) Q := by
  unfold F_Mo_here at hF
  refine bk_Mo_here_0 ?_
  refine ⟨fun z => ?_, fun z => ?_⟩
  · rw [if_pos z] at hF
    exact ret_q (Q := fun a b c => Q (some (.int a)) (hp b c (pm_RT pa pb ga))) hF hQ
  · rw [if_neg z] at hF
    obtain ⟨g, hF⟩ := gd_e hF
    refine ⟨vq_in g, ?_⟩
    exact ret_q (Q := fun a b c => Q (some (.int a)) (hp b c (pm_RT pa pb ga))) hF hQ
def F_Mo_need_37 (u : Nat) (I : pm_II) (J : pm_JJ) : Option (Unit × pm_II × pm_JJ) :=
  some ((), I, J)
def F_Mo_need (u : Nat) (x1 : Int32) (I : pm_II) (J : pm_JJ) : Option (Unit × pm_II × pm_JJ) :=
  bd (F_Mo_bad u I J) fun r1 I1 J1 =>
  if r1 = 0 then (
    bd (F_Mo_here u I1 J1) fun r9 I9 J9 =>
    if ¬ r9 = x1 then (
      bd (F_Mo_fail u (I9 120 4) I9 J9) fun _ I34 J34 =>
      F_Mo_need_37 u I34 J34)
    else (
      F_Mo_need_37 u (pm_up I9 120 4 ((I9 120 4) + (1 : Int32))) J9))
  else (
    some ((), I1, J1))
theorem fx_Mo_need_37 {u k : Nat} {pa pb : Nat} {ga : Nat → Nat} {Q : Option Value → pm_H → Prop} {x1 : Int32} {I : pm_II} {J : pm_JJ} {r : Unit} {I2 : pm_II} {J2 : pm_JJ} (hk : 1 ≤ k) (hF : F_Mo_need_37 u  I J = some (r, I2, J2)) (hQ : Q none (hp I2 J2 (pm_RT pa pb ga))) : Px k 176 m_Mo_need 37 [.ref 120, .int x1] [] (hp I J (pm_RT pa pb ga)) Q := by
  obtain ⟨k, rfl⟩ : ∃ j, k = j + 1 := ⟨k - 1, by omega⟩
  unfold F_Mo_need_37 at hF
  refine bk_Mo_need_37 ?_
  exact ret_q (Q := fun a b c => Q none (hp b c (pm_RT pa pb ga))) hF hQ
theorem fx_Mo_need {u k : Nat} {pa pb : Nat} {ga : Nat → Nat} {Q : Option Value → pm_H → Prop} {x1 : Int32} {I : pm_II} {J : pm_JJ} {r : Unit} {I2 : pm_II} {J2 : pm_JJ} (hk : 1 ≤ k) (hF : F_Mo_need u x1 I J = some (r, I2, J2)) (hQ : Q none (hp I2 J2 (pm_RT pa pb ga))) : Px k 176 m_Mo_need 0 [.ref 120, .int x1] [] (hp I J (pm_RT pa pb ga)) Q := by
  obtain ⟨k, rfl⟩ : ∃ j, k = j + 1 := ⟨k - 1, by omega⟩
  unfold F_Mo_need at hF
  refine bk_Mo_need_0 ?_
  obtain ⟨r1, I1, J1, hC1, hF⟩ := bd_e hF
  refine fx_Mo_bad (by omega) hC1 ⟨rfl, ?_⟩
  refine bk_Mo_need_4 ?_
  refine ⟨fun z => ?_, fun z => ?_⟩
  · rw [if_pos z] at hF
    obtain ⟨r9, I9, J9, hC9, hF⟩ := bd_e hF
    refine fx_Mo_here (by omega) hC9 ⟨rfl, ?_⟩
    refine bk_Mo_need_12 ?_
    refine ⟨fun z => ?_, fun z => ?_⟩
    · rw [if_pos z] at hF
      obtain ⟨r34, I34, J34, hC34, hF⟩ := bd_e hF
      refine fx_Mo_fail (by omega) hC34 ⟨rfl, ?_⟩
      exact fx_Mo_need_37 hk hF hQ
    · rw [if_neg z] at hF
      exact fx_Mo_need_37 hk hF hQ
  · rw [if_neg z] at hF
    exact ret_q (Q := fun a b c => Q none (hp b c (pm_RT pa pb ga))) hF hQ
def F_Mo_is (u : Nat) (x0 : Int32) (x1 : Int32) (x2 : Int32) (I : pm_II) (J : pm_JJ) : Option (Int32 × pm_II × pm_JJ) :=
  if x0 < x1 then (
    some ((0 : Int32), I, J))
  else (
    if x2 < x0 then (
      some ((0 : Int32), I, J))
    else (
      some ((1 : Int32), I, J)))
theorem fx_Mo_is {u k : Nat} {pa pb : Nat} {ga : Nat → Nat} {Q : Option Value → pm_H → Prop} {x0 : Int32} {x1 : Int32} {x2 : Int32} {I : pm_II} {J : pm_JJ} {r : Int32} {I2 : pm_II} {J2 : pm_JJ} (hk : 0 ≤ k) (hF : F_Mo_is u x0 x1 x2 I J = some (r, I2, J2)) (hQ : Q (some (.int r)) (hp I2 J2 (pm_RT pa pb ga))) : Px k 176 m_Mo_is 0 [.int x0, .int x1, .int x2] [] (hp I J (pm_RT pa pb ga)) Q := by
  unfold F_Mo_is at hF
  refine bk_Mo_is_0 ?_
  refine ⟨fun z => ?_, fun z => ?_⟩
  · rw [if_pos z] at hF
    exact ret_q (Q := fun a b c => Q (some (.int a)) (hp b c (pm_RT pa pb ga))) hF hQ
  · rw [if_neg z] at hF
    refine ⟨fun z => ?_, fun z => ?_⟩
    · rw [if_pos z] at hF
      exact ret_q (Q := fun a b c => Q (some (.int a)) (hp b c (pm_RT pa pb ga))) hF hQ
    · rw [if_neg z] at hF
      exact ret_q (Q := fun a b c => Q (some (.int a)) (hp b c (pm_RT pa pb ga))) hF hQ
def F_Mo_isDigit (u : Nat) (x0 : Int32) (I : pm_II) (J : pm_JJ) : Option (Int32 × pm_II × pm_JJ) :=
  if x0 < 48 then (
    some ((0 : Int32), I, J))
  else (
    if 57 < x0 then (
      some ((0 : Int32), I, J))
    else (
      some ((1 : Int32), I, J)))
theorem fx_Mo_isDigit {u k : Nat} {pa pb : Nat} {ga : Nat → Nat} {Q : Option Value → pm_H → Prop} {x0 : Int32} {I : pm_II} {J : pm_JJ} {r : Int32} {I2 : pm_II} {J2 : pm_JJ} (hk : 0 ≤ k) (hF : F_Mo_isDigit u x0 I J = some (r, I2, J2)) (hQ : Q (some (.int r)) (hp I2 J2 (pm_RT pa pb ga))) : Px k 176 m_Mo_isDigit 0 [.int x0] [] (hp I J (pm_RT pa pb ga)) Q := by
  unfold F_Mo_isDigit at hF
  refine bk_Mo_isDigit_0 ?_
  refine ⟨fun z => ?_, fun z => ?_⟩
  · rw [if_pos z] at hF
    exact ret_q (Q := fun a b c => Q (some (.int a)) (hp b c (pm_RT pa pb ga))) hF hQ
  · rw [if_neg z] at hF
    refine ⟨fun z => ?_, fun z => ?_⟩
    · rw [if_pos z] at hF
      exact ret_q (Q := fun a b c => Q (some (.int a)) (hp b c (pm_RT pa pb ga))) hF hQ
    · rw [if_neg z] at hF
      exact ret_q (Q := fun a b c => Q (some (.int a)) (hp b c (pm_RT pa pb ga))) hF hQ
def F_Mo_told_143 (u : Nat) (x4 : Int32) (I : pm_II) (J : pm_JJ) : Option (Int32 × pm_II × pm_JJ) :=
  some (x4, I, J)
def F_Mo_told_121 (u : Nat) (x1 : Int32) (x2 : Int32) (x3 : Int32) (x4 : Int32) (I : pm_II) (J : pm_JJ) : Option (Int32 × pm_II × pm_JJ) :=
  bd (F_Mo_bad u I J) fun r122 I122 J122 =>
  if ¬ r122 = 0 then (
    F_Mo_told_143 u x4 I122 J122)
  else (
    bd (F_Mo_is u x4 x1 x2 I122 J122) fun r132 I132 J132 =>
    if ¬ r132 = 0 then (
      F_Mo_told_143 u x4 I132 J132)
    else (
      bd (F_Mo_fail u x3 I132 J132) fun _ I140 J140 =>
      F_Mo_told_143 u x4 I140 J140))
def F_Mo_told_35 (u : Nat) : Nat → Int32 → Int32 → Int32 → Int32 → pm_II → pm_JJ → Option (Int32 × pm_II × pm_JJ)
  | 0, _, _, _, _, _, _ => none
  | n + 1, x1, x2, x3, x4, I, J =>
    bd (F_Mo_bad u I J) fun r36 I36 J36 =>
    if ¬ r36 = 0 then (
      F_Mo_told_121 u x1 x2 x3 x4 I36 J36)
    else (
      bd (F_Mo_here u I36 J36) fun r43 I43 J43 =>
      bd (F_Mo_isDigit u r43 I43 J43) fun r46 I46 J46 =>
      if r46 = 0 then (
        F_Mo_told_121 u x1 x2 x3 x4 I46 J46)
      else (
        if ((I46 120 4) - x3) = 6 then (
          bd (F_Mo_fail u (I46 120 4) I46 J46) fun _ I87 J87 =>
          F_Mo_told_35 u n x1 x2 x3 x4 I87 J87)
        else (
          if (I46 120 4) ≤ x3 then (
            bd (F_Mo_here u I46 J46) fun r99 I99 J99 =>
            F_Mo_told_35 u n x1 x2 x3 ((((10 : Int32) * x4) + r99) - (48 : Int32)) (pm_up I99 120 4 ((I99 120 4) + (1 : Int32))) J99)
          else (
            cond (vq x3 1600) (
            if ¬ (I46 122 ((x3 : Int32).toNatClampNeg)) = 48 then (
              bd (F_Mo_here u I46 J46) fun r99 I99 J99 =>
              F_Mo_told_35 u n x1 x2 x3 ((((10 : Int32) * x4) + r99) - (48 : Int32)) (pm_up I99 120 4 ((I99 120 4) + (1 : Int32))) J99)
            else (
              bd (F_Mo_fail u (I46 120 4) I46 J46) fun _ I87 J87 =>
              F_Mo_told_35 u n x1 x2 x3 x4 I87 J87)) none))))
def F_Mo_told (u : Nat) (x1 : Int32) (x2 : Int32) (I : pm_II) (J : pm_JJ) : Option (Int32 × pm_II × pm_JJ) :=
  bd (F_Mo_bad u I J) fun r1 I1 J1 =>
  if r1 = 0 then (
    bd (F_Mo_here u I1 J1) fun r18 I18 J18 =>
    bd (F_Mo_isDigit u r18 I18 J18) fun r21 I21 J21 =>
    if ¬ r21 = 0 then (
      F_Mo_told_35 u u x1 x2 (I1 120 4) (0 : Int32) I21 J21)
    else (
      bd (F_Mo_fail u (I21 120 4) I21 J21) fun _ I32 J32 =>
      F_Mo_told_35 u u x1 x2 (I1 120 4) (0 : Int32) I32 J32))
  else (
    some ((0 : Int32), I1, J1))
theorem fx_Mo_told_143 {u k : Nat} {pa pb : Nat} {ga : Nat → Nat} {Q : Option Value → pm_H → Prop} {x1 : Int32} {x2 : Int32} {x3 : Int32} {x4 : Int32} {I : pm_II} {J : pm_JJ} {r : Int32} {I2 : pm_II} {J2 : pm_JJ} (hk : 1 ≤ k) (hF : F_Mo_told_143 u x4 I J = some (r, I2, J2)) (hQ : Q (some (.int r)) (hp I2 J2 (pm_RT pa pb ga))) : Px k 176 m_Mo_told 143 [.ref 120, .int x1, .int x2, .int x3, .int x4] [] (hp I J (pm_RT pa pb ga)) Q := by
  obtain ⟨k, rfl⟩ : ∃ j, k = j + 1 := ⟨k - 1, by omega⟩
  unfold F_Mo_told_143 at hF
  refine bk_Mo_told_143 ?_
  exact ret_q (Q := fun a b c => Q (some (.int a)) (hp b c (pm_RT pa pb ga))) hF hQ
theorem fx_Mo_told_121 {u k : Nat} {pa pb : Nat} {ga : Nat → Nat} {Q : Option Value → pm_H → Prop} {x1 : Int32} {x2 : Int32} {x3 : Int32} {x4 : Int32} {I : pm_II} {J : pm_JJ} {r : Int32} {I2 : pm_II} {J2 : pm_JJ} (hk : 1 ≤ k) (hF : F_Mo_told_121 u x1 x2 x3 x4 I J = some (r, I2, J2)) (hQ : Q (some (.int r)) (hp I2 J2 (pm_RT pa pb ga))) : Px k 176 m_Mo_told 121 [.ref 120, .int x1, .int x2, .int x3, .int x4] [] (hp I J (pm_RT pa pb ga)) Q := by
  obtain ⟨k, rfl⟩ : ∃ j, k = j + 1 := ⟨k - 1, by omega⟩
  unfold F_Mo_told_121 at hF
  refine bk_Mo_told_121 ?_
  obtain ⟨r122, I122, J122, hC122, hF⟩ := bd_e hF
  refine fx_Mo_bad (by omega) hC122 ⟨rfl, ?_⟩
  refine bk_Mo_told_125 ?_
  refine ⟨fun z => ?_, fun z => ?_⟩
  · rw [if_pos z] at hF
    exact fx_Mo_told_143 hk hF hQ
  · rw [if_neg z] at hF
    obtain ⟨r132, I132, J132, hC132, hF⟩ := bd_e hF
    refine fx_Mo_is (by omega) hC132 ⟨rfl, ?_⟩
    refine bk_Mo_told_135 ?_
    refine ⟨fun z => ?_, fun z => ?_⟩
    · rw [if_pos z] at hF
      exact fx_Mo_told_143 hk hF hQ
    · rw [if_neg z] at hF
      obtain ⟨r140, I140, J140, hC140, hF⟩ := bd_e hF
      refine fx_Mo_fail (by omega) hC140 ⟨rfl, ?_⟩
      exact fx_Mo_told_143 hk hF hQ
theorem fx_Mo_told_35 {u k : Nat} {pa pb : Nat} {ga : Nat → Nat} {Q : Option Value → pm_H → Prop} (hk : 1 ≤ k) : ∀ (n : Nat), ∀ (x1 : Int32) (x2 : Int32) (x3 : Int32) (x4 : Int32) (I : pm_II) (J : pm_JJ) (r : Int32) (I2 : pm_II) (J2 : pm_JJ), F_Mo_told_35 u n x1 x2 x3 x4 I J = some (r, I2, J2) → Q (some (.int r)) (hp I2 J2 (pm_RT pa pb ga)) → Px k 176 m_Mo_told 35 [.ref 120, .int x1, .int x2, .int x3, .int x4] [] (hp I J (pm_RT pa pb ga)) Q := by
  obtain ⟨k, rfl⟩ : ∃ j, k = j + 1 := ⟨k - 1, by omega⟩
  intro n
  induction n with
  | zero => intro x1 x2 x3 x4 I J r I2 J2  hF; cases hF
  | succ n ih =>
    intro x1 x2 x3 x4 I J r I2 J2  hF hQ
    rw [F_Mo_told_35] at hF
    refine bk_Mo_told_35 ?_
    obtain ⟨r36, I36, J36, hC36, hF⟩ := bd_e hF
    refine fx_Mo_bad (by omega) hC36 ⟨rfl, ?_⟩
    refine bk_Mo_told_39 ?_
    refine ⟨fun z => ?_, fun z => ?_⟩
    · rw [if_pos z] at hF
      exact fx_Mo_told_121 hk hF hQ
    · rw [if_neg z] at hF
      obtain ⟨r43, I43, J43, hC43, hF⟩ := bd_e hF
      refine fx_Mo_here (by omega) hC43 ⟨rfl, ?_⟩
      refine bk_Mo_told_46 ?_
      obtain ⟨r46, I46, J46, hC46, hF⟩ := bd_e hF
      refine fx_Mo_isDigit (by omega) hC46 ⟨rfl, ?_⟩
      refine bk_Mo_told_49 ?_
      refine ⟨fun z => ?_, fun z => ?_⟩
      · rw [if_pos z] at hF
        exact fx_Mo_told_121 hk hF hQ
      · rw [if_neg z] at hF
        refine ⟨fun z => ?_, fun z => ?_⟩
        · rw [if_pos z] at hF
          obtain ⟨r87, I87, J87, hC87, hF⟩ := bd_e hF
          refine fx_Mo_fail (by omega) hC87 ⟨rfl, ?_⟩
          refine bk_Mo_told_90 ?_
          exact ih _ _ _ _ _ _ _ _ _ hF hQ
        · rw [if_neg z] at hF
          refine ⟨fun z => ?_, fun z => ?_⟩
          · rw [if_pos z] at hF
            obtain ⟨r99, I99, J99, hC99, hF⟩ := bd_e hF
            refine fx_Mo_here (by omega) hC99 ⟨rfl, ?_⟩
            refine bk_Mo_told_102 ?_
            exact ih _ _ _ _ _ _ _ _ _ hF hQ
          · rw [if_neg z] at hF
            obtain ⟨g, hF⟩ := gd_e hF
            refine ⟨vq_in g, ?_⟩
            refine ⟨fun z => ?_, fun z => ?_⟩
            · rw [if_pos z] at hF
              obtain ⟨r99, I99, J99, hC99, hF⟩ := bd_e hF
              refine fx_Mo_here (by omega) hC99 ⟨rfl, ?_⟩
              refine bk_Mo_told_102 ?_
              exact ih _ _ _ _ _ _ _ _ _ hF hQ
            · rw [if_neg z] at hF
              obtain ⟨r87, I87, J87, hC87, hF⟩ := bd_e hF
              refine fx_Mo_fail (by omega) hC87 ⟨rfl, ?_⟩
              refine bk_Mo_told_90 ?_
              exact ih _ _ _ _ _ _ _ _ _ hF hQ
theorem fx_Mo_told {u k : Nat} {pa pb : Nat} {ga : Nat → Nat} {Q : Option Value → pm_H → Prop} {x1 : Int32} {x2 : Int32} {I : pm_II} {J : pm_JJ} {r : Int32} {I2 : pm_II} {J2 : pm_JJ} (hk : 1 ≤ k) (hF : F_Mo_told u x1 x2 I J = some (r, I2, J2)) (hQ : Q (some (.int r)) (hp I2 J2 (pm_RT pa pb ga))) : Px k 176 m_Mo_told 0 [.ref 120, .int x1, .int x2, .null, .null] [] (hp I J (pm_RT pa pb ga)) Q := by
  obtain ⟨k, rfl⟩ : ∃ j, k = j + 1 := ⟨k - 1, by omega⟩
  unfold F_Mo_told at hF
  refine bk_Mo_told_0 ?_
  obtain ⟨r1, I1, J1, hC1, hF⟩ := bd_e hF
  refine fx_Mo_bad (by omega) hC1 ⟨rfl, ?_⟩
  refine bk_Mo_told_4 ?_
  refine ⟨fun z => ?_, fun z => ?_⟩
  · rw [if_pos z] at hF
    obtain ⟨r18, I18, J18, hC18, hF⟩ := bd_e hF
    refine fx_Mo_here (by omega) hC18 ⟨rfl, ?_⟩
    refine bk_Mo_told_21 ?_
    obtain ⟨r21, I21, J21, hC21, hF⟩ := bd_e hF
    refine fx_Mo_isDigit (by omega) hC21 ⟨rfl, ?_⟩
    refine bk_Mo_told_24 ?_
    refine ⟨fun z => ?_, fun z => ?_⟩
    · rw [if_pos z] at hF
      exact fx_Mo_told_35 hk u _ _ _ _ _ _ _ _ _ hF hQ
    · rw [if_neg z] at hF
      obtain ⟨r32, I32, J32, hC32, hF⟩ := bd_e hF
      refine fx_Mo_fail (by omega) hC32 ⟨rfl, ?_⟩
      exact fx_Mo_told_35 hk u _ _ _ _ _ _ _ _ _ hF hQ
  · rw [if_neg z] at hF
    exact ret_q (Q := fun a b c => Q (some (.int a)) (hp b c (pm_RT pa pb ga))) hF hQ
def F_Mo_behind (u : Nat) (x1 : Int32) (x2 : Int32) (I : pm_II) (J : pm_JJ) : Option (Int32 × pm_II × pm_JJ) :=
  bd (F_Mo_need u (32 : Int32) I J) fun _ I3 J3 =>
  bd (F_Mo_told u x1 x2 I3 J3) fun r9 I9 J9 =>
  some (r9, I9, J9)
theorem fx_Mo_behind {u k : Nat} {pa pb : Nat} {ga : Nat → Nat} {Q : Option Value → pm_H → Prop} {x1 : Int32} {x2 : Int32} {I : pm_II} {J : pm_JJ} {r : Int32} {I2 : pm_II} {J2 : pm_JJ} (hk : 2 ≤ k) (hF : F_Mo_behind u x1 x2 I J = some (r, I2, J2)) (hQ : Q (some (.int r)) (hp I2 J2 (pm_RT pa pb ga))) : Px k 176 m_Mo_behind 0 [.ref 120, .int x1, .int x2] [] (hp I J (pm_RT pa pb ga)) Q := by
  obtain ⟨k, rfl⟩ : ∃ j, k = j + 1 := ⟨k - 1, by omega⟩
  unfold F_Mo_behind at hF
  refine bk_Mo_behind_0 ?_
  obtain ⟨r3, I3, J3, hC3, hF⟩ := bd_e hF
  refine fx_Mo_need (by omega) hC3 ⟨rfl, ?_⟩
  refine bk_Mo_behind_6 ?_
  obtain ⟨r9, I9, J9, hC9, hF⟩ := bd_e hF
  refine fx_Mo_told (by omega) hC9 ⟨rfl, ?_⟩
  refine bk_Mo_behind_12 ?_
  exact ret_q (Q := fun a b c => Q (some (.int a)) (hp b c (pm_RT pa pb ga))) hF hQ
def F_Mo_isSmall (u : Nat) (x0 : Int32) (I : pm_II) (J : pm_JJ) : Option (Int32 × pm_II × pm_JJ) :=
  if x0 < 97 then (
    some ((0 : Int32), I, J))
  else (
    if 122 < x0 then (
      some ((0 : Int32), I, J))
    else (
      some ((1 : Int32), I, J)))
theorem fx_Mo_isSmall {u k : Nat} {pa pb : Nat} {ga : Nat → Nat} {Q : Option Value → pm_H → Prop} {x0 : Int32} {I : pm_II} {J : pm_JJ} {r : Int32} {I2 : pm_II} {J2 : pm_JJ} (hk : 0 ≤ k) (hF : F_Mo_isSmall u x0 I J = some (r, I2, J2)) (hQ : Q (some (.int r)) (hp I2 J2 (pm_RT pa pb ga))) : Px k 176 m_Mo_isSmall 0 [.int x0] [] (hp I J (pm_RT pa pb ga)) Q := by
  unfold F_Mo_isSmall at hF
  refine bk_Mo_isSmall_0 ?_
  refine ⟨fun z => ?_, fun z => ?_⟩
  · rw [if_pos z] at hF
    exact ret_q (Q := fun a b c => Q (some (.int a)) (hp b c (pm_RT pa pb ga))) hF hQ
  · rw [if_neg z] at hF
    refine ⟨fun z => ?_, fun z => ?_⟩
    · rw [if_pos z] at hF
      exact ret_q (Q := fun a b c => Q (some (.int a)) (hp b c (pm_RT pa pb ga))) hF hQ
    · rw [if_neg z] at hF
      exact ret_q (Q := fun a b c => Q (some (.int a)) (hp b c (pm_RT pa pb ga))) hF hQ
def F_Mo_wordEnd_43 (u : Nat) (x1 : Int32) (I : pm_II) (J : pm_JJ) : Option (Int32 × pm_II × pm_JJ) :=
  some (x1, I, J)
def F_Mo_wordEnd_5 (u : Nat) : Nat → Int32 → pm_II → pm_JJ → Option (Int32 × pm_II × pm_JJ)
  | 0, _, _, _ => none
  | n + 1, x1, I, J =>
    if (I 120 3) ≤ x1 then (
      F_Mo_wordEnd_43 u x1 I J)
    else (
      cond (vq x1 1600) (
      bd (F_Mo_isSmall u (I 122 ((x1 : Int32).toNatClampNeg)) I J) fun r19 I19 J19 =>
      if ¬ r19 = 0 then (
        F_Mo_wordEnd_5 u n (x1 + Int32.ofInt 1) I19 J19)
      else (
        cond (vq x1 1600) (
        bd (F_Mo_isDigit u (I19 122 ((x1 : Int32).toNatClampNeg)) I19 J19) fun r31 I31 J31 =>
        if r31 = 0 then (
          F_Mo_wordEnd_43 u x1 I31 J31)
        else (
          F_Mo_wordEnd_5 u n (x1 + Int32.ofInt 1) I31 J31)) none)) none)
def F_Mo_wordEnd (u : Nat) (I : pm_II) (J : pm_JJ) : Option (Int32 × pm_II × pm_JJ) :=
  F_Mo_wordEnd_5 u u (I 120 4) I J
theorem fx_Mo_wordEnd_43 {u k : Nat} {pa pb : Nat} {ga : Nat → Nat} {Q : Option Value → pm_H → Prop} {x1 : Int32} {I : pm_II} {J : pm_JJ} {r : Int32} {I2 : pm_II} {J2 : pm_JJ} (hk : 1 ≤ k) (hF : F_Mo_wordEnd_43 u x1 I J = some (r, I2, J2)) (hQ : Q (some (.int r)) (hp I2 J2 (pm_RT pa pb ga))) : Px k 176 m_Mo_wordEnd 43 [.ref 120, .int x1] [] (hp I J (pm_RT pa pb ga)) Q := by
  obtain ⟨k, rfl⟩ : ∃ j, k = j + 1 := ⟨k - 1, by omega⟩
  unfold F_Mo_wordEnd_43 at hF
  refine bk_Mo_wordEnd_43 ?_
  exact ret_q (Q := fun a b c => Q (some (.int a)) (hp b c (pm_RT pa pb ga))) hF hQ
theorem fx_Mo_wordEnd_5 {u k : Nat} {pa pb : Nat} {ga : Nat → Nat} {Q : Option Value → pm_H → Prop} (hk : 1 ≤ k) : ∀ (n : Nat), ∀ (x1 : Int32) (I : pm_II) (J : pm_JJ) (r : Int32) (I2 : pm_II) (J2 : pm_JJ), F_Mo_wordEnd_5 u n x1 I J = some (r, I2, J2) → Q (some (.int r)) (hp I2 J2 (pm_RT pa pb ga)) → Px k 176 m_Mo_wordEnd 5 [.ref 120, .int x1] [] (hp I J (pm_RT pa pb ga)) Q := by
  obtain ⟨k, rfl⟩ : ∃ j, k = j + 1 := ⟨k - 1, by omega⟩
  intro n
  induction n with
  | zero => intro x1 I J r I2 J2  hF; cases hF
  | succ n ih =>
    intro x1 I J r I2 J2  hF hQ
    rw [F_Mo_wordEnd_5] at hF
    refine bk_Mo_wordEnd_5 ?_
    refine ⟨fun z => ?_, fun z => ?_⟩
    · rw [if_pos z] at hF
      exact fx_Mo_wordEnd_43 hk hF hQ
    · rw [if_neg z] at hF
      obtain ⟨g, hF⟩ := gd_e hF
      refine ⟨vq_in g, ?_⟩
      obtain ⟨r19, I19, J19, hC19, hF⟩ := bd_e hF
      refine fx_Mo_isSmall (by omega) hC19 ⟨rfl, ?_⟩
      refine bk_Mo_wordEnd_22 ?_
      refine ⟨fun z => ?_, fun z => ?_⟩
      · rw [if_pos z] at hF
        exact ih _ _ _ _ _ _ hF hQ
      · rw [if_neg z] at hF
        obtain ⟨g, hF⟩ := gd_e hF
        refine ⟨vq_in g, ?_⟩
        obtain ⟨r31, I31, J31, hC31, hF⟩ := bd_e hF
        refine fx_Mo_isDigit (by omega) hC31 ⟨rfl, ?_⟩
        refine bk_Mo_wordEnd_34 ?_
        refine ⟨fun z => ?_, fun z => ?_⟩
        · rw [if_pos z] at hF
          exact fx_Mo_wordEnd_43 hk hF hQ
        · rw [if_neg z] at hF
          exact ih _ _ _ _ _ _ hF hQ
theorem fx_Mo_wordEnd {u k : Nat} {pa pb : Nat} {ga : Nat → Nat} {Q : Option Value → pm_H → Prop} {I : pm_II} {J : pm_JJ} {r : Int32} {I2 : pm_II} {J2 : pm_JJ} (hk : 1 ≤ k) (hF : F_Mo_wordEnd u  I J = some (r, I2, J2)) (hQ : Q (some (.int r)) (hp I2 J2 (pm_RT pa pb ga))) : Px k 176 m_Mo_wordEnd 0 [.ref 120, .null] [] (hp I J (pm_RT pa pb ga)) Q := by
  obtain ⟨k, rfl⟩ : ∃ j, k = j + 1 := ⟨k - 1, by omega⟩
  unfold F_Mo_wordEnd at hF
  refine bk_Mo_wordEnd_0 ?_
  exact fx_Mo_wordEnd_5 hk u _ _ _ _ _ _ hF hQ
def F_Mo_isWord_73 (u : Nat) (x2 : Int32) (x3 : Int32) (I : pm_II) (J : pm_JJ) : Option (Int32 × pm_II × pm_JJ) :=
  if x3 = 0 then (
    if (x3 = 0 ∨ x3 = 1) then (
    some (x3, I, J)) else none)
  else (
    if (x3 = 0 ∨ x3 = 1) then (
    some (x3, (pm_up I 120 4 x2), J)) else none)
def F_Mo_isWord_27 (u : Nat) : Nat → Nat → Int32 → Int32 → Int32 → pm_II → pm_JJ → Option (Int32 × pm_II × pm_JJ)
  | 0, _, _, _, _, _, _ => none
  | n + 1, a1, x2, x3, x4, I, J =>
    if (Int32.ofNat (pm_txt a1).length) ≤ x4 then (
      F_Mo_isWord_73 u x2 x3 I J)
    else (
      if x3 = 0 then (
        F_Mo_isWord_73 u x2 x3 I J)
      else (
        cond (vq ((I 120 4) + x4) 1600) (
        cond (vq x4 (pm_txt a1).length) (
        if ¬ (I 122 ((((I 120 4) + x4) : Int32).toNatClampNeg)) = ((pm_txt a1).getD (x4 : Int32).toNatClampNeg 0) then (
          F_Mo_isWord_27 u n a1 x2 (0 : Int32) (x4 + Int32.ofInt 1) I J)
        else (
          F_Mo_isWord_27 u n a1 x2 (1 : Int32) (x4 + Int32.ofInt 1) I J)) none) none))
def F_Mo_isWord (u : Nat) (a1 : Nat) (I : pm_II) (J : pm_JJ) : Option (Int32 × pm_II × pm_JJ) :=
  bd (F_Mo_wordEnd u I J) fun r1 I1 J1 =>
  if ¬ (r1 - (I1 120 4)) = (Int32.ofNat (pm_txt a1).length) then (
    F_Mo_isWord_27 u u a1 r1 (0 : Int32) (0 : Int32) I1 J1)
  else (
    F_Mo_isWord_27 u u a1 r1 (1 : Int32) (0 : Int32) I1 J1)
theorem fx_Mo_isWord_73 {u k : Nat} {pa pb : Nat} {ga : Nat → Nat} {Q : Option Value → pm_H → Prop} {a1 : Nat} {x2 : Int32} {x3 : Int32} {x4 : Int32} {I : pm_II} {J : pm_JJ} {r : Int32} {I2 : pm_II} {J2 : pm_JJ} (hk : 4 ≤ k) (ha1 : oS a1) (hF : F_Mo_isWord_73 u x2 x3 I J = some (r, I2, J2)) (hQ : Q (some (.int r)) (hp I2 J2 (pm_RT pa pb ga))) : Px k 176 m_Mo_isWord 73 [.ref 120, .ref a1, .int x2, .int x3, .int x4] [] (hp I J (pm_RT pa pb ga)) Q := by
  obtain ⟨k, rfl⟩ : ∃ j, k = j + 4 := ⟨k - 4, by omega⟩
  unfold F_Mo_isWord_73 at hF
  refine bk_Mo_isWord_73 ?_
  refine ⟨fun z => ?_, fun z => ?_⟩
  · rw [if_pos z] at hF
    obtain ⟨g, hF⟩ := ge_e hF
    refine ⟨g, ?_⟩
    exact ret_q (Q := fun a b c => Q (some (.int a)) (hp b c (pm_RT pa pb ga))) hF hQ
  · rw [if_neg z] at hF
    obtain ⟨g, hF⟩ := ge_e hF
    refine ⟨g, ?_⟩
    exact ret_q (Q := fun a b c => Q (some (.int a)) (hp b c (pm_RT pa pb ga))) hF hQ
theorem fx_Mo_isWord_27 {u k : Nat} {pa pb : Nat} {ga : Nat → Nat} {Q : Option Value → pm_H → Prop} (hk : 4 ≤ k) : ∀ (n : Nat), ∀ (a1 : Nat) (x2 : Int32) (x3 : Int32) (x4 : Int32) (I : pm_II) (J : pm_JJ) (r : Int32) (I2 : pm_II) (J2 : pm_JJ), oS a1 → F_Mo_isWord_27 u n a1 x2 x3 x4 I J = some (r, I2, J2) → Q (some (.int r)) (hp I2 J2 (pm_RT pa pb ga)) → Px k 176 m_Mo_isWord 27 [.ref 120, .ref a1, .int x2, .int x3, .int x4] [] (hp I J (pm_RT pa pb ga)) Q := by
  obtain ⟨k, rfl⟩ : ∃ j, k = j + 4 := ⟨k - 4, by omega⟩
  intro n
  induction n with
  | zero => intro a1 x2 x3 x4 I J r I2 J2 ha1 hF; cases hF
  | succ n ih =>
    intro a1 x2 x3 x4 I J r I2 J2 ha1 hF hQ
    rw [F_Mo_isWord_27] at hF
    refine bk_Mo_isWord_27 ?_
    refine ⟨ha1, ?_⟩
    refine ⟨fun z => ?_, fun z => ?_⟩
    · rw [if_pos z] at hF
      exact fx_Mo_isWord_73 hk ha1 hF hQ
    · rw [if_neg z] at hF
      refine ⟨fun z => ?_, fun z => ?_⟩
      · rw [if_pos z] at hF
        exact fx_Mo_isWord_73 hk ha1 hF hQ
      · rw [if_neg z] at hF
        obtain ⟨g, hF⟩ := gd_e hF
        refine ⟨vq_in g, ?_⟩
        refine ⟨ha1, ?_⟩
        obtain ⟨g, hF⟩ := gd_e hF
        refine ⟨vq_in g, ?_⟩
        refine ⟨fun z => ?_, fun z => ?_⟩
        · rw [if_pos z] at hF
          exact ih _ _ _ _ _ _ _ _ _ ha1 hF hQ
        · rw [if_neg z] at hF
          exact ih _ _ _ _ _ _ _ _ _ ha1 hF hQ
theorem fx_Mo_isWord {u k : Nat} {pa pb : Nat} {ga : Nat → Nat} {Q : Option Value → pm_H → Prop} {a1 : Nat} {I : pm_II} {J : pm_JJ} {r : Int32} {I2 : pm_II} {J2 : pm_JJ} (hk : 4 ≤ k) (ha1 : oS a1) (hF : F_Mo_isWord u a1 I J = some (r, I2, J2)) (hQ : Q (some (.int r)) (hp I2 J2 (pm_RT pa pb ga))) : Px k 176 m_Mo_isWord 0 [.ref 120, .ref a1, .null, .null, .null] [] (hp I J (pm_RT pa pb ga)) Q := by
  obtain ⟨k, rfl⟩ : ∃ j, k = j + 4 := ⟨k - 4, by omega⟩
  unfold F_Mo_isWord at hF
  refine bk_Mo_isWord_0 ?_
  obtain ⟨r1, I1, J1, hC1, hF⟩ := bd_e hF
  refine fx_Mo_wordEnd (by omega) hC1 ⟨rfl, ?_⟩
  refine bk_Mo_isWord_4 ?_
  refine ⟨ha1, ?_⟩
  refine ⟨fun z => ?_, fun z => ?_⟩
  · rw [if_pos z] at hF
    exact fx_Mo_isWord_27 hk u _ _ _ _ _ _ _ _ _ ha1 hF hQ
  · rw [if_neg z] at hF
    exact fx_Mo_isWord_27 hk u _ _ _ _ _ _ _ _ _ ha1 hF hQ
def F_Mo_digit (u : Nat) (x0 : Int32) (x1 : Int32) (I : pm_II) (J : pm_JJ) : Option (Int32 × pm_II × pm_JJ) :=
  if ¬ x1 = 0 then (
    if ¬ x1 = 1 then (
      if ¬ x1 = 2 then (
        some ((x0 - x0 / 10 * 10), I, J))
      else (
        some (((x0 / 10) - (x0 / 10) / 10 * 10), I, J)))
    else (
      some (((x0 / 100) - (x0 / 100) / 10 * 10), I, J)))
  else (
    some ((x0 / 1000), I, J))
theorem fx_Mo_digit {u k : Nat} {pa pb : Nat} {ga : Nat → Nat} {Q : Option Value → pm_H → Prop} {x0 : Int32} {x1 : Int32} {I : pm_II} {J : pm_JJ} {r : Int32} {I2 : pm_II} {J2 : pm_JJ} (hk : 0 ≤ k) (hF : F_Mo_digit u x0 x1 I J = some (r, I2, J2)) (hQ : Q (some (.int r)) (hp I2 J2 (pm_RT pa pb ga))) : Px k 176 m_Mo_digit 0 [.int x0, .int x1] [] (hp I J (pm_RT pa pb ga)) Q := by
  unfold F_Mo_digit at hF
  refine bk_Mo_digit_0 ?_
  refine ⟨fun z => ?_, fun z => ?_⟩
  · rw [if_pos z] at hF
    refine ⟨fun z => ?_, fun z => ?_⟩
    · rw [if_pos z] at hF
      refine ⟨fun z => ?_, fun z => ?_⟩
      · rw [if_pos z] at hF
        exact ret_q (Q := fun a b c => Q (some (.int a)) (hp b c (pm_RT pa pb ga))) hF hQ
      · rw [if_neg z] at hF
        exact ret_q (Q := fun a b c => Q (some (.int a)) (hp b c (pm_RT pa pb ga))) hF hQ
    · rw [if_neg z] at hF
      exact ret_q (Q := fun a b c => Q (some (.int a)) (hp b c (pm_RT pa pb ga))) hF hQ
  · rw [if_neg z] at hF
    exact ret_q (Q := fun a b c => Q (some (.int a)) (hp b c (pm_RT pa pb ga))) hF hQ
def F_Mo_isPattern_8 (u : Nat) : Nat → Int32 → Int32 → Int32 → Int32 → Int32 → pm_II → pm_JJ → Option (Int32 × pm_II × pm_JJ)
  | 0, _, _, _, _, _, _, _ => none
  | n + 1, x1, x2, x3, x4, x5, I, J =>
    if 4 ≤ x5 then (
      if x3 ≤ 0 then (
        some ((0 : Int32), I, J))
      else (
        if (I 120 13) < x3 then (
          some ((0 : Int32), I, J))
        else (
          if (I 120 12) < x4 then (
            some ((0 : Int32), I, J))
          else (
            some ((1 : Int32), I, J)))))
    else (
      bd (F_Mo_digit u x1 x5 I J) fun r17 I17 J17 =>
      bd (F_Mo_digit u x2 x5 I17 J17) fun r23 I23 J23 =>
      if r17 ≤ r23 then (
        bd (F_Mo_digit u x1 x5 I23 J23) fun r35 I35 J35 =>
        if (I35 120 14) ≤ x5 then (
          F_Mo_isPattern_8 u n x1 x2 (x3 + r35) (x4 + (0 : Int32)) (x5 + Int32.ofInt 1) I35 J35)
        else (
          bd (F_Mo_digit u x1 x5 I35 J35) fun r54 I54 J54 =>
          cond (vq x5 4) (
          F_Mo_isPattern_8 u n x1 x2 (x3 + r35) (x4 + (r54 * (I54 123 ((x5 : Int32).toNatClampNeg)))) (x5 + Int32.ofInt 1) I54 J54) none))
      else (
        some ((0 : Int32), I23, J23)))
def F_Mo_isPattern (u : Nat) (x1 : Int32) (x2 : Int32) (I : pm_II) (J : pm_JJ) : Option (Int32 × pm_II × pm_JJ) :=
  F_Mo_isPattern_8 u u x1 x2 (0 : Int32) (0 : Int32) (0 : Int32) I J
theorem fx_Mo_isPattern_8 {u k : Nat} {pa pb : Nat} {ga : Nat → Nat} {Q : Option Value → pm_H → Prop} (hk : 1 ≤ k) : ∀ (n : Nat), ∀ (x1 : Int32) (x2 : Int32) (x3 : Int32) (x4 : Int32) (x5 : Int32) (I : pm_II) (J : pm_JJ) (r : Int32) (I2 : pm_II) (J2 : pm_JJ), F_Mo_isPattern_8 u n x1 x2 x3 x4 x5 I J = some (r, I2, J2) → Q (some (.int r)) (hp I2 J2 (pm_RT pa pb ga)) → Px k 176 m_Mo_isPattern 8 [.ref 120, .int x1, .int x2, .int x3, .int x4, .int x5] [] (hp I J (pm_RT pa pb ga)) Q := by
  obtain ⟨k, rfl⟩ : ∃ j, k = j + 1 := ⟨k - 1, by omega⟩
  intro n
  induction n with
  | zero => intro x1 x2 x3 x4 x5 I J r I2 J2  hF; cases hF
  | succ n ih =>
    intro x1 x2 x3 x4 x5 I J r I2 J2  hF hQ
    rw [F_Mo_isPattern_8] at hF
    refine bk_Mo_isPattern_8 ?_
    refine ⟨fun z => ?_, fun z => ?_⟩
    · rw [if_pos z] at hF
      refine ⟨fun z => ?_, fun z => ?_⟩
      · rw [if_pos z] at hF
        exact ret_q (Q := fun a b c => Q (some (.int a)) (hp b c (pm_RT pa pb ga))) hF hQ
      · rw [if_neg z] at hF
        refine ⟨fun z => ?_, fun z => ?_⟩
        · rw [if_pos z] at hF
          exact ret_q (Q := fun a b c => Q (some (.int a)) (hp b c (pm_RT pa pb ga))) hF hQ
        · rw [if_neg z] at hF
          refine ⟨fun z => ?_, fun z => ?_⟩
          · rw [if_pos z] at hF
            exact ret_q (Q := fun a b c => Q (some (.int a)) (hp b c (pm_RT pa pb ga))) hF hQ
          · rw [if_neg z] at hF
            exact ret_q (Q := fun a b c => Q (some (.int a)) (hp b c (pm_RT pa pb ga))) hF hQ
    · rw [if_neg z] at hF
      obtain ⟨r17, I17, J17, hC17, hF⟩ := bd_e hF
      refine fx_Mo_digit (by omega) hC17 ⟨rfl, ?_⟩
      refine bk_Mo_isPattern_20 ?_
      obtain ⟨r23, I23, J23, hC23, hF⟩ := bd_e hF
      refine fx_Mo_digit (by omega) hC23 ⟨rfl, ?_⟩
      refine bk_Mo_isPattern_26 ?_
      refine ⟨fun z => ?_, fun z => ?_⟩
      · rw [if_pos z] at hF
        obtain ⟨r35, I35, J35, hC35, hF⟩ := bd_e hF
        refine fx_Mo_digit (by omega) hC35 ⟨rfl, ?_⟩
        refine bk_Mo_isPattern_38 ?_
        refine ⟨fun z => ?_, fun z => ?_⟩
        · rw [if_pos z] at hF
          exact ih _ _ _ _ _ _ _ _ _ _ hF hQ
        · rw [if_neg z] at hF
          obtain ⟨r54, I54, J54, hC54, hF⟩ := bd_e hF
          refine fx_Mo_digit (by omega) hC54 ⟨rfl, ?_⟩
          refine bk_Mo_isPattern_57 ?_
          obtain ⟨g, hF⟩ := gd_e hF
          refine ⟨vq_in g, ?_⟩
          exact ih _ _ _ _ _ _ _ _ _ _ hF hQ
      · rw [if_neg z] at hF
        exact ret_q (Q := fun a b c => Q (some (.int a)) (hp b c (pm_RT pa pb ga))) hF hQ
theorem fx_Mo_isPattern {u k : Nat} {pa pb : Nat} {ga : Nat → Nat} {Q : Option Value → pm_H → Prop} {x1 : Int32} {x2 : Int32} {I : pm_II} {J : pm_JJ} {r : Int32} {I2 : pm_II} {J2 : pm_JJ} (hk : 1 ≤ k) (hF : F_Mo_isPattern u x1 x2 I J = some (r, I2, J2)) (hQ : Q (some (.int r)) (hp I2 J2 (pm_RT pa pb ga))) : Px k 176 m_Mo_isPattern 0 [.ref 120, .int x1, .int x2, .null, .null, .null] [] (hp I J (pm_RT pa pb ga)) Q := by
  obtain ⟨k, rfl⟩ : ∃ j, k = j + 1 := ⟨k - 1, by omega⟩
  unfold F_Mo_isPattern at hF
  refine bk_Mo_isPattern_0 ?_
  exact fx_Mo_isPattern_8 hk u _ _ _ _ _ _ _ _ _ _ hF hQ
def F_Mo_isWithin_4 (u : Nat) : Nat → Int32 → Int32 → Int32 → Int32 → pm_II → pm_JJ → Option (Int32 × pm_II × pm_JJ)
  | 0, _, _, _, _, _, _ => none
  | n + 1, x0, x1, x2, x3, I, J =>
    if 4 ≤ x3 then (
      if (x2 = 0 ∨ x2 = 1) then (
      some (x2, I, J)) else none)
    else (
      if x2 = 0 then (
        F_Mo_isWithin_4 u n x0 x1 (0 : Int32) (x3 + Int32.ofInt 1) I J)
      else (
        bd (F_Mo_digit u x0 x3 I J) fun r15 I15 J15 =>
        bd (F_Mo_digit u x1 x3 I15 J15) fun r20 I20 J20 =>
        if r20 < r15 then (
          F_Mo_isWithin_4 u n x0 x1 (0 : Int32) (x3 + Int32.ofInt 1) I20 J20)
        else (
          F_Mo_isWithin_4 u n x0 x1 (1 : Int32) (x3 + Int32.ofInt 1) I20 J20)))
def F_Mo_isWithin (u : Nat) (x0 : Int32) (x1 : Int32) (I : pm_II) (J : pm_JJ) : Option (Int32 × pm_II × pm_JJ) :=
  F_Mo_isWithin_4 u u x0 x1 (1 : Int32) (0 : Int32) I J
theorem fx_Mo_isWithin_4 {u k : Nat} {pa pb : Nat} {ga : Nat → Nat} {Q : Option Value → pm_H → Prop} (hk : 1 ≤ k) : ∀ (n : Nat), ∀ (x0 : Int32) (x1 : Int32) (x2 : Int32) (x3 : Int32) (I : pm_II) (J : pm_JJ) (r : Int32) (I2 : pm_II) (J2 : pm_JJ), F_Mo_isWithin_4 u n x0 x1 x2 x3 I J = some (r, I2, J2) → Q (some (.int r)) (hp I2 J2 (pm_RT pa pb ga)) → Px k 176 m_Mo_isWithin 4 [.int x0, .int x1, .int x2, .int x3] [] (hp I J (pm_RT pa pb ga)) Q := by
  obtain ⟨k, rfl⟩ : ∃ j, k = j + 1 := ⟨k - 1, by omega⟩
  intro n
  induction n with
  | zero => intro x0 x1 x2 x3 I J r I2 J2  hF; cases hF
  | succ n ih =>
    intro x0 x1 x2 x3 I J r I2 J2  hF hQ
    rw [F_Mo_isWithin_4] at hF
    refine bk_Mo_isWithin_4 ?_
    refine ⟨fun z => ?_, fun z => ?_⟩
    · rw [if_pos z] at hF
      obtain ⟨g, hF⟩ := ge_e hF
      refine ⟨g, ?_⟩
      exact ret_q (Q := fun a b c => Q (some (.int a)) (hp b c (pm_RT pa pb ga))) hF hQ
    · rw [if_neg z] at hF
      refine ⟨fun z => ?_, fun z => ?_⟩
      · rw [if_pos z] at hF
        exact ih _ _ _ _ _ _ _ _ _ hF hQ
      · rw [if_neg z] at hF
        obtain ⟨r15, I15, J15, hC15, hF⟩ := bd_e hF
        refine fx_Mo_digit (by omega) hC15 ⟨rfl, ?_⟩
        refine bk_Mo_isWithin_18 ?_
        obtain ⟨r20, I20, J20, hC20, hF⟩ := bd_e hF
        refine fx_Mo_digit (by omega) hC20 ⟨rfl, ?_⟩
        refine bk_Mo_isWithin_23 ?_
        refine ⟨fun z => ?_, fun z => ?_⟩
        · rw [if_pos z] at hF
          exact ih _ _ _ _ _ _ _ _ _ hF hQ
        · rw [if_neg z] at hF
          exact ih _ _ _ _ _ _ _ _ _ hF hQ
theorem fx_Mo_isWithin {u k : Nat} {pa pb : Nat} {ga : Nat → Nat} {Q : Option Value → pm_H → Prop} {x0 : Int32} {x1 : Int32} {I : pm_II} {J : pm_JJ} {r : Int32} {I2 : pm_II} {J2 : pm_JJ} (hk : 1 ≤ k) (hF : F_Mo_isWithin u x0 x1 I J = some (r, I2, J2)) (hQ : Q (some (.int r)) (hp I2 J2 (pm_RT pa pb ga))) : Px k 176 m_Mo_isWithin 0 [.int x0, .int x1, .null, .null] [] (hp I J (pm_RT pa pb ga)) Q := by
  obtain ⟨k, rfl⟩ : ∃ j, k = j + 1 := ⟨k - 1, by omega⟩
  unfold F_Mo_isWithin at hF
  refine bk_Mo_isWithin_0 ?_
  exact fx_Mo_isWithin_4 hk u _ _ _ _ _ _ _ _ _ hF hQ
def F_Mo_planned_185 (u : Nat) (K66 : Int32 → Int32 → Int32 → pm_II → pm_JJ → Option (Unit × pm_II × pm_JJ)) (x1 : Int32) (x2 : Int32) (x3 : Int32) (I : pm_II) (J : pm_JJ) : Option (Unit × pm_II × pm_JJ) :=
  K66 x1 x2 (x3 + Int32.ofInt 1) I J
def F_Mo_planned_101 (u : Nat) (K66 : Int32 → Int32 → Int32 → pm_II → pm_JJ → Option (Unit × pm_II × pm_JJ)) : Nat → Int32 → Int32 → Int32 → Int32 → pm_II → pm_JJ → Option (Unit × pm_II × pm_JJ)
  | 0, _, _, _, _, _, _ => none
  | n + 1, x1, x2, x3, x4, I, J =>
    if x2 ≤ x4 then (
      F_Mo_planned_185 u K66 x1 x2 x3 I J)
    else (
      cond (vq x4 10000) (
      if x3 < (I 130 ((x4 : Int32).toNatClampNeg)) then (
        F_Mo_planned_185 u K66 x1 x2 x3 I J)
      else (
        cond (vq x4 10000) (
        bd (F_Mo_isWithin u (I 130 ((x4 : Int32).toNatClampNeg)) x3 I J) fun r126 I126 J126 =>
        if r126 = 0 then (
          F_Mo_planned_101 u K66 n x1 x2 x3 (x4 + Int32.ofInt 1) I126 J126)
        else (
          cond (vq x4 10000) (
          cond (vq (x3 - (I126 130 ((x4 : Int32).toNatClampNeg))) 10000) (
          cond (vq x3 10000) (
          if (I126 129 ((x3 : Int32).toNatClampNeg)) ≤ ((I126 129 (((x3 - (I126 130 ((x4 : Int32).toNatClampNeg))) : Int32).toNatClampNeg)) + (1 : Int32)) then (
            F_Mo_planned_101 u K66 n x1 x2 x3 (x4 + Int32.ofInt 1) I126 J126)
          else (
            cond (vq x4 10000) (
            cond (vq (x3 - (I126 130 ((x4 : Int32).toNatClampNeg))) 10000) (
            cond (vq x3 10000) (
            F_Mo_planned_101 u K66 n x1 x2 x3 (x4 + Int32.ofInt 1) (pm_up I126 129 ((x3 : Int32).toNatClampNeg) ((I126 129 (((x3 - (I126 130 ((x4 : Int32).toNatClampNeg))) : Int32).toNatClampNeg)) + (1 : Int32))) J126) none) none) none)) none) none) none)) none)) none)
def F_Mo_planned_86 (u : Nat) (K66 : Int32 → Int32 → Int32 → pm_II → pm_JJ → Option (Unit × pm_II × pm_JJ)) (x1 : Int32) (x2 : Int32) (x3 : Int32) (s1 : Int32) (s2 : Int32) (I : pm_II) (J : pm_JJ) : Option (Unit × pm_II × pm_JJ) :=
  cond (vq s1 10000) (
  bd (F_Mo_isWithin u x3 x1 (pm_up I 129 ((s1 : Int32).toNatClampNeg) s2) J) fun r89 I89 J89 =>
  if ¬ r89 = 0 then (
    F_Mo_planned_101 u K66 u x1 x2 x3 (0 : Int32) I89 J89)
  else (
    F_Mo_planned_185 u K66 x1 x2 x3 I89 J89)) none
def F_Mo_planned_287 (u : Nat) (K198 : Int32 → Int32 → pm_II → pm_JJ → Option (Unit × pm_II × pm_JJ)) : Nat → Int32 → Int32 → Int32 → Int32 → pm_II → pm_JJ → Option (Unit × pm_II × pm_JJ)
  | 0, _, _, _, _, _, _ => none
  | n + 1, x2, x3, x4, x5, I, J =>
    if 4 ≤ x5 then (
      K198 x2 (x3 - x4) (pm_up I 120 15 ((I 120 15) + (1 : Int32))) J)
    else (
      bd (F_Mo_digit u x4 x5 I J) fun r310 I310 J310 =>
      cond (vq (((4 : Int32) * (I 120 15)) + x5) 64) (
      F_Mo_planned_287 u K198 n x2 x3 x4 (x5 + Int32.ofInt 1) (pm_up I310 127 (((((4 : Int32) * (I 120 15)) + x5) : Int32).toNatClampNeg) r310) J310) none)
def F_Mo_planned_284 (u : Nat) (K198 : Int32 → Int32 → pm_II → pm_JJ → Option (Unit × pm_II × pm_JJ)) (x2 : Int32) (x3 : Int32) (x4 : Int32) (I : pm_II) (J : pm_JJ) : Option (Unit × pm_II × pm_JJ) :=
  F_Mo_planned_287 u K198 u x2 x3 x4 (0 : Int32) I J
def F_Mo_planned_208 (u : Nat) (K198 : Int32 → Int32 → pm_II → pm_JJ → Option (Unit × pm_II × pm_JJ)) : Nat → Int32 → Int32 → Int32 → Int32 → pm_II → pm_JJ → Option (Unit × pm_II × pm_JJ)
  | 0, _, _, _, _, _, _ => none
  | n + 1, x2, x3, x4, x5, I, J =>
    if x2 ≤ x5 then (
      F_Mo_planned_284 u K198 x2 x3 x4 I J)
    else (
      cond (vq x5 10000) (
      if x3 < (I 130 ((x5 : Int32).toNatClampNeg)) then (
        F_Mo_planned_284 u K198 x2 x3 x4 I J)
      else (
        cond (vq x5 10000) (
        bd (F_Mo_isWithin u (I 130 ((x5 : Int32).toNatClampNeg)) x3 I J) fun r233 I233 J233 =>
        if r233 = 0 then (
          F_Mo_planned_208 u K198 n x2 x3 x4 (x5 + Int32.ofInt 1) I233 J233)
        else (
          cond (vq x5 10000) (
          cond (vq (x3 - (I233 130 ((x5 : Int32).toNatClampNeg))) 10000) (
          cond (vq x3 10000) (
          if ¬ (I233 129 (((x3 - (I233 130 ((x5 : Int32).toNatClampNeg))) : Int32).toNatClampNeg)) = ((I233 129 ((x3 : Int32).toNatClampNeg)) - (1 : Int32)) then (
            F_Mo_planned_208 u K198 n x2 x3 x4 (x5 + Int32.ofInt 1) I233 J233)
          else (
            cond (vq x5 10000) (
            F_Mo_planned_208 u K198 n x2 x3 (I233 130 ((x5 : Int32).toNatClampNeg)) (x5 + Int32.ofInt 1) I233 J233) none)) none) none) none)) none)) none)
def F_Mo_planned_198 (u : Nat) : Nat → Int32 → Int32 → pm_II → pm_JJ → Option (Unit × pm_II × pm_JJ)
  | 0, _, _, _, _ => none
  | n + 1, x2, x3, I, J =>
    if x3 ≤ 0 then (
      some ((), I, J))
    else (
      F_Mo_planned_208 u (F_Mo_planned_198 u n) u x2 x3 (0 : Int32) (0 : Int32) I J)
def F_Mo_planned_66 (u : Nat) : Nat → Int32 → Int32 → Int32 → pm_II → pm_JJ → Option (Unit × pm_II × pm_JJ)
  | 0, _, _, _, _, _ => none
  | n + 1, x1, x2, x3, I, J =>
    if x1 < x3 then (
      F_Mo_planned_198 u u x2 x1 (pm_up I 120 15 0) J)
    else (
      if ¬ x3 = 0 then (
        F_Mo_planned_86 u (F_Mo_planned_66 u n) x1 x2 x3 x3 (99 : Int32) I J)
      else (
        F_Mo_planned_86 u (F_Mo_planned_66 u n) x1 x2 x3 x3 (0 : Int32) I J))
def F_Mo_planned_31 (u : Nat) : Nat → Int32 → Int32 → Int32 → pm_II → pm_JJ → Option (Unit × pm_II × pm_JJ)
  | 0, _, _, _, _, _ => none
  | n + 1, x1, x2, x3, I, J =>
    if x1 < x3 then (
      F_Mo_planned_66 u u x1 x2 (0 : Int32) I J)
    else (
      bd (F_Mo_isPattern u x3 x1 I J) fun r39 I39 J39 =>
      if ¬ r39 = 0 then (
        cond (vq x2 10000) (
        F_Mo_planned_31 u n x1 (x2 + Int32.ofInt 1) (x3 + Int32.ofInt 1) (pm_up I39 130 ((x2 : Int32).toNatClampNeg) x3) J39) none)
      else (
        F_Mo_planned_31 u n x1 x2 (x3 + Int32.ofInt 1) I39 J39))
def F_Mo_planned_4 (u : Nat) : Nat → Int32 → Int32 → pm_II → pm_JJ → Option (Unit × pm_II × pm_JJ)
  | 0, _, _, _, _ => none
  | n + 1, x1, x2, I, J =>
    if 4 ≤ x2 then (
      F_Mo_planned_31 u u x1 (0 : Int32) (1 : Int32) I J)
    else (
      cond (vq x2 4) (
      F_Mo_planned_4 u n (((10 : Int32) * x1) + (I 124 ((x2 : Int32).toNatClampNeg))) (x2 + Int32.ofInt 1) I J) none)
def F_Mo_planned (u : Nat) (I : pm_II) (J : pm_JJ) : Option (Unit × pm_II × pm_JJ) :=
  F_Mo_planned_4 u u (0 : Int32) (0 : Int32) I J
theorem fx_Mo_planned_185 {u k : Nat} {pa pb : Nat} {ga : Nat → Nat} {Q : Option Value → pm_H → Prop} {K66 : Int32 → Int32 → Int32 → pm_II → pm_JJ → Option (Unit × pm_II × pm_JJ)} {x1 : Int32} {x2 : Int32} {x3 : Int32} {I : pm_II} {J : pm_JJ} {r : Unit} {I2 : pm_II} {J2 : pm_JJ} (hk : 2 ≤ k) (hK66 : ∀ (x1 : Int32) (x2 : Int32) (x3 : Int32) (I : pm_II) (J : pm_JJ) (r : Unit) (I2 : pm_II) (J2 : pm_JJ), K66 x1 x2 x3 I J = some (r, I2, J2) → Q none (hp I2 J2 (pm_RT pa pb ga)) → Px k 176 m_Mo_planned 66 [.ref 120, .int x1, .int x2, .int x3, .null, .null] [] (hp I J (pm_RT pa pb ga)) Q) (hF : F_Mo_planned_185 u K66 x1 x2 x3 I J = some (r, I2, J2)) (hQ : Q none (hp I2 J2 (pm_RT pa pb ga))) : Px k 176 m_Mo_planned 185 [.ref 120, .int x1, .int x2, .int x3, .null, .null] [] (hp I J (pm_RT pa pb ga)) Q := by
  obtain ⟨k, rfl⟩ : ∃ j, k = j + 1 := ⟨k - 1, by omega⟩
  unfold F_Mo_planned_185 at hF
  refine bk_Mo_planned_185 ?_
  exact hK66 _ _ _ _ _ _ _ _ hF hQ
theorem fx_Mo_planned_101 {u k : Nat} {pa pb : Nat} {ga : Nat → Nat} {Q : Option Value → pm_H → Prop} {K66 : Int32 → Int32 → Int32 → pm_II → pm_JJ → Option (Unit × pm_II × pm_JJ)} (hk : 2 ≤ k) (hK66 : ∀ (x1 : Int32) (x2 : Int32) (x3 : Int32) (I : pm_II) (J : pm_JJ) (r : Unit) (I2 : pm_II) (J2 : pm_JJ), K66 x1 x2 x3 I J = some (r, I2, J2) → Q none (hp I2 J2 (pm_RT pa pb ga)) → Px k 176 m_Mo_planned 66 [.ref 120, .int x1, .int x2, .int x3, .null, .null] [] (hp I J (pm_RT pa pb ga)) Q) : ∀ (n : Nat), ∀ (x1 : Int32) (x2 : Int32) (x3 : Int32) (x4 : Int32) (I : pm_II) (J : pm_JJ) (r : Unit) (I2 : pm_II) (J2 : pm_JJ), F_Mo_planned_101 u K66 n x1 x2 x3 x4 I J = some (r, I2, J2) → Q none (hp I2 J2 (pm_RT pa pb ga)) → Px k 176 m_Mo_planned 101 [.ref 120, .int x1, .int x2, .int x3, .int x4, .null] [] (hp I J (pm_RT pa pb ga)) Q := by
  obtain ⟨k, rfl⟩ : ∃ j, k = j + 1 := ⟨k - 1, by omega⟩
  intro n
  induction n with
  | zero => intro x1 x2 x3 x4 I J r I2 J2  hF; cases hF
  | succ n ih =>
    intro x1 x2 x3 x4 I J r I2 J2  hF hQ
    rw [F_Mo_planned_101] at hF
    refine bk_Mo_planned_101 ?_
    refine ⟨fun z => ?_, fun z => ?_⟩
    · rw [if_pos z] at hF
      exact Px_wk (fx_Mo_planned_185 hk hK66 hF hQ) ⟨Or.inl rfl, Or.inl rfl, Or.inl rfl, Or.inl rfl, Or.inr ⟨rfl, rfl⟩, Or.inl rfl, trivial⟩
    · rw [if_neg z] at hF
      obtain ⟨g, hF⟩ := gd_e hF
      refine ⟨vq_in g, ?_⟩
      refine ⟨fun z => ?_, fun z => ?_⟩
      · rw [if_pos z] at hF
        exact Px_wk (fx_Mo_planned_185 hk hK66 hF hQ) ⟨Or.inl rfl, Or.inl rfl, Or.inl rfl, Or.inl rfl, Or.inr ⟨rfl, rfl⟩, Or.inl rfl, trivial⟩
      · rw [if_neg z] at hF
        obtain ⟨g, hF⟩ := gd_e hF
        refine ⟨vq_in g, ?_⟩
        obtain ⟨r126, I126, J126, hC126, hF⟩ := bd_e hF
        refine fx_Mo_isWithin (by omega) hC126 ⟨rfl, ?_⟩
        refine bk_Mo_planned_129 ?_
        refine ⟨fun z => ?_, fun z => ?_⟩
        · rw [if_pos z] at hF
          exact ih _ _ _ _ _ _ _ _ _ hF hQ
        · rw [if_neg z] at hF
          obtain ⟨g, hF⟩ := gd_e hF
          refine ⟨vq_in g, ?_⟩
          obtain ⟨g, hF⟩ := gd_e hF
          refine ⟨vq_in g, ?_⟩
          obtain ⟨g, hF⟩ := gd_e hF
          refine ⟨vq_in g, ?_⟩
          refine ⟨fun z => ?_, fun z => ?_⟩
          · rw [if_pos z] at hF
            exact ih _ _ _ _ _ _ _ _ _ hF hQ
          · rw [if_neg z] at hF
            obtain ⟨g, hF⟩ := gd_e hF
            refine ⟨vq_in g, ?_⟩
            obtain ⟨g, hF⟩ := gd_e hF
            refine ⟨vq_in g, ?_⟩
            obtain ⟨g, hF⟩ := gd_e hF
            refine ⟨vq_in g, ?_⟩
            exact ih _ _ _ _ _ _ _ _ _ hF hQ
theorem fx_Mo_planned_86 {u k : Nat} {pa pb : Nat} {ga : Nat → Nat} {Q : Option Value → pm_H → Prop} {K66 : Int32 → Int32 → Int32 → pm_II → pm_JJ → Option (Unit × pm_II × pm_JJ)} {x1 : Int32} {x2 : Int32} {x3 : Int32} {s1 : Int32} {s2 : Int32} {I : pm_II} {J : pm_JJ} {r : Unit} {I2 : pm_II} {J2 : pm_JJ} (hk : 2 ≤ k) (hK66 : ∀ (x1 : Int32) (x2 : Int32) (x3 : Int32) (I : pm_II) (J : pm_JJ) (r : Unit) (I2 : pm_II) (J2 : pm_JJ), K66 x1 x2 x3 I J = some (r, I2, J2) → Q none (hp I2 J2 (pm_RT pa pb ga)) → Px k 176 m_Mo_planned 66 [.ref 120, .int x1, .int x2, .int x3, .null, .null] [] (hp I J (pm_RT pa pb ga)) Q) (hF : F_Mo_planned_86 u K66 x1 x2 x3 s1 s2 I J = some (r, I2, J2)) (hQ : Q none (hp I2 J2 (pm_RT pa pb ga))) : Px k 176 m_Mo_planned 86 [.ref 120, .int x1, .int x2, .int x3, .null, .null] [.int s2, .int s1, .ref 129] (hp I J (pm_RT pa pb ga)) Q := by
  obtain ⟨k, rfl⟩ : ∃ j, k = j + 1 := ⟨k - 1, by omega⟩
  unfold F_Mo_planned_86 at hF
  refine bk_Mo_planned_86 ?_
  obtain ⟨g, hF⟩ := gd_e hF
  refine ⟨vq_in g, ?_⟩
  obtain ⟨r89, I89, J89, hC89, hF⟩ := bd_e hF
  refine fx_Mo_isWithin (by omega) hC89 ⟨rfl, ?_⟩
  refine bk_Mo_planned_92 ?_
  refine ⟨fun z => ?_, fun z => ?_⟩
  · rw [if_pos z] at hF
    exact fx_Mo_planned_101 hk hK66 u _ _ _ _ _ _ _ _ _ hF hQ
  · rw [if_neg z] at hF
    exact fx_Mo_planned_185 hk hK66 hF hQ
theorem fx_Mo_planned_287 {u k : Nat} {pa pb : Nat} {ga : Nat → Nat} {Q : Option Value → pm_H → Prop} {K198 : Int32 → Int32 → pm_II → pm_JJ → Option (Unit × pm_II × pm_JJ)} (hk : 2 ≤ k) (hK198 : ∀ (x1 : Int32) (x2 : Int32) (x3 : Int32) (I : pm_II) (J : pm_JJ) (r : Unit) (I2 : pm_II) (J2 : pm_JJ), K198 x2 x3 I J = some (r, I2, J2) → Q none (hp I2 J2 (pm_RT pa pb ga)) → Px k 176 m_Mo_planned 198 [.ref 120, .int x1, .int x2, .int x3, .null, .null] [] (hp I J (pm_RT pa pb ga)) Q) : ∀ (n : Nat), ∀ (x1 : Int32) (x2 : Int32) (x3 : Int32) (x4 : Int32) (x5 : Int32) (I : pm_II) (J : pm_JJ) (r : Unit) (I2 : pm_II) (J2 : pm_JJ), F_Mo_planned_287 u K198 n x2 x3 x4 x5 I J = some (r, I2, J2) → Q none (hp I2 J2 (pm_RT pa pb ga)) → Px k 176 m_Mo_planned 287 [.ref 120, .int x1, .int x2, .int x3, .int x4, .int x5] [] (hp I J (pm_RT pa pb ga)) Q := by
  obtain ⟨k, rfl⟩ : ∃ j, k = j + 1 := ⟨k - 1, by omega⟩
  intro n
  induction n with
  | zero => intro x1 x2 x3 x4 x5 I J r I2 J2  hF; cases hF
  | succ n ih =>
    intro x1 x2 x3 x4 x5 I J r I2 J2  hF hQ
    rw [F_Mo_planned_287] at hF
    refine bk_Mo_planned_287 ?_
    refine ⟨fun z => ?_, fun z => ?_⟩
    · rw [if_pos z] at hF
      exact Px_wk (hK198 _ _ _ _ _ _ _ _ hF hQ) ⟨Or.inl rfl, Or.inl rfl, Or.inl rfl, Or.inl rfl, Or.inr ⟨rfl, rfl⟩, Or.inr ⟨rfl, rfl⟩, trivial⟩
    · rw [if_neg z] at hF
      obtain ⟨r310, I310, J310, hC310, hF⟩ := bd_e hF
      refine fx_Mo_digit (by omega) hC310 ⟨rfl, ?_⟩
      refine bk_Mo_planned_313 ?_
      obtain ⟨g, hF⟩ := gd_e hF
      refine ⟨vq_in g, ?_⟩
      exact ih _ _ _ _ _ _ _ _ _ _ hF hQ
theorem fx_Mo_planned_284 {u k : Nat} {pa pb : Nat} {ga : Nat → Nat} {Q : Option Value → pm_H → Prop} {K198 : Int32 → Int32 → pm_II → pm_JJ → Option (Unit × pm_II × pm_JJ)} {x1 : Int32} {x2 : Int32} {x3 : Int32} {x4 : Int32} {x5 : Int32} {I : pm_II} {J : pm_JJ} {r : Unit} {I2 : pm_II} {J2 : pm_JJ} (hk : 2 ≤ k) (hK198 : ∀ (x1 : Int32) (x2 : Int32) (x3 : Int32) (I : pm_II) (J : pm_JJ) (r : Unit) (I2 : pm_II) (J2 : pm_JJ), K198 x2 x3 I J = some (r, I2, J2) → Q none (hp I2 J2 (pm_RT pa pb ga)) → Px k 176 m_Mo_planned 198 [.ref 120, .int x1, .int x2, .int x3, .null, .null] [] (hp I J (pm_RT pa pb ga)) Q) (hF : F_Mo_planned_284 u K198 x2 x3 x4 I J = some (r, I2, J2)) (hQ : Q none (hp I2 J2 (pm_RT pa pb ga))) : Px k 176 m_Mo_planned 284 [.ref 120, .int x1, .int x2, .int x3, .int x4, .int x5] [] (hp I J (pm_RT pa pb ga)) Q := by
  obtain ⟨k, rfl⟩ : ∃ j, k = j + 1 := ⟨k - 1, by omega⟩
  unfold F_Mo_planned_284 at hF
  refine bk_Mo_planned_284 ?_
  exact fx_Mo_planned_287 hk hK198 u _ _ _ _ _ _ _ _ _ _ hF hQ
theorem fx_Mo_planned_208 {u k : Nat} {pa pb : Nat} {ga : Nat → Nat} {Q : Option Value → pm_H → Prop} {K198 : Int32 → Int32 → pm_II → pm_JJ → Option (Unit × pm_II × pm_JJ)} (hk : 2 ≤ k) (hK198 : ∀ (x1 : Int32) (x2 : Int32) (x3 : Int32) (I : pm_II) (J : pm_JJ) (r : Unit) (I2 : pm_II) (J2 : pm_JJ), K198 x2 x3 I J = some (r, I2, J2) → Q none (hp I2 J2 (pm_RT pa pb ga)) → Px k 176 m_Mo_planned 198 [.ref 120, .int x1, .int x2, .int x3, .null, .null] [] (hp I J (pm_RT pa pb ga)) Q) : ∀ (n : Nat), ∀ (x1 : Int32) (x2 : Int32) (x3 : Int32) (x4 : Int32) (x5 : Int32) (I : pm_II) (J : pm_JJ) (r : Unit) (I2 : pm_II) (J2 : pm_JJ), F_Mo_planned_208 u K198 n x2 x3 x4 x5 I J = some (r, I2, J2) → Q none (hp I2 J2 (pm_RT pa pb ga)) → Px k 176 m_Mo_planned 208 [.ref 120, .int x1, .int x2, .int x3, .int x4, .int x5] [] (hp I J (pm_RT pa pb ga)) Q := by
  obtain ⟨k, rfl⟩ : ∃ j, k = j + 1 := ⟨k - 1, by omega⟩
  intro n
  induction n with
  | zero => intro x1 x2 x3 x4 x5 I J r I2 J2  hF; cases hF
  | succ n ih =>
    intro x1 x2 x3 x4 x5 I J r I2 J2  hF hQ
    rw [F_Mo_planned_208] at hF
    refine bk_Mo_planned_208 ?_
    refine ⟨fun z => ?_, fun z => ?_⟩
    · rw [if_pos z] at hF
      exact fx_Mo_planned_284 hk hK198 hF hQ
    · rw [if_neg z] at hF
      obtain ⟨g, hF⟩ := gd_e hF
      refine ⟨vq_in g, ?_⟩
      refine ⟨fun z => ?_, fun z => ?_⟩
      · rw [if_pos z] at hF
        exact fx_Mo_planned_284 hk hK198 hF hQ
      · rw [if_neg z] at hF
        obtain ⟨g, hF⟩ := gd_e hF
        refine ⟨vq_in g, ?_⟩
        obtain ⟨r233, I233, J233, hC233, hF⟩ := bd_e hF
        refine fx_Mo_isWithin (by omega) hC233 ⟨rfl, ?_⟩
        refine bk_Mo_planned_236 ?_
        refine ⟨fun z => ?_, fun z => ?_⟩
        · rw [if_pos z] at hF
          exact ih _ _ _ _ _ _ _ _ _ _ hF hQ
        · rw [if_neg z] at hF
          obtain ⟨g, hF⟩ := gd_e hF
          refine ⟨vq_in g, ?_⟩
          obtain ⟨g, hF⟩ := gd_e hF
          refine ⟨vq_in g, ?_⟩
          obtain ⟨g, hF⟩ := gd_e hF
          refine ⟨vq_in g, ?_⟩
          refine ⟨fun z => ?_, fun z => ?_⟩
          · rw [if_pos z] at hF
            exact ih _ _ _ _ _ _ _ _ _ _ hF hQ
          · rw [if_neg z] at hF
            obtain ⟨g, hF⟩ := gd_e hF
            refine ⟨vq_in g, ?_⟩
            exact ih _ _ _ _ _ _ _ _ _ _ hF hQ
theorem fx_Mo_planned_198 {u k : Nat} {pa pb : Nat} {ga : Nat → Nat} {Q : Option Value → pm_H → Prop} (hk : 2 ≤ k) : ∀ (n : Nat), ∀ (x1 : Int32) (x2 : Int32) (x3 : Int32) (I : pm_II) (J : pm_JJ) (r : Unit) (I2 : pm_II) (J2 : pm_JJ), F_Mo_planned_198 u n x2 x3 I J = some (r, I2, J2) → Q none (hp I2 J2 (pm_RT pa pb ga)) → Px k 176 m_Mo_planned 198 [.ref 120, .int x1, .int x2, .int x3, .null, .null] [] (hp I J (pm_RT pa pb ga)) Q := by
  obtain ⟨k, rfl⟩ : ∃ j, k = j + 1 := ⟨k - 1, by omega⟩
  intro n
  induction n with
  | zero => intro x1 x2 x3 I J r I2 J2  hF; cases hF
  | succ n ih =>
    intro x1 x2 x3 I J r I2 J2  hF hQ
    rw [F_Mo_planned_198] at hF
    refine bk_Mo_planned_198 ?_
    refine ⟨fun z => ?_, fun z => ?_⟩
    · rw [if_pos z] at hF
      exact ret_q (Q := fun a b c => Q none (hp b c (pm_RT pa pb ga))) hF hQ
    · rw [if_neg z] at hF
      exact fx_Mo_planned_208 hk ih u _ _ _ _ _ _ _ _ _ _ hF hQ
theorem fx_Mo_planned_66 {u k : Nat} {pa pb : Nat} {ga : Nat → Nat} {Q : Option Value → pm_H → Prop} (hk : 2 ≤ k) : ∀ (n : Nat), ∀ (x1 : Int32) (x2 : Int32) (x3 : Int32) (I : pm_II) (J : pm_JJ) (r : Unit) (I2 : pm_II) (J2 : pm_JJ), F_Mo_planned_66 u n x1 x2 x3 I J = some (r, I2, J2) → Q none (hp I2 J2 (pm_RT pa pb ga)) → Px k 176 m_Mo_planned 66 [.ref 120, .int x1, .int x2, .int x3, .null, .null] [] (hp I J (pm_RT pa pb ga)) Q := by
  obtain ⟨k, rfl⟩ : ∃ j, k = j + 1 := ⟨k - 1, by omega⟩
  intro n
  induction n with
  | zero => intro x1 x2 x3 I J r I2 J2  hF; cases hF
  | succ n ih =>
    intro x1 x2 x3 I J r I2 J2  hF hQ
    rw [F_Mo_planned_66] at hF
    refine bk_Mo_planned_66 ?_
    refine ⟨fun z => ?_, fun z => ?_⟩
    · rw [if_pos z] at hF
      exact fx_Mo_planned_198 hk u _ _ _ _ _ _ _ _ hF hQ
    · rw [if_neg z] at hF
      refine ⟨fun z => ?_, fun z => ?_⟩
      · rw [if_pos z] at hF
        exact fx_Mo_planned_86 hk ih hF hQ
      · rw [if_neg z] at hF
        exact fx_Mo_planned_86 hk ih hF hQ
theorem fx_Mo_planned_31 {u k : Nat} {pa pb : Nat} {ga : Nat → Nat} {Q : Option Value → pm_H → Prop} (hk : 2 ≤ k) : ∀ (n : Nat), ∀ (x1 : Int32) (x2 : Int32) (x3 : Int32) (I : pm_II) (J : pm_JJ) (r : Unit) (I2 : pm_II) (J2 : pm_JJ), F_Mo_planned_31 u n x1 x2 x3 I J = some (r, I2, J2) → Q none (hp I2 J2 (pm_RT pa pb ga)) → Px k 176 m_Mo_planned 31 [.ref 120, .int x1, .int x2, .int x3, .null, .null] [] (hp I J (pm_RT pa pb ga)) Q := by
  obtain ⟨k, rfl⟩ : ∃ j, k = j + 1 := ⟨k - 1, by omega⟩
  intro n
  induction n with
  | zero => intro x1 x2 x3 I J r I2 J2  hF; cases hF
  | succ n ih =>
    intro x1 x2 x3 I J r I2 J2  hF hQ
    rw [F_Mo_planned_31] at hF
    refine bk_Mo_planned_31 ?_
    refine ⟨fun z => ?_, fun z => ?_⟩
    · rw [if_pos z] at hF
      exact fx_Mo_planned_66 hk u _ _ _ _ _ _ _ _ hF hQ
    · rw [if_neg z] at hF
      obtain ⟨r39, I39, J39, hC39, hF⟩ := bd_e hF
      refine fx_Mo_isPattern (by omega) hC39 ⟨rfl, ?_⟩
      refine bk_Mo_planned_42 ?_
      refine ⟨fun z => ?_, fun z => ?_⟩
      · rw [if_pos z] at hF
        obtain ⟨g, hF⟩ := gd_e hF
        refine ⟨vq_in g, ?_⟩
        exact ih _ _ _ _ _ _ _ _ hF hQ
      · rw [if_neg z] at hF
        exact ih _ _ _ _ _ _ _ _ hF hQ
theorem fx_Mo_planned_4 {u k : Nat} {pa pb : Nat} {ga : Nat → Nat} {Q : Option Value → pm_H → Prop} (hk : 2 ≤ k) : ∀ (n : Nat), ∀ (x1 : Int32) (x2 : Int32) (I : pm_II) (J : pm_JJ) (r : Unit) (I2 : pm_II) (J2 : pm_JJ), F_Mo_planned_4 u n x1 x2 I J = some (r, I2, J2) → Q none (hp I2 J2 (pm_RT pa pb ga)) → Px k 176 m_Mo_planned 4 [.ref 120, .int x1, .int x2, .null, .null, .null] [] (hp I J (pm_RT pa pb ga)) Q := by
  obtain ⟨k, rfl⟩ : ∃ j, k = j + 1 := ⟨k - 1, by omega⟩
  intro n
  induction n with
  | zero => intro x1 x2 I J r I2 J2  hF; cases hF
  | succ n ih =>
    intro x1 x2 I J r I2 J2  hF hQ
    rw [F_Mo_planned_4] at hF
    refine bk_Mo_planned_4 ?_
    refine ⟨fun z => ?_, fun z => ?_⟩
    · rw [if_pos z] at hF
      exact fx_Mo_planned_31 hk u _ _ _ _ _ _ _ _ hF hQ
    · rw [if_neg z] at hF
      obtain ⟨g, hF⟩ := gd_e hF
      refine ⟨vq_in g, ?_⟩
      exact ih _ _ _ _ _ _ _ hF hQ
theorem fx_Mo_planned {u k : Nat} {pa pb : Nat} {ga : Nat → Nat} {Q : Option Value → pm_H → Prop} {I : pm_II} {J : pm_JJ} {r : Unit} {I2 : pm_II} {J2 : pm_JJ} (hk : 2 ≤ k) (hF : F_Mo_planned u  I J = some (r, I2, J2)) (hQ : Q none (hp I2 J2 (pm_RT pa pb ga))) : Px k 176 m_Mo_planned 0 [.ref 120, .null, .null, .null, .null, .null] [] (hp I J (pm_RT pa pb ga)) Q := by
  obtain ⟨k, rfl⟩ : ∃ j, k = j + 1 := ⟨k - 1, by omega⟩
  unfold F_Mo_planned at hF
  refine bk_Mo_planned_0 ?_
  exact fx_Mo_planned_4 hk u _ _ _ _ _ _ _ hF hQ
def F_Mo_take_10 (u : Nat) : Nat → Int32 → pm_II → pm_JJ → Option (Unit × pm_II × pm_JJ)
  | 0, _, _, _ => none
  | n + 1, x1, I, J =>
    if (I 120 3) ≤ x1 then (
      some ((), (pm_up (pm_up (pm_up I 120 2 0) 120 4 0) 120 5 (-1)), J))
    else (
      cond (vq x1 1600) (
      cond (vq x1 1600) (
      F_Mo_take_10 u n (x1 + Int32.ofInt 1) (pm_up I 122 ((x1 : Int32).toNatClampNeg) (I 121 ((x1 : Int32).toNatClampNeg))) J) none) none)
def F_Mo_take (u : Nat) (I : pm_II) (J : pm_JJ) : Option (Unit × pm_II × pm_JJ) :=
  F_Mo_take_10 u u (0 : Int32) (pm_up I 120 3 (I 120 2)) J
theorem fx_Mo_take_10 {u k : Nat} {pa pb : Nat} {ga : Nat → Nat} {Q : Option Value → pm_H → Prop} (hk : 0 ≤ k) : ∀ (n : Nat), ∀ (x1 : Int32) (I : pm_II) (J : pm_JJ) (r : Unit) (I2 : pm_II) (J2 : pm_JJ), F_Mo_take_10 u n x1 I J = some (r, I2, J2) → Q none (hp I2 J2 (pm_RT pa pb ga)) → Px k 176 m_Mo_take 10 [.ref 120, .int x1] [] (hp I J (pm_RT pa pb ga)) Q := by
  intro n
  induction n with
  | zero => intro x1 I J r I2 J2  hF; cases hF
  | succ n ih =>
    intro x1 I J r I2 J2  hF hQ
    rw [F_Mo_take_10] at hF
    refine bk_Mo_take_10 ?_
    refine ⟨fun z => ?_, fun z => ?_⟩
    · rw [if_pos z] at hF
      exact ret_q (Q := fun a b c => Q none (hp b c (pm_RT pa pb ga))) hF hQ
    · rw [if_neg z] at hF
      obtain ⟨g, hF⟩ := gd_e hF
      refine ⟨vq_in g, ?_⟩
      obtain ⟨g, hF⟩ := gd_e hF
      refine ⟨vq_in g, ?_⟩
      exact ih _ _ _ _ _ _ hF hQ
theorem fx_Mo_take {u k : Nat} {pa pb : Nat} {ga : Nat → Nat} {Q : Option Value → pm_H → Prop} {I : pm_II} {J : pm_JJ} {r : Unit} {I2 : pm_II} {J2 : pm_JJ} (hk : 0 ≤ k) (hF : F_Mo_take u  I J = some (r, I2, J2)) (hQ : Q none (hp I2 J2 (pm_RT pa pb ga))) : Px k 176 m_Mo_take 0 [.ref 120, .null] [] (hp I J (pm_RT pa pb ga)) Q := by
  unfold F_Mo_take at hF
  refine bk_Mo_take_0 ?_
  exact fx_Mo_take_10 hk u _ _ _ _ _ _ hF hQ
def F_Mo_cut_152 (u : Nat) (K52 : Int32 → Int32 → Int32 → Int32 → pm_II → pm_JJ → Option (Int32 × pm_II × pm_JJ)) (K121 : Int32 → Int32 → Int32 → Int32 → Int32 → Int32 → Int32 → pm_II → pm_JJ → Option (Int32 × pm_II × pm_JJ)) (x1 : Int32) (x2 : Int32) (x3 : Int32) (x4 : Int32) (x5 : Int32) (x6 : Int32) (x7 : Int32) (I : pm_II) (J : pm_JJ) : Option (Int32 × pm_II × pm_JJ) :=
  K121 x1 x2 x3 x4 x5 x6 (x7 + Int32.ofInt 1) I J
def F_Mo_cut_206 (u : Nat) (K52 : Int32 → Int32 → Int32 → Int32 → pm_II → pm_JJ → Option (Int32 × pm_II × pm_JJ)) (x1 : Int32) (x2 : Int32) (x3 : Int32) (x4 : Int32) (x6 : Int32) (x7 : Int32) (I : pm_II) (J : pm_JJ) : Option (Int32 × pm_II × pm_JJ) :=
  bd (F_Mo_need u (10 : Int32) I J) fun _ I209 J209 =>
  bd (F_Mo_bad u I209 J209) fun r213 I213 J213 =>
  if r213 = 0 then (
    cond (vq x3 4) (
    cond (vq x3 4) (
    K52 x1 x2 (x3 + Int32.ofInt 1) x4 (pm_up (pm_up I213 125 ((x3 : Int32).toNatClampNeg) x6) 126 ((x3 : Int32).toNatClampNeg) x7) J213) none) none)
  else (
    K52 x1 x2 x3 x4 I213 J213)
def F_Mo_cut_158 (u : Nat) (K52 : Int32 → Int32 → Int32 → Int32 → pm_II → pm_JJ → Option (Int32 × pm_II × pm_JJ)) (x1 : Int32) (x2 : Int32) (x3 : Int32) (x4 : Int32) (x6 : Int32) (I : pm_II) (J : pm_JJ) : Option (Int32 × pm_II × pm_JJ) :=
  bd (F_Mo_need u (32 : Int32) I J) fun _ I161 J161 =>
  bd (F_Mo_told u (1 : Int32) (9 : Int32) I161 J161) fun r174 I174 J174 =>
  bd (F_Mo_bad u I174 J174) fun r187 I187 J187 =>
  if ¬ r187 = 0 then (
    F_Mo_cut_206 u K52 x1 x2 x3 (x4 + r174) x6 r174 I187 J187)
  else (
    if (x4 + r174) ≤ 16 then (
      F_Mo_cut_206 u K52 x1 x2 x3 (x4 + r174) x6 r174 I187 J187)
    else (
      bd (F_Mo_fail u (I161 120 4) I187 J187) fun _ I203 J203 =>
      F_Mo_cut_206 u K52 x1 x2 x3 (x4 + r174) x6 r174 I203 J203))
def F_Mo_cut_121 (u : Nat) (K52 : Int32 → Int32 → Int32 → Int32 → pm_II → pm_JJ → Option (Int32 × pm_II × pm_JJ)) : Nat → Int32 → Int32 → Int32 → Int32 → Int32 → Int32 → Int32 → pm_II → pm_JJ → Option (Int32 × pm_II × pm_JJ)
  | 0, _, _, _, _, _, _, _, _, _ => none
  | n + 1, x1, x2, x3, x4, x5, x6, x7, I, J =>
    if x3 ≤ x7 then (
      F_Mo_cut_158 u K52 x1 x2 x3 x4 x6 I J)
    else (
      bd (F_Mo_bad u I J) fun r128 I128 J128 =>
      if ¬ r128 = 0 then (
        F_Mo_cut_158 u K52 x1 x2 x3 x4 x6 I128 J128)
      else (
        cond (vq x7 4) (
        if ¬ (I128 125 ((x7 : Int32).toNatClampNeg)) = x6 then (
          F_Mo_cut_152 u K52 (F_Mo_cut_121 u K52 n) x1 x2 x3 x4 x5 x6 x7 I128 J128)
        else (
          bd (F_Mo_fail u x5 I128 J128) fun _ I149 J149 =>
          F_Mo_cut_152 u K52 (F_Mo_cut_121 u K52 n) x1 x2 x3 x4 x5 x6 x7 I149 J149)) none))
def F_Mo_cut_97 (u : Nat) (K52 : Int32 → Int32 → Int32 → Int32 → pm_II → pm_JJ → Option (Int32 × pm_II × pm_JJ)) (x1 : Int32) (x2 : Int32) (x3 : Int32) (x4 : Int32) (I : pm_II) (J : pm_JJ) : Option (Int32 × pm_II × pm_JJ) :=
  bd (F_Mo_need u (32 : Int32) I J) fun _ I100 J100 =>
  bd (F_Mo_told u (10 : Int32) x1 I100 J100) fun r113 I113 J113 =>
  F_Mo_cut_121 u K52 u x1 x2 x3 x4 (I100 120 4) r113 (0 : Int32) I113 J113
def F_Mo_cut_89 (u : Nat) (K52 : Int32 → Int32 → Int32 → Int32 → pm_II → pm_JJ → Option (Int32 × pm_II × pm_JJ)) (x1 : Int32) (x2 : Int32) (x3 : Int32) (x4 : Int32) (I : pm_II) (J : pm_JJ) : Option (Int32 × pm_II × pm_JJ) :=
  bd (F_Mo_fail u (I 120 4) I J) fun _ I94 J94 =>
  F_Mo_cut_97 u K52 x1 x2 x3 x4 I94 J94
def F_Mo_cut_74 (u : Nat) (K52 : Int32 → Int32 → Int32 → Int32 → pm_II → pm_JJ → Option (Int32 × pm_II × pm_JJ)) (x1 : Int32) (x2 : Int32) (x3 : Int32) (x4 : Int32) (I : pm_II) (J : pm_JJ) : Option (Int32 × pm_II × pm_JJ) :=
  if x3 = 4 then (
    F_Mo_cut_89 u K52 x1 x2 x3 x4 I J)
  else (
    bd (F_Mo_isWord u 4 I J) fun r83 I83 J83 =>
    if ¬ r83 = 0 then (
      F_Mo_cut_97 u K52 x1 x2 x3 x4 I83 J83)
    else (
      F_Mo_cut_89 u K52 x1 x2 x3 x4 I83 J83))
def F_Mo_cut_278 (u : Nat) : Nat → Int32 → Int32 → pm_II → pm_JJ → Option (Int32 × pm_II × pm_JJ)
  | 0, _, _, _, _ => none
  | n + 1, x3, x5, I, J =>
    if 4 ≤ x5 then (
      bd (F_Mo_planned u I J) fun _ I329 J329 =>
      some ((I329 120 15), I329, J329))
    else (
      cond (vq x5 4) (
      cond (vq x5 4) (
      if x3 ≤ x5 then (
        cond (vq x5 4) (
        F_Mo_cut_278 u n x3 (x5 + Int32.ofInt 1) (pm_up (pm_up I 123 ((x5 : Int32).toNatClampNeg) (I 125 ((x5 : Int32).toNatClampNeg))) 124 ((x5 : Int32).toNatClampNeg) 0) J) none)
      else (
        cond (vq x5 4) (
        cond (vq x5 4) (
        F_Mo_cut_278 u n x3 (x5 + Int32.ofInt 1) (pm_up (pm_up I 123 ((x5 : Int32).toNatClampNeg) (I 125 ((x5 : Int32).toNatClampNeg))) 124 ((x5 : Int32).toNatClampNeg) (I 126 ((x5 : Int32).toNatClampNeg))) J) none) none)) none) none)
def F_Mo_cut_244 (u : Nat) (x1 : Int32) (x2 : Int32) (x3 : Int32) (I : pm_II) (J : pm_JJ) : Option (Int32 × pm_II × pm_JJ) :=
  bd (F_Mo_bad u I J) fun r245 I245 J245 =>
  if r245 = 0 then (
    F_Mo_cut_278 u u x3 (0 : Int32) (pm_up (pm_up (pm_up I245 120 12 x1) 120 13 x2) 120 14 x3) J245)
  else (
    some ((((-1000) : Int32) - (I245 120 5)), I245, J245))
def F_Mo_cut_52 (u : Nat) : Nat → Int32 → Int32 → Int32 → Int32 → pm_II → pm_JJ → Option (Int32 × pm_II × pm_JJ)
  | 0, _, _, _, _, _, _ => none
  | n + 1, x1, x2, x3, x4, I, J =>
    bd (F_Mo_bad u I J) fun r53 I53 J53 =>
    if ¬ r53 = 0 then (
      F_Mo_cut_244 u x1 x2 x3 I53 J53)
    else (
      if (I53 120 4) < (I53 120 3) then (
        F_Mo_cut_74 u (F_Mo_cut_52 u n) x1 x2 x3 x4 I53 J53)
      else (
        if ¬ x3 = 0 then (
          F_Mo_cut_244 u x1 x2 x3 I53 J53)
        else (
          F_Mo_cut_74 u (F_Mo_cut_52 u n) x1 x2 x3 x4 I53 J53)))
def F_Mo_cut_28 (u : Nat) (x3 : Int32) (x4 : Int32) (I : pm_II) (J : pm_JJ) : Option (Int32 × pm_II × pm_JJ) :=
  bd (F_Mo_behind u (50 : Int32) (400 : Int32) I J) fun r34 I34 J34 =>
  bd (F_Mo_behind u (1 : Int32) (6 : Int32) I34 J34) fun r42 I42 J42 =>
  bd (F_Mo_need u (10 : Int32) I42 J42) fun _ I49 J49 =>
  F_Mo_cut_52 u u r34 r42 x3 x4 I49 J49
def F_Mo_cut (u : Nat) (I : pm_II) (J : pm_JJ) : Option (Int32 × pm_II × pm_JJ) :=
  bd (F_Mo_take u I J) fun _ I1 J1 =>
  bd (F_Mo_isWord u 3 I1 J1) fun r17 I17 J17 =>
  if ¬ r17 = 0 then (
    F_Mo_cut_28 u (0 : Int32) (0 : Int32) I17 J17)
  else (
    bd (F_Mo_fail u (0 : Int32) I17 J17) fun _ I25 J25 =>
    F_Mo_cut_28 u (0 : Int32) (0 : Int32) I25 J25)
theorem fx_Mo_cut_152 {u k : Nat} {pa pb : Nat} {ga : Nat → Nat} {Q : Option Value → pm_H → Prop} {K52 : Int32 → Int32 → Int32 → Int32 → pm_II → pm_JJ → Option (Int32 × pm_II × pm_JJ)} {K121 : Int32 → Int32 → Int32 → Int32 → Int32 → Int32 → Int32 → pm_II → pm_JJ → Option (Int32 × pm_II × pm_JJ)} {x1 : Int32} {x2 : Int32} {x3 : Int32} {x4 : Int32} {x5 : Int32} {x6 : Int32} {x7 : Int32} {I : pm_II} {J : pm_JJ} {r : Int32} {I2 : pm_II} {J2 : pm_JJ} (hk : 5 ≤ k) (hK52 : ∀ (x1 : Int32) (x2 : Int32) (x3 : Int32) (x4 : Int32) (I : pm_II) (J : pm_JJ) (r : Int32) (I2 : pm_II) (J2 : pm_JJ), K52 x1 x2 x3 x4 I J = some (r, I2, J2) → Q (some (.int r)) (hp I2 J2 (pm_RT pa pb ga)) → Px k 176 m_Mo_cut 52 [.ref 120, .int x1, .int x2, .int x3, .int x4, .null, .null, .null] [] (hp I J (pm_RT pa pb ga)) Q) (hK121 : ∀ (x1 : Int32) (x2 : Int32) (x3 : Int32) (x4 : Int32) (x5 : Int32) (x6 : Int32) (x7 : Int32) (I : pm_II) (J : pm_JJ) (r : Int32) (I2 : pm_II) (J2 : pm_JJ), K121 x1 x2 x3 x4 x5 x6 x7 I J = some (r, I2, J2) → Q (some (.int r)) (hp I2 J2 (pm_RT pa pb ga)) → Px k 176 m_Mo_cut 121 [.ref 120, .int x1, .int x2, .int x3, .int x4, .int x5, .int x6, .int x7] [] (hp I J (pm_RT pa pb ga)) Q) (hF : F_Mo_cut_152 u K52 K121 x1 x2 x3 x4 x5 x6 x7 I J = some (r, I2, J2)) (hQ : Q (some (.int r)) (hp I2 J2 (pm_RT pa pb ga))) : Px k 176 m_Mo_cut 152 [.ref 120, .int x1, .int x2, .int x3, .int x4, .int x5, .int x6, .int x7] [] (hp I J (pm_RT pa pb ga)) Q := by
  obtain ⟨k, rfl⟩ : ∃ j, k = j + 1 := ⟨k - 1, by omega⟩
  unfold F_Mo_cut_152 at hF
  refine bk_Mo_cut_152 ?_
  exact hK121 _ _ _ _ _ _ _ _ _ _ _ _ hF hQ
theorem fx_Mo_cut_206 {u k : Nat} {pa pb : Nat} {ga : Nat → Nat} {Q : Option Value → pm_H → Prop} {K52 : Int32 → Int32 → Int32 → Int32 → pm_II → pm_JJ → Option (Int32 × pm_II × pm_JJ)} {x1 : Int32} {x2 : Int32} {x3 : Int32} {x4 : Int32} {x5 : Int32} {x6 : Int32} {x7 : Int32} {I : pm_II} {J : pm_JJ} {r : Int32} {I2 : pm_II} {J2 : pm_JJ} (hk : 5 ≤ k) (hK52 : ∀ (x1 : Int32) (x2 : Int32) (x3 : Int32) (x4 : Int32) (I : pm_II) (J : pm_JJ) (r : Int32) (I2 : pm_II) (J2 : pm_JJ), K52 x1 x2 x3 x4 I J = some (r, I2, J2) → Q (some (.int r)) (hp I2 J2 (pm_RT pa pb ga)) → Px k 176 m_Mo_cut 52 [.ref 120, .int x1, .int x2, .int x3, .int x4, .null, .null, .null] [] (hp I J (pm_RT pa pb ga)) Q) (hF : F_Mo_cut_206 u K52 x1 x2 x3 x4 x6 x7 I J = some (r, I2, J2)) (hQ : Q (some (.int r)) (hp I2 J2 (pm_RT pa pb ga))) : Px k 176 m_Mo_cut 206 [.ref 120, .int x1, .int x2, .int x3, .int x4, .int x5, .int x6, .int x7] [] (hp I J (pm_RT pa pb ga)) Q := by
  obtain ⟨k, rfl⟩ : ∃ j, k = j + 1 := ⟨k - 1, by omega⟩
  unfold F_Mo_cut_206 at hF
  refine bk_Mo_cut_206 ?_
  obtain ⟨r209, I209, J209, hC209, hF⟩ := bd_e hF
  refine fx_Mo_need (by omega) hC209 ⟨rfl, ?_⟩
  refine bk_Mo_cut_212 ?_
  obtain ⟨r213, I213, J213, hC213, hF⟩ := bd_e hF
  refine fx_Mo_bad (by omega) hC213 ⟨rfl, ?_⟩
  refine bk_Mo_cut_216 ?_
  refine ⟨fun z => ?_, fun z => ?_⟩
  · rw [if_pos z] at hF
    obtain ⟨g, hF⟩ := gd_e hF
    refine ⟨vq_in g, ?_⟩
    obtain ⟨g, hF⟩ := gd_e hF
    refine ⟨vq_in g, ?_⟩
    exact Px_wk (hK52 _ _ _ _ _ _ _ _ _ hF hQ) ⟨Or.inl rfl, Or.inl rfl, Or.inl rfl, Or.inl rfl, Or.inl rfl, Or.inr ⟨rfl, rfl⟩, Or.inr ⟨rfl, rfl⟩, Or.inr ⟨rfl, rfl⟩, trivial⟩
  · rw [if_neg z] at hF
    exact Px_wk (hK52 _ _ _ _ _ _ _ _ _ hF hQ) ⟨Or.inl rfl, Or.inl rfl, Or.inl rfl, Or.inl rfl, Or.inl rfl, Or.inr ⟨rfl, rfl⟩, Or.inr ⟨rfl, rfl⟩, Or.inr ⟨rfl, rfl⟩, trivial⟩
theorem fx_Mo_cut_158 {u k : Nat} {pa pb : Nat} {ga : Nat → Nat} {Q : Option Value → pm_H → Prop} {K52 : Int32 → Int32 → Int32 → Int32 → pm_II → pm_JJ → Option (Int32 × pm_II × pm_JJ)} {x1 : Int32} {x2 : Int32} {x3 : Int32} {x4 : Int32} {x5 : Int32} {x6 : Int32} {x7 : Int32} {I : pm_II} {J : pm_JJ} {r : Int32} {I2 : pm_II} {J2 : pm_JJ} (hk : 5 ≤ k) (hK52 : ∀ (x1 : Int32) (x2 : Int32) (x3 : Int32) (x4 : Int32) (I : pm_II) (J : pm_JJ) (r : Int32) (I2 : pm_II) (J2 : pm_JJ), K52 x1 x2 x3 x4 I J = some (r, I2, J2) → Q (some (.int r)) (hp I2 J2 (pm_RT pa pb ga)) → Px k 176 m_Mo_cut 52 [.ref 120, .int x1, .int x2, .int x3, .int x4, .null, .null, .null] [] (hp I J (pm_RT pa pb ga)) Q) (hF : F_Mo_cut_158 u K52 x1 x2 x3 x4 x6 I J = some (r, I2, J2)) (hQ : Q (some (.int r)) (hp I2 J2 (pm_RT pa pb ga))) : Px k 176 m_Mo_cut 158 [.ref 120, .int x1, .int x2, .int x3, .int x4, .int x5, .int x6, .int x7] [] (hp I J (pm_RT pa pb ga)) Q := by
  obtain ⟨k, rfl⟩ : ∃ j, k = j + 1 := ⟨k - 1, by omega⟩
  unfold F_Mo_cut_158 at hF
  refine bk_Mo_cut_158 ?_
  obtain ⟨r161, I161, J161, hC161, hF⟩ := bd_e hF
  refine fx_Mo_need (by omega) hC161 ⟨rfl, ?_⟩
  refine bk_Mo_cut_164 ?_
  obtain ⟨r174, I174, J174, hC174, hF⟩ := bd_e hF
  refine fx_Mo_told (by omega) hC174 ⟨rfl, ?_⟩
  refine bk_Mo_cut_177 ?_
  obtain ⟨r187, I187, J187, hC187, hF⟩ := bd_e hF
  refine fx_Mo_bad (by omega) hC187 ⟨rfl, ?_⟩
  refine bk_Mo_cut_190 ?_
  refine ⟨fun z => ?_, fun z => ?_⟩
  · rw [if_pos z] at hF
    exact fx_Mo_cut_206 hk hK52 hF hQ
  · rw [if_neg z] at hF
    refine ⟨fun z => ?_, fun z => ?_⟩
    · rw [if_pos z] at hF
      exact fx_Mo_cut_206 hk hK52 hF hQ
    · rw [if_neg z] at hF
      obtain ⟨r203, I203, J203, hC203, hF⟩ := bd_e hF
      refine fx_Mo_fail (by omega) hC203 ⟨rfl, ?_⟩
      exact fx_Mo_cut_206 hk hK52 hF hQ
theorem fx_Mo_cut_121 {u k : Nat} {pa pb : Nat} {ga : Nat → Nat} {Q : Option Value → pm_H → Prop} {K52 : Int32 → Int32 → Int32 → Int32 → pm_II → pm_JJ → Option (Int32 × pm_II × pm_JJ)} (hk : 5 ≤ k) (hK52 : ∀ (x1 : Int32) (x2 : Int32) (x3 : Int32) (x4 : Int32) (I : pm_II) (J : pm_JJ) (r : Int32) (I2 : pm_II) (J2 : pm_JJ), K52 x1 x2 x3 x4 I J = some (r, I2, J2) → Q (some (.int r)) (hp I2 J2 (pm_RT pa pb ga)) → Px k 176 m_Mo_cut 52 [.ref 120, .int x1, .int x2, .int x3, .int x4, .null, .null, .null] [] (hp I J (pm_RT pa pb ga)) Q) : ∀ (n : Nat), ∀ (x1 : Int32) (x2 : Int32) (x3 : Int32) (x4 : Int32) (x5 : Int32) (x6 : Int32) (x7 : Int32) (I : pm_II) (J : pm_JJ) (r : Int32) (I2 : pm_II) (J2 : pm_JJ), F_Mo_cut_121 u K52 n x1 x2 x3 x4 x5 x6 x7 I J = some (r, I2, J2) → Q (some (.int r)) (hp I2 J2 (pm_RT pa pb ga)) → Px k 176 m_Mo_cut 121 [.ref 120, .int x1, .int x2, .int x3, .int x4, .int x5, .int x6, .int x7] [] (hp I J (pm_RT pa pb ga)) Q := by
  obtain ⟨k, rfl⟩ : ∃ j, k = j + 1 := ⟨k - 1, by omega⟩
  intro n
  induction n with
  | zero => intro x1 x2 x3 x4 x5 x6 x7 I J r I2 J2  hF; cases hF
  | succ n ih =>
    intro x1 x2 x3 x4 x5 x6 x7 I J r I2 J2  hF hQ
    rw [F_Mo_cut_121] at hF
    refine bk_Mo_cut_121 ?_
    refine ⟨fun z => ?_, fun z => ?_⟩
    · rw [if_pos z] at hF
      exact fx_Mo_cut_158 hk hK52 hF hQ
    · rw [if_neg z] at hF
      obtain ⟨r128, I128, J128, hC128, hF⟩ := bd_e hF
      refine fx_Mo_bad (by omega) hC128 ⟨rfl, ?_⟩
      refine bk_Mo_cut_131 ?_
      refine ⟨fun z => ?_, fun z => ?_⟩
      · rw [if_pos z] at hF
        exact fx_Mo_cut_158 hk hK52 hF hQ
      · rw [if_neg z] at hF
        obtain ⟨g, hF⟩ := gd_e hF
        refine ⟨vq_in g, ?_⟩
        refine ⟨fun z => ?_, fun z => ?_⟩
        · rw [if_pos z] at hF
          exact fx_Mo_cut_152 hk hK52 ih hF hQ
        · rw [if_neg z] at hF
          obtain ⟨r149, I149, J149, hC149, hF⟩ := bd_e hF
          refine fx_Mo_fail (by omega) hC149 ⟨rfl, ?_⟩
          exact fx_Mo_cut_152 hk hK52 ih hF hQ
theorem fx_Mo_cut_97 {u k : Nat} {pa pb : Nat} {ga : Nat → Nat} {Q : Option Value → pm_H → Prop} {K52 : Int32 → Int32 → Int32 → Int32 → pm_II → pm_JJ → Option (Int32 × pm_II × pm_JJ)} {x1 : Int32} {x2 : Int32} {x3 : Int32} {x4 : Int32} {I : pm_II} {J : pm_JJ} {r : Int32} {I2 : pm_II} {J2 : pm_JJ} (hk : 5 ≤ k) (hK52 : ∀ (x1 : Int32) (x2 : Int32) (x3 : Int32) (x4 : Int32) (I : pm_II) (J : pm_JJ) (r : Int32) (I2 : pm_II) (J2 : pm_JJ), K52 x1 x2 x3 x4 I J = some (r, I2, J2) → Q (some (.int r)) (hp I2 J2 (pm_RT pa pb ga)) → Px k 176 m_Mo_cut 52 [.ref 120, .int x1, .int x2, .int x3, .int x4, .null, .null, .null] [] (hp I J (pm_RT pa pb ga)) Q) (hF : F_Mo_cut_97 u K52 x1 x2 x3 x4 I J = some (r, I2, J2)) (hQ : Q (some (.int r)) (hp I2 J2 (pm_RT pa pb ga))) : Px k 176 m_Mo_cut 97 [.ref 120, .int x1, .int x2, .int x3, .int x4, .null, .null, .null] [] (hp I J (pm_RT pa pb ga)) Q := by
  obtain ⟨k, rfl⟩ : ∃ j, k = j + 1 := ⟨k - 1, by omega⟩
  unfold F_Mo_cut_97 at hF
  refine bk_Mo_cut_97 ?_
  obtain ⟨r100, I100, J100, hC100, hF⟩ := bd_e hF
  refine fx_Mo_need (by omega) hC100 ⟨rfl, ?_⟩
  refine bk_Mo_cut_103 ?_
  obtain ⟨r113, I113, J113, hC113, hF⟩ := bd_e hF
  refine fx_Mo_told (by omega) hC113 ⟨rfl, ?_⟩
  refine bk_Mo_cut_116 ?_
  exact fx_Mo_cut_121 hk hK52 u _ _ _ _ _ _ _ _ _ _ _ _ hF hQ
theorem fx_Mo_cut_89 {u k : Nat} {pa pb : Nat} {ga : Nat → Nat} {Q : Option Value → pm_H → Prop} {K52 : Int32 → Int32 → Int32 → Int32 → pm_II → pm_JJ → Option (Int32 × pm_II × pm_JJ)} {x1 : Int32} {x2 : Int32} {x3 : Int32} {x4 : Int32} {I : pm_II} {J : pm_JJ} {r : Int32} {I2 : pm_II} {J2 : pm_JJ} (hk : 5 ≤ k) (hK52 : ∀ (x1 : Int32) (x2 : Int32) (x3 : Int32) (x4 : Int32) (I : pm_II) (J : pm_JJ) (r : Int32) (I2 : pm_II) (J2 : pm_JJ), K52 x1 x2 x3 x4 I J = some (r, I2, J2) → Q (some (.int r)) (hp I2 J2 (pm_RT pa pb ga)) → Px k 176 m_Mo_cut 52 [.ref 120, .int x1, .int x2, .int x3, .int x4, .null, .null, .null] [] (hp I J (pm_RT pa pb ga)) Q) (hF : F_Mo_cut_89 u K52 x1 x2 x3 x4 I J = some (r, I2, J2)) (hQ : Q (some (.int r)) (hp I2 J2 (pm_RT pa pb ga))) : Px k 176 m_Mo_cut 89 [.ref 120, .int x1, .int x2, .int x3, .int x4, .null, .null, .null] [] (hp I J (pm_RT pa pb ga)) Q := by
  obtain ⟨k, rfl⟩ : ∃ j, k = j + 1 := ⟨k - 1, by omega⟩
  unfold F_Mo_cut_89 at hF
  refine bk_Mo_cut_89 ?_
  obtain ⟨r94, I94, J94, hC94, hF⟩ := bd_e hF
  refine fx_Mo_fail (by omega) hC94 ⟨rfl, ?_⟩
  exact fx_Mo_cut_97 hk hK52 hF hQ
theorem fx_Mo_cut_74 {u k : Nat} {pa pb : Nat} {ga : Nat → Nat} {Q : Option Value → pm_H → Prop} {K52 : Int32 → Int32 → Int32 → Int32 → pm_II → pm_JJ → Option (Int32 × pm_II × pm_JJ)} {x1 : Int32} {x2 : Int32} {x3 : Int32} {x4 : Int32} {I : pm_II} {J : pm_JJ} {r : Int32} {I2 : pm_II} {J2 : pm_JJ} (hk : 5 ≤ k) (hK52 : ∀ (x1 : Int32) (x2 : Int32) (x3 : Int32) (x4 : Int32) (I : pm_II) (J : pm_JJ) (r : Int32) (I2 : pm_II) (J2 : pm_JJ), K52 x1 x2 x3 x4 I J = some (r, I2, J2) → Q (some (.int r)) (hp I2 J2 (pm_RT pa pb ga)) → Px k 176 m_Mo_cut 52 [.ref 120, .int x1, .int x2, .int x3, .int x4, .null, .null, .null] [] (hp I J (pm_RT pa pb ga)) Q) (hF : F_Mo_cut_74 u K52 x1 x2 x3 x4 I J = some (r, I2, J2)) (hQ : Q (some (.int r)) (hp I2 J2 (pm_RT pa pb ga))) : Px k 176 m_Mo_cut 74 [.ref 120, .int x1, .int x2, .int x3, .int x4, .null, .null, .null] [] (hp I J (pm_RT pa pb ga)) Q := by
  obtain ⟨k, rfl⟩ : ∃ j, k = j + 1 := ⟨k - 1, by omega⟩
  unfold F_Mo_cut_74 at hF
  refine bk_Mo_cut_74 ?_
  refine ⟨fun z => ?_, fun z => ?_⟩
  · rw [if_pos z] at hF
    exact fx_Mo_cut_89 hk hK52 hF hQ
  · rw [if_neg z] at hF
    obtain ⟨r83, I83, J83, hC83, hF⟩ := bd_e hF
    refine fx_Mo_isWord (by omega) ⟨by decide, by decide⟩ hC83 ⟨rfl, ?_⟩
    refine bk_Mo_cut_86 ?_
    refine ⟨fun z => ?_, fun z => ?_⟩
    · rw [if_pos z] at hF
      exact fx_Mo_cut_97 hk hK52 hF hQ
    · rw [if_neg z] at hF
      exact fx_Mo_cut_89 hk hK52 hF hQ
theorem fx_Mo_cut_278 {u k : Nat} {pa pb : Nat} {ga : Nat → Nat} {Q : Option Value → pm_H → Prop} (hk : 5 ≤ k) : ∀ (n : Nat), ∀ (x1 : Int32) (x2 : Int32) (x3 : Int32) (x4 : Int32) (x5 : Int32) (I : pm_II) (J : pm_JJ) (r : Int32) (I2 : pm_II) (J2 : pm_JJ), F_Mo_cut_278 u n x3 x5 I J = some (r, I2, J2) → Q (some (.int r)) (hp I2 J2 (pm_RT pa pb ga)) → Px k 176 m_Mo_cut 278 [.ref 120, .int x1, .int x2, .int x3, .int x4, .int x5, .null, .null] [] (hp I J (pm_RT pa pb ga)) Q := by
  obtain ⟨k, rfl⟩ : ∃ j, k = j + 1 := ⟨k - 1, by omega⟩
  intro n
  induction n with
  | zero => intro x1 x2 x3 x4 x5 I J r I2 J2  hF; cases hF
  | succ n ih =>
    intro x1 x2 x3 x4 x5 I J r I2 J2  hF hQ
    rw [F_Mo_cut_278] at hF
    refine bk_Mo_cut_278 ?_
    refine ⟨fun z => ?_, fun z => ?_⟩
    · rw [if_pos z] at hF
      obtain ⟨r329, I329, J329, hC329, hF⟩ := bd_e hF
      refine fx_Mo_planned (by omega) hC329 ⟨rfl, ?_⟩
      refine bk_Mo_cut_332 ?_
      exact ret_q (Q := fun a b c => Q (some (.int a)) (hp b c (pm_RT pa pb ga))) hF hQ
    · rw [if_neg z] at hF
      obtain ⟨g, hF⟩ := gd_e hF
      refine ⟨vq_in g, ?_⟩
      obtain ⟨g, hF⟩ := gd_e hF
      refine ⟨vq_in g, ?_⟩
      refine ⟨fun z => ?_, fun z => ?_⟩
      · rw [if_pos z] at hF
        obtain ⟨g, hF⟩ := gd_e hF
        refine ⟨vq_in g, ?_⟩
        exact ih _ _ _ _ _ _ _ _ _ _ hF hQ
      · rw [if_neg z] at hF
        obtain ⟨g, hF⟩ := gd_e hF
        refine ⟨vq_in g, ?_⟩
        obtain ⟨g, hF⟩ := gd_e hF
        refine ⟨vq_in g, ?_⟩
        exact ih _ _ _ _ _ _ _ _ _ _ hF hQ
theorem fx_Mo_cut_244 {u k : Nat} {pa pb : Nat} {ga : Nat → Nat} {Q : Option Value → pm_H → Prop} {x1 : Int32} {x2 : Int32} {x3 : Int32} {x4 : Int32} {I : pm_II} {J : pm_JJ} {r : Int32} {I2 : pm_II} {J2 : pm_JJ} (hk : 5 ≤ k) (hF : F_Mo_cut_244 u x1 x2 x3 I J = some (r, I2, J2)) (hQ : Q (some (.int r)) (hp I2 J2 (pm_RT pa pb ga))) : Px k 176 m_Mo_cut 244 [.ref 120, .int x1, .int x2, .int x3, .int x4, .null, .null, .null] [] (hp I J (pm_RT pa pb ga)) Q := by
  obtain ⟨k, rfl⟩ : ∃ j, k = j + 1 := ⟨k - 1, by omega⟩
  unfold F_Mo_cut_244 at hF
  refine bk_Mo_cut_244 ?_
  obtain ⟨r245, I245, J245, hC245, hF⟩ := bd_e hF
  refine fx_Mo_bad (by omega) hC245 ⟨rfl, ?_⟩
  refine bk_Mo_cut_248 ?_
  refine ⟨fun z => ?_, fun z => ?_⟩
  · rw [if_pos z] at hF
    exact fx_Mo_cut_278 hk u _ _ _ _ _ _ _ _ _ _ hF hQ
  · rw [if_neg z] at hF
    exact ret_q (Q := fun a b c => Q (some (.int a)) (hp b c (pm_RT pa pb ga))) hF hQ
theorem fx_Mo_cut_52 {u k : Nat} {pa pb : Nat} {ga : Nat → Nat} {Q : Option Value → pm_H → Prop} (hk : 5 ≤ k) : ∀ (n : Nat), ∀ (x1 : Int32) (x2 : Int32) (x3 : Int32) (x4 : Int32) (I : pm_II) (J : pm_JJ) (r : Int32) (I2 : pm_II) (J2 : pm_JJ), F_Mo_cut_52 u n x1 x2 x3 x4 I J = some (r, I2, J2) → Q (some (.int r)) (hp I2 J2 (pm_RT pa pb ga)) → Px k 176 m_Mo_cut 52 [.ref 120, .int x1, .int x2, .int x3, .int x4, .null, .null, .null] [] (hp I J (pm_RT pa pb ga)) Q := by
  obtain ⟨k, rfl⟩ : ∃ j, k = j + 1 := ⟨k - 1, by omega⟩
  intro n
  induction n with
  | zero => intro x1 x2 x3 x4 I J r I2 J2  hF; cases hF
  | succ n ih =>
    intro x1 x2 x3 x4 I J r I2 J2  hF hQ
    rw [F_Mo_cut_52] at hF
    refine bk_Mo_cut_52 ?_
    obtain ⟨r53, I53, J53, hC53, hF⟩ := bd_e hF
    refine fx_Mo_bad (by omega) hC53 ⟨rfl, ?_⟩
    refine bk_Mo_cut_56 ?_
    refine ⟨fun z => ?_, fun z => ?_⟩
    · rw [if_pos z] at hF
      exact fx_Mo_cut_244 hk hF hQ
    · rw [if_neg z] at hF
      refine ⟨fun z => ?_, fun z => ?_⟩
      · rw [if_pos z] at hF
        exact fx_Mo_cut_74 hk ih hF hQ
      · rw [if_neg z] at hF
        refine ⟨fun z => ?_, fun z => ?_⟩
        · rw [if_pos z] at hF
          exact fx_Mo_cut_244 hk hF hQ
        · rw [if_neg z] at hF
          exact fx_Mo_cut_74 hk ih hF hQ
theorem fx_Mo_cut_28 {u k : Nat} {pa pb : Nat} {ga : Nat → Nat} {Q : Option Value → pm_H → Prop} {x1 : Int32} {x2 : Int32} {x3 : Int32} {x4 : Int32} {I : pm_II} {J : pm_JJ} {r : Int32} {I2 : pm_II} {J2 : pm_JJ} (hk : 5 ≤ k) (hF : F_Mo_cut_28 u x3 x4 I J = some (r, I2, J2)) (hQ : Q (some (.int r)) (hp I2 J2 (pm_RT pa pb ga))) : Px k 176 m_Mo_cut 28 [.ref 120, .int x1, .int x2, .int x3, .int x4, .null, .null, .null] [] (hp I J (pm_RT pa pb ga)) Q := by
  obtain ⟨k, rfl⟩ : ∃ j, k = j + 1 := ⟨k - 1, by omega⟩
  unfold F_Mo_cut_28 at hF
  refine bk_Mo_cut_28 ?_
  obtain ⟨r34, I34, J34, hC34, hF⟩ := bd_e hF
  refine fx_Mo_behind (by omega) hC34 ⟨rfl, ?_⟩
  refine bk_Mo_cut_37 ?_
  obtain ⟨r42, I42, J42, hC42, hF⟩ := bd_e hF
  refine fx_Mo_behind (by omega) hC42 ⟨rfl, ?_⟩
  refine bk_Mo_cut_45 ?_
  obtain ⟨r49, I49, J49, hC49, hF⟩ := bd_e hF
  refine fx_Mo_need (by omega) hC49 ⟨rfl, ?_⟩
  exact fx_Mo_cut_52 hk u _ _ _ _ _ _ _ _ _ hF hQ
theorem fx_Mo_cut {u k : Nat} {pa pb : Nat} {ga : Nat → Nat} {Q : Option Value → pm_H → Prop} {I : pm_II} {J : pm_JJ} {r : Int32} {I2 : pm_II} {J2 : pm_JJ} (hk : 5 ≤ k) (hF : F_Mo_cut u  I J = some (r, I2, J2)) (hQ : Q (some (.int r)) (hp I2 J2 (pm_RT pa pb ga))) : Px k 176 m_Mo_cut 0 [.ref 120, .null, .null, .null, .null, .null, .null, .null] [] (hp I J (pm_RT pa pb ga)) Q := by
  obtain ⟨k, rfl⟩ : ∃ j, k = j + 1 := ⟨k - 1, by omega⟩
  unfold F_Mo_cut at hF
  refine bk_Mo_cut_0 ?_
  obtain ⟨r1, I1, J1, hC1, hF⟩ := bd_e hF
  refine fx_Mo_take (by omega) hC1 ⟨rfl, ?_⟩
  refine bk_Mo_cut_4 ?_
  obtain ⟨r17, I17, J17, hC17, hF⟩ := bd_e hF
  refine fx_Mo_isWord (by omega) ⟨by decide, by decide⟩ hC17 ⟨rfl, ?_⟩
  refine bk_Mo_cut_20 ?_
  refine ⟨fun z => ?_, fun z => ?_⟩
  · rw [if_pos z] at hF
    exact fx_Mo_cut_28 hk hF hQ
  · rw [if_neg z] at hF
    obtain ⟨r25, I25, J25, hC25, hF⟩ := bd_e hF
    refine fx_Mo_fail (by omega) hC25 ⟨rfl, ?_⟩
    exact fx_Mo_cut_28 hk hF hQ
def F_Mo_waste_7 (u : Nat) : Nat → Int32 → Int32 → Int32 → pm_II → pm_JJ → Option (Int32 × pm_II × pm_JJ)
  | 0, _, _, _, _, _ => none
  | n + 1, x1, x2, x3, I, J =>
    if (I 120 14) ≤ x3 then (
      some (x2, I, J))
    else (
      cond (vq (((4 : Int32) * x1) + x3) 64) (
      cond (vq x3 4) (
      F_Mo_waste_7 u n x1 (x2 - ((I 127 (((((4 : Int32) * x1) + x3) : Int32).toNatClampNeg)) * (I 123 ((x3 : Int32).toNatClampNeg)))) (x3 + Int32.ofInt 1) I J) none) none)
def F_Mo_waste (u : Nat) (x1 : Int32) (I : pm_II) (J : pm_JJ) : Option (Int32 × pm_II × pm_JJ) :=
  F_Mo_waste_7 u u x1 (I 120 12) (0 : Int32) I J
theorem fx_Mo_waste_7 {u k : Nat} {pa pb : Nat} {ga : Nat → Nat} {Q : Option Value → pm_H → Prop} (hk : 0 ≤ k) : ∀ (n : Nat), ∀ (x1 : Int32) (x2 : Int32) (x3 : Int32) (I : pm_II) (J : pm_JJ) (r : Int32) (I2 : pm_II) (J2 : pm_JJ), F_Mo_waste_7 u n x1 x2 x3 I J = some (r, I2, J2) → Q (some (.int r)) (hp I2 J2 (pm_RT pa pb ga)) → Px k 176 m_Mo_waste 7 [.ref 120, .int x1, .int x2, .int x3] [] (hp I J (pm_RT pa pb ga)) Q := by
  intro n
  induction n with
  | zero => intro x1 x2 x3 I J r I2 J2  hF; cases hF
  | succ n ih =>
    intro x1 x2 x3 I J r I2 J2  hF hQ
    rw [F_Mo_waste_7] at hF
    refine bk_Mo_waste_7 ?_
    refine ⟨fun z => ?_, fun z => ?_⟩
    · rw [if_pos z] at hF
      exact ret_q (Q := fun a b c => Q (some (.int a)) (hp b c (pm_RT pa pb ga))) hF hQ
    · rw [if_neg z] at hF
      obtain ⟨g, hF⟩ := gd_e hF
      refine ⟨vq_in g, ?_⟩
      obtain ⟨g, hF⟩ := gd_e hF
      refine ⟨vq_in g, ?_⟩
      exact ih _ _ _ _ _ _ _ _ hF hQ
theorem fx_Mo_waste {u k : Nat} {pa pb : Nat} {ga : Nat → Nat} {Q : Option Value → pm_H → Prop} {x1 : Int32} {I : pm_II} {J : pm_JJ} {r : Int32} {I2 : pm_II} {J2 : pm_JJ} (hk : 0 ≤ k) (hF : F_Mo_waste u x1 I J = some (r, I2, J2)) (hQ : Q (some (.int r)) (hp I2 J2 (pm_RT pa pb ga))) : Px k 176 m_Mo_waste 0 [.ref 120, .int x1, .null, .null] [] (hp I J (pm_RT pa pb ga)) Q := by
  unfold F_Mo_waste at hF
  refine bk_Mo_waste_0 ?_
  exact fx_Mo_waste_7 hk u _ _ _ _ _ _ _ _ hF hQ
def F_Mo_pattern (u : Nat) (x1 : Int32) (x2 : Int32) (I : pm_II) (J : pm_JJ) : Option (Int32 × pm_II × pm_JJ) :=
  bd (F_Mo_is u x1 (0 : Int32) ((I 120 15) - (1 : Int32)) I J) fun r8 I8 J8 =>
  if r8 = 0 then (
    some (((-1) : Int32), I8, J8))
  else (
    bd (F_Mo_is u x2 ((-1) : Int32) ((I8 120 14) - (1 : Int32)) I8 J8) fun r22 I22 J22 =>
    if ¬ r22 = 0 then (
      if ¬ x2 = (-1) then (
        cond (vq (((4 : Int32) * x1) + x2) 64) (
        some ((I22 127 (((((4 : Int32) * x1) + x2) : Int32).toNatClampNeg)), I22, J22)) none)
      else (
        bd (F_Mo_waste u x1 I22 J22) fun r37 I37 J37 =>
        some (r37, I37, J37)))
    else (
      some (((-1) : Int32), I22, J22)))
theorem fx_Mo_pattern {u k : Nat} {pa pb : Nat} {ga : Nat → Nat} {Q : Option Value → pm_H → Prop} {x1 : Int32} {x2 : Int32} {I : pm_II} {J : pm_JJ} {r : Int32} {I2 : pm_II} {J2 : pm_JJ} (hk : 1 ≤ k) (hF : F_Mo_pattern u x1 x2 I J = some (r, I2, J2)) (hQ : Q (some (.int r)) (hp I2 J2 (pm_RT pa pb ga))) : Px k 176 m_Mo_pattern 0 [.ref 120, .int x1, .int x2] [] (hp I J (pm_RT pa pb ga)) Q := by
  obtain ⟨k, rfl⟩ : ∃ j, k = j + 1 := ⟨k - 1, by omega⟩
  unfold F_Mo_pattern at hF
  refine bk_Mo_pattern_0 ?_
  obtain ⟨r8, I8, J8, hC8, hF⟩ := bd_e hF
  refine fx_Mo_is (by omega) hC8 ⟨rfl, ?_⟩
  refine bk_Mo_pattern_11 ?_
  refine ⟨fun z => ?_, fun z => ?_⟩
  · rw [if_pos z] at hF
    exact ret_q (Q := fun a b c => Q (some (.int a)) (hp b c (pm_RT pa pb ga))) hF hQ
  · rw [if_neg z] at hF
    obtain ⟨r22, I22, J22, hC22, hF⟩ := bd_e hF
    refine fx_Mo_is (by omega) hC22 ⟨rfl, ?_⟩
    refine bk_Mo_pattern_25 ?_
    refine ⟨fun z => ?_, fun z => ?_⟩
    · rw [if_pos z] at hF
      refine ⟨fun z => ?_, fun z => ?_⟩
      · rw [if_pos z] at hF
        obtain ⟨g, hF⟩ := gd_e hF
        refine ⟨vq_in g, ?_⟩
        exact ret_q (Q := fun a b c => Q (some (.int a)) (hp b c (pm_RT pa pb ga))) hF hQ
      · rw [if_neg z] at hF
        obtain ⟨r37, I37, J37, hC37, hF⟩ := bd_e hF
        refine fx_Mo_waste (by omega) hC37 ⟨rfl, ?_⟩
        refine bk_Mo_pattern_40 ?_
        exact ret_q (Q := fun a b c => Q (some (.int a)) (hp b c (pm_RT pa pb ga))) hF hQ
    · rw [if_neg z] at hF
      exact ret_q (Q := fun a b c => Q (some (.int a)) (hp b c (pm_RT pa pb ga))) hF hQ
def F_Mo_halves (u : Nat) (x0 : Int32) (I : pm_II) (J : pm_JJ) : Option (Int32 × pm_II × pm_JJ) :=
  if ¬ x0 = 1 then (
    if ¬ x0 = 2 then (
      if ¬ x0 = 4 then (
        some ((3 : Int32), I, J))
      else (
        some ((2 : Int32), I, J)))
    else (
      some ((1 : Int32), I, J)))
  else (
    some ((0 : Int32), I, J))
theorem fx_Mo_halves {u k : Nat} {pa pb : Nat} {ga : Nat → Nat} {Q : Option Value → pm_H → Prop} {x0 : Int32} {I : pm_II} {J : pm_JJ} {r : Int32} {I2 : pm_II} {J2 : pm_JJ} (hk : 0 ≤ k) (hF : F_Mo_halves u x0 I J = some (r, I2, J2)) (hQ : Q (some (.int r)) (hp I2 J2 (pm_RT pa pb ga))) : Px k 176 m_Mo_halves 0 [.int x0] [] (hp I J (pm_RT pa pb ga)) Q := by
  unfold F_Mo_halves at hF
  refine bk_Mo_halves_0 ?_
  refine ⟨fun z => ?_, fun z => ?_⟩
  · rw [if_pos z] at hF
    refine ⟨fun z => ?_, fun z => ?_⟩
    · rw [if_pos z] at hF
      refine ⟨fun z => ?_, fun z => ?_⟩
      · rw [if_pos z] at hF
        exact ret_q (Q := fun a b c => Q (some (.int a)) (hp b c (pm_RT pa pb ga))) hF hQ
      · rw [if_neg z] at hF
        exact ret_q (Q := fun a b c => Q (some (.int a)) (hp b c (pm_RT pa pb ga))) hF hQ
    · rw [if_neg z] at hF
      exact ret_q (Q := fun a b c => Q (some (.int a)) (hp b c (pm_RT pa pb ga))) hF hQ
  · rw [if_neg z] at hF
    exact ret_q (Q := fun a b c => Q (some (.int a)) (hp b c (pm_RT pa pb ga))) hF hQ
def F_Mo_power_52 (u : Nat) (x2 : Int32) (I : pm_II) (J : pm_JJ) : Option (Int32 × pm_II × pm_JJ) :=
  some (x2, I, J)
def F_Mo_power (u : Nat) (I : pm_II) (J : pm_JJ) : Option (Int32 × pm_II × pm_JJ) :=
  bd (F_Mo_need u (32 : Int32) I J) fun _ I3 J3 =>
  bd (F_Mo_told u (1 : Int32) (8 : Int32) I3 J3) fun r15 I15 J15 =>
  bd (F_Mo_bad u I15 J15) fun r20 I20 J20 =>
  if ¬ r20 = 0 then (
    F_Mo_power_52 u r15 I20 J20)
  else (
    if r15 = 1 then (
      F_Mo_power_52 u r15 I20 J20)
    else (
      if r15 = 2 then (
        F_Mo_power_52 u r15 I20 J20)
      else (
        if r15 = 4 then (
          F_Mo_power_52 u r15 I20 J20)
        else (
          if r15 = 8 then (
            F_Mo_power_52 u r15 I20 J20)
          else (
            bd (F_Mo_fail u (I3 120 4) I20 J20) fun _ I49 J49 =>
            F_Mo_power_52 u r15 I49 J49)))))
theorem fx_Mo_power_52 {u k : Nat} {pa pb : Nat} {ga : Nat → Nat} {Q : Option Value → pm_H → Prop} {x1 : Int32} {x2 : Int32} {I : pm_II} {J : pm_JJ} {r : Int32} {I2 : pm_II} {J2 : pm_JJ} (hk : 2 ≤ k) (hF : F_Mo_power_52 u x2 I J = some (r, I2, J2)) (hQ : Q (some (.int r)) (hp I2 J2 (pm_RT pa pb ga))) : Px k 176 m_Mo_power 52 [.ref 120, .int x1, .int x2] [] (hp I J (pm_RT pa pb ga)) Q := by
  obtain ⟨k, rfl⟩ : ∃ j, k = j + 1 := ⟨k - 1, by omega⟩
  unfold F_Mo_power_52 at hF
  refine bk_Mo_power_52 ?_
  exact ret_q (Q := fun a b c => Q (some (.int a)) (hp b c (pm_RT pa pb ga))) hF hQ
theorem fx_Mo_power {u k : Nat} {pa pb : Nat} {ga : Nat → Nat} {Q : Option Value → pm_H → Prop} {I : pm_II} {J : pm_JJ} {r : Int32} {I2 : pm_II} {J2 : pm_JJ} (hk : 2 ≤ k) (hF : F_Mo_power u  I J = some (r, I2, J2)) (hQ : Q (some (.int r)) (hp I2 J2 (pm_RT pa pb ga))) : Px k 176 m_Mo_power 0 [.ref 120, .null, .null] [] (hp I J (pm_RT pa pb ga)) Q := by
  obtain ⟨k, rfl⟩ : ∃ j, k = j + 1 := ⟨k - 1, by omega⟩
  unfold F_Mo_power at hF
  refine bk_Mo_power_0 ?_
  obtain ⟨r3, I3, J3, hC3, hF⟩ := bd_e hF
  refine fx_Mo_need (by omega) hC3 ⟨rfl, ?_⟩
  refine bk_Mo_power_6 ?_
  obtain ⟨r15, I15, J15, hC15, hF⟩ := bd_e hF
  refine fx_Mo_told (by omega) hC15 ⟨rfl, ?_⟩
  refine bk_Mo_power_18 ?_
  obtain ⟨r20, I20, J20, hC20, hF⟩ := bd_e hF
  refine fx_Mo_bad (by omega) hC20 ⟨rfl, ?_⟩
  refine bk_Mo_power_23 ?_
  refine ⟨fun z => ?_, fun z => ?_⟩
  · rw [if_pos z] at hF
    exact fx_Mo_power_52 hk hF hQ
  · rw [if_neg z] at hF
    refine ⟨fun z => ?_, fun z => ?_⟩
    · rw [if_pos z] at hF
      exact fx_Mo_power_52 hk hF hQ
    · rw [if_neg z] at hF
      refine ⟨fun z => ?_, fun z => ?_⟩
      · rw [if_pos z] at hF
        exact fx_Mo_power_52 hk hF hQ
      · rw [if_neg z] at hF
        refine ⟨fun z => ?_, fun z => ?_⟩
        · rw [if_pos z] at hF
          exact fx_Mo_power_52 hk hF hQ
        · rw [if_neg z] at hF
          refine ⟨fun z => ?_, fun z => ?_⟩
          · rw [if_pos z] at hF
            exact fx_Mo_power_52 hk hF hQ
          · rw [if_neg z] at hF
            obtain ⟨r49, I49, J49, hC49, hF⟩ := bd_e hF
            refine fx_Mo_fail (by omega) hC49 ⟨rfl, ?_⟩
            exact fx_Mo_power_52 hk hF hQ
def F_Mo_fold_172 (u : Nat) (K102 : Int32 → Int32 → Int32 → Int32 → Int32 → pm_II → pm_JJ → Option (Int32 × pm_II × pm_JJ)) (x1 : Int32) (x2 : Int32) (x3 : Int32) (x4 : Int32) (x5 : Int32) (x6 : Int32) (s0 : Int32) (I : pm_II) (J : pm_JJ) : Option (Int32 × pm_II × pm_JJ) :=
  if ¬ s0 = 0 then (
    cond (vq x5 6) (
    if x6 = 108 then (
      K102 x1 x2 (x3 + Int32.ofInt (-1)) x4 (x5 + Int32.ofInt 1) (pm_up (pm_up I 135 ((x5 : Int32).toNatClampNeg) x6) 120 4 ((I 120 4) + (1 : Int32))) J)
    else (
      if ¬ x6 = 114 then (
        K102 x1 x2 x3 (x4 + Int32.ofInt (-1)) (x5 + Int32.ofInt 1) (pm_up (pm_up I 135 ((x5 : Int32).toNatClampNeg) x6) 120 4 ((I 120 4) + (1 : Int32))) J)
      else (
        K102 x1 x2 (x3 + Int32.ofInt (-1)) x4 (x5 + Int32.ofInt 1) (pm_up (pm_up I 135 ((x5 : Int32).toNatClampNeg) x6) 120 4 ((I 120 4) + (1 : Int32))) J))) none)
  else (
    bd (F_Mo_fail u (I 120 4) I J) fun _ I184 J184 =>
    K102 x1 x2 x3 x4 x5 I184 J184)
def F_Mo_fold_136 (u : Nat) (K102 : Int32 → Int32 → Int32 → Int32 → Int32 → pm_II → pm_JJ → Option (Int32 × pm_II × pm_JJ)) (x1 : Int32) (x2 : Int32) (x3 : Int32) (x4 : Int32) (x5 : Int32) (x6 : Int32) (I : pm_II) (J : pm_JJ) : Option (Int32 × pm_II × pm_JJ) :=
  if x3 ≤ 0 then (
    F_Mo_fold_172 u K102 x1 x2 x3 x4 x5 x6 (0 : Int32) I J)
  else (
    F_Mo_fold_172 u K102 x1 x2 x3 x4 x5 x6 (1 : Int32) I J)
def F_Mo_fold_162 (u : Nat) (K102 : Int32 → Int32 → Int32 → Int32 → Int32 → pm_II → pm_JJ → Option (Int32 × pm_II × pm_JJ)) (x1 : Int32) (x2 : Int32) (x3 : Int32) (x4 : Int32) (x5 : Int32) (x6 : Int32) (I : pm_II) (J : pm_JJ) : Option (Int32 × pm_II × pm_JJ) :=
  if x4 ≤ 0 then (
    F_Mo_fold_172 u K102 x1 x2 x3 x4 x5 x6 (0 : Int32) I J)
  else (
    F_Mo_fold_172 u K102 x1 x2 x3 x4 x5 x6 (1 : Int32) I J)
def F_Mo_fold_305 (u : Nat) : Nat → Int32 → Int32 → pm_II → pm_JJ → Option (Int32 × pm_II × pm_JJ)
  | 0, _, _, _, _ => none
  | n + 1, x5, x6, I, J =>
    if x5 ≤ x6 then (
      bd (F_Mo_turned u I J) fun _ I333 J333 =>
      some (((I333 120 18) * (I333 120 19)), I333, J333))
    else (
      cond (vq x6 6) (
      cond (vq x6 6) (
      F_Mo_fold_305 u n x5 (x6 + Int32.ofInt 1) (pm_up I 131 ((x6 : Int32).toNatClampNeg) (I 135 ((x6 : Int32).toNatClampNeg))) J) none) none)
def F_Mo_fold_270 (u : Nat) (x1 : Int32) (x2 : Int32) (x5 : Int32) (I : pm_II) (J : pm_JJ) : Option (Int32 × pm_II × pm_JJ) :=
  bd (F_Mo_bad u I J) fun r271 I271 J271 =>
  if r271 = 0 then (
    F_Mo_fold_305 u u x5 (0 : Int32) (pm_up (pm_up (pm_up I271 120 18 x1) 120 19 x2) 120 27 x5) J271)
  else (
    some ((((-1000) : Int32) - (I271 120 5)), I271, J271))
def F_Mo_fold_238 (u : Nat) (x1 : Int32) (x2 : Int32) (x5 : Int32) (I : pm_II) (J : pm_JJ) : Option (Int32 × pm_II × pm_JJ) :=
  bd (F_Mo_need u (10 : Int32) I J) fun _ I241 J241 =>
  bd (F_Mo_bad u I241 J241) fun r245 I245 J245 =>
  if ¬ r245 = 0 then (
    F_Mo_fold_270 u x1 x2 x5 I245 J245)
  else (
    if (I245 120 3) ≤ (I245 120 4) then (
      F_Mo_fold_270 u x1 x2 x5 I245 J245)
    else (
      bd (F_Mo_fail u (I245 120 4) I245 J245) fun _ I267 J267 =>
      F_Mo_fold_270 u x1 x2 x5 I267 J267))
def F_Mo_fold_102 (u : Nat) : Nat → Int32 → Int32 → Int32 → Int32 → Int32 → pm_II → pm_JJ → Option (Int32 × pm_II × pm_JJ)
  | 0, _, _, _, _, _, _, _ => none
  | n + 1, x1, x2, x3, x4, x5, I, J =>
    bd (F_Mo_bad u I J) fun r103 I103 J103 =>
    if ¬ r103 = 0 then (
      F_Mo_fold_238 u x1 x2 x5 I103 J103)
    else (
      if (x3 + x4) ≤ 0 then (
        F_Mo_fold_238 u x1 x2 x5 I103 J103)
      else (
        bd (F_Mo_here u I103 J103) fun r117 I117 J117 =>
        if r117 = 108 then (
          F_Mo_fold_136 u (F_Mo_fold_102 u n) x1 x2 x3 x4 x5 r117 I117 J117)
        else (
          if ¬ r117 = 114 then (
            if r117 = 116 then (
              F_Mo_fold_162 u (F_Mo_fold_102 u n) x1 x2 x3 x4 x5 r117 I117 J117)
            else (
              if ¬ r117 = 98 then (
                F_Mo_fold_172 u (F_Mo_fold_102 u n) x1 x2 x3 x4 x5 r117 (0 : Int32) I117 J117)
              else (
                F_Mo_fold_162 u (F_Mo_fold_102 u n) x1 x2 x3 x4 x5 r117 I117 J117)))
          else (
            F_Mo_fold_136 u (F_Mo_fold_102 u n) x1 x2 x3 x4 x5 r117 I117 J117))))
def F_Mo_fold_97 (u : Nat) (x1 : Int32) (x2 : Int32) (x3 : Int32) (s0 : Int32) (I : pm_II) (J : pm_JJ) : Option (Int32 × pm_II × pm_JJ) :=
  F_Mo_fold_102 u u x1 x2 x3 s0 (0 : Int32) I J
def F_Mo_fold_81 (u : Nat) (x1 : Int32) (x2 : Int32) (s0 : Int32) (I : pm_II) (J : pm_JJ) : Option (Int32 × pm_II × pm_JJ) :=
  bd (F_Mo_bad u I J) fun r83 I83 J83 =>
  if r83 = 0 then (
    bd (F_Mo_halves u x1 I83 J83) fun r94 I94 J94 =>
    F_Mo_fold_97 u x1 x2 s0 r94 I94 J94)
  else (
    F_Mo_fold_97 u x1 x2 s0 (0 : Int32) I83 J83)
def F_Mo_fold_60 (u : Nat) (x1 : Int32) (x2 : Int32) (I : pm_II) (J : pm_JJ) : Option (Int32 × pm_II × pm_JJ) :=
  bd (F_Mo_need u (32 : Int32) I J) fun _ I63 J63 =>
  bd (F_Mo_bad u I63 J63) fun r67 I67 J67 =>
  if r67 = 0 then (
    bd (F_Mo_halves u x2 I67 J67) fun r78 I78 J78 =>
    F_Mo_fold_81 u x1 x2 r78 I78 J78)
  else (
    F_Mo_fold_81 u x1 x2 (0 : Int32) I67 J67)
def F_Mo_fold_19 (u : Nat) (I : pm_II) (J : pm_JJ) : Option (Int32 × pm_II × pm_JJ) :=
  bd (F_Mo_power u I J) fun r20 I20 J20 =>
  bd (F_Mo_power u I20 J20) fun r25 I25 J25 =>
  bd (F_Mo_need u (10 : Int32) I25 J25) fun _ I32 J32 =>
  bd (F_Mo_bad u I32 J32) fun r36 I36 J36 =>
  if ¬ r36 = 0 then (
    F_Mo_fold_60 u r20 r25 I36 J36)
  else (
    bd (F_Mo_isWord u 6 I36 J36) fun r46 I46 J46 =>
    if ¬ r46 = 0 then (
      F_Mo_fold_60 u r20 r25 I46 J46)
    else (
      bd (F_Mo_fail u (I46 120 4) I46 J46) fun _ I57 J57 =>
      F_Mo_fold_60 u r20 r25 I57 J57))
def F_Mo_fold (u : Nat) (I : pm_II) (J : pm_JJ) : Option (Int32 × pm_II × pm_JJ) :=
  bd (F_Mo_take u I J) fun _ I1 J1 =>
  bd (F_Mo_isWord u 5 I1 J1) fun r8 I8 J8 =>
  if ¬ r8 = 0 then (
    F_Mo_fold_19 u I8 J8)
  else (
    bd (F_Mo_fail u (0 : Int32) I8 J8) fun _ I16 J16 =>
    F_Mo_fold_19 u I16 J16)
theorem fx_Mo_fold_172 {u k : Nat} {pa pb : Nat} {ga : Nat → Nat} {Q : Option Value → pm_H → Prop} {K102 : Int32 → Int32 → Int32 → Int32 → Int32 → pm_II → pm_JJ → Option (Int32 × pm_II × pm_JJ)} {x1 : Int32} {x2 : Int32} {x3 : Int32} {x4 : Int32} {x5 : Int32} {x6 : Int32} {s0 : Int32} {I : pm_II} {J : pm_JJ} {r : Int32} {I2 : pm_II} {J2 : pm_JJ} (hk : 5 ≤ k) (hK102 : ∀ (x1 : Int32) (x2 : Int32) (x3 : Int32) (x4 : Int32) (x5 : Int32) (I : pm_II) (J : pm_JJ) (r : Int32) (I2 : pm_II) (J2 : pm_JJ), K102 x1 x2 x3 x4 x5 I J = some (r, I2, J2) → Q (some (.int r)) (hp I2 J2 (pm_RT pa pb ga)) → Px k 176 m_Mo_fold 102 [.ref 120, .int x1, .int x2, .int x3, .int x4, .int x5, .null, .null] [] (hp I J (pm_RT pa pb ga)) Q) (hF : F_Mo_fold_172 u K102 x1 x2 x3 x4 x5 x6 s0 I J = some (r, I2, J2)) (hQ : Q (some (.int r)) (hp I2 J2 (pm_RT pa pb ga))) : Px k 176 m_Mo_fold 172 [.ref 120, .int x1, .int x2, .int x3, .int x4, .int x5, .int x6, .null] [.int s0] (hp I J (pm_RT pa pb ga)) Q := by
  obtain ⟨k, rfl⟩ : ∃ j, k = j + 1 := ⟨k - 1, by omega⟩
  unfold F_Mo_fold_172 at hF
  refine bk_Mo_fold_172 ?_
  refine ⟨fun z => ?_, fun z => ?_⟩
  · rw [if_pos z] at hF
    obtain ⟨g, hF⟩ := gd_e hF
    refine ⟨vq_in g, ?_⟩
    refine ⟨fun z => ?_, fun z => ?_⟩
    · rw [if_pos z] at hF
      exact Px_wk (hK102 _ _ _ _ _ _ _ _ _ _ hF hQ) ⟨Or.inl rfl, Or.inl rfl, Or.inl rfl, Or.inl rfl, Or.inl rfl, Or.inl rfl, Or.inr ⟨rfl, rfl⟩, Or.inr ⟨rfl, rfl⟩, trivial⟩
    · rw [if_neg z] at hF
      refine ⟨fun z => ?_, fun z => ?_⟩
      · rw [if_pos z] at hF
        exact Px_wk (hK102 _ _ _ _ _ _ _ _ _ _ hF hQ) ⟨Or.inl rfl, Or.inl rfl, Or.inl rfl, Or.inl rfl, Or.inl rfl, Or.inl rfl, Or.inr ⟨rfl, rfl⟩, Or.inr ⟨rfl, rfl⟩, trivial⟩
      · rw [if_neg z] at hF
        exact Px_wk (hK102 _ _ _ _ _ _ _ _ _ _ hF hQ) ⟨Or.inl rfl, Or.inl rfl, Or.inl rfl, Or.inl rfl, Or.inl rfl, Or.inl rfl, Or.inr ⟨rfl, rfl⟩, Or.inr ⟨rfl, rfl⟩, trivial⟩
  · rw [if_neg z] at hF
    obtain ⟨r184, I184, J184, hC184, hF⟩ := bd_e hF
    refine fx_Mo_fail (by omega) hC184 ⟨rfl, ?_⟩
    refine bk_Mo_fold_187 ?_
    exact Px_wk (hK102 _ _ _ _ _ _ _ _ _ _ hF hQ) ⟨Or.inl rfl, Or.inl rfl, Or.inl rfl, Or.inl rfl, Or.inl rfl, Or.inl rfl, Or.inr ⟨rfl, rfl⟩, Or.inr ⟨rfl, rfl⟩, trivial⟩
theorem fx_Mo_fold_136 {u k : Nat} {pa pb : Nat} {ga : Nat → Nat} {Q : Option Value → pm_H → Prop} {K102 : Int32 → Int32 → Int32 → Int32 → Int32 → pm_II → pm_JJ → Option (Int32 × pm_II × pm_JJ)} {x1 : Int32} {x2 : Int32} {x3 : Int32} {x4 : Int32} {x5 : Int32} {x6 : Int32} {I : pm_II} {J : pm_JJ} {r : Int32} {I2 : pm_II} {J2 : pm_JJ} (hk : 5 ≤ k) (hK102 : ∀ (x1 : Int32) (x2 : Int32) (x3 : Int32) (x4 : Int32) (x5 : Int32) (I : pm_II) (J : pm_JJ) (r : Int32) (I2 : pm_II) (J2 : pm_JJ), K102 x1 x2 x3 x4 x5 I J = some (r, I2, J2) → Q (some (.int r)) (hp I2 J2 (pm_RT pa pb ga)) → Px k 176 m_Mo_fold 102 [.ref 120, .int x1, .int x2, .int x3, .int x4, .int x5, .null, .null] [] (hp I J (pm_RT pa pb ga)) Q) (hF : F_Mo_fold_136 u K102 x1 x2 x3 x4 x5 x6 I J = some (r, I2, J2)) (hQ : Q (some (.int r)) (hp I2 J2 (pm_RT pa pb ga))) : Px k 176 m_Mo_fold 136 [.ref 120, .int x1, .int x2, .int x3, .int x4, .int x5, .int x6, .null] [] (hp I J (pm_RT pa pb ga)) Q := by
  obtain ⟨k, rfl⟩ : ∃ j, k = j + 1 := ⟨k - 1, by omega⟩
  unfold F_Mo_fold_136 at hF
  refine bk_Mo_fold_136 ?_
  refine ⟨fun z => ?_, fun z => ?_⟩
  · rw [if_pos z] at hF
    exact fx_Mo_fold_172 hk hK102 hF hQ
  · rw [if_neg z] at hF
    exact fx_Mo_fold_172 hk hK102 hF hQ
theorem fx_Mo_fold_162 {u k : Nat} {pa pb : Nat} {ga : Nat → Nat} {Q : Option Value → pm_H → Prop} {K102 : Int32 → Int32 → Int32 → Int32 → Int32 → pm_II → pm_JJ → Option (Int32 × pm_II × pm_JJ)} {x1 : Int32} {x2 : Int32} {x3 : Int32} {x4 : Int32} {x5 : Int32} {x6 : Int32} {I : pm_II} {J : pm_JJ} {r : Int32} {I2 : pm_II} {J2 : pm_JJ} (hk : 5 ≤ k) (hK102 : ∀ (x1 : Int32) (x2 : Int32) (x3 : Int32) (x4 : Int32) (x5 : Int32) (I : pm_II) (J : pm_JJ) (r : Int32) (I2 : pm_II) (J2 : pm_JJ), K102 x1 x2 x3 x4 x5 I J = some (r, I2, J2) → Q (some (.int r)) (hp I2 J2 (pm_RT pa pb ga)) → Px k 176 m_Mo_fold 102 [.ref 120, .int x1, .int x2, .int x3, .int x4, .int x5, .null, .null] [] (hp I J (pm_RT pa pb ga)) Q) (hF : F_Mo_fold_162 u K102 x1 x2 x3 x4 x5 x6 I J = some (r, I2, J2)) (hQ : Q (some (.int r)) (hp I2 J2 (pm_RT pa pb ga))) : Px k 176 m_Mo_fold 162 [.ref 120, .int x1, .int x2, .int x3, .int x4, .int x5, .int x6, .null] [] (hp I J (pm_RT pa pb ga)) Q := by
  obtain ⟨k, rfl⟩ : ∃ j, k = j + 1 := ⟨k - 1, by omega⟩
  unfold F_Mo_fold_162 at hF
  refine bk_Mo_fold_162 ?_
  refine ⟨fun z => ?_, fun z => ?_⟩
  · rw [if_pos z] at hF
    exact fx_Mo_fold_172 hk hK102 hF hQ
  · rw [if_neg z] at hF
    exact fx_Mo_fold_172 hk hK102 hF hQ
theorem fx_Mo_fold_305 {u k : Nat} {pa pb : Nat} {ga : Nat → Nat} {Q : Option Value → pm_H → Prop} (hk : 5 ≤ k) : ∀ (n : Nat), ∀ (x1 : Int32) (x2 : Int32) (x3 : Int32) (x4 : Int32) (x5 : Int32) (x6 : Int32) (I : pm_II) (J : pm_JJ) (r : Int32) (I2 : pm_II) (J2 : pm_JJ), F_Mo_fold_305 u n x5 x6 I J = some (r, I2, J2) → Q (some (.int r)) (hp I2 J2 (pm_RT pa pb ga)) → Px k 176 m_Mo_fold 305 [.ref 120, .int x1, .int x2, .int x3, .int x4, .int x5, .int x6, .null] [] (hp I J (pm_RT pa pb ga)) Q := by
  obtain ⟨k, rfl⟩ : ∃ j, k = j + 1 := ⟨k - 1, by omega⟩
  intro n
  induction n with
  | zero => intro x1 x2 x3 x4 x5 x6 I J r I2 J2  hF; cases hF
  | succ n ih =>
    intro x1 x2 x3 x4 x5 x6 I J r I2 J2  hF hQ
    rw [F_Mo_fold_305] at hF
    refine bk_Mo_fold_305 ?_
    refine ⟨fun z => ?_, fun z => ?_⟩
    · rw [if_pos z] at hF
      obtain ⟨r333, I333, J333, hC333, hF⟩ := bd_e hF
      refine fx_Mo_turned (by omega) hC333 ⟨rfl, ?_⟩
      refine bk_Mo_fold_336 ?_
      exact ret_q (Q := fun a b c => Q (some (.int a)) (hp b c (pm_RT pa pb ga))) hF hQ
    · rw [if_neg z] at hF
      obtain ⟨g, hF⟩ := gd_e hF
      refine ⟨vq_in g, ?_⟩
      obtain ⟨g, hF⟩ := gd_e hF
      refine ⟨vq_in g, ?_⟩
      exact ih _ _ _ _ _ _ _ _ _ _ _ hF hQ
theorem fx_Mo_fold_270 {u k : Nat} {pa pb : Nat} {ga : Nat → Nat} {Q : Option Value → pm_H → Prop} {x1 : Int32} {x2 : Int32} {x3 : Int32} {x4 : Int32} {x5 : Int32} {I : pm_II} {J : pm_JJ} {r : Int32} {I2 : pm_II} {J2 : pm_JJ} (hk : 5 ≤ k) (hF : F_Mo_fold_270 u x1 x2 x5 I J = some (r, I2, J2)) (hQ : Q (some (.int r)) (hp I2 J2 (pm_RT pa pb ga))) : Px k 176 m_Mo_fold 270 [.ref 120, .int x1, .int x2, .int x3, .int x4, .int x5, .null, .null] [] (hp I J (pm_RT pa pb ga)) Q := by
  obtain ⟨k, rfl⟩ : ∃ j, k = j + 1 := ⟨k - 1, by omega⟩
  unfold F_Mo_fold_270 at hF
  refine bk_Mo_fold_270 ?_
  obtain ⟨r271, I271, J271, hC271, hF⟩ := bd_e hF
  refine fx_Mo_bad (by omega) hC271 ⟨rfl, ?_⟩
  refine bk_Mo_fold_274 ?_
  refine ⟨fun z => ?_, fun z => ?_⟩
  · rw [if_pos z] at hF
    exact fx_Mo_fold_305 hk u _ _ _ _ _ _ _ _ _ _ _ hF hQ
  · rw [if_neg z] at hF
    exact ret_q (Q := fun a b c => Q (some (.int a)) (hp b c (pm_RT pa pb ga))) hF hQ
theorem fx_Mo_fold_238 {u k : Nat} {pa pb : Nat} {ga : Nat → Nat} {Q : Option Value → pm_H → Prop} {x1 : Int32} {x2 : Int32} {x3 : Int32} {x4 : Int32} {x5 : Int32} {I : pm_II} {J : pm_JJ} {r : Int32} {I2 : pm_II} {J2 : pm_JJ} (hk : 5 ≤ k) (hF : F_Mo_fold_238 u x1 x2 x5 I J = some (r, I2, J2)) (hQ : Q (some (.int r)) (hp I2 J2 (pm_RT pa pb ga))) : Px k 176 m_Mo_fold 238 [.ref 120, .int x1, .int x2, .int x3, .int x4, .int x5, .null, .null] [] (hp I J (pm_RT pa pb ga)) Q := by
  obtain ⟨k, rfl⟩ : ∃ j, k = j + 1 := ⟨k - 1, by omega⟩
  unfold F_Mo_fold_238 at hF
  refine bk_Mo_fold_238 ?_
  obtain ⟨r241, I241, J241, hC241, hF⟩ := bd_e hF
  refine fx_Mo_need (by omega) hC241 ⟨rfl, ?_⟩
  refine bk_Mo_fold_244 ?_
  obtain ⟨r245, I245, J245, hC245, hF⟩ := bd_e hF
  refine fx_Mo_bad (by omega) hC245 ⟨rfl, ?_⟩
  refine bk_Mo_fold_248 ?_
  refine ⟨fun z => ?_, fun z => ?_⟩
  · rw [if_pos z] at hF
    exact fx_Mo_fold_270 hk hF hQ
  · rw [if_neg z] at hF
    refine ⟨fun z => ?_, fun z => ?_⟩
    · rw [if_pos z] at hF
      exact fx_Mo_fold_270 hk hF hQ
    · rw [if_neg z] at hF
      obtain ⟨r267, I267, J267, hC267, hF⟩ := bd_e hF
      refine fx_Mo_fail (by omega) hC267 ⟨rfl, ?_⟩
      exact fx_Mo_fold_270 hk hF hQ
theorem fx_Mo_fold_102 {u k : Nat} {pa pb : Nat} {ga : Nat → Nat} {Q : Option Value → pm_H → Prop} (hk : 5 ≤ k) : ∀ (n : Nat), ∀ (x1 : Int32) (x2 : Int32) (x3 : Int32) (x4 : Int32) (x5 : Int32) (I : pm_II) (J : pm_JJ) (r : Int32) (I2 : pm_II) (J2 : pm_JJ), F_Mo_fold_102 u n x1 x2 x3 x4 x5 I J = some (r, I2, J2) → Q (some (.int r)) (hp I2 J2 (pm_RT pa pb ga)) → Px k 176 m_Mo_fold 102 [.ref 120, .int x1, .int x2, .int x3, .int x4, .int x5, .null, .null] [] (hp I J (pm_RT pa pb ga)) Q := by
  obtain ⟨k, rfl⟩ : ∃ j, k = j + 1 := ⟨k - 1, by omega⟩
  intro n
  induction n with
  | zero => intro x1 x2 x3 x4 x5 I J r I2 J2  hF; cases hF
  | succ n ih =>
    intro x1 x2 x3 x4 x5 I J r I2 J2  hF hQ
    rw [F_Mo_fold_102] at hF
    refine bk_Mo_fold_102 ?_
    obtain ⟨r103, I103, J103, hC103, hF⟩ := bd_e hF
    refine fx_Mo_bad (by omega) hC103 ⟨rfl, ?_⟩
    refine bk_Mo_fold_106 ?_
    refine ⟨fun z => ?_, fun z => ?_⟩
    · rw [if_pos z] at hF
      exact fx_Mo_fold_238 hk hF hQ
    · rw [if_neg z] at hF
      refine ⟨fun z => ?_, fun z => ?_⟩
      · rw [if_pos z] at hF
        exact fx_Mo_fold_238 hk hF hQ
      · rw [if_neg z] at hF
        obtain ⟨r117, I117, J117, hC117, hF⟩ := bd_e hF
        refine fx_Mo_here (by omega) hC117 ⟨rfl, ?_⟩
        refine bk_Mo_fold_120 ?_
        refine ⟨fun z => ?_, fun z => ?_⟩
        · rw [if_pos z] at hF
          exact fx_Mo_fold_136 hk ih hF hQ
        · rw [if_neg z] at hF
          refine ⟨fun z => ?_, fun z => ?_⟩
          · rw [if_pos z] at hF
            refine ⟨fun z => ?_, fun z => ?_⟩
            · rw [if_pos z] at hF
              exact fx_Mo_fold_162 hk ih hF hQ
            · rw [if_neg z] at hF
              refine ⟨fun z => ?_, fun z => ?_⟩
              · rw [if_pos z] at hF
                exact fx_Mo_fold_172 hk ih hF hQ
              · rw [if_neg z] at hF
                exact fx_Mo_fold_162 hk ih hF hQ
          · rw [if_neg z] at hF
            exact fx_Mo_fold_136 hk ih hF hQ
theorem fx_Mo_fold_97 {u k : Nat} {pa pb : Nat} {ga : Nat → Nat} {Q : Option Value → pm_H → Prop} {x1 : Int32} {x2 : Int32} {x3 : Int32} {s0 : Int32} {I : pm_II} {J : pm_JJ} {r : Int32} {I2 : pm_II} {J2 : pm_JJ} (hk : 5 ≤ k) (hF : F_Mo_fold_97 u x1 x2 x3 s0 I J = some (r, I2, J2)) (hQ : Q (some (.int r)) (hp I2 J2 (pm_RT pa pb ga))) : Px k 176 m_Mo_fold 97 [.ref 120, .int x1, .int x2, .int x3, .null, .null, .null, .null] [.int s0] (hp I J (pm_RT pa pb ga)) Q := by
  obtain ⟨k, rfl⟩ : ∃ j, k = j + 1 := ⟨k - 1, by omega⟩
  unfold F_Mo_fold_97 at hF
  refine bk_Mo_fold_97 ?_
  exact fx_Mo_fold_102 hk u _ _ _ _ _ _ _ _ _ _ hF hQ
theorem fx_Mo_fold_81 {u k : Nat} {pa pb : Nat} {ga : Nat → Nat} {Q : Option Value → pm_H → Prop} {x1 : Int32} {x2 : Int32} {s0 : Int32} {I : pm_II} {J : pm_JJ} {r : Int32} {I2 : pm_II} {J2 : pm_JJ} (hk : 5 ≤ k) (hF : F_Mo_fold_81 u x1 x2 s0 I J = some (r, I2, J2)) (hQ : Q (some (.int r)) (hp I2 J2 (pm_RT pa pb ga))) : Px k 176 m_Mo_fold 81 [.ref 120, .int x1, .int x2, .null, .null, .null, .null, .null] [.int s0] (hp I J (pm_RT pa pb ga)) Q := by
  obtain ⟨k, rfl⟩ : ∃ j, k = j + 1 := ⟨k - 1, by omega⟩
  unfold F_Mo_fold_81 at hF
  refine bk_Mo_fold_81 ?_
  obtain ⟨r83, I83, J83, hC83, hF⟩ := bd_e hF
  refine fx_Mo_bad (by omega) hC83 ⟨rfl, ?_⟩
  refine bk_Mo_fold_86 ?_
  refine ⟨fun z => ?_, fun z => ?_⟩
  · rw [if_pos z] at hF
    obtain ⟨r94, I94, J94, hC94, hF⟩ := bd_e hF
    refine fx_Mo_halves (by omega) hC94 ⟨rfl, ?_⟩
    exact fx_Mo_fold_97 hk hF hQ
  · rw [if_neg z] at hF
    exact fx_Mo_fold_97 hk hF hQ
theorem fx_Mo_fold_60 {u k : Nat} {pa pb : Nat} {ga : Nat → Nat} {Q : Option Value → pm_H → Prop} {x1 : Int32} {x2 : Int32} {I : pm_II} {J : pm_JJ} {r : Int32} {I2 : pm_II} {J2 : pm_JJ} (hk : 5 ≤ k) (hF : F_Mo_fold_60 u x1 x2 I J = some (r, I2, J2)) (hQ : Q (some (.int r)) (hp I2 J2 (pm_RT pa pb ga))) : Px k 176 m_Mo_fold 60 [.ref 120, .int x1, .int x2, .null, .null, .null, .null, .null] [] (hp I J (pm_RT pa pb ga)) Q := by
  obtain ⟨k, rfl⟩ : ∃ j, k = j + 1 := ⟨k - 1, by omega⟩
  unfold F_Mo_fold_60 at hF
  refine bk_Mo_fold_60 ?_
  obtain ⟨r63, I63, J63, hC63, hF⟩ := bd_e hF
  refine fx_Mo_need (by omega) hC63 ⟨rfl, ?_⟩
  refine bk_Mo_fold_66 ?_
  obtain ⟨r67, I67, J67, hC67, hF⟩ := bd_e hF
  refine fx_Mo_bad (by omega) hC67 ⟨rfl, ?_⟩
  refine bk_Mo_fold_70 ?_
  refine ⟨fun z => ?_, fun z => ?_⟩
  · rw [if_pos z] at hF
    obtain ⟨r78, I78, J78, hC78, hF⟩ := bd_e hF
    refine fx_Mo_halves (by omega) hC78 ⟨rfl, ?_⟩
    exact fx_Mo_fold_81 hk hF hQ
  · rw [if_neg z] at hF
    exact fx_Mo_fold_81 hk hF hQ
theorem fx_Mo_fold_19 {u k : Nat} {pa pb : Nat} {ga : Nat → Nat} {Q : Option Value → pm_H → Prop} {I : pm_II} {J : pm_JJ} {r : Int32} {I2 : pm_II} {J2 : pm_JJ} (hk : 5 ≤ k) (hF : F_Mo_fold_19 u  I J = some (r, I2, J2)) (hQ : Q (some (.int r)) (hp I2 J2 (pm_RT pa pb ga))) : Px k 176 m_Mo_fold 19 [.ref 120, .null, .null, .null, .null, .null, .null, .null] [] (hp I J (pm_RT pa pb ga)) Q := by
  obtain ⟨k, rfl⟩ : ∃ j, k = j + 1 := ⟨k - 1, by omega⟩
  unfold F_Mo_fold_19 at hF
  refine bk_Mo_fold_19 ?_
  obtain ⟨r20, I20, J20, hC20, hF⟩ := bd_e hF
  refine fx_Mo_power (by omega) hC20 ⟨rfl, ?_⟩
  refine bk_Mo_fold_23 ?_
  obtain ⟨r25, I25, J25, hC25, hF⟩ := bd_e hF
  refine fx_Mo_power (by omega) hC25 ⟨rfl, ?_⟩
  refine bk_Mo_fold_28 ?_
  obtain ⟨r32, I32, J32, hC32, hF⟩ := bd_e hF
  refine fx_Mo_need (by omega) hC32 ⟨rfl, ?_⟩
  refine bk_Mo_fold_35 ?_
  obtain ⟨r36, I36, J36, hC36, hF⟩ := bd_e hF
  refine fx_Mo_bad (by omega) hC36 ⟨rfl, ?_⟩
  refine bk_Mo_fold_39 ?_
  refine ⟨fun z => ?_, fun z => ?_⟩
  · rw [if_pos z] at hF
    exact fx_Mo_fold_60 hk hF hQ
  · rw [if_neg z] at hF
    obtain ⟨r46, I46, J46, hC46, hF⟩ := bd_e hF
    refine fx_Mo_isWord (by omega) ⟨by decide, by decide⟩ hC46 ⟨rfl, ?_⟩
    refine bk_Mo_fold_49 ?_
    refine ⟨fun z => ?_, fun z => ?_⟩
    · rw [if_pos z] at hF
      exact fx_Mo_fold_60 hk hF hQ
    · rw [if_neg z] at hF
      obtain ⟨r57, I57, J57, hC57, hF⟩ := bd_e hF
      refine fx_Mo_fail (by omega) hC57 ⟨rfl, ?_⟩
      exact fx_Mo_fold_60 hk hF hQ
theorem fx_Mo_fold {u k : Nat} {pa pb : Nat} {ga : Nat → Nat} {Q : Option Value → pm_H → Prop} {I : pm_II} {J : pm_JJ} {r : Int32} {I2 : pm_II} {J2 : pm_JJ} (hk : 5 ≤ k) (hF : F_Mo_fold u  I J = some (r, I2, J2)) (hQ : Q (some (.int r)) (hp I2 J2 (pm_RT pa pb ga))) : Px k 176 m_Mo_fold 0 [.ref 120, .null, .null, .null, .null, .null, .null, .null] [] (hp I J (pm_RT pa pb ga)) Q := by
  obtain ⟨k, rfl⟩ : ∃ j, k = j + 1 := ⟨k - 1, by omega⟩
  unfold F_Mo_fold at hF
  refine bk_Mo_fold_0 ?_
  obtain ⟨r1, I1, J1, hC1, hF⟩ := bd_e hF
  refine fx_Mo_take (by omega) hC1 ⟨rfl, ?_⟩
  refine bk_Mo_fold_4 ?_
  obtain ⟨r8, I8, J8, hC8, hF⟩ := bd_e hF
  refine fx_Mo_isWord (by omega) ⟨by decide, by decide⟩ hC8 ⟨rfl, ?_⟩
  refine bk_Mo_fold_11 ?_
  refine ⟨fun z => ?_, fun z => ?_⟩
  · rw [if_pos z] at hF
    exact fx_Mo_fold_19 hk hF hQ
  · rw [if_neg z] at hF
    obtain ⟨r16, I16, J16, hC16, hF⟩ := bd_e hF
    refine fx_Mo_fail (by omega) hC16 ⟨rfl, ?_⟩
    exact fx_Mo_fold_19 hk hF hQ
def F_Mo_book (u : Nat) (x1 : Int32) (x2 : Int32) (x3 : Int32) (I : pm_II) (J : pm_JJ) : Option (Int32 × pm_II × pm_JJ) :=
  bd (F_Mo_is u x1 (1 : Int32) (8 : Int32) I J) fun r4 I4 J4 =>
  if r4 = 0 then (
    some (((-1) : Int32), I4, J4))
  else (
    bd (F_Mo_is u x2 (0 : Int32) (1 : Int32) I4 J4) fun r13 I13 J13 =>
    if r13 = 0 then (
      some (((-1) : Int32), I13, J13))
    else (
      bd (F_Mo_is u x3 (1 : Int32) (99 : Int32) I13 J13) fun r23 I23 J23 =>
      if ¬ r23 = 0 then (
        some (((((2 : Int32) * x1) * (I23 120 18)) * (I23 120 19)), (pm_up (pm_up (pm_up I23 120 20 x1) 120 21 x2) 120 22 x3), J23))
      else (
        some (((-1) : Int32), I23, J23))))
theorem fx_Mo_book {u k : Nat} {pa pb : Nat} {ga : Nat → Nat} {Q : Option Value → pm_H → Prop} {x1 : Int32} {x2 : Int32} {x3 : Int32} {I : pm_II} {J : pm_JJ} {r : Int32} {I2 : pm_II} {J2 : pm_JJ} (hk : 1 ≤ k) (hF : F_Mo_book u x1 x2 x3 I J = some (r, I2, J2)) (hQ : Q (some (.int r)) (hp I2 J2 (pm_RT pa pb ga))) : Px k 176 m_Mo_book 0 [.ref 120, .int x1, .int x2, .int x3] [] (hp I J (pm_RT pa pb ga)) Q := by
  obtain ⟨k, rfl⟩ : ∃ j, k = j + 1 := ⟨k - 1, by omega⟩
  unfold F_Mo_book at hF
  refine bk_Mo_book_0 ?_
  obtain ⟨r4, I4, J4, hC4, hF⟩ := bd_e hF
  refine fx_Mo_is (by omega) hC4 ⟨rfl, ?_⟩
  refine bk_Mo_book_7 ?_
  refine ⟨fun z => ?_, fun z => ?_⟩
  · rw [if_pos z] at hF
    exact ret_q (Q := fun a b c => Q (some (.int a)) (hp b c (pm_RT pa pb ga))) hF hQ
  · rw [if_neg z] at hF
    obtain ⟨r13, I13, J13, hC13, hF⟩ := bd_e hF
    refine fx_Mo_is (by omega) hC13 ⟨rfl, ?_⟩
    refine bk_Mo_book_16 ?_
    refine ⟨fun z => ?_, fun z => ?_⟩
    · rw [if_pos z] at hF
      exact ret_q (Q := fun a b c => Q (some (.int a)) (hp b c (pm_RT pa pb ga))) hF hQ
    · rw [if_neg z] at hF
      obtain ⟨r23, I23, J23, hC23, hF⟩ := bd_e hF
      refine fx_Mo_is (by omega) hC23 ⟨rfl, ?_⟩
      refine bk_Mo_book_26 ?_
      refine ⟨fun z => ?_, fun z => ?_⟩
      · rw [if_pos z] at hF
        exact ret_q (Q := fun a b c => Q (some (.int a)) (hp b c (pm_RT pa pb ga))) hF hQ
      · rw [if_neg z] at hF
        exact ret_q (Q := fun a b c => Q (some (.int a)) (hp b c (pm_RT pa pb ga))) hF hQ
def F_Mo_isPanel (u : Nat) (x1 : Int32) (x2 : Int32) (x3 : Int32) (x4 : Int32) (I : pm_II) (J : pm_JJ) : Option (Int32 × pm_II × pm_JJ) :=
  bd (F_Mo_is u x1 (0 : Int32) ((I 120 20) - (1 : Int32)) I J) fun r8 I8 J8 =>
  if r8 = 0 then (
    some ((0 : Int32), I8, J8))
  else (
    bd (F_Mo_is u x2 (0 : Int32) (1 : Int32) I8 J8) fun r17 I17 J17 =>
    if r17 = 0 then (
      some ((0 : Int32), I17, J17))
    else (
      bd (F_Mo_is u x3 (0 : Int32) ((I17 120 18) - (1 : Int32)) I17 J17) fun r31 I31 J31 =>
      if r31 = 0 then (
        some ((0 : Int32), I31, J31))
      else (
        bd (F_Mo_is u x4 (0 : Int32) ((I31 120 19) - (1 : Int32)) I31 J31) fun r46 I46 J46 =>
        if r46 = 0 then (
          some ((0 : Int32), I46, J46))
        else (
          some ((1 : Int32), I46, J46)))))
theorem fx_Mo_isPanel {u k : Nat} {pa pb : Nat} {ga : Nat → Nat} {Q : Option Value → pm_H → Prop} {x1 : Int32} {x2 : Int32} {x3 : Int32} {x4 : Int32} {I : pm_II} {J : pm_JJ} {r : Int32} {I2 : pm_II} {J2 : pm_JJ} (hk : 1 ≤ k) (hF : F_Mo_isPanel u x1 x2 x3 x4 I J = some (r, I2, J2)) (hQ : Q (some (.int r)) (hp I2 J2 (pm_RT pa pb ga))) : Px k 176 m_Mo_isPanel 0 [.ref 120, .int x1, .int x2, .int x3, .int x4] [] (hp I J (pm_RT pa pb ga)) Q := by
  obtain ⟨k, rfl⟩ : ∃ j, k = j + 1 := ⟨k - 1, by omega⟩
  unfold F_Mo_isPanel at hF
  refine bk_Mo_isPanel_0 ?_
  obtain ⟨r8, I8, J8, hC8, hF⟩ := bd_e hF
  refine fx_Mo_is (by omega) hC8 ⟨rfl, ?_⟩
  refine bk_Mo_isPanel_11 ?_
  refine ⟨fun z => ?_, fun z => ?_⟩
  · rw [if_pos z] at hF
    exact ret_q (Q := fun a b c => Q (some (.int a)) (hp b c (pm_RT pa pb ga))) hF hQ
  · rw [if_neg z] at hF
    obtain ⟨r17, I17, J17, hC17, hF⟩ := bd_e hF
    refine fx_Mo_is (by omega) hC17 ⟨rfl, ?_⟩
    refine bk_Mo_isPanel_20 ?_
    refine ⟨fun z => ?_, fun z => ?_⟩
    · rw [if_pos z] at hF
      exact ret_q (Q := fun a b c => Q (some (.int a)) (hp b c (pm_RT pa pb ga))) hF hQ
    · rw [if_neg z] at hF
      obtain ⟨r31, I31, J31, hC31, hF⟩ := bd_e hF
      refine fx_Mo_is (by omega) hC31 ⟨rfl, ?_⟩
      refine bk_Mo_isPanel_34 ?_
      refine ⟨fun z => ?_, fun z => ?_⟩
      · rw [if_pos z] at hF
        exact ret_q (Q := fun a b c => Q (some (.int a)) (hp b c (pm_RT pa pb ga))) hF hQ
      · rw [if_neg z] at hF
        obtain ⟨r46, I46, J46, hC46, hF⟩ := bd_e hF
        refine fx_Mo_is (by omega) hC46 ⟨rfl, ?_⟩
        refine bk_Mo_isPanel_49 ?_
        refine ⟨fun z => ?_, fun z => ?_⟩
        · rw [if_pos z] at hF
          exact ret_q (Q := fun a b c => Q (some (.int a)) (hp b c (pm_RT pa pb ga))) hF hQ
        · rw [if_neg z] at hF
          exact ret_q (Q := fun a b c => Q (some (.int a)) (hp b c (pm_RT pa pb ga))) hF hQ
def F_Mo_place (u : Nat) (x1 : Int32) (x2 : Int32) (I : pm_II) (J : pm_JJ) : Option (Int32 × pm_II × pm_JJ) :=
  if ¬ (I 120 21) = 0 then (
    if (((I 120 18) * (I 120 19)) / 2) ≤ x2 then (
      some ((((((I 120 20) * ((I 120 18) * (I 120 19))) - ((x1 + (1 : Int32)) * (((I 120 18) * (I 120 19)) - (((I 120 18) * (I 120 19)) / 2)))) + x2) - (((I 120 18) * (I 120 19)) / 2)), I, J))
    else (
      some (((x1 * (((I 120 18) * (I 120 19)) / 2)) + x2), I, J)))
  else (
    some (((x1 * ((I 120 18) * (I 120 19))) + x2), I, J))
theorem fx_Mo_place {u k : Nat} {pa pb : Nat} {ga : Nat → Nat} {Q : Option Value → pm_H → Prop} {x1 : Int32} {x2 : Int32} {I : pm_II} {J : pm_JJ} {r : Int32} {I2 : pm_II} {J2 : pm_JJ} (hk : 0 ≤ k) (hF : F_Mo_place u x1 x2 I J = some (r, I2, J2)) (hQ : Q (some (.int r)) (hp I2 J2 (pm_RT pa pb ga))) : Px k 176 m_Mo_place 0 [.ref 120, .int x1, .int x2, .null, .null] [] (hp I J (pm_RT pa pb ga)) Q := by
  unfold F_Mo_place at hF
  refine bk_Mo_place_0 ?_
  refine ⟨fun z => ?_, fun z => ?_⟩
  · rw [if_pos z] at hF
    refine ⟨fun z => ?_, fun z => ?_⟩
    · rw [if_pos z] at hF
      exact ret_q (Q := fun a b c => Q (some (.int a)) (hp b c (pm_RT pa pb ga))) hF hQ
    · rw [if_neg z] at hF
      exact ret_q (Q := fun a b c => Q (some (.int a)) (hp b c (pm_RT pa pb ga))) hF hQ
  · rw [if_neg z] at hF
    exact ret_q (Q := fun a b c => Q (some (.int a)) (hp b c (pm_RT pa pb ga))) hF hQ
def F_Mo_pageOf_34 (u : Nat) (x1 : Int32) (x5 : Int32) (s0 : Int32) (I : pm_II) (J : pm_JJ) : Option (Int32 × pm_II × pm_JJ) :=
  cond (vq x5 64) (
  bd (F_Mo_place u x1 (I 132 ((x5 : Int32).toNatClampNeg)) I J) fun r46 I46 J46 =>
  if s0 = 0 then (
    some ((((2 : Int32) * r46) + (1 : Int32)), I46, J46))
  else (
    some ((((2 : Int32) * r46) + (0 : Int32)), I46, J46))) none
def F_Mo_pageOf_19 (u : Nat) (x1 : Int32) (x5 : Int32) (s0 : Int32) (I : pm_II) (J : pm_JJ) : Option (Int32 × pm_II × pm_JJ) :=
  cond (vq x5 64) (
  if ¬ s0 = (I 133 ((x5 : Int32).toNatClampNeg)) then (
    F_Mo_pageOf_34 u x1 x5 (0 : Int32) I J)
  else (
    F_Mo_pageOf_34 u x1 x5 (1 : Int32) I J)) none
def F_Mo_pageOf (u : Nat) (x1 : Int32) (x2 : Int32) (x3 : Int32) (x4 : Int32) (I : pm_II) (J : pm_JJ) : Option (Int32 × pm_II × pm_JJ) :=
  if ¬ x2 = 1 then (
    F_Mo_pageOf_19 u x1 (((8 : Int32) * x3) + x4) (0 : Int32) I J)
  else (
    F_Mo_pageOf_19 u x1 (((8 : Int32) * x3) + x4) (1 : Int32) I J)
theorem fx_Mo_pageOf_34 {u k : Nat} {pa pb : Nat} {ga : Nat → Nat} {Q : Option Value → pm_H → Prop} {x1 : Int32} {x2 : Int32} {x3 : Int32} {x4 : Int32} {x5 : Int32} {s0 : Int32} {I : pm_II} {J : pm_JJ} {r : Int32} {I2 : pm_II} {J2 : pm_JJ} (hk : 1 ≤ k) (hF : F_Mo_pageOf_34 u x1 x5 s0 I J = some (r, I2, J2)) (hQ : Q (some (.int r)) (hp I2 J2 (pm_RT pa pb ga))) : Px k 176 m_Mo_pageOf 34 [.ref 120, .int x1, .int x2, .int x3, .int x4, .int x5, .null] [.int s0] (hp I J (pm_RT pa pb ga)) Q := by
  obtain ⟨k, rfl⟩ : ∃ j, k = j + 1 := ⟨k - 1, by omega⟩
  unfold F_Mo_pageOf_34 at hF
  refine bk_Mo_pageOf_34 ?_
  obtain ⟨g, hF⟩ := gd_e hF
  refine ⟨vq_in g, ?_⟩
  obtain ⟨r46, I46, J46, hC46, hF⟩ := bd_e hF
  refine fx_Mo_place (by omega) hC46 ⟨rfl, ?_⟩
  refine bk_Mo_pageOf_49 ?_
  refine ⟨fun z => ?_, fun z => ?_⟩
  · rw [if_pos z] at hF
    exact ret_q (Q := fun a b c => Q (some (.int a)) (hp b c (pm_RT pa pb ga))) hF hQ
  · rw [if_neg z] at hF
    exact ret_q (Q := fun a b c => Q (some (.int a)) (hp b c (pm_RT pa pb ga))) hF hQ
theorem fx_Mo_pageOf_19 {u k : Nat} {pa pb : Nat} {ga : Nat → Nat} {Q : Option Value → pm_H → Prop} {x1 : Int32} {x2 : Int32} {x3 : Int32} {x4 : Int32} {x5 : Int32} {s0 : Int32} {I : pm_II} {J : pm_JJ} {r : Int32} {I2 : pm_II} {J2 : pm_JJ} (hk : 1 ≤ k) (hF : F_Mo_pageOf_19 u x1 x5 s0 I J = some (r, I2, J2)) (hQ : Q (some (.int r)) (hp I2 J2 (pm_RT pa pb ga))) : Px k 176 m_Mo_pageOf 19 [.ref 120, .int x1, .int x2, .int x3, .int x4, .int x5, .null] [.int s0] (hp I J (pm_RT pa pb ga)) Q := by
  obtain ⟨k, rfl⟩ : ∃ j, k = j + 1 := ⟨k - 1, by omega⟩
  unfold F_Mo_pageOf_19 at hF
  refine bk_Mo_pageOf_19 ?_
  obtain ⟨g, hF⟩ := gd_e hF
  refine ⟨vq_in g, ?_⟩
  refine ⟨fun z => ?_, fun z => ?_⟩
  · rw [if_pos z] at hF
    exact fx_Mo_pageOf_34 hk hF hQ
  · rw [if_neg z] at hF
    exact fx_Mo_pageOf_34 hk hF hQ
theorem fx_Mo_pageOf {u k : Nat} {pa pb : Nat} {ga : Nat → Nat} {Q : Option Value → pm_H → Prop} {x1 : Int32} {x2 : Int32} {x3 : Int32} {x4 : Int32} {I : pm_II} {J : pm_JJ} {r : Int32} {I2 : pm_II} {J2 : pm_JJ} (hk : 1 ≤ k) (hF : F_Mo_pageOf u x1 x2 x3 x4 I J = some (r, I2, J2)) (hQ : Q (some (.int r)) (hp I2 J2 (pm_RT pa pb ga))) : Px k 176 m_Mo_pageOf 0 [.ref 120, .int x1, .int x2, .int x3, .int x4, .null, .null] [] (hp I J (pm_RT pa pb ga)) Q := by
  obtain ⟨k, rfl⟩ : ∃ j, k = j + 1 := ⟨k - 1, by omega⟩
  unfold F_Mo_pageOf at hF
  refine bk_Mo_pageOf_0 ?_
  refine ⟨fun z => ?_, fun z => ?_⟩
  · rw [if_pos z] at hF
    exact fx_Mo_pageOf_19 hk hF hQ
  · rw [if_neg z] at hF
    exact fx_Mo_pageOf_19 hk hF hQ
def F_Mo_page (u : Nat) (x1 : Int32) (x2 : Int32) (x3 : Int32) (x4 : Int32) (I : pm_II) (J : pm_JJ) : Option (Int32 × pm_II × pm_JJ) :=
  bd (F_Mo_isPanel u x1 x2 x3 x4 I J) fun r6 I6 J6 =>
  if ¬ r6 = 0 then (
    bd (F_Mo_pageOf u x1 x2 x3 x4 I6 J6) fun r20 I20 J20 =>
    cond (vq (((8 : Int32) * x3) + x4) 64) (
    if (I20 134 (((((8 : Int32) * x3) + x4) : Int32).toNatClampNeg)) = 0 then (
      some ((r20 + (0 : Int32)), I20, J20))
    else (
      some ((r20 + (1000 : Int32)), I20, J20))) none)
  else (
    some (((-1) : Int32), I6, J6))
theorem fx_Mo_page {u k : Nat} {pa pb : Nat} {ga : Nat → Nat} {Q : Option Value → pm_H → Prop} {x1 : Int32} {x2 : Int32} {x3 : Int32} {x4 : Int32} {I : pm_II} {J : pm_JJ} {r : Int32} {I2 : pm_II} {J2 : pm_JJ} (hk : 2 ≤ k) (hF : F_Mo_page u x1 x2 x3 x4 I J = some (r, I2, J2)) (hQ : Q (some (.int r)) (hp I2 J2 (pm_RT pa pb ga))) : Px k 176 m_Mo_page 0 [.ref 120, .int x1, .int x2, .int x3, .int x4] [] (hp I J (pm_RT pa pb ga)) Q := by
  obtain ⟨k, rfl⟩ : ∃ j, k = j + 1 := ⟨k - 1, by omega⟩
  unfold F_Mo_page at hF
  refine bk_Mo_page_0 ?_
  obtain ⟨r6, I6, J6, hC6, hF⟩ := bd_e hF
  refine fx_Mo_isPanel (by omega) hC6 ⟨rfl, ?_⟩
  refine bk_Mo_page_9 ?_
  refine ⟨fun z => ?_, fun z => ?_⟩
  · rw [if_pos z] at hF
    obtain ⟨r20, I20, J20, hC20, hF⟩ := bd_e hF
    refine fx_Mo_pageOf (by omega) hC20 ⟨rfl, ?_⟩
    refine bk_Mo_page_23 ?_
    obtain ⟨g, hF⟩ := gd_e hF
    refine ⟨vq_in g, ?_⟩
    refine ⟨fun z => ?_, fun z => ?_⟩
    · rw [if_pos z] at hF
      exact ret_q (Q := fun a b c => Q (some (.int a)) (hp b c (pm_RT pa pb ga))) hF hQ
    · rw [if_neg z] at hF
      exact ret_q (Q := fun a b c => Q (some (.int a)) (hp b c (pm_RT pa pb ga))) hF hQ
  · rw [if_neg z] at hF
    exact ret_q (Q := fun a b c => Q (some (.int a)) (hp b c (pm_RT pa pb ga))) hF hQ
def F_Mo_where_33 (u : Nat) : Nat → Int32 → Int32 → Int32 → Int32 → pm_II → pm_JJ → Option (Int32 × pm_II × pm_JJ)
  | 0, _, _, _, _, _, _ => none
  | n + 1, x1, x2, x3, x4, I, J =>
    if ((2 : Int32) * x3) ≤ x4 then (
      some (((-1) : Int32), I, J))
    else (
      if ¬ (((2 : Int32) * (I 120 18)) * (I 120 19)) = 0 then (
      if ¬ ((I 120 18) * (I 120 19)) = 0 then (
      if ¬ (I 120 19) = 0 then (
      if ¬ (I 120 18) = 0 then (
      if ¬ (I 120 19) = 0 then (
      bd (F_Mo_pageOf u (x4 / (((2 : Int32) * (I 120 18)) * (I 120 19))) ((x4 / ((I 120 18) * (I 120 19))) - (x4 / ((I 120 18) * (I 120 19))) / 2 * 2) ((x4 / (I 120 19)) - (x4 / (I 120 19)) / (I 120 18) * (I 120 18)) (x4 - x4 / (I 120 19) * (I 120 19)) I J) fun r105 I105 J105 =>
      if r105 = x1 then (
        if x2 = nI 0 then (
          some ((x4 / (((2 : Int32) * (I 120 18)) * (I 120 19))), I105, J105))
        else         if x2 = nI 1 then (
          some (((x4 / ((I 120 18) * (I 120 19))) - (x4 / ((I 120 18) * (I 120 19))) / 2 * 2), I105, J105))
        else         if x2 = nI 2 then (
          some (((x4 / (I 120 19)) - (x4 / (I 120 19)) / (I 120 18) * (I 120 18)), I105, J105))
        else         if x2 = nI 3 then (
          some ((x4 - x4 / (I 120 19) * (I 120 19)), I105, J105))
        else         if x2 = nI 4 then (
          bd (F_Jm_min_II u (x1 / 2) ((x3 - (1 : Int32)) - (x1 / 2)) I105 J105) fun r180 I180 J180 =>
          some (((I105 120 22) * r180), I180, J180))
        else (
          some (((-1) : Int32), I105, J105)))
      else (
        F_Mo_where_33 u n x1 x2 x3 (x4 + Int32.ofInt 1) I105 J105)) else none) else none) else none) else none) else none)
def F_Mo_where (u : Nat) (x1 : Int32) (x2 : Int32) (I : pm_II) (J : pm_JJ) : Option (Int32 × pm_II × pm_JJ) :=
  bd (F_Mo_is u x1 (0 : Int32) (((2 : Int32) * (((I 120 20) * (I 120 18)) * (I 120 19))) - (1 : Int32)) I J) fun r22 I22 J22 =>
  if ¬ r22 = 0 then (
    F_Mo_where_33 u u x1 x2 (((I 120 20) * (I 120 18)) * (I 120 19)) (0 : Int32) I22 J22)
  else (
    some (((-1) : Int32), I22, J22))
theorem fx_Mo_where_33 {u k : Nat} {pa pb : Nat} {ga : Nat → Nat} {Q : Option Value → pm_H → Prop} (hk : 2 ≤ k) : ∀ (n : Nat), ∀ (x1 : Int32) (x2 : Int32) (x3 : Int32) (x4 : Int32) (I : pm_II) (J : pm_JJ) (r : Int32) (I2 : pm_II) (J2 : pm_JJ), F_Mo_where_33 u n x1 x2 x3 x4 I J = some (r, I2, J2) → Q (some (.int r)) (hp I2 J2 (pm_RT pa pb ga)) → Px k 176 m_Mo_where 33 [.ref 120, .int x1, .int x2, .int x3, .int x4, .null, .null, .null, .null, .null] [] (hp I J (pm_RT pa pb ga)) Q := by
  obtain ⟨k, rfl⟩ : ∃ j, k = j + 1 := ⟨k - 1, by omega⟩
  intro n
  induction n with
  | zero => intro x1 x2 x3 x4 I J r I2 J2  hF; cases hF
  | succ n ih =>
    intro x1 x2 x3 x4 I J r I2 J2  hF hQ
    rw [F_Mo_where_33] at hF
    refine bk_Mo_where_33 ?_
    refine ⟨fun z => ?_, fun z => ?_⟩
    · rw [if_pos z] at hF
      exact ret_q (Q := fun a b c => Q (some (.int a)) (hp b c (pm_RT pa pb ga))) hF hQ
    · rw [if_neg z] at hF
      obtain ⟨g, hF⟩ := ge_e hF
      refine ⟨g, ?_⟩
      obtain ⟨g, hF⟩ := ge_e hF
      refine ⟨g, ?_⟩
      obtain ⟨g, hF⟩ := ge_e hF
      refine ⟨g, ?_⟩
      obtain ⟨g, hF⟩ := ge_e hF
      refine ⟨g, ?_⟩
      obtain ⟨g, hF⟩ := ge_e hF
      refine ⟨g, ?_⟩
      obtain ⟨r105, I105, J105, hC105, hF⟩ := bd_e hF
      refine fx_Mo_pageOf (by omega) hC105 ⟨rfl, ?_⟩
      refine bk_Mo_where_108 ?_
      refine ⟨fun z => ?_, fun z => ?_⟩
      · rw [if_pos z] at hF
        refine ⟨fun z => ?_, fun z => ?_, fun z => ?_, fun z => ?_, fun z => ?_, fun z => ?_⟩
        · rw [if_pos z] at hF
          exact ret_q (Q := fun a b c => Q (some (.int a)) (hp b c (pm_RT pa pb ga))) hF hQ
        · rw [if_neg (by rw [z]; decide), if_pos z] at hF
          exact ret_q (Q := fun a b c => Q (some (.int a)) (hp b c (pm_RT pa pb ga))) hF hQ
        · rw [if_neg (by rw [z]; decide), if_neg (by rw [z]; decide), if_pos z] at hF
          exact ret_q (Q := fun a b c => Q (some (.int a)) (hp b c (pm_RT pa pb ga))) hF hQ
        · rw [if_neg (by rw [z]; decide), if_neg (by rw [z]; decide), if_neg (by rw [z]; decide), if_pos z] at hF
          exact ret_q (Q := fun a b c => Q (some (.int a)) (hp b c (pm_RT pa pb ga))) hF hQ
        · rw [if_neg (by rw [z]; decide), if_neg (by rw [z]; decide), if_neg (by rw [z]; decide), if_neg (by rw [z]; decide), if_pos z] at hF
          obtain ⟨r180, I180, J180, hC180, hF⟩ := bd_e hF
          refine fx_Jm_min_II (by omega) hC180 ⟨rfl, ?_⟩
          refine bk_Mo_where_183 ?_
          exact ret_q (Q := fun a b c => Q (some (.int a)) (hp b c (pm_RT pa pb ga))) hF hQ
        · rw [if_neg (sw_ne z (by decide) (by decide)), if_neg (sw_ne z (by decide) (by decide)), if_neg (sw_ne z (by decide) (by decide)), if_neg (sw_ne z (by decide) (by decide)), if_neg (sw_ne z (by decide) (by decide))] at hF
          exact ret_q (Q := fun a b c => Q (some (.int a)) (hp b c (pm_RT pa pb ga))) hF hQ
      · rw [if_neg z] at hF
        exact Px_wk (ih _ _ _ _ _ _ _ _ _ hF hQ) ⟨Or.inl rfl, Or.inl rfl, Or.inl rfl, Or.inl rfl, Or.inl rfl, Or.inr ⟨rfl, rfl⟩, Or.inr ⟨rfl, rfl⟩, Or.inr ⟨rfl, rfl⟩, Or.inr ⟨rfl, rfl⟩, Or.inl rfl, trivial⟩
theorem fx_Mo_where {u k : Nat} {pa pb : Nat} {ga : Nat → Nat} {Q : Option Value → pm_H → Prop} {x1 : Int32} {x2 : Int32} {I : pm_II} {J : pm_JJ} {r : Int32} {I2 : pm_II} {J2 : pm_JJ} (hk : 2 ≤ k) (hF : F_Mo_where u x1 x2 I J = some (r, I2, J2)) (hQ : Q (some (.int r)) (hp I2 J2 (pm_RT pa pb ga))) : Px k 176 m_Mo_where 0 [.ref 120, .int x1, .int x2, .null, .null, .null, .null, .null, .null, .null] [] (hp I J (pm_RT pa pb ga)) Q := by
  obtain ⟨k, rfl⟩ : ∃ j, k = j + 1 := ⟨k - 1, by omega⟩
  unfold F_Mo_where at hF
  refine bk_Mo_where_0 ?_
  obtain ⟨r22, I22, J22, hC22, hF⟩ := bd_e hF
  refine fx_Mo_is (by omega) hC22 ⟨rfl, ?_⟩
  refine bk_Mo_where_25 ?_
  refine ⟨fun z => ?_, fun z => ?_⟩
  · rw [if_pos z] at hF
    exact fx_Mo_where_33 hk u _ _ _ _ _ _ _ _ _ hF hQ
  · rw [if_neg z] at hF
    exact ret_q (Q := fun a b c => Q (some (.int a)) (hp b c (pm_RT pa pb ga))) hF hQ
def F_Mo_fill_58 (u : Nat) (K3 : Int32 → Int32 → Int32 → Int32 → Int32 → Int32 → pm_II → pm_JJ → Option (Unit × pm_II × pm_JJ)) (x1 : Int32) (x2 : Int32) (x3 : Int32) (x4 : Int32) (x5 : Int32) (x6 : Int32) (I : pm_II) (J : pm_JJ) : Option (Unit × pm_II × pm_JJ) :=
  K3 x1 x2 x3 x4 x5 (x6 + Int32.ofInt 1) I J
def F_Mo_fill_22 (u : Nat) (K3 : Int32 → Int32 → Int32 → Int32 → Int32 → Int32 → pm_II → pm_JJ → Option (Unit × pm_II × pm_JJ)) : Nat → Int32 → Int32 → Int32 → Int32 → Int32 → Int32 → Int32 → pm_II → pm_JJ → Option (Unit × pm_II × pm_JJ)
  | 0, _, _, _, _, _, _, _, _, _ => none
  | n + 1, x1, x2, x3, x4, x5, x6, x7, I, J =>
    if (x1 + x3) ≤ x7 then (
      F_Mo_fill_58 u K3 x1 x2 x3 x4 x5 x6 I J)
    else (
      if 8 ≤ x7 then (
        F_Mo_fill_58 u K3 x1 x2 x3 x4 x5 x6 I J)
      else (
        cond (vq (((8 : Int32) * x6) + x7) 64) (
        F_Mo_fill_22 u K3 n x1 x2 x3 x4 x5 x6 (x7 + Int32.ofInt 1) (pm_up I 137 (((((8 : Int32) * x6) + x7) : Int32).toNatClampNeg) x5) J) none))
def F_Mo_fill_64 (u : Nat) (I : pm_II) (J : pm_JJ) : Option (Unit × pm_II × pm_JJ) :=
  some ((), I, J)
def F_Mo_fill_3 (u : Nat) : Nat → Int32 → Int32 → Int32 → Int32 → Int32 → Int32 → pm_II → pm_JJ → Option (Unit × pm_II × pm_JJ)
  | 0, _, _, _, _, _, _, _, _ => none
  | n + 1, x1, x2, x3, x4, x5, x6, I, J =>
    if (x2 + x4) ≤ x6 then (
      F_Mo_fill_64 u I J)
    else (
      if 8 ≤ x6 then (
        F_Mo_fill_64 u I J)
      else (
        F_Mo_fill_22 u (F_Mo_fill_3 u n) u x1 x2 x3 x4 x5 x6 x1 I J))
def F_Mo_fill (u : Nat) (x1 : Int32) (x2 : Int32) (x3 : Int32) (x4 : Int32) (x5 : Int32) (I : pm_II) (J : pm_JJ) : Option (Unit × pm_II × pm_JJ) :=
  F_Mo_fill_3 u u x1 x2 x3 x4 x5 x2 I J
theorem fx_Mo_fill_58 {u k : Nat} {pa pb : Nat} {ga : Nat → Nat} {Q : Option Value → pm_H → Prop} {K3 : Int32 → Int32 → Int32 → Int32 → Int32 → Int32 → pm_II → pm_JJ → Option (Unit × pm_II × pm_JJ)} {x1 : Int32} {x2 : Int32} {x3 : Int32} {x4 : Int32} {x5 : Int32} {x6 : Int32} {x7 : Int32} {I : pm_II} {J : pm_JJ} {r : Unit} {I2 : pm_II} {J2 : pm_JJ} (hk : 0 ≤ k) (hK3 : ∀ (x1 : Int32) (x2 : Int32) (x3 : Int32) (x4 : Int32) (x5 : Int32) (x6 : Int32) (I : pm_II) (J : pm_JJ) (r : Unit) (I2 : pm_II) (J2 : pm_JJ), K3 x1 x2 x3 x4 x5 x6 I J = some (r, I2, J2) → Q none (hp I2 J2 (pm_RT pa pb ga)) → Px k 176 m_Mo_fill 3 [.ref 120, .int x1, .int x2, .int x3, .int x4, .int x5, .int x6, .null] [] (hp I J (pm_RT pa pb ga)) Q) (hF : F_Mo_fill_58 u K3 x1 x2 x3 x4 x5 x6 I J = some (r, I2, J2)) (hQ : Q none (hp I2 J2 (pm_RT pa pb ga))) : Px k 176 m_Mo_fill 58 [.ref 120, .int x1, .int x2, .int x3, .int x4, .int x5, .int x6, .int x7] [] (hp I J (pm_RT pa pb ga)) Q := by
  unfold F_Mo_fill_58 at hF
  refine bk_Mo_fill_58 ?_
  exact Px_wk (hK3 _ _ _ _ _ _ _ _ _ _ _ hF hQ) ⟨Or.inl rfl, Or.inl rfl, Or.inl rfl, Or.inl rfl, Or.inl rfl, Or.inl rfl, Or.inl rfl, Or.inr ⟨rfl, rfl⟩, trivial⟩
theorem fx_Mo_fill_22 {u k : Nat} {pa pb : Nat} {ga : Nat → Nat} {Q : Option Value → pm_H → Prop} {K3 : Int32 → Int32 → Int32 → Int32 → Int32 → Int32 → pm_II → pm_JJ → Option (Unit × pm_II × pm_JJ)} (hk : 0 ≤ k) (hK3 : ∀ (x1 : Int32) (x2 : Int32) (x3 : Int32) (x4 : Int32) (x5 : Int32) (x6 : Int32) (I : pm_II) (J : pm_JJ) (r : Unit) (I2 : pm_II) (J2 : pm_JJ), K3 x1 x2 x3 x4 x5 x6 I J = some (r, I2, J2) → Q none (hp I2 J2 (pm_RT pa pb ga)) → Px k 176 m_Mo_fill 3 [.ref 120, .int x1, .int x2, .int x3, .int x4, .int x5, .int x6, .null] [] (hp I J (pm_RT pa pb ga)) Q) : ∀ (n : Nat), ∀ (x1 : Int32) (x2 : Int32) (x3 : Int32) (x4 : Int32) (x5 : Int32) (x6 : Int32) (x7 : Int32) (I : pm_II) (J : pm_JJ) (r : Unit) (I2 : pm_II) (J2 : pm_JJ), F_Mo_fill_22 u K3 n x1 x2 x3 x4 x5 x6 x7 I J = some (r, I2, J2) → Q none (hp I2 J2 (pm_RT pa pb ga)) → Px k 176 m_Mo_fill 22 [.ref 120, .int x1, .int x2, .int x3, .int x4, .int x5, .int x6, .int x7] [] (hp I J (pm_RT pa pb ga)) Q := by
  intro n
  induction n with
  | zero => intro x1 x2 x3 x4 x5 x6 x7 I J r I2 J2  hF; cases hF
  | succ n ih =>
    intro x1 x2 x3 x4 x5 x6 x7 I J r I2 J2  hF hQ
    rw [F_Mo_fill_22] at hF
    refine bk_Mo_fill_22 ?_
    refine ⟨fun z => ?_, fun z => ?_⟩
    · rw [if_pos z] at hF
      exact fx_Mo_fill_58 hk hK3 hF hQ
    · rw [if_neg z] at hF
      refine ⟨fun z => ?_, fun z => ?_⟩
      · rw [if_pos z] at hF
        exact fx_Mo_fill_58 hk hK3 hF hQ
      · rw [if_neg z] at hF
        obtain ⟨g, hF⟩ := gd_e hF
        refine ⟨vq_in g, ?_⟩
        exact ih _ _ _ _ _ _ _ _ _ _ _ _ hF hQ
theorem fx_Mo_fill_64 {u k : Nat} {pa pb : Nat} {ga : Nat → Nat} {Q : Option Value → pm_H → Prop} {x1 : Int32} {x2 : Int32} {x3 : Int32} {x4 : Int32} {x5 : Int32} {x6 : Int32} {I : pm_II} {J : pm_JJ} {r : Unit} {I2 : pm_II} {J2 : pm_JJ} (hk : 0 ≤ k) (hF : F_Mo_fill_64 u  I J = some (r, I2, J2)) (hQ : Q none (hp I2 J2 (pm_RT pa pb ga))) : Px k 176 m_Mo_fill 64 [.ref 120, .int x1, .int x2, .int x3, .int x4, .int x5, .int x6, .null] [] (hp I J (pm_RT pa pb ga)) Q := by
  unfold F_Mo_fill_64 at hF
  refine bk_Mo_fill_64 ?_
  exact ret_q (Q := fun a b c => Q none (hp b c (pm_RT pa pb ga))) hF hQ
theorem fx_Mo_fill_3 {u k : Nat} {pa pb : Nat} {ga : Nat → Nat} {Q : Option Value → pm_H → Prop} (hk : 0 ≤ k) : ∀ (n : Nat), ∀ (x1 : Int32) (x2 : Int32) (x3 : Int32) (x4 : Int32) (x5 : Int32) (x6 : Int32) (I : pm_II) (J : pm_JJ) (r : Unit) (I2 : pm_II) (J2 : pm_JJ), F_Mo_fill_3 u n x1 x2 x3 x4 x5 x6 I J = some (r, I2, J2) → Q none (hp I2 J2 (pm_RT pa pb ga)) → Px k 176 m_Mo_fill 3 [.ref 120, .int x1, .int x2, .int x3, .int x4, .int x5, .int x6, .null] [] (hp I J (pm_RT pa pb ga)) Q := by
  intro n
  induction n with
  | zero => intro x1 x2 x3 x4 x5 x6 I J r I2 J2  hF; cases hF
  | succ n ih =>
    intro x1 x2 x3 x4 x5 x6 I J r I2 J2  hF hQ
    rw [F_Mo_fill_3] at hF
    refine bk_Mo_fill_3 ?_
    refine ⟨fun z => ?_, fun z => ?_⟩
    · rw [if_pos z] at hF
      exact fx_Mo_fill_64 hk hF hQ
    · rw [if_neg z] at hF
      refine ⟨fun z => ?_, fun z => ?_⟩
      · rw [if_pos z] at hF
        exact fx_Mo_fill_64 hk hF hQ
      · rw [if_neg z] at hF
        exact fx_Mo_fill_22 hk ih u _ _ _ _ _ _ _ _ _ _ _ _ hF hQ
theorem fx_Mo_fill {u k : Nat} {pa pb : Nat} {ga : Nat → Nat} {Q : Option Value → pm_H → Prop} {x1 : Int32} {x2 : Int32} {x3 : Int32} {x4 : Int32} {x5 : Int32} {I : pm_II} {J : pm_JJ} {r : Unit} {I2 : pm_II} {J2 : pm_JJ} (hk : 0 ≤ k) (hF : F_Mo_fill u x1 x2 x3 x4 x5 I J = some (r, I2, J2)) (hQ : Q none (hp I2 J2 (pm_RT pa pb ga))) : Px k 176 m_Mo_fill 0 [.ref 120, .int x1, .int x2, .int x3, .int x4, .int x5, .null, .null] [] (hp I J (pm_RT pa pb ga)) Q := by
  unfold F_Mo_fill at hF
  refine bk_Mo_fill_0 ?_
  exact fx_Mo_fill_3 hk u _ _ _ _ _ _ _ _ _ _ _ hF hQ
def F_Mo_draw_304 (u : Nat) (K39 : Int32 → Int32 → pm_II → pm_JJ → Option (Int32 × pm_II × pm_JJ)) (x1 : Int32) (x2 : Int32) (I : pm_II) (J : pm_JJ) : Option (Int32 × pm_II × pm_JJ) :=
  K39 x1 (x2 + Int32.ofInt 1) I J
def F_Mo_draw_218 (u : Nat) (K39 : Int32 → Int32 → pm_II → pm_JJ → Option (Int32 × pm_II × pm_JJ)) (x1 : Int32) (x2 : Int32) (x3 : Int32) (x4 : Int32) (x5 : Int32) (x6 : Int32) (x8 : Int32) (I : pm_II) (J : pm_JJ) : Option (Int32 × pm_II × pm_JJ) :=
  bd (F_Mo_behind u (0 : Int32) (16 : Int32) I J) fun r222 I222 J222 =>
  bd (F_Mo_need u (10 : Int32) I222 J222) fun _ I230 J230 =>
  bd (F_Mo_bad u I230 J230) fun r234 I234 J234 =>
  if r234 = 0 then (
    if x3 = 0 then (
      bd (F_Jm_min_II u x4 x6 I234 J234) fun r269 I269 J269 =>
      bd (F_Jm_min_II u x5 x8 I269 J269) fun r276 I276 J276 =>
      bd (F_Jm_abs_I u (x4 - x6) I276 J276) fun r284 I284 J284 =>
      bd (F_Jm_abs_I u (x5 - x8) I284 J284) fun r294 I294 J294 =>
      bd (F_Mo_fill u r269 r276 (r284 + (1 : Int32)) (r294 + (1 : Int32)) r222 I294 J294) fun _ I301 J301 =>
      F_Mo_draw_304 u K39 x1 x2 I301 J301)
    else (
      bd (F_Mo_fill u x4 x5 x6 x8 r222 I234 J234) fun _ I258 J258 =>
      F_Mo_draw_304 u K39 x1 x2 I258 J258))
  else (
    K39 x1 x2 I234 J234)
def F_Mo_draw_185 (u : Nat) (K39 : Int32 → Int32 → pm_II → pm_JJ → Option (Int32 × pm_II × pm_JJ)) (x1 : Int32) (x2 : Int32) (x3 : Int32) (x4 : Int32) (x5 : Int32) (x6 : Int32) (x7 : Int32) (s0 : Int32) (I : pm_II) (J : pm_JJ) : Option (Int32 × pm_II × pm_JJ) :=
  bd (F_Mo_bad u I J) fun r188 I188 J188 =>
  if ¬ r188 = 0 then (
    F_Mo_draw_218 u K39 x1 x2 x3 x4 x5 x6 s0 I188 J188)
  else (
    if ¬ x3 = 0 then (
      F_Mo_draw_218 u K39 x1 x2 x3 x4 x5 x6 s0 I188 J188)
    else (
      if x4 = x6 then (
        F_Mo_draw_218 u K39 x1 x2 x3 x4 x5 x6 s0 I188 J188)
      else (
        if x5 = s0 then (
          F_Mo_draw_218 u K39 x1 x2 x3 x4 x5 x6 s0 I188 J188)
        else (
          bd (F_Mo_fail u x7 I188 J188) fun _ I215 J215 =>
          F_Mo_draw_218 u K39 x1 x2 x3 x4 x5 x6 s0 I215 J215))))
def F_Mo_draw_150 (u : Nat) (K39 : Int32 → Int32 → pm_II → pm_JJ → Option (Int32 × pm_II × pm_JJ)) (x1 : Int32) (x2 : Int32) (x3 : Int32) (x4 : Int32) (x5 : Int32) (s0 : Int32) (I : pm_II) (J : pm_JJ) : Option (Int32 × pm_II × pm_JJ) :=
  bd (F_Mo_need u (32 : Int32) I J) fun _ I155 J155 =>
  if x3 = 0 then (
    bd (F_Mo_told u (0 : Int32) (7 : Int32) I155 J155) fun r182 I182 J182 =>
    F_Mo_draw_185 u K39 x1 x2 x3 x4 x5 s0 (I155 120 4) r182 I182 J182)
  else (
    bd (F_Mo_told u (1 : Int32) (8 : Int32) I155 J155) fun r172 I172 J172 =>
    F_Mo_draw_185 u K39 x1 x2 x3 x4 x5 s0 (I155 120 4) r172 I172 J172)
def F_Mo_draw_111 (u : Nat) (K39 : Int32 → Int32 → pm_II → pm_JJ → Option (Int32 × pm_II × pm_JJ)) (x1 : Int32) (x2 : Int32) (x3 : Int32) (I : pm_II) (J : pm_JJ) : Option (Int32 × pm_II × pm_JJ) :=
  bd (F_Mo_behind u (0 : Int32) (7 : Int32) I J) fun r115 I115 J115 =>
  bd (F_Mo_behind u (0 : Int32) (7 : Int32) I115 J115) fun r124 I124 J124 =>
  if x3 = 0 then (
    bd (F_Mo_behind u (0 : Int32) (7 : Int32) I124 J124) fun r147 I147 J147 =>
    F_Mo_draw_150 u K39 x1 x2 x3 r115 r124 r147 I147 J147)
  else (
    bd (F_Mo_behind u (1 : Int32) (8 : Int32) I124 J124) fun r137 I137 J137 =>
    F_Mo_draw_150 u K39 x1 x2 x3 r115 r124 r137 I137 J137)
def F_Mo_draw_103 (u : Nat) (K39 : Int32 → Int32 → pm_II → pm_JJ → Option (Int32 × pm_II × pm_JJ)) (x1 : Int32) (x2 : Int32) (x3 : Int32) (I : pm_II) (J : pm_JJ) : Option (Int32 × pm_II × pm_JJ) :=
  bd (F_Mo_fail u (I 120 4) I J) fun _ I108 J108 =>
  F_Mo_draw_111 u K39 x1 x2 x3 I108 J108
def F_Mo_draw_82 (u : Nat) (K39 : Int32 → Int32 → pm_II → pm_JJ → Option (Int32 × pm_II × pm_JJ)) (x1 : Int32) (x2 : Int32) (s0 : Int32) (I : pm_II) (J : pm_JJ) : Option (Int32 × pm_II × pm_JJ) :=
  if x2 = 40 then (
    F_Mo_draw_103 u K39 x1 x2 s0 I J)
  else (
    if ¬ s0 = 0 then (
      F_Mo_draw_111 u K39 x1 x2 s0 I J)
    else (
      bd (F_Mo_isWord u 8 I J) fun r97 I97 J97 =>
      if ¬ r97 = 0 then (
        F_Mo_draw_111 u K39 x1 x2 s0 I97 J97)
      else (
        F_Mo_draw_103 u K39 x1 x2 s0 I97 J97)))
def F_Mo_draw_61 (u : Nat) (K39 : Int32 → Int32 → pm_II → pm_JJ → Option (Int32 × pm_II × pm_JJ)) (x1 : Int32) (x2 : Int32) (I : pm_II) (J : pm_JJ) : Option (Int32 × pm_II × pm_JJ) :=
  if 40 ≤ x2 then (
    F_Mo_draw_82 u K39 x1 x2 (0 : Int32) I J)
  else (
    bd (F_Mo_isWord u 7 I J) fun r71 I71 J71 =>
    if r71 = 0 then (
      F_Mo_draw_82 u K39 x1 x2 (0 : Int32) I71 J71)
    else (
      F_Mo_draw_82 u K39 x1 x2 (1 : Int32) I71 J71))
def F_Mo_draw_331 (u : Nat) : Nat → Int32 → Int32 → Int32 → pm_II → pm_JJ → Option (Int32 × pm_II × pm_JJ)
  | 0, _, _, _, _, _ => none
  | n + 1, x1, x3, x4, I, J =>
    if 64 ≤ x4 then (
      some (x3, I, J))
    else (
      cond (vq x4 64) (
      cond (vq (((64 : Int32) * x1) + x4) 2048) (
      cond (vq x4 64) (
      F_Mo_draw_331 u n x1 (x3 + (I 137 ((x4 : Int32).toNatClampNeg))) (x4 + Int32.ofInt 1) (pm_up I 136 (((((64 : Int32) * x1) + x4) : Int32).toNatClampNeg) (I 137 ((x4 : Int32).toNatClampNeg))) J) none) none) none)
def F_Mo_draw_310 (u : Nat) (x1 : Int32) (I : pm_II) (J : pm_JJ) : Option (Int32 × pm_II × pm_JJ) :=
  bd (F_Mo_bad u I J) fun r311 I311 J311 =>
  if r311 = 0 then (
    F_Mo_draw_331 u u x1 (0 : Int32) (0 : Int32) I311 J311)
  else (
    some ((((-1000) : Int32) - (I311 120 5)), I311, J311))
def F_Mo_draw_39 (u : Nat) : Nat → Int32 → Int32 → pm_II → pm_JJ → Option (Int32 × pm_II × pm_JJ)
  | 0, _, _, _, _ => none
  | n + 1, x1, x2, I, J =>
    bd (F_Mo_bad u I J) fun r40 I40 J40 =>
    if ¬ r40 = 0 then (
      F_Mo_draw_310 u x1 I40 J40)
    else (
      if (I40 120 4) < (I40 120 3) then (
        F_Mo_draw_61 u (F_Mo_draw_39 u n) x1 x2 I40 J40)
      else (
        if ¬ x2 = 0 then (
          F_Mo_draw_310 u x1 I40 J40)
        else (
          F_Mo_draw_61 u (F_Mo_draw_39 u n) x1 x2 I40 J40)))
def F_Mo_draw_18 (u : Nat) : Nat → Int32 → Int32 → pm_II → pm_JJ → Option (Int32 × pm_II × pm_JJ)
  | 0, _, _, _, _ => none
  | n + 1, x1, x2, I, J =>
    if 64 ≤ x2 then (
      F_Mo_draw_39 u u x1 (0 : Int32) I J)
    else (
      cond (vq x2 64) (
      F_Mo_draw_18 u n x1 (x2 + Int32.ofInt 1) (pm_up I 137 ((x2 : Int32).toNatClampNeg) 0) J) none)
def F_Mo_draw (u : Nat) (x1 : Int32) (I : pm_II) (J : pm_JJ) : Option (Int32 × pm_II × pm_JJ) :=
  bd (F_Mo_is u x1 (0 : Int32) (31 : Int32) I J) fun r4 I4 J4 =>
  if ¬ r4 = 0 then (
    bd (F_Mo_take u I4 J4) fun _ I13 J13 =>
    F_Mo_draw_18 u u x1 (0 : Int32) I13 J13)
  else (
    some (((-1) : Int32), I4, J4))
theorem fx_Mo_draw_304 {u k : Nat} {pa pb : Nat} {ga : Nat → Nat} {Q : Option Value → pm_H → Prop} {K39 : Int32 → Int32 → pm_II → pm_JJ → Option (Int32 × pm_II × pm_JJ)} {x1 : Int32} {x2 : Int32} {x3 : Int32} {x4 : Int32} {x5 : Int32} {x6 : Int32} {x7 : Int32} {x8 : Int32} {x9 : Int32} {I : pm_II} {J : pm_JJ} {r : Int32} {I2 : pm_II} {J2 : pm_JJ} (hk : 5 ≤ k) (hK39 : ∀ (x1 : Int32) (x2 : Int32) (I : pm_II) (J : pm_JJ) (r : Int32) (I2 : pm_II) (J2 : pm_JJ), K39 x1 x2 I J = some (r, I2, J2) → Q (some (.int r)) (hp I2 J2 (pm_RT pa pb ga)) → Px k 176 m_Mo_draw 39 [.ref 120, .int x1, .int x2, .null, .null, .null, .null, .null, .null, .null] [] (hp I J (pm_RT pa pb ga)) Q) (hF : F_Mo_draw_304 u K39 x1 x2 I J = some (r, I2, J2)) (hQ : Q (some (.int r)) (hp I2 J2 (pm_RT pa pb ga))) : Px k 176 m_Mo_draw 304 [.ref 120, .int x1, .int x2, .int x3, .int x4, .int x5, .int x6, .int x7, .int x8, .int x9] [] (hp I J (pm_RT pa pb ga)) Q := by
  obtain ⟨k, rfl⟩ : ∃ j, k = j + 1 := ⟨k - 1, by omega⟩
  unfold F_Mo_draw_304 at hF
  refine bk_Mo_draw_304 ?_
  exact Px_wk (hK39 _ _ _ _ _ _ _ hF hQ) ⟨Or.inl rfl, Or.inl rfl, Or.inl rfl, Or.inr ⟨rfl, rfl⟩, Or.inr ⟨rfl, rfl⟩, Or.inr ⟨rfl, rfl⟩, Or.inr ⟨rfl, rfl⟩, Or.inr ⟨rfl, rfl⟩, Or.inr ⟨rfl, rfl⟩, Or.inr ⟨rfl, rfl⟩, trivial⟩
theorem fx_Mo_draw_218 {u k : Nat} {pa pb : Nat} {ga : Nat → Nat} {Q : Option Value → pm_H → Prop} {K39 : Int32 → Int32 → pm_II → pm_JJ → Option (Int32 × pm_II × pm_JJ)} {x1 : Int32} {x2 : Int32} {x3 : Int32} {x4 : Int32} {x5 : Int32} {x6 : Int32} {x7 : Int32} {x8 : Int32} {I : pm_II} {J : pm_JJ} {r : Int32} {I2 : pm_II} {J2 : pm_JJ} (hk : 5 ≤ k) (hK39 : ∀ (x1 : Int32) (x2 : Int32) (I : pm_II) (J : pm_JJ) (r : Int32) (I2 : pm_II) (J2 : pm_JJ), K39 x1 x2 I J = some (r, I2, J2) → Q (some (.int r)) (hp I2 J2 (pm_RT pa pb ga)) → Px k 176 m_Mo_draw 39 [.ref 120, .int x1, .int x2, .null, .null, .null, .null, .null, .null, .null] [] (hp I J (pm_RT pa pb ga)) Q) (hF : F_Mo_draw_218 u K39 x1 x2 x3 x4 x5 x6 x8 I J = some (r, I2, J2)) (hQ : Q (some (.int r)) (hp I2 J2 (pm_RT pa pb ga))) : Px k 176 m_Mo_draw 218 [.ref 120, .int x1, .int x2, .int x3, .int x4, .int x5, .int x6, .int x7, .int x8, .null] [] (hp I J (pm_RT pa pb ga)) Q := by
  obtain ⟨k, rfl⟩ : ∃ j, k = j + 1 := ⟨k - 1, by omega⟩
  unfold F_Mo_draw_218 at hF
  refine bk_Mo_draw_218 ?_
  obtain ⟨r222, I222, J222, hC222, hF⟩ := bd_e hF
  refine fx_Mo_behind (by omega) hC222 ⟨rfl, ?_⟩
  refine bk_Mo_draw_225 ?_
  obtain ⟨r230, I230, J230, hC230, hF⟩ := bd_e hF
  refine fx_Mo_need (by omega) hC230 ⟨rfl, ?_⟩
  refine bk_Mo_draw_233 ?_
  obtain ⟨r234, I234, J234, hC234, hF⟩ := bd_e hF
  refine fx_Mo_bad (by omega) hC234 ⟨rfl, ?_⟩
  refine bk_Mo_draw_237 ?_
  refine ⟨fun z => ?_, fun z => ?_⟩
  · rw [if_pos z] at hF
    refine ⟨fun z => ?_, fun z => ?_⟩
    · rw [if_pos z] at hF
      obtain ⟨r269, I269, J269, hC269, hF⟩ := bd_e hF
      refine fx_Jm_min_II (by omega) hC269 ⟨rfl, ?_⟩
      refine bk_Mo_draw_272 ?_
      obtain ⟨r276, I276, J276, hC276, hF⟩ := bd_e hF
      refine fx_Jm_min_II (by omega) hC276 ⟨rfl, ?_⟩
      refine bk_Mo_draw_279 ?_
      obtain ⟨r284, I284, J284, hC284, hF⟩ := bd_e hF
      refine fx_Jm_abs_I (by omega) hC284 ⟨rfl, ?_⟩
      refine bk_Mo_draw_287 ?_
      obtain ⟨r294, I294, J294, hC294, hF⟩ := bd_e hF
      refine fx_Jm_abs_I (by omega) hC294 ⟨rfl, ?_⟩
      refine bk_Mo_draw_297 ?_
      obtain ⟨r301, I301, J301, hC301, hF⟩ := bd_e hF
      refine fx_Mo_fill (by omega) hC301 ⟨rfl, ?_⟩
      exact fx_Mo_draw_304 hk hK39 hF hQ
    · rw [if_neg z] at hF
      obtain ⟨r258, I258, J258, hC258, hF⟩ := bd_e hF
      refine fx_Mo_fill (by omega) hC258 ⟨rfl, ?_⟩
      refine bk_Mo_draw_261 ?_
      exact fx_Mo_draw_304 hk hK39 hF hQ
  · rw [if_neg z] at hF
    exact Px_wk (hK39 _ _ _ _ _ _ _ hF hQ) ⟨Or.inl rfl, Or.inl rfl, Or.inl rfl, Or.inr ⟨rfl, rfl⟩, Or.inr ⟨rfl, rfl⟩, Or.inr ⟨rfl, rfl⟩, Or.inr ⟨rfl, rfl⟩, Or.inr ⟨rfl, rfl⟩, Or.inr ⟨rfl, rfl⟩, Or.inr ⟨rfl, rfl⟩, trivial⟩
theorem fx_Mo_draw_185 {u k : Nat} {pa pb : Nat} {ga : Nat → Nat} {Q : Option Value → pm_H → Prop} {K39 : Int32 → Int32 → pm_II → pm_JJ → Option (Int32 × pm_II × pm_JJ)} {x1 : Int32} {x2 : Int32} {x3 : Int32} {x4 : Int32} {x5 : Int32} {x6 : Int32} {x7 : Int32} {s0 : Int32} {I : pm_II} {J : pm_JJ} {r : Int32} {I2 : pm_II} {J2 : pm_JJ} (hk : 5 ≤ k) (hK39 : ∀ (x1 : Int32) (x2 : Int32) (I : pm_II) (J : pm_JJ) (r : Int32) (I2 : pm_II) (J2 : pm_JJ), K39 x1 x2 I J = some (r, I2, J2) → Q (some (.int r)) (hp I2 J2 (pm_RT pa pb ga)) → Px k 176 m_Mo_draw 39 [.ref 120, .int x1, .int x2, .null, .null, .null, .null, .null, .null, .null] [] (hp I J (pm_RT pa pb ga)) Q) (hF : F_Mo_draw_185 u K39 x1 x2 x3 x4 x5 x6 x7 s0 I J = some (r, I2, J2)) (hQ : Q (some (.int r)) (hp I2 J2 (pm_RT pa pb ga))) : Px k 176 m_Mo_draw 185 [.ref 120, .int x1, .int x2, .int x3, .int x4, .int x5, .int x6, .int x7, .null, .null] [.int s0] (hp I J (pm_RT pa pb ga)) Q := by
  obtain ⟨k, rfl⟩ : ∃ j, k = j + 1 := ⟨k - 1, by omega⟩
  unfold F_Mo_draw_185 at hF
  refine bk_Mo_draw_185 ?_
  obtain ⟨r188, I188, J188, hC188, hF⟩ := bd_e hF
  refine fx_Mo_bad (by omega) hC188 ⟨rfl, ?_⟩
  refine bk_Mo_draw_191 ?_
  refine ⟨fun z => ?_, fun z => ?_⟩
  · rw [if_pos z] at hF
    exact fx_Mo_draw_218 hk hK39 hF hQ
  · rw [if_neg z] at hF
    refine ⟨fun z => ?_, fun z => ?_⟩
    · rw [if_pos z] at hF
      exact fx_Mo_draw_218 hk hK39 hF hQ
    · rw [if_neg z] at hF
      refine ⟨fun z => ?_, fun z => ?_⟩
      · rw [if_pos z] at hF
        exact fx_Mo_draw_218 hk hK39 hF hQ
      · rw [if_neg z] at hF
        refine ⟨fun z => ?_, fun z => ?_⟩
        · rw [if_pos z] at hF
          exact fx_Mo_draw_218 hk hK39 hF hQ
        · rw [if_neg z] at hF
          obtain ⟨r215, I215, J215, hC215, hF⟩ := bd_e hF
          refine fx_Mo_fail (by omega) hC215 ⟨rfl, ?_⟩
          exact fx_Mo_draw_218 hk hK39 hF hQ
theorem fx_Mo_draw_150 {u k : Nat} {pa pb : Nat} {ga : Nat → Nat} {Q : Option Value → pm_H → Prop} {K39 : Int32 → Int32 → pm_II → pm_JJ → Option (Int32 × pm_II × pm_JJ)} {x1 : Int32} {x2 : Int32} {x3 : Int32} {x4 : Int32} {x5 : Int32} {s0 : Int32} {I : pm_II} {J : pm_JJ} {r : Int32} {I2 : pm_II} {J2 : pm_JJ} (hk : 5 ≤ k) (hK39 : ∀ (x1 : Int32) (x2 : Int32) (I : pm_II) (J : pm_JJ) (r : Int32) (I2 : pm_II) (J2 : pm_JJ), K39 x1 x2 I J = some (r, I2, J2) → Q (some (.int r)) (hp I2 J2 (pm_RT pa pb ga)) → Px k 176 m_Mo_draw 39 [.ref 120, .int x1, .int x2, .null, .null, .null, .null, .null, .null, .null] [] (hp I J (pm_RT pa pb ga)) Q) (hF : F_Mo_draw_150 u K39 x1 x2 x3 x4 x5 s0 I J = some (r, I2, J2)) (hQ : Q (some (.int r)) (hp I2 J2 (pm_RT pa pb ga))) : Px k 176 m_Mo_draw 150 [.ref 120, .int x1, .int x2, .int x3, .int x4, .int x5, .null, .null, .null, .null] [.int s0] (hp I J (pm_RT pa pb ga)) Q := by
  obtain ⟨k, rfl⟩ : ∃ j, k = j + 1 := ⟨k - 1, by omega⟩
  unfold F_Mo_draw_150 at hF
  refine bk_Mo_draw_150 ?_
  obtain ⟨r155, I155, J155, hC155, hF⟩ := bd_e hF
  refine fx_Mo_need (by omega) hC155 ⟨rfl, ?_⟩
  refine bk_Mo_draw_158 ?_
  refine ⟨fun z => ?_, fun z => ?_⟩
  · rw [if_pos z] at hF
    obtain ⟨r182, I182, J182, hC182, hF⟩ := bd_e hF
    refine fx_Mo_told (by omega) hC182 ⟨rfl, ?_⟩
    exact fx_Mo_draw_185 hk hK39 hF hQ
  · rw [if_neg z] at hF
    obtain ⟨r172, I172, J172, hC172, hF⟩ := bd_e hF
    refine fx_Mo_told (by omega) hC172 ⟨rfl, ?_⟩
    refine bk_Mo_draw_175 ?_
    exact fx_Mo_draw_185 hk hK39 hF hQ
theorem fx_Mo_draw_111 {u k : Nat} {pa pb : Nat} {ga : Nat → Nat} {Q : Option Value → pm_H → Prop} {K39 : Int32 → Int32 → pm_II → pm_JJ → Option (Int32 × pm_II × pm_JJ)} {x1 : Int32} {x2 : Int32} {x3 : Int32} {I : pm_II} {J : pm_JJ} {r : Int32} {I2 : pm_II} {J2 : pm_JJ} (hk : 5 ≤ k) (hK39 : ∀ (x1 : Int32) (x2 : Int32) (I : pm_II) (J : pm_JJ) (r : Int32) (I2 : pm_II) (J2 : pm_JJ), K39 x1 x2 I J = some (r, I2, J2) → Q (some (.int r)) (hp I2 J2 (pm_RT pa pb ga)) → Px k 176 m_Mo_draw 39 [.ref 120, .int x1, .int x2, .null, .null, .null, .null, .null, .null, .null] [] (hp I J (pm_RT pa pb ga)) Q) (hF : F_Mo_draw_111 u K39 x1 x2 x3 I J = some (r, I2, J2)) (hQ : Q (some (.int r)) (hp I2 J2 (pm_RT pa pb ga))) : Px k 176 m_Mo_draw 111 [.ref 120, .int x1, .int x2, .int x3, .null, .null, .null, .null, .null, .null] [] (hp I J (pm_RT pa pb ga)) Q := by
  obtain ⟨k, rfl⟩ : ∃ j, k = j + 1 := ⟨k - 1, by omega⟩
  unfold F_Mo_draw_111 at hF
  refine bk_Mo_draw_111 ?_
  obtain ⟨r115, I115, J115, hC115, hF⟩ := bd_e hF
  refine fx_Mo_behind (by omega) hC115 ⟨rfl, ?_⟩
  refine bk_Mo_draw_118 ?_
  obtain ⟨r124, I124, J124, hC124, hF⟩ := bd_e hF
  refine fx_Mo_behind (by omega) hC124 ⟨rfl, ?_⟩
  refine bk_Mo_draw_127 ?_
  refine ⟨fun z => ?_, fun z => ?_⟩
  · rw [if_pos z] at hF
    obtain ⟨r147, I147, J147, hC147, hF⟩ := bd_e hF
    refine fx_Mo_behind (by omega) hC147 ⟨rfl, ?_⟩
    exact fx_Mo_draw_150 hk hK39 hF hQ
  · rw [if_neg z] at hF
    obtain ⟨r137, I137, J137, hC137, hF⟩ := bd_e hF
    refine fx_Mo_behind (by omega) hC137 ⟨rfl, ?_⟩
    refine bk_Mo_draw_140 ?_
    exact fx_Mo_draw_150 hk hK39 hF hQ
theorem fx_Mo_draw_103 {u k : Nat} {pa pb : Nat} {ga : Nat → Nat} {Q : Option Value → pm_H → Prop} {K39 : Int32 → Int32 → pm_II → pm_JJ → Option (Int32 × pm_II × pm_JJ)} {x1 : Int32} {x2 : Int32} {x3 : Int32} {I : pm_II} {J : pm_JJ} {r : Int32} {I2 : pm_II} {J2 : pm_JJ} (hk : 5 ≤ k) (hK39 : ∀ (x1 : Int32) (x2 : Int32) (I : pm_II) (J : pm_JJ) (r : Int32) (I2 : pm_II) (J2 : pm_JJ), K39 x1 x2 I J = some (r, I2, J2) → Q (some (.int r)) (hp I2 J2 (pm_RT pa pb ga)) → Px k 176 m_Mo_draw 39 [.ref 120, .int x1, .int x2, .null, .null, .null, .null, .null, .null, .null] [] (hp I J (pm_RT pa pb ga)) Q) (hF : F_Mo_draw_103 u K39 x1 x2 x3 I J = some (r, I2, J2)) (hQ : Q (some (.int r)) (hp I2 J2 (pm_RT pa pb ga))) : Px k 176 m_Mo_draw 103 [.ref 120, .int x1, .int x2, .int x3, .null, .null, .null, .null, .null, .null] [] (hp I J (pm_RT pa pb ga)) Q := by
  obtain ⟨k, rfl⟩ : ∃ j, k = j + 1 := ⟨k - 1, by omega⟩
  unfold F_Mo_draw_103 at hF
  refine bk_Mo_draw_103 ?_
  obtain ⟨r108, I108, J108, hC108, hF⟩ := bd_e hF
  refine fx_Mo_fail (by omega) hC108 ⟨rfl, ?_⟩
  exact fx_Mo_draw_111 hk hK39 hF hQ
theorem fx_Mo_draw_82 {u k : Nat} {pa pb : Nat} {ga : Nat → Nat} {Q : Option Value → pm_H → Prop} {K39 : Int32 → Int32 → pm_II → pm_JJ → Option (Int32 × pm_II × pm_JJ)} {x1 : Int32} {x2 : Int32} {s0 : Int32} {I : pm_II} {J : pm_JJ} {r : Int32} {I2 : pm_II} {J2 : pm_JJ} (hk : 5 ≤ k) (hK39 : ∀ (x1 : Int32) (x2 : Int32) (I : pm_II) (J : pm_JJ) (r : Int32) (I2 : pm_II) (J2 : pm_JJ), K39 x1 x2 I J = some (r, I2, J2) → Q (some (.int r)) (hp I2 J2 (pm_RT pa pb ga)) → Px k 176 m_Mo_draw 39 [.ref 120, .int x1, .int x2, .null, .null, .null, .null, .null, .null, .null] [] (hp I J (pm_RT pa pb ga)) Q) (hF : F_Mo_draw_82 u K39 x1 x2 s0 I J = some (r, I2, J2)) (hQ : Q (some (.int r)) (hp I2 J2 (pm_RT pa pb ga))) : Px k 176 m_Mo_draw 82 [.ref 120, .int x1, .int x2, .null, .null, .null, .null, .null, .null, .null] [.int s0] (hp I J (pm_RT pa pb ga)) Q := by
  obtain ⟨k, rfl⟩ : ∃ j, k = j + 1 := ⟨k - 1, by omega⟩
  unfold F_Mo_draw_82 at hF
  refine bk_Mo_draw_82 ?_
  refine ⟨fun z => ?_, fun z => ?_⟩
  · rw [if_pos z] at hF
    exact fx_Mo_draw_103 hk hK39 hF hQ
  · rw [if_neg z] at hF
    refine ⟨fun z => ?_, fun z => ?_⟩
    · rw [if_pos z] at hF
      exact fx_Mo_draw_111 hk hK39 hF hQ
    · rw [if_neg z] at hF
      obtain ⟨r97, I97, J97, hC97, hF⟩ := bd_e hF
      refine fx_Mo_isWord (by omega) ⟨by decide, by decide⟩ hC97 ⟨rfl, ?_⟩
      refine bk_Mo_draw_100 ?_
      refine ⟨fun z => ?_, fun z => ?_⟩
      · rw [if_pos z] at hF
        exact fx_Mo_draw_111 hk hK39 hF hQ
      · rw [if_neg z] at hF
        exact fx_Mo_draw_103 hk hK39 hF hQ
theorem fx_Mo_draw_61 {u k : Nat} {pa pb : Nat} {ga : Nat → Nat} {Q : Option Value → pm_H → Prop} {K39 : Int32 → Int32 → pm_II → pm_JJ → Option (Int32 × pm_II × pm_JJ)} {x1 : Int32} {x2 : Int32} {I : pm_II} {J : pm_JJ} {r : Int32} {I2 : pm_II} {J2 : pm_JJ} (hk : 5 ≤ k) (hK39 : ∀ (x1 : Int32) (x2 : Int32) (I : pm_II) (J : pm_JJ) (r : Int32) (I2 : pm_II) (J2 : pm_JJ), K39 x1 x2 I J = some (r, I2, J2) → Q (some (.int r)) (hp I2 J2 (pm_RT pa pb ga)) → Px k 176 m_Mo_draw 39 [.ref 120, .int x1, .int x2, .null, .null, .null, .null, .null, .null, .null] [] (hp I J (pm_RT pa pb ga)) Q) (hF : F_Mo_draw_61 u K39 x1 x2 I J = some (r, I2, J2)) (hQ : Q (some (.int r)) (hp I2 J2 (pm_RT pa pb ga))) : Px k 176 m_Mo_draw 61 [.ref 120, .int x1, .int x2, .null, .null, .null, .null, .null, .null, .null] [] (hp I J (pm_RT pa pb ga)) Q := by
  obtain ⟨k, rfl⟩ : ∃ j, k = j + 1 := ⟨k - 1, by omega⟩
  unfold F_Mo_draw_61 at hF
  refine bk_Mo_draw_61 ?_
  refine ⟨fun z => ?_, fun z => ?_⟩
  · rw [if_pos z] at hF
    exact fx_Mo_draw_82 hk hK39 hF hQ
  · rw [if_neg z] at hF
    obtain ⟨r71, I71, J71, hC71, hF⟩ := bd_e hF
    refine fx_Mo_isWord (by omega) ⟨by decide, by decide⟩ hC71 ⟨rfl, ?_⟩
    refine bk_Mo_draw_74 ?_
    refine ⟨fun z => ?_, fun z => ?_⟩
    · rw [if_pos z] at hF
      exact fx_Mo_draw_82 hk hK39 hF hQ
    · rw [if_neg z] at hF
      exact fx_Mo_draw_82 hk hK39 hF hQ
theorem fx_Mo_draw_331 {u k : Nat} {pa pb : Nat} {ga : Nat → Nat} {Q : Option Value → pm_H → Prop} (hk : 5 ≤ k) : ∀ (n : Nat), ∀ (x1 : Int32) (x2 : Int32) (x3 : Int32) (x4 : Int32) (I : pm_II) (J : pm_JJ) (r : Int32) (I2 : pm_II) (J2 : pm_JJ), F_Mo_draw_331 u n x1 x3 x4 I J = some (r, I2, J2) → Q (some (.int r)) (hp I2 J2 (pm_RT pa pb ga)) → Px k 176 m_Mo_draw 331 [.ref 120, .int x1, .int x2, .int x3, .int x4, .null, .null, .null, .null, .null] [] (hp I J (pm_RT pa pb ga)) Q := by
  obtain ⟨k, rfl⟩ : ∃ j, k = j + 1 := ⟨k - 1, by omega⟩
  intro n
  induction n with
  | zero => intro x1 x2 x3 x4 I J r I2 J2  hF; cases hF
  | succ n ih =>
    intro x1 x2 x3 x4 I J r I2 J2  hF hQ
    rw [F_Mo_draw_331] at hF
    refine bk_Mo_draw_331 ?_
    refine ⟨fun z => ?_, fun z => ?_⟩
    · rw [if_pos z] at hF
      exact ret_q (Q := fun a b c => Q (some (.int a)) (hp b c (pm_RT pa pb ga))) hF hQ
    · rw [if_neg z] at hF
      obtain ⟨g, hF⟩ := gd_e hF
      refine ⟨vq_in g, ?_⟩
      obtain ⟨g, hF⟩ := gd_e hF
      refine ⟨vq_in g, ?_⟩
      obtain ⟨g, hF⟩ := gd_e hF
      refine ⟨vq_in g, ?_⟩
      exact ih _ _ _ _ _ _ _ _ _ hF hQ
theorem fx_Mo_draw_310 {u k : Nat} {pa pb : Nat} {ga : Nat → Nat} {Q : Option Value → pm_H → Prop} {x1 : Int32} {x2 : Int32} {I : pm_II} {J : pm_JJ} {r : Int32} {I2 : pm_II} {J2 : pm_JJ} (hk : 5 ≤ k) (hF : F_Mo_draw_310 u x1 I J = some (r, I2, J2)) (hQ : Q (some (.int r)) (hp I2 J2 (pm_RT pa pb ga))) : Px k 176 m_Mo_draw 310 [.ref 120, .int x1, .int x2, .null, .null, .null, .null, .null, .null, .null] [] (hp I J (pm_RT pa pb ga)) Q := by
  obtain ⟨k, rfl⟩ : ∃ j, k = j + 1 := ⟨k - 1, by omega⟩
  unfold F_Mo_draw_310 at hF
  refine bk_Mo_draw_310 ?_
  obtain ⟨r311, I311, J311, hC311, hF⟩ := bd_e hF
  refine fx_Mo_bad (by omega) hC311 ⟨rfl, ?_⟩
  refine bk_Mo_draw_314 ?_
  refine ⟨fun z => ?_, fun z => ?_⟩
  · rw [if_pos z] at hF
    exact fx_Mo_draw_331 hk u _ _ _ _ _ _ _ _ _ hF hQ
  · rw [if_neg z] at hF
    exact ret_q (Q := fun a b c => Q (some (.int a)) (hp b c (pm_RT pa pb ga))) hF hQ
theorem fx_Mo_draw_39 {u k : Nat} {pa pb : Nat} {ga : Nat → Nat} {Q : Option Value → pm_H → Prop} (hk : 5 ≤ k) : ∀ (n : Nat), ∀ (x1 : Int32) (x2 : Int32) (I : pm_II) (J : pm_JJ) (r : Int32) (I2 : pm_II) (J2 : pm_JJ), F_Mo_draw_39 u n x1 x2 I J = some (r, I2, J2) → Q (some (.int r)) (hp I2 J2 (pm_RT pa pb ga)) → Px k 176 m_Mo_draw 39 [.ref 120, .int x1, .int x2, .null, .null, .null, .null, .null, .null, .null] [] (hp I J (pm_RT pa pb ga)) Q := by
  obtain ⟨k, rfl⟩ : ∃ j, k = j + 1 := ⟨k - 1, by omega⟩
  intro n
  induction n with
  | zero => intro x1 x2 I J r I2 J2  hF; cases hF
  | succ n ih =>
    intro x1 x2 I J r I2 J2  hF hQ
    rw [F_Mo_draw_39] at hF
    refine bk_Mo_draw_39 ?_
    obtain ⟨r40, I40, J40, hC40, hF⟩ := bd_e hF
    refine fx_Mo_bad (by omega) hC40 ⟨rfl, ?_⟩
    refine bk_Mo_draw_43 ?_
    refine ⟨fun z => ?_, fun z => ?_⟩
    · rw [if_pos z] at hF
      exact fx_Mo_draw_310 hk hF hQ
    · rw [if_neg z] at hF
      refine ⟨fun z => ?_, fun z => ?_⟩
      · rw [if_pos z] at hF
        exact fx_Mo_draw_61 hk ih hF hQ
      · rw [if_neg z] at hF
        refine ⟨fun z => ?_, fun z => ?_⟩
        · rw [if_pos z] at hF
          exact fx_Mo_draw_310 hk hF hQ
        · rw [if_neg z] at hF
          exact fx_Mo_draw_61 hk ih hF hQ
theorem fx_Mo_draw_18 {u k : Nat} {pa pb : Nat} {ga : Nat → Nat} {Q : Option Value → pm_H → Prop} (hk : 5 ≤ k) : ∀ (n : Nat), ∀ (x1 : Int32) (x2 : Int32) (I : pm_II) (J : pm_JJ) (r : Int32) (I2 : pm_II) (J2 : pm_JJ), F_Mo_draw_18 u n x1 x2 I J = some (r, I2, J2) → Q (some (.int r)) (hp I2 J2 (pm_RT pa pb ga)) → Px k 176 m_Mo_draw 18 [.ref 120, .int x1, .int x2, .null, .null, .null, .null, .null, .null, .null] [] (hp I J (pm_RT pa pb ga)) Q := by
  obtain ⟨k, rfl⟩ : ∃ j, k = j + 1 := ⟨k - 1, by omega⟩
  intro n
  induction n with
  | zero => intro x1 x2 I J r I2 J2  hF; cases hF
  | succ n ih =>
    intro x1 x2 I J r I2 J2  hF hQ
    rw [F_Mo_draw_18] at hF
    refine bk_Mo_draw_18 ?_
    refine ⟨fun z => ?_, fun z => ?_⟩
    · rw [if_pos z] at hF
      exact fx_Mo_draw_39 hk u _ _ _ _ _ _ _ hF hQ
    · rw [if_neg z] at hF
      obtain ⟨g, hF⟩ := gd_e hF
      refine ⟨vq_in g, ?_⟩
      exact ih _ _ _ _ _ _ _ hF hQ
theorem fx_Mo_draw {u k : Nat} {pa pb : Nat} {ga : Nat → Nat} {Q : Option Value → pm_H → Prop} {x1 : Int32} {I : pm_II} {J : pm_JJ} {r : Int32} {I2 : pm_II} {J2 : pm_JJ} (hk : 5 ≤ k) (hF : F_Mo_draw u x1 I J = some (r, I2, J2)) (hQ : Q (some (.int r)) (hp I2 J2 (pm_RT pa pb ga))) : Px k 176 m_Mo_draw 0 [.ref 120, .int x1, .null, .null, .null, .null, .null, .null, .null, .null] [] (hp I J (pm_RT pa pb ga)) Q := by
  obtain ⟨k, rfl⟩ : ∃ j, k = j + 1 := ⟨k - 1, by omega⟩
  unfold F_Mo_draw at hF
  refine bk_Mo_draw_0 ?_
  obtain ⟨r4, I4, J4, hC4, hF⟩ := bd_e hF
  refine fx_Mo_is (by omega) hC4 ⟨rfl, ?_⟩
  refine bk_Mo_draw_7 ?_
  refine ⟨fun z => ?_, fun z => ?_⟩
  · rw [if_pos z] at hF
    obtain ⟨r13, I13, J13, hC13, hF⟩ := bd_e hF
    refine fx_Mo_take (by omega) hC13 ⟨rfl, ?_⟩
    refine bk_Mo_draw_16 ?_
    exact fx_Mo_draw_18 hk u _ _ _ _ _ _ _ hF hQ
  · rw [if_neg z] at hF
    exact ret_q (Q := fun a b c => Q (some (.int a)) (hp b c (pm_RT pa pb ga))) hF hQ
def F_Mo_isSide (u : Nat) (x1 : Int32) (x2 : Int32) (I : pm_II) (J : pm_JJ) : Option (Int32 × pm_II × pm_JJ) :=
  bd (F_Mo_is u x1 (0 : Int32) ((I 120 20) - (1 : Int32)) I J) fun r8 I8 J8 =>
  if r8 = 0 then (
    some ((0 : Int32), I8, J8))
  else (
    bd (F_Mo_is u x2 (0 : Int32) (1 : Int32) I8 J8) fun r17 I17 J17 =>
    if r17 = 0 then (
      some ((0 : Int32), I17, J17))
    else (
      some ((1 : Int32), I17, J17)))
theorem fx_Mo_isSide {u k : Nat} {pa pb : Nat} {ga : Nat → Nat} {Q : Option Value → pm_H → Prop} {x1 : Int32} {x2 : Int32} {I : pm_II} {J : pm_JJ} {r : Int32} {I2 : pm_II} {J2 : pm_JJ} (hk : 1 ≤ k) (hF : F_Mo_isSide u x1 x2 I J = some (r, I2, J2)) (hQ : Q (some (.int r)) (hp I2 J2 (pm_RT pa pb ga))) : Px k 176 m_Mo_isSide 0 [.ref 120, .int x1, .int x2] [] (hp I J (pm_RT pa pb ga)) Q := by
  obtain ⟨k, rfl⟩ : ∃ j, k = j + 1 := ⟨k - 1, by omega⟩
  unfold F_Mo_isSide at hF
  refine bk_Mo_isSide_0 ?_
  obtain ⟨r8, I8, J8, hC8, hF⟩ := bd_e hF
  refine fx_Mo_is (by omega) hC8 ⟨rfl, ?_⟩
  refine bk_Mo_isSide_11 ?_
  refine ⟨fun z => ?_, fun z => ?_⟩
  · rw [if_pos z] at hF
    exact ret_q (Q := fun a b c => Q (some (.int a)) (hp b c (pm_RT pa pb ga))) hF hQ
  · rw [if_neg z] at hF
    obtain ⟨r17, I17, J17, hC17, hF⟩ := bd_e hF
    refine fx_Mo_is (by omega) hC17 ⟨rfl, ?_⟩
    refine bk_Mo_isSide_20 ?_
    refine ⟨fun z => ?_, fun z => ?_⟩
    · rw [if_pos z] at hF
      exact ret_q (Q := fun a b c => Q (some (.int a)) (hp b c (pm_RT pa pb ga))) hF hQ
    · rw [if_neg z] at hF
      exact ret_q (Q := fun a b c => Q (some (.int a)) (hp b c (pm_RT pa pb ga))) hF hQ
def F_Mo_pointAt_132 (u : Nat) (x3 : Int32) (x4 : Int32) (s0 : Int32) (I : pm_II) (J : pm_JJ) : Option (Int32 × pm_II × pm_JJ) :=
  cond (vq (((4 : Int32) * (x4 - x4 / 4 * 4)) + (x3 - x3 / 4 * 4)) 16) (
  if s0 ≤ (I 138 (((((4 : Int32) * (x4 - x4 / 4 * 4)) + (x3 - x3 / 4 * 4)) : Int32).toNatClampNeg)) then (
    some ((0 : Int32), I, J))
  else (
    some ((1 : Int32), I, J))) none
def F_Mo_pointAt_100 (u : Nat) (x3 : Int32) (x4 : Int32) (x7 : Int32) (x9 : Int32) (s0 : Int32) (I : pm_II) (J : pm_JJ) : Option (Int32 × pm_II × pm_JJ) :=
  if 32 ≤ x7 then (
    F_Mo_pointAt_132 u x3 x4 (0 : Int32) I J)
  else (
    cond (vq ((((64 : Int32) * x7) + ((8 : Int32) * s0)) + x9) 2048) (
    F_Mo_pointAt_132 u x3 x4 (I 136 ((((((64 : Int32) * x7) + ((8 : Int32) * s0)) + x9) : Int32).toNatClampNeg)) I J) none)
def F_Mo_pointAt_77 (u : Nat) (x3 : Int32) (x4 : Int32) (x7 : Int32) (x8 : Int32) (s0 : Int32) (I : pm_II) (J : pm_JJ) : Option (Int32 × pm_II × pm_JJ) :=
  if x8 = 0 then (
    F_Mo_pointAt_100 u x3 x4 x7 s0 (x4 - x4 / 8 * 8) I J)
  else (
    F_Mo_pointAt_100 u x3 x4 x7 s0 ((7 : Int32) - (x4 - x4 / 8 * 8)) I J)
def F_Mo_pointAt_29 (u : Nat) (x1 : Int32) (x2 : Int32) (x3 : Int32) (x4 : Int32) (x5 : Int32) (s0 : Int32) (I : pm_II) (J : pm_JJ) : Option (Int32 × pm_II × pm_JJ) :=
  bd (F_Mo_pageOf u x1 x2 x5 s0 I J) fun r38 I38 J38 =>
  cond (vq (((8 : Int32) * x5) + s0) 64) (
  if (I38 134 (((((8 : Int32) * x5) + s0) : Int32).toNatClampNeg)) = 0 then (
    F_Mo_pointAt_77 u x3 x4 r38 (I38 134 (((((8 : Int32) * x5) + s0) : Int32).toNatClampNeg)) (x3 - x3 / 8 * 8) I38 J38)
  else (
    F_Mo_pointAt_77 u x3 x4 r38 (I38 134 (((((8 : Int32) * x5) + s0) : Int32).toNatClampNeg)) ((7 : Int32) - (x3 - x3 / 8 * 8)) I38 J38)) none
def F_Mo_pointAt (u : Nat) (x1 : Int32) (x2 : Int32) (x3 : Int32) (x4 : Int32) (I : pm_II) (J : pm_JJ) : Option (Int32 × pm_II × pm_JJ) :=
  if ¬ x2 = 0 then (
    F_Mo_pointAt_29 u x1 x2 x3 x4 (x4 / 8) (((I 120 19) - (1 : Int32)) - (x3 / 8)) I J)
  else (
    F_Mo_pointAt_29 u x1 x2 x3 x4 (x4 / 8) (x3 / 8) I J)
theorem fx_Mo_pointAt_132 {u k : Nat} {pa pb : Nat} {ga : Nat → Nat} {Q : Option Value → pm_H → Prop} {x1 : Int32} {x2 : Int32} {x3 : Int32} {x4 : Int32} {x5 : Int32} {x6 : Int32} {x7 : Int32} {x8 : Int32} {x9 : Int32} {x10 : Int32} {s0 : Int32} {I : pm_II} {J : pm_JJ} {r : Int32} {I2 : pm_II} {J2 : pm_JJ} (hk : 2 ≤ k) (hF : F_Mo_pointAt_132 u x3 x4 s0 I J = some (r, I2, J2)) (hQ : Q (some (.int r)) (hp I2 J2 (pm_RT pa pb ga))) : Px k 176 m_Mo_pointAt 132 [.ref 120, .int x1, .int x2, .int x3, .int x4, .int x5, .int x6, .int x7, .int x8, .int x9, .int x10, .null] [.int s0] (hp I J (pm_RT pa pb ga)) Q := by
  obtain ⟨k, rfl⟩ : ∃ j, k = j + 1 := ⟨k - 1, by omega⟩
  unfold F_Mo_pointAt_132 at hF
  refine bk_Mo_pointAt_132 ?_
  obtain ⟨g, hF⟩ := gd_e hF
  refine ⟨vq_in g, ?_⟩
  refine ⟨fun z => ?_, fun z => ?_⟩
  · rw [if_pos z] at hF
    exact ret_q (Q := fun a b c => Q (some (.int a)) (hp b c (pm_RT pa pb ga))) hF hQ
  · rw [if_neg z] at hF
    exact ret_q (Q := fun a b c => Q (some (.int a)) (hp b c (pm_RT pa pb ga))) hF hQ
theorem fx_Mo_pointAt_100 {u k : Nat} {pa pb : Nat} {ga : Nat → Nat} {Q : Option Value → pm_H → Prop} {x1 : Int32} {x2 : Int32} {x3 : Int32} {x4 : Int32} {x5 : Int32} {x6 : Int32} {x7 : Int32} {x8 : Int32} {x9 : Int32} {s0 : Int32} {I : pm_II} {J : pm_JJ} {r : Int32} {I2 : pm_II} {J2 : pm_JJ} (hk : 2 ≤ k) (hF : F_Mo_pointAt_100 u x3 x4 x7 x9 s0 I J = some (r, I2, J2)) (hQ : Q (some (.int r)) (hp I2 J2 (pm_RT pa pb ga))) : Px k 176 m_Mo_pointAt 100 [.ref 120, .int x1, .int x2, .int x3, .int x4, .int x5, .int x6, .int x7, .int x8, .int x9, .null, .null] [.int s0] (hp I J (pm_RT pa pb ga)) Q := by
  obtain ⟨k, rfl⟩ : ∃ j, k = j + 1 := ⟨k - 1, by omega⟩
  unfold F_Mo_pointAt_100 at hF
  refine bk_Mo_pointAt_100 ?_
  refine ⟨fun z => ?_, fun z => ?_⟩
  · rw [if_pos z] at hF
    exact fx_Mo_pointAt_132 hk hF hQ
  · rw [if_neg z] at hF
    obtain ⟨g, hF⟩ := gd_e hF
    refine ⟨vq_in g, ?_⟩
    exact fx_Mo_pointAt_132 hk hF hQ
theorem fx_Mo_pointAt_77 {u k : Nat} {pa pb : Nat} {ga : Nat → Nat} {Q : Option Value → pm_H → Prop} {x1 : Int32} {x2 : Int32} {x3 : Int32} {x4 : Int32} {x5 : Int32} {x6 : Int32} {x7 : Int32} {x8 : Int32} {s0 : Int32} {I : pm_II} {J : pm_JJ} {r : Int32} {I2 : pm_II} {J2 : pm_JJ} (hk : 2 ≤ k) (hF : F_Mo_pointAt_77 u x3 x4 x7 x8 s0 I J = some (r, I2, J2)) (hQ : Q (some (.int r)) (hp I2 J2 (pm_RT pa pb ga))) : Px k 176 m_Mo_pointAt 77 [.ref 120, .int x1, .int x2, .int x3, .int x4, .int x5, .int x6, .int x7, .int x8, .null, .null, .null] [.int s0] (hp I J (pm_RT pa pb ga)) Q := by
  obtain ⟨k, rfl⟩ : ∃ j, k = j + 1 := ⟨k - 1, by omega⟩
  unfold F_Mo_pointAt_77 at hF
  refine bk_Mo_pointAt_77 ?_
  refine ⟨fun z => ?_, fun z => ?_⟩
  · rw [if_pos z] at hF
    exact fx_Mo_pointAt_100 hk hF hQ
  · rw [if_neg z] at hF
    exact fx_Mo_pointAt_100 hk hF hQ
theorem fx_Mo_pointAt_29 {u k : Nat} {pa pb : Nat} {ga : Nat → Nat} {Q : Option Value → pm_H → Prop} {x1 : Int32} {x2 : Int32} {x3 : Int32} {x4 : Int32} {x5 : Int32} {s0 : Int32} {I : pm_II} {J : pm_JJ} {r : Int32} {I2 : pm_II} {J2 : pm_JJ} (hk : 2 ≤ k) (hF : F_Mo_pointAt_29 u x1 x2 x3 x4 x5 s0 I J = some (r, I2, J2)) (hQ : Q (some (.int r)) (hp I2 J2 (pm_RT pa pb ga))) : Px k 176 m_Mo_pointAt 29 [.ref 120, .int x1, .int x2, .int x3, .int x4, .int x5, .null, .null, .null, .null, .null, .null] [.int s0] (hp I J (pm_RT pa pb ga)) Q := by
  obtain ⟨k, rfl⟩ : ∃ j, k = j + 1 := ⟨k - 1, by omega⟩
  unfold F_Mo_pointAt_29 at hF
  refine bk_Mo_pointAt_29 ?_
  obtain ⟨r38, I38, J38, hC38, hF⟩ := bd_e hF
  refine fx_Mo_pageOf (by omega) hC38 ⟨rfl, ?_⟩
  refine bk_Mo_pointAt_41 ?_
  obtain ⟨g, hF⟩ := gd_e hF
  refine ⟨vq_in g, ?_⟩
  refine ⟨fun z => ?_, fun z => ?_⟩
  · rw [if_pos z] at hF
    exact fx_Mo_pointAt_77 hk hF hQ
  · rw [if_neg z] at hF
    exact fx_Mo_pointAt_77 hk hF hQ
theorem fx_Mo_pointAt {u k : Nat} {pa pb : Nat} {ga : Nat → Nat} {Q : Option Value → pm_H → Prop} {x1 : Int32} {x2 : Int32} {x3 : Int32} {x4 : Int32} {I : pm_II} {J : pm_JJ} {r : Int32} {I2 : pm_II} {J2 : pm_JJ} (hk : 2 ≤ k) (hF : F_Mo_pointAt u x1 x2 x3 x4 I J = some (r, I2, J2)) (hQ : Q (some (.int r)) (hp I2 J2 (pm_RT pa pb ga))) : Px k 176 m_Mo_pointAt 0 [.ref 120, .int x1, .int x2, .int x3, .int x4, .null, .null, .null, .null, .null, .null, .null] [] (hp I J (pm_RT pa pb ga)) Q := by
  obtain ⟨k, rfl⟩ : ∃ j, k = j + 1 := ⟨k - 1, by omega⟩
  unfold F_Mo_pointAt at hF
  refine bk_Mo_pointAt_0 ?_
  refine ⟨fun z => ?_, fun z => ?_⟩
  · rw [if_pos z] at hF
    exact fx_Mo_pointAt_29 hk hF hQ
  · rw [if_neg z] at hF
    exact fx_Mo_pointAt_29 hk hF hQ
def F_Mo_point (u : Nat) (x1 : Int32) (x2 : Int32) (x3 : Int32) (x4 : Int32) (I : pm_II) (J : pm_JJ) : Option (Int32 × pm_II × pm_JJ) :=
  bd (F_Mo_isSide u x1 x2 I J) fun r3 I3 J3 =>
  if r3 = 0 then (
    some (((-1) : Int32), I3, J3))
  else (
    bd (F_Mo_is u x3 (0 : Int32) (((8 : Int32) * (I3 120 19)) - (1 : Int32)) I3 J3) fun r20 I20 J20 =>
    if r20 = 0 then (
      some (((-1) : Int32), I20, J20))
    else (
      bd (F_Mo_is u x4 (0 : Int32) (((8 : Int32) * (I20 120 18)) - (1 : Int32)) I20 J20) fun r38 I38 J38 =>
      if r38 = 0 then (
        some (((-1) : Int32), I38, J38))
      else (
        bd (F_Mo_pointAt u x1 x2 x3 x4 I38 J38) fun r50 I50 J50 =>
        some (r50, I50, J50))))
theorem fx_Mo_point {u k : Nat} {pa pb : Nat} {ga : Nat → Nat} {Q : Option Value → pm_H → Prop} {x1 : Int32} {x2 : Int32} {x3 : Int32} {x4 : Int32} {I : pm_II} {J : pm_JJ} {r : Int32} {I2 : pm_II} {J2 : pm_JJ} (hk : 3 ≤ k) (hF : F_Mo_point u x1 x2 x3 x4 I J = some (r, I2, J2)) (hQ : Q (some (.int r)) (hp I2 J2 (pm_RT pa pb ga))) : Px k 176 m_Mo_point 0 [.ref 120, .int x1, .int x2, .int x3, .int x4] [] (hp I J (pm_RT pa pb ga)) Q := by
  obtain ⟨k, rfl⟩ : ∃ j, k = j + 1 := ⟨k - 1, by omega⟩
  unfold F_Mo_point at hF
  refine bk_Mo_point_0 ?_
  obtain ⟨r3, I3, J3, hC3, hF⟩ := bd_e hF
  refine fx_Mo_isSide (by omega) hC3 ⟨rfl, ?_⟩
  refine bk_Mo_point_6 ?_
  refine ⟨fun z => ?_, fun z => ?_⟩
  · rw [if_pos z] at hF
    exact ret_q (Q := fun a b c => Q (some (.int a)) (hp b c (pm_RT pa pb ga))) hF hQ
  · rw [if_neg z] at hF
    obtain ⟨r20, I20, J20, hC20, hF⟩ := bd_e hF
    refine fx_Mo_is (by omega) hC20 ⟨rfl, ?_⟩
    refine bk_Mo_point_23 ?_
    refine ⟨fun z => ?_, fun z => ?_⟩
    · rw [if_pos z] at hF
      exact ret_q (Q := fun a b c => Q (some (.int a)) (hp b c (pm_RT pa pb ga))) hF hQ
    · rw [if_neg z] at hF
      obtain ⟨r38, I38, J38, hC38, hF⟩ := bd_e hF
      refine fx_Mo_is (by omega) hC38 ⟨rfl, ?_⟩
      refine bk_Mo_point_41 ?_
      refine ⟨fun z => ?_, fun z => ?_⟩
      · rw [if_pos z] at hF
        exact ret_q (Q := fun a b c => Q (some (.int a)) (hp b c (pm_RT pa pb ga))) hF hQ
      · rw [if_neg z] at hF
        obtain ⟨r50, I50, J50, hC50, hF⟩ := bd_e hF
        refine fx_Mo_pointAt (by omega) hC50 ⟨rfl, ?_⟩
        refine bk_Mo_point_53 ?_
        exact ret_q (Q := fun a b c => Q (some (.int a)) (hp b c (pm_RT pa pb ga))) hF hQ
def F_Mo_mount_103 (u : Nat) (K39 : Int32 → Int32 → Int32 → pm_II → pm_JJ → Option (Int32 × pm_II × pm_JJ)) (K85 : Int32 → Int32 → Int32 → Int32 → pm_II → pm_JJ → Option (Int32 × pm_II × pm_JJ)) : Nat → Int32 → Int32 → Int32 → Int32 → Int32 → pm_II → pm_JJ → Option (Int32 × pm_II × pm_JJ)
  | 0, _, _, _, _, _, _, _ => none
  | n + 1, x1, x2, x3, x4, x5, I, J =>
    if (((8 : Int32) * x3) + (8 : Int32)) ≤ x5 then (
      K85 x1 x2 x3 (x4 + Int32.ofInt 1) I J)
    else (
      cond (vq x3 8) (
      bd (F_Mo_pointAt u x1 x2 x5 x4 I J) fun r129 I129 J129 =>
      cond (vq x3 8) (
      F_Mo_mount_103 u K39 K85 n x1 x2 x3 x4 (x5 + Int32.ofInt 1) (pm_up I129 140 ((x3 : Int32).toNatClampNeg) ((I 140 ((x3 : Int32).toNatClampNeg)) + r129)) J129) none) none)
def F_Mo_mount_85 (u : Nat) (K39 : Int32 → Int32 → Int32 → pm_II → pm_JJ → Option (Int32 × pm_II × pm_JJ)) : Nat → Int32 → Int32 → Int32 → Int32 → pm_II → pm_JJ → Option (Int32 × pm_II × pm_JJ)
  | 0, _, _, _, _, _, _ => none
  | n + 1, x1, x2, x3, x4, I, J =>
    if ((8 : Int32) * (I 120 18)) ≤ x4 then (
      K39 x1 x2 (x3 + Int32.ofInt 1) I J)
    else (
      F_Mo_mount_103 u K39 (F_Mo_mount_85 u K39 n) u x1 x2 x3 x4 ((8 : Int32) * x3) I J)
def F_Mo_mount_39 (u : Nat) : Nat → Int32 → Int32 → Int32 → pm_II → pm_JJ → Option (Int32 × pm_II × pm_JJ)
  | 0, _, _, _, _, _ => none
  | n + 1, x1, x2, x3, I, J =>
    if (I 120 32) ≤ x3 then (
      some ((I 120 32), I, J))
    else (
      cond (vq x3 8) (
      cond (vq x3 8) (
      cond (vq x3 8) (
      cond (vq x3 8) (
      cond (vq x3 8) (
      F_Mo_mount_85 u (F_Mo_mount_39 u n) u x1 x2 x3 (0 : Int32) (pm_up (pm_up I 140 ((x3 : Int32).toNatClampNeg) 0) 141 ((x3 : Int32).toNatClampNeg) 0) (pm_up (pm_up (pm_up J 143 ((x3 : Int32).toNatClampNeg) (Int64.ofNat 0)) 144 ((x3 : Int32).toNatClampNeg) (Int64.ofNat 0)) 145 ((x3 : Int32).toNatClampNeg) (Int64.ofNat 0))) none) none) none) none) none)
def F_Mo_mount (u : Nat) (x1 : Int32) (x2 : Int32) (I : pm_II) (J : pm_JJ) : Option (Int32 × pm_II × pm_JJ) :=
  bd (F_Mo_isSide u x1 x2 I J) fun r3 I3 J3 =>
  if ¬ r3 = 0 then (
    F_Mo_mount_39 u u x1 x2 (0 : Int32) (pm_up (pm_up (pm_up (pm_up I3 120 32 (I3 120 19)) 120 33 (I3 120 18)) 120 37 0) 120 38 0) J3)
  else (
    some (((-1) : Int32), I3, J3))
theorem fx_Mo_mount_103 {u k : Nat} {pa pb : Nat} {ga : Nat → Nat} {Q : Option Value → pm_H → Prop} {K39 : Int32 → Int32 → Int32 → pm_II → pm_JJ → Option (Int32 × pm_II × pm_JJ)} {K85 : Int32 → Int32 → Int32 → Int32 → pm_II → pm_JJ → Option (Int32 × pm_II × pm_JJ)} (hk : 3 ≤ k) (hK39 : ∀ (x1 : Int32) (x2 : Int32) (x3 : Int32) (I : pm_II) (J : pm_JJ) (r : Int32) (I2 : pm_II) (J2 : pm_JJ), K39 x1 x2 x3 I J = some (r, I2, J2) → Q (some (.int r)) (hp I2 J2 (pm_RT pa pb ga)) → Px k 176 m_Mo_mount 39 [.ref 120, .int x1, .int x2, .int x3, .null, .null] [] (hp I J (pm_RT pa pb ga)) Q) (hK85 : ∀ (x1 : Int32) (x2 : Int32) (x3 : Int32) (x4 : Int32) (I : pm_II) (J : pm_JJ) (r : Int32) (I2 : pm_II) (J2 : pm_JJ), K85 x1 x2 x3 x4 I J = some (r, I2, J2) → Q (some (.int r)) (hp I2 J2 (pm_RT pa pb ga)) → Px k 176 m_Mo_mount 85 [.ref 120, .int x1, .int x2, .int x3, .int x4, .null] [] (hp I J (pm_RT pa pb ga)) Q) : ∀ (n : Nat), ∀ (x1 : Int32) (x2 : Int32) (x3 : Int32) (x4 : Int32) (x5 : Int32) (I : pm_II) (J : pm_JJ) (r : Int32) (I2 : pm_II) (J2 : pm_JJ), F_Mo_mount_103 u K39 K85 n x1 x2 x3 x4 x5 I J = some (r, I2, J2) → Q (some (.int r)) (hp I2 J2 (pm_RT pa pb ga)) → Px k 176 m_Mo_mount 103 [.ref 120, .int x1, .int x2, .int x3, .int x4, .int x5] [] (hp I J (pm_RT pa pb ga)) Q := by
  obtain ⟨k, rfl⟩ : ∃ j, k = j + 1 := ⟨k - 1, by omega⟩
  intro n
  induction n with
  | zero => intro x1 x2 x3 x4 x5 I J r I2 J2  hF; cases hF
  | succ n ih =>
    intro x1 x2 x3 x4 x5 I J r I2 J2  hF hQ
    rw [F_Mo_mount_103] at hF
    refine bk_Mo_mount_103 ?_
    refine ⟨fun z => ?_, fun z => ?_⟩
    · rw [if_pos z] at hF
      exact Px_wk (hK85 _ _ _ _ _ _ _ _ _ hF hQ) ⟨Or.inl rfl, Or.inl rfl, Or.inl rfl, Or.inl rfl, Or.inl rfl, Or.inr ⟨rfl, rfl⟩, trivial⟩
    · rw [if_neg z] at hF
      obtain ⟨g, hF⟩ := gd_e hF
      refine ⟨vq_in g, ?_⟩
      obtain ⟨r129, I129, J129, hC129, hF⟩ := bd_e hF
      refine fx_Mo_pointAt (by omega) hC129 ⟨rfl, ?_⟩
      refine bk_Mo_mount_132 ?_
      obtain ⟨g, hF⟩ := gd_e hF
      refine ⟨vq_in g, ?_⟩
      exact ih _ _ _ _ _ _ _ _ _ _ hF hQ
theorem fx_Mo_mount_85 {u k : Nat} {pa pb : Nat} {ga : Nat → Nat} {Q : Option Value → pm_H → Prop} {K39 : Int32 → Int32 → Int32 → pm_II → pm_JJ → Option (Int32 × pm_II × pm_JJ)} (hk : 3 ≤ k) (hK39 : ∀ (x1 : Int32) (x2 : Int32) (x3 : Int32) (I : pm_II) (J : pm_JJ) (r : Int32) (I2 : pm_II) (J2 : pm_JJ), K39 x1 x2 x3 I J = some (r, I2, J2) → Q (some (.int r)) (hp I2 J2 (pm_RT pa pb ga)) → Px k 176 m_Mo_mount 39 [.ref 120, .int x1, .int x2, .int x3, .null, .null] [] (hp I J (pm_RT pa pb ga)) Q) : ∀ (n : Nat), ∀ (x1 : Int32) (x2 : Int32) (x3 : Int32) (x4 : Int32) (I : pm_II) (J : pm_JJ) (r : Int32) (I2 : pm_II) (J2 : pm_JJ), F_Mo_mount_85 u K39 n x1 x2 x3 x4 I J = some (r, I2, J2) → Q (some (.int r)) (hp I2 J2 (pm_RT pa pb ga)) → Px k 176 m_Mo_mount 85 [.ref 120, .int x1, .int x2, .int x3, .int x4, .null] [] (hp I J (pm_RT pa pb ga)) Q := by
  obtain ⟨k, rfl⟩ : ∃ j, k = j + 1 := ⟨k - 1, by omega⟩
  intro n
  induction n with
  | zero => intro x1 x2 x3 x4 I J r I2 J2  hF; cases hF
  | succ n ih =>
    intro x1 x2 x3 x4 I J r I2 J2  hF hQ
    rw [F_Mo_mount_85] at hF
    refine bk_Mo_mount_85 ?_
    refine ⟨fun z => ?_, fun z => ?_⟩
    · rw [if_pos z] at hF
      exact Px_wk (hK39 _ _ _ _ _ _ _ _ hF hQ) ⟨Or.inl rfl, Or.inl rfl, Or.inl rfl, Or.inl rfl, Or.inr ⟨rfl, rfl⟩, Or.inl rfl, trivial⟩
    · rw [if_neg z] at hF
      exact fx_Mo_mount_103 hk hK39 ih u _ _ _ _ _ _ _ _ _ _ hF hQ
theorem fx_Mo_mount_39 {u k : Nat} {pa pb : Nat} {ga : Nat → Nat} {Q : Option Value → pm_H → Prop} (hk : 3 ≤ k) : ∀ (n : Nat), ∀ (x1 : Int32) (x2 : Int32) (x3 : Int32) (I : pm_II) (J : pm_JJ) (r : Int32) (I2 : pm_II) (J2 : pm_JJ), F_Mo_mount_39 u n x1 x2 x3 I J = some (r, I2, J2) → Q (some (.int r)) (hp I2 J2 (pm_RT pa pb ga)) → Px k 176 m_Mo_mount 39 [.ref 120, .int x1, .int x2, .int x3, .null, .null] [] (hp I J (pm_RT pa pb ga)) Q := by
  obtain ⟨k, rfl⟩ : ∃ j, k = j + 1 := ⟨k - 1, by omega⟩
  intro n
  induction n with
  | zero => intro x1 x2 x3 I J r I2 J2  hF; cases hF
  | succ n ih =>
    intro x1 x2 x3 I J r I2 J2  hF hQ
    rw [F_Mo_mount_39] at hF
    refine bk_Mo_mount_39 ?_
    refine ⟨fun z => ?_, fun z => ?_⟩
    · rw [if_pos z] at hF
      exact ret_q (Q := fun a b c => Q (some (.int a)) (hp b c (pm_RT pa pb ga))) hF hQ
    · rw [if_neg z] at hF
      obtain ⟨g, hF⟩ := gd_e hF
      refine ⟨vq_in g, ?_⟩
      obtain ⟨g, hF⟩ := gd_e hF
      refine ⟨vq_in g, ?_⟩
      obtain ⟨g, hF⟩ := gd_e hF
      refine ⟨vq_in g, ?_⟩
      obtain ⟨g, hF⟩ := gd_e hF
      refine ⟨vq_in g, ?_⟩
      obtain ⟨g, hF⟩ := gd_e hF
      refine ⟨vq_in g, ?_⟩
      exact fx_Mo_mount_85 hk ih u _ _ _ _ _ _ _ _ _ hF hQ
theorem fx_Mo_mount {u k : Nat} {pa pb : Nat} {ga : Nat → Nat} {Q : Option Value → pm_H → Prop} {x1 : Int32} {x2 : Int32} {I : pm_II} {J : pm_JJ} {r : Int32} {I2 : pm_II} {J2 : pm_JJ} (hk : 3 ≤ k) (hF : F_Mo_mount u x1 x2 I J = some (r, I2, J2)) (hQ : Q (some (.int r)) (hp I2 J2 (pm_RT pa pb ga))) : Px k 176 m_Mo_mount 0 [.ref 120, .int x1, .int x2, .null, .null, .null] [] (hp I J (pm_RT pa pb ga)) Q := by
  obtain ⟨k, rfl⟩ : ∃ j, k = j + 1 := ⟨k - 1, by omega⟩
  unfold F_Mo_mount at hF
  refine bk_Mo_mount_0 ?_
  obtain ⟨r3, I3, J3, hC3, hF⟩ := bd_e hF
  refine fx_Mo_isSide (by omega) hC3 ⟨rfl, ?_⟩
  refine bk_Mo_mount_6 ?_
  refine ⟨fun z => ?_, fun z => ?_⟩
  · rw [if_pos z] at hF
    exact fx_Mo_mount_39 hk u _ _ _ _ _ _ _ _ hF hQ
  · rw [if_neg z] at hF
    exact ret_q (Q := fun a b c => Q (some (.int a)) (hp b c (pm_RT pa pb ga))) hF hQ
def F_Mo_key (u : Nat) (x1 : Int32) (x2 : Int32) (I : pm_II) (J : pm_JJ) : Option (Int32 × pm_II × pm_JJ) :=
  bd (F_Mo_is u x1 (0 : Int32) (7 : Int32) I J) fun r4 I4 J4 =>
  if r4 = 0 then (
    some (((-1) : Int32), I4, J4))
  else (
    bd (F_Mo_is u x2 (0 : Int32) (255 : Int32) I4 J4) fun r15 I15 J15 =>
    if ¬ r15 = 0 then (
      cond (vq x1 8) (
      cond (vq x1 8) (
      some ((I15 139 ((x1 : Int32).toNatClampNeg)), (pm_up I15 139 ((x1 : Int32).toNatClampNeg) x2), J15)) none) none)
    else (
      some (((-1) : Int32), I15, J15)))
theorem fx_Mo_key {u k : Nat} {pa pb : Nat} {ga : Nat → Nat} {Q : Option Value → pm_H → Prop} {x1 : Int32} {x2 : Int32} {I : pm_II} {J : pm_JJ} {r : Int32} {I2 : pm_II} {J2 : pm_JJ} (hk : 1 ≤ k) (hF : F_Mo_key u x1 x2 I J = some (r, I2, J2)) (hQ : Q (some (.int r)) (hp I2 J2 (pm_RT pa pb ga))) : Px k 176 m_Mo_key 0 [.ref 120, .int x1, .int x2, .null] [] (hp I J (pm_RT pa pb ga)) Q := by
  obtain ⟨k, rfl⟩ : ∃ j, k = j + 1 := ⟨k - 1, by omega⟩
  unfold F_Mo_key at hF
  refine bk_Mo_key_0 ?_
  obtain ⟨r4, I4, J4, hC4, hF⟩ := bd_e hF
  refine fx_Mo_is (by omega) hC4 ⟨rfl, ?_⟩
  refine bk_Mo_key_7 ?_
  refine ⟨fun z => ?_, fun z => ?_⟩
  · rw [if_pos z] at hF
    exact ret_q (Q := fun a b c => Q (some (.int a)) (hp b c (pm_RT pa pb ga))) hF hQ
  · rw [if_neg z] at hF
    obtain ⟨r15, I15, J15, hC15, hF⟩ := bd_e hF
    refine fx_Mo_is (by omega) hC15 ⟨rfl, ?_⟩
    refine bk_Mo_key_18 ?_
    refine ⟨fun z => ?_, fun z => ?_⟩
    · rw [if_pos z] at hF
      obtain ⟨g, hF⟩ := gd_e hF
      refine ⟨vq_in g, ?_⟩
      obtain ⟨g, hF⟩ := gd_e hF
      refine ⟨vq_in g, ?_⟩
      exact ret_q (Q := fun a b c => Q (some (.int a)) (hp b c (pm_RT pa pb ga))) hF hQ
    · rw [if_neg z] at hF
      exact ret_q (Q := fun a b c => Q (some (.int a)) (hp b c (pm_RT pa pb ga))) hF hQ
def F_Mo_aim (u : Nat) (x1 : Int32) (x2 : Int32) (x3 : Int32) (I : pm_II) (J : pm_JJ) : Option (Int32 × pm_II × pm_JJ) :=
  bd (F_Mo_is u x1 (0 : Int32) (4000 : Int32) I J) fun r5 I5 J5 =>
  if r5 = 0 then (
    some (((-1) : Int32), I5, J5))
  else (
    bd (F_Mo_is u x2 (0 : Int32) (400 : Int32) I5 J5) fun r16 I16 J16 =>
    if r16 = 0 then (
      some (((-1) : Int32), I16, J16))
    else (
      bd (F_Mo_is u x3 (0 : Int32) (99 : Int32) I16 J16) fun r26 I26 J26 =>
      if ¬ r26 = 0 then (
        some ((1 : Int32), (pm_up (pm_up (pm_up I26 120 34 x1) 120 35 x2) 120 36 x3), J26))
      else (
        some (((-1) : Int32), I26, J26))))
theorem fx_Mo_aim {u k : Nat} {pa pb : Nat} {ga : Nat → Nat} {Q : Option Value → pm_H → Prop} {x1 : Int32} {x2 : Int32} {x3 : Int32} {I : pm_II} {J : pm_JJ} {r : Int32} {I2 : pm_II} {J2 : pm_JJ} (hk : 1 ≤ k) (hF : F_Mo_aim u x1 x2 x3 I J = some (r, I2, J2)) (hQ : Q (some (.int r)) (hp I2 J2 (pm_RT pa pb ga))) : Px k 176 m_Mo_aim 0 [.ref 120, .int x1, .int x2, .int x3] [] (hp I J (pm_RT pa pb ga)) Q := by
  obtain ⟨k, rfl⟩ : ∃ j, k = j + 1 := ⟨k - 1, by omega⟩
  unfold F_Mo_aim at hF
  refine bk_Mo_aim_0 ?_
  obtain ⟨r5, I5, J5, hC5, hF⟩ := bd_e hF
  refine fx_Mo_is (by omega) hC5 ⟨rfl, ?_⟩
  refine bk_Mo_aim_8 ?_
  refine ⟨fun z => ?_, fun z => ?_⟩
  · rw [if_pos z] at hF
    exact ret_q (Q := fun a b c => Q (some (.int a)) (hp b c (pm_RT pa pb ga))) hF hQ
  · rw [if_neg z] at hF
    obtain ⟨r16, I16, J16, hC16, hF⟩ := bd_e hF
    refine fx_Mo_is (by omega) hC16 ⟨rfl, ?_⟩
    refine bk_Mo_aim_19 ?_
    refine ⟨fun z => ?_, fun z => ?_⟩
    · rw [if_pos z] at hF
      exact ret_q (Q := fun a b c => Q (some (.int a)) (hp b c (pm_RT pa pb ga))) hF hQ
    · rw [if_neg z] at hF
      obtain ⟨r26, I26, J26, hC26, hF⟩ := bd_e hF
      refine fx_Mo_is (by omega) hC26 ⟨rfl, ?_⟩
      refine bk_Mo_aim_29 ?_
      refine ⟨fun z => ?_, fun z => ?_⟩
      · rw [if_pos z] at hF
        exact ret_q (Q := fun a b c => Q (some (.int a)) (hp b c (pm_RT pa pb ga))) hF hQ
      · rw [if_neg z] at hF
        exact ret_q (Q := fun a b c => Q (some (.int a)) (hp b c (pm_RT pa pb ga))) hF hQ
def F_Mo_inked (u : Nat) (x1 : Int32) (x2 : Int32) (I : pm_II) (J : pm_JJ) : Option (Int64 × pm_II × pm_JJ) :=
  bd (F_Jm_floorDiv_JJ u (((J 120 46) + (((16 : Int32) * x1) : Int32).toInt64) - (J 120 47)) (Int64.ofNat 3) I (pm_up J 120 46 ((J 120 46) + (((16 : Int32) * x1) : Int32).toInt64))) fun r26 I26 J26 =>
  cond (vq x2 8) (
  if ¬ (I26 120 33) = 0 then (
  some (((((J26 120 47) + r26) * (((I26 140 ((x2 : Int32).toNatClampNeg)) / (I26 120 33)) : Int32).toInt64) / (Int64.ofNat 512)), I26, (pm_up (pm_up (pm_up J26 120 46 ((J26 120 46) - r26)) 120 47 ((J26 120 47) + r26)) 120 47 (((J26 120 47) + r26) - ((((J26 120 47) + r26) * (((I26 140 ((x2 : Int32).toNatClampNeg)) / (I26 120 33)) : Int32).toInt64) / (Int64.ofNat 512)))))) else none) none
theorem fx_Mo_inked {u k : Nat} {pa pb : Nat} {ga : Nat → Nat} {Q : Option Value → pm_H → Prop} {x1 : Int32} {x2 : Int32} {I : pm_II} {J : pm_JJ} {r : Int64} {I2 : pm_II} {J2 : pm_JJ} (hk : 1 ≤ k) (hF : F_Mo_inked u x1 x2 I J = some (r, I2, J2)) (hQ : Q (some (.long r)) (hp I2 J2 (pm_RT pa pb ga))) : Px k 176 m_Mo_inked 0 [.ref 120, .int x1, .int x2, .null, .null, .null, .null] [] (hp I J (pm_RT pa pb ga)) Q := by
  obtain ⟨k, rfl⟩ : ∃ j, k = j + 1 := ⟨k - 1, by omega⟩
  unfold F_Mo_inked at hF
  refine bk_Mo_inked_0 ?_
  obtain ⟨r26, I26, J26, hC26, hF⟩ := bd_e hF
  refine fx_Jm_floorDiv_JJ (by omega) hC26 ⟨rfl, ?_⟩
  refine bk_Mo_inked_29 ?_
  obtain ⟨g, hF⟩ := gd_e hF
  refine ⟨vq_in g, ?_⟩
  obtain ⟨g, hF⟩ := ge_e hF
  refine ⟨g, ?_⟩
  exact ret_q (Q := fun a b c => Q (some (.long a)) (hp b c (pm_RT pa pb ga))) hF hQ
def F_Mo_isZone (u : Nat) (x1 : Int32) (I : pm_II) (J : pm_JJ) : Option (Int32 × pm_II × pm_JJ) :=
  bd (F_Mo_is u x1 (0 : Int32) ((I 120 32) - (1 : Int32)) I J) fun r8 I8 J8 =>
  if (r8 = 0 ∨ r8 = 1) then (
  some (r8, I8, J8)) else none
theorem fx_Mo_isZone {u k : Nat} {pa pb : Nat} {ga : Nat → Nat} {Q : Option Value → pm_H → Prop} {x1 : Int32} {I : pm_II} {J : pm_JJ} {r : Int32} {I2 : pm_II} {J2 : pm_JJ} (hk : 1 ≤ k) (hF : F_Mo_isZone u x1 I J = some (r, I2, J2)) (hQ : Q (some (.int r)) (hp I2 J2 (pm_RT pa pb ga))) : Px k 176 m_Mo_isZone 0 [.ref 120, .int x1] [] (hp I J (pm_RT pa pb ga)) Q := by
  obtain ⟨k, rfl⟩ : ∃ j, k = j + 1 := ⟨k - 1, by omega⟩
  unfold F_Mo_isZone at hF
  refine bk_Mo_isZone_0 ?_
  obtain ⟨r8, I8, J8, hC8, hF⟩ := bd_e hF
  refine fx_Mo_is (by omega) hC8 ⟨rfl, ?_⟩
  refine bk_Mo_isZone_11 ?_
  obtain ⟨g, hF⟩ := ge_e hF
  refine ⟨g, ?_⟩
  exact ret_q (Q := fun a b c => Q (some (.int a)) (hp b c (pm_RT pa pb ga))) hF hQ
def F_Mo_settled_45 (u : Nat) (K23 : Int32 → Int32 → pm_II → pm_JJ → Option (Int32 × pm_II × pm_JJ)) : Nat → Int32 → Int32 → Int64 → Int32 → pm_II → pm_JJ → Option (Int32 × pm_II × pm_JJ)
  | 0, _, _, _, _, _, _ => none
  | n + 1, x1, x2, y3, x5, I, J =>
    if 40 ≤ x5 then (
      if (lg_cmp y3 (((I 120 34) : Int32).toInt64)) < 0 then (
        K23 x1 (x2 + Int32.ofInt 1) I J)
      else (
        some (x2, I, J)))
    else (
      bd (F_Mo_inked u x2 x1 I J) fun r55 I55 J55 =>
      F_Mo_settled_45 u K23 n x1 x2 r55 (x5 + Int32.ofInt 1) I55 J55)
def F_Mo_settled_23 (u : Nat) : Nat → Int32 → Int32 → pm_II → pm_JJ → Option (Int32 × pm_II × pm_JJ)
  | 0, _, _, _, _ => none
  | n + 1, x1, x2, I, J =>
    if 256 ≤ x2 then (
      some ((255 : Int32), I, J))
    else (
      F_Mo_settled_45 u (F_Mo_settled_23 u n) u x1 x2 (Int64.ofNat 0) (0 : Int32) I (pm_up (pm_up J 120 46 (Int64.ofNat 0)) 120 47 (Int64.ofNat 0)))
def F_Mo_settled (u : Nat) (x1 : Int32) (I : pm_II) (J : pm_JJ) : Option (Int32 × pm_II × pm_JJ) :=
  bd (F_Mo_isZone u x1 I J) fun r2 I2 J2 =>
  if ¬ r2 = 0 then (
    cond (vq x1 8) (
    if ¬ (I2 140 ((x1 : Int32).toNatClampNeg)) = 0 then (
      F_Mo_settled_23 u u x1 (0 : Int32) I2 J2)
    else (
      some ((0 : Int32), I2, J2))) none)
  else (
    some (((-1) : Int32), I2, J2))
theorem fx_Mo_settled_45 {u k : Nat} {pa pb : Nat} {ga : Nat → Nat} {Q : Option Value → pm_H → Prop} {K23 : Int32 → Int32 → pm_II → pm_JJ → Option (Int32 × pm_II × pm_JJ)} (hk : 2 ≤ k) (hK23 : ∀ (x1 : Int32) (x2 : Int32) (I : pm_II) (J : pm_JJ) (r : Int32) (I2 : pm_II) (J2 : pm_JJ), K23 x1 x2 I J = some (r, I2, J2) → Q (some (.int r)) (hp I2 J2 (pm_RT pa pb ga)) → Px k 176 m_Mo_settled 23 [.ref 120, .int x1, .int x2, .null, .null, .null] [] (hp I J (pm_RT pa pb ga)) Q) : ∀ (n : Nat), ∀ (x1 : Int32) (x2 : Int32) (y3 : Int64) (x5 : Int32) (I : pm_II) (J : pm_JJ) (r : Int32) (I2 : pm_II) (J2 : pm_JJ), F_Mo_settled_45 u K23 n x1 x2 y3 x5 I J = some (r, I2, J2) → Q (some (.int r)) (hp I2 J2 (pm_RT pa pb ga)) → Px k 176 m_Mo_settled 45 [.ref 120, .int x1, .int x2, .long y3, .null, .int x5] [] (hp I J (pm_RT pa pb ga)) Q := by
  obtain ⟨k, rfl⟩ : ∃ j, k = j + 1 := ⟨k - 1, by omega⟩
  intro n
  induction n with
  | zero => intro x1 x2 y3 x5 I J r I2 J2  hF; cases hF
  | succ n ih =>
    intro x1 x2 y3 x5 I J r I2 J2  hF hQ
    rw [F_Mo_settled_45] at hF
    refine bk_Mo_settled_45 ?_
    refine ⟨fun z => ?_, fun z => ?_⟩
    · rw [if_pos z] at hF
      refine ⟨fun z => ?_, fun z => ?_⟩
      · rw [if_pos z] at hF
        exact Px_wk (Px_wj 3 y3 (by decide +kernel) rfl (hK23 _ _ _ _ _ _ _ hF hQ)) ⟨Or.inl rfl, Or.inl rfl, Or.inl rfl, Or.inl rfl, Or.inl rfl, Or.inr ⟨rfl, rfl⟩, trivial⟩
      · rw [if_neg z] at hF
        exact ret_q (Q := fun a b c => Q (some (.int a)) (hp b c (pm_RT pa pb ga))) hF hQ
    · rw [if_neg z] at hF
      obtain ⟨r55, I55, J55, hC55, hF⟩ := bd_e hF
      refine fx_Mo_inked (by omega) hC55 ⟨rfl, ?_⟩
      refine bk_Mo_settled_58 ?_
      exact ih _ _ _ _ _ _ _ _ _ hF hQ
theorem fx_Mo_settled_23 {u k : Nat} {pa pb : Nat} {ga : Nat → Nat} {Q : Option Value → pm_H → Prop} (hk : 2 ≤ k) : ∀ (n : Nat), ∀ (x1 : Int32) (x2 : Int32) (I : pm_II) (J : pm_JJ) (r : Int32) (I2 : pm_II) (J2 : pm_JJ), F_Mo_settled_23 u n x1 x2 I J = some (r, I2, J2) → Q (some (.int r)) (hp I2 J2 (pm_RT pa pb ga)) → Px k 176 m_Mo_settled 23 [.ref 120, .int x1, .int x2, .null, .null, .null] [] (hp I J (pm_RT pa pb ga)) Q := by
  obtain ⟨k, rfl⟩ : ∃ j, k = j + 1 := ⟨k - 1, by omega⟩
  intro n
  induction n with
  | zero => intro x1 x2 I J r I2 J2  hF; cases hF
  | succ n ih =>
    intro x1 x2 I J r I2 J2  hF hQ
    rw [F_Mo_settled_23] at hF
    refine bk_Mo_settled_23 ?_
    refine ⟨fun z => ?_, fun z => ?_⟩
    · rw [if_pos z] at hF
      exact ret_q (Q := fun a b c => Q (some (.int a)) (hp b c (pm_RT pa pb ga))) hF hQ
    · rw [if_neg z] at hF
      exact fx_Mo_settled_45 hk ih u _ _ _ _ _ _ _ _ _ hF hQ
theorem fx_Mo_settled {u k : Nat} {pa pb : Nat} {ga : Nat → Nat} {Q : Option Value → pm_H → Prop} {x1 : Int32} {I : pm_II} {J : pm_JJ} {r : Int32} {I2 : pm_II} {J2 : pm_JJ} (hk : 2 ≤ k) (hF : F_Mo_settled u x1 I J = some (r, I2, J2)) (hQ : Q (some (.int r)) (hp I2 J2 (pm_RT pa pb ga))) : Px k 176 m_Mo_settled 0 [.ref 120, .int x1, .null, .null, .null, .null] [] (hp I J (pm_RT pa pb ga)) Q := by
  obtain ⟨k, rfl⟩ : ∃ j, k = j + 1 := ⟨k - 1, by omega⟩
  unfold F_Mo_settled at hF
  refine bk_Mo_settled_0 ?_
  obtain ⟨r2, I2, J2, hC2, hF⟩ := bd_e hF
  refine fx_Mo_isZone (by omega) hC2 ⟨rfl, ?_⟩
  refine bk_Mo_settled_5 ?_
  refine ⟨fun z => ?_, fun z => ?_⟩
  · rw [if_pos z] at hF
    obtain ⟨g, hF⟩ := gd_e hF
    refine ⟨vq_in g, ?_⟩
    refine ⟨fun z => ?_, fun z => ?_⟩
    · rw [if_pos z] at hF
      exact fx_Mo_settled_23 hk u _ _ _ _ _ _ _ hF hQ
    · rw [if_neg z] at hF
      exact ret_q (Q := fun a b c => Q (some (.int a)) (hp b c (pm_RT pa pb ga))) hF hQ
  · rw [if_neg z] at hF
    exact ret_q (Q := fun a b c => Q (some (.int a)) (hp b c (pm_RT pa pb ga))) hF hQ
def F_Mo_shown (u : Nat) (y0 : Int64) (I : pm_II) (J : pm_JJ) : Option (Int32 × pm_II × pm_JJ) :=
  bd (F_Jm_min_JJ u y0 (Int64.ofNat 2000000000) I J) fun r4 I4 J4 =>
  some (((r4 : Int64).toInt32), I4, J4)
theorem fx_Mo_shown {u k : Nat} {pa pb : Nat} {ga : Nat → Nat} {Q : Option Value → pm_H → Prop} {y0 : Int64} {I : pm_II} {J : pm_JJ} {r : Int32} {I2 : pm_II} {J2 : pm_JJ} (hk : 1 ≤ k) (hF : F_Mo_shown u y0 I J = some (r, I2, J2)) (hQ : Q (some (.int r)) (hp I2 J2 (pm_RT pa pb ga))) : Px k 176 m_Mo_shown 0 [.long y0, .null] [] (hp I J (pm_RT pa pb ga)) Q := by
  obtain ⟨k, rfl⟩ : ∃ j, k = j + 1 := ⟨k - 1, by omega⟩
  unfold F_Mo_shown at hF
  refine bk_Mo_shown_0 ?_
  obtain ⟨r4, I4, J4, hC4, hF⟩ := bd_e hF
  refine fx_Jm_min_JJ (by omega) hC4 ⟨rfl, ?_⟩
  refine bk_Mo_shown_7 ?_
  exact ret_q (Q := fun a b c => Q (some (.int a)) (hp b c (pm_RT pa pb ga))) hF hQ
def F_Mo_sheet_175 (u : Nat) (x1 : Int32) (s1 : Int32) (s2 : Int32) (I : pm_II) (J : pm_JJ) : Option (Int32 × pm_II × pm_JJ) :=
  if 4000 < (I 120 37) then (
    if (x1 = 0 ∨ x1 = 1) then (
    some (x1, (pm_up I 120 38 (s1 + s2)), J)) else none)
  else (
    if x1 = 0 then (
      cond (vq (I 120 37) 4001) (
      if (x1 = 0 ∨ x1 = 1) then (
      some (x1, (pm_up (pm_up I 120 38 (s1 + s2)) 142 (((I 120 37) : Int32).toNatClampNeg) 0), J)) else none) none)
    else (
      cond (vq (I 120 37) 4001) (
      if (x1 = 0 ∨ x1 = 1) then (
      some (x1, (pm_up (pm_up I 120 38 (s1 + s2)) 142 (((I 120 37) : Int32).toNatClampNeg) (s1 + s2)), J)) else none) none))
def F_Mo_sheet_37 (u : Nat) : Nat → Int32 → Int32 → pm_II → pm_JJ → Option (Int32 × pm_II × pm_JJ)
  | 0, _, _, _, _ => none
  | n + 1, x1, x2, I, J =>
    if (I 120 32) ≤ x2 then (
      if x1 = 0 then (
        F_Mo_sheet_175 u x1 (I 120 38) (0 : Int32) I J)
      else (
        F_Mo_sheet_175 u x1 (I 120 38) (1 : Int32) I J))
    else (
      cond (vq x2 8) (
      cond (vq x2 8) (
      cond (vq x2 8) (
      bd (F_Mo_inked u (I 139 ((x2 : Int32).toNatClampNeg)) x2 I (pm_up (pm_up J 120 46 (J 143 ((x2 : Int32).toNatClampNeg))) 120 47 (J 144 ((x2 : Int32).toNatClampNeg)))) fun r73 I73 J73 =>
      cond (vq x2 8) (
      cond (vq x2 8) (
      cond (vq x2 8) (
      cond (vq x2 8) (
      bd (F_Mo_shown u r73 I73 (pm_up (pm_up (pm_up J73 143 ((x2 : Int32).toNatClampNeg) (J73 120 46)) 144 ((x2 : Int32).toNatClampNeg) (J73 120 47)) 145 ((x2 : Int32).toNatClampNeg) ((J73 145 ((x2 : Int32).toNatClampNeg)) + r73))) fun r113 I113 J113 =>
      cond (vq x2 8) (
      if x1 = 0 then (
        F_Mo_sheet_37 u n (0 : Int32) (x2 + Int32.ofInt 1) (pm_up I113 141 ((x2 : Int32).toNatClampNeg) r113) J113)
      else (
        cond (vq x2 8) (
        if (I113 140 ((x2 : Int32).toNatClampNeg)) = 0 then (
          F_Mo_sheet_37 u n (1 : Int32) (x2 + Int32.ofInt 1) (pm_up I113 141 ((x2 : Int32).toNatClampNeg) r113) J113)
        else (
          bd (F_Jm_abs_J u (r73 - ((I113 120 34) : Int32).toInt64) (pm_up I113 141 ((x2 : Int32).toNatClampNeg) r113) J113) fun r137 I137 J137 =>
          if 0 < (lg_cmp r137 (((I137 120 35) : Int32).toInt64)) then (
            F_Mo_sheet_37 u n (0 : Int32) (x2 + Int32.ofInt 1) I137 J137)
          else (
            F_Mo_sheet_37 u n (1 : Int32) (x2 + Int32.ofInt 1) I137 J137))) none)) none) none) none) none) none) none) none) none)
def F_Mo_sheet (u : Nat) (I : pm_II) (J : pm_JJ) : Option (Int32 × pm_II × pm_JJ) :=
  if (I 120 36) = 0 then (
    F_Mo_sheet_37 u u (1 : Int32) (0 : Int32) (pm_up I 120 37 ((I 120 37) + (1 : Int32))) J)
  else (
    if ¬ (I 120 36) = 0 then (
    if (((I 120 37) + (1 : Int32)) - ((I 120 37) + (1 : Int32)) / (I 120 36) * (I 120 36)) = 0 then (
      F_Mo_sheet_37 u u (0 : Int32) (0 : Int32) (pm_up I 120 37 ((I 120 37) + (1 : Int32))) J)
    else (
      F_Mo_sheet_37 u u (1 : Int32) (0 : Int32) (pm_up I 120 37 ((I 120 37) + (1 : Int32))) J)) else none)
theorem fx_Mo_sheet_175 {u k : Nat} {pa pb : Nat} {ga : Nat → Nat} {Q : Option Value → pm_H → Prop} {x1 : Int32} {x2 : Int32} {s1 : Int32} {s2 : Int32} {I : pm_II} {J : pm_JJ} {r : Int32} {I2 : pm_II} {J2 : pm_JJ} (hk : 2 ≤ k) (hF : F_Mo_sheet_175 u x1 s1 s2 I J = some (r, I2, J2)) (hQ : Q (some (.int r)) (hp I2 J2 (pm_RT pa pb ga))) : Px k 176 m_Mo_sheet 175 [.ref 120, .int x1, .int x2, .null, .null] [.int s2, .int s1, .ref 120] (hp I J (pm_RT pa pb ga)) Q := by
  obtain ⟨k, rfl⟩ : ∃ j, k = j + 1 := ⟨k - 1, by omega⟩
  unfold F_Mo_sheet_175 at hF
  refine bk_Mo_sheet_175 ?_
  refine ⟨fun z => ?_, fun z => ?_⟩
  · rw [if_pos z] at hF
    obtain ⟨g, hF⟩ := ge_e hF
    refine ⟨g, ?_⟩
    exact ret_q (Q := fun a b c => Q (some (.int a)) (hp b c (pm_RT pa pb ga))) hF hQ
  · rw [if_neg z] at hF
    refine ⟨fun z => ?_, fun z => ?_⟩
    · rw [if_pos z] at hF
      obtain ⟨g, hF⟩ := gd_e hF
      refine ⟨vq_in g, ?_⟩
      obtain ⟨g, hF⟩ := ge_e hF
      refine ⟨g, ?_⟩
      exact ret_q (Q := fun a b c => Q (some (.int a)) (hp b c (pm_RT pa pb ga))) hF hQ
    · rw [if_neg z] at hF
      obtain ⟨g, hF⟩ := gd_e hF
      refine ⟨vq_in g, ?_⟩
      obtain ⟨g, hF⟩ := ge_e hF
      refine ⟨g, ?_⟩
      exact ret_q (Q := fun a b c => Q (some (.int a)) (hp b c (pm_RT pa pb ga))) hF hQ
theorem fx_Mo_sheet_37 {u k : Nat} {pa pb : Nat} {ga : Nat → Nat} {Q : Option Value → pm_H → Prop} (hk : 2 ≤ k) : ∀ (n : Nat), ∀ (x1 : Int32) (x2 : Int32) (I : pm_II) (J : pm_JJ) (r : Int32) (I2 : pm_II) (J2 : pm_JJ), F_Mo_sheet_37 u n x1 x2 I J = some (r, I2, J2) → Q (some (.int r)) (hp I2 J2 (pm_RT pa pb ga)) → Px k 176 m_Mo_sheet 37 [.ref 120, .int x1, .int x2, .null, .null] [] (hp I J (pm_RT pa pb ga)) Q := by
  obtain ⟨k, rfl⟩ : ∃ j, k = j + 1 := ⟨k - 1, by omega⟩
  intro n
  induction n with
  | zero => intro x1 x2 I J r I2 J2  hF; cases hF
  | succ n ih =>
    intro x1 x2 I J r I2 J2  hF hQ
    rw [F_Mo_sheet_37] at hF
    refine bk_Mo_sheet_37 ?_
    refine ⟨fun z => ?_, fun z => ?_⟩
    · rw [if_pos z] at hF
      refine ⟨fun z => ?_, fun z => ?_⟩
      · rw [if_pos z] at hF
        exact fx_Mo_sheet_175 hk hF hQ
      · rw [if_neg z] at hF
        exact fx_Mo_sheet_175 hk hF hQ
    · rw [if_neg z] at hF
      obtain ⟨g, hF⟩ := gd_e hF
      refine ⟨vq_in g, ?_⟩
      obtain ⟨g, hF⟩ := gd_e hF
      refine ⟨vq_in g, ?_⟩
      obtain ⟨g, hF⟩ := gd_e hF
      refine ⟨vq_in g, ?_⟩
      obtain ⟨r73, I73, J73, hC73, hF⟩ := bd_e hF
      refine fx_Mo_inked (by omega) hC73 ⟨rfl, ?_⟩
      refine bk_Mo_sheet_76 ?_
      obtain ⟨g, hF⟩ := gd_e hF
      refine ⟨vq_in g, ?_⟩
      obtain ⟨g, hF⟩ := gd_e hF
      refine ⟨vq_in g, ?_⟩
      obtain ⟨g, hF⟩ := gd_e hF
      refine ⟨vq_in g, ?_⟩
      obtain ⟨g, hF⟩ := gd_e hF
      refine ⟨vq_in g, ?_⟩
      obtain ⟨r113, I113, J113, hC113, hF⟩ := bd_e hF
      refine fx_Mo_shown (by omega) hC113 ⟨rfl, ?_⟩
      refine bk_Mo_sheet_116 ?_
      obtain ⟨g, hF⟩ := gd_e hF
      refine ⟨vq_in g, ?_⟩
      refine ⟨fun z => ?_, fun z => ?_⟩
      · rw [if_pos z] at hF
        exact Px_wk (Px_wj 3 r73 (by decide +kernel) rfl (ih _ _ _ _ _ _ _ hF hQ)) ⟨Or.inl rfl, Or.inl rfl, Or.inl rfl, Or.inl rfl, Or.inl rfl, trivial⟩
      · rw [if_neg z] at hF
        obtain ⟨g, hF⟩ := gd_e hF
        refine ⟨vq_in g, ?_⟩
        refine ⟨fun z => ?_, fun z => ?_⟩
        · rw [if_pos z] at hF
          exact Px_wk (Px_wj 3 r73 (by decide +kernel) rfl (ih _ _ _ _ _ _ _ hF hQ)) ⟨Or.inl rfl, Or.inl rfl, Or.inl rfl, Or.inl rfl, Or.inl rfl, trivial⟩
        · rw [if_neg z] at hF
          obtain ⟨r137, I137, J137, hC137, hF⟩ := bd_e hF
          refine fx_Jm_abs_J (by omega) hC137 ⟨rfl, ?_⟩
          refine bk_Mo_sheet_140 ?_
          refine ⟨fun z => ?_, fun z => ?_⟩
          · rw [if_pos z] at hF
            exact Px_wk (Px_wj 3 r73 (by decide +kernel) rfl (ih _ _ _ _ _ _ _ hF hQ)) ⟨Or.inl rfl, Or.inl rfl, Or.inl rfl, Or.inl rfl, Or.inl rfl, trivial⟩
          · rw [if_neg z] at hF
            exact Px_wk (Px_wj 3 r73 (by decide +kernel) rfl (ih _ _ _ _ _ _ _ hF hQ)) ⟨Or.inl rfl, Or.inl rfl, Or.inl rfl, Or.inl rfl, Or.inl rfl, trivial⟩
theorem fx_Mo_sheet {u k : Nat} {pa pb : Nat} {ga : Nat → Nat} {Q : Option Value → pm_H → Prop} {I : pm_II} {J : pm_JJ} {r : Int32} {I2 : pm_II} {J2 : pm_JJ} (hk : 2 ≤ k) (hF : F_Mo_sheet u  I J = some (r, I2, J2)) (hQ : Q (some (.int r)) (hp I2 J2 (pm_RT pa pb ga))) : Px k 176 m_Mo_sheet 0 [.ref 120, .null, .null, .null, .null] [] (hp I J (pm_RT pa pb ga)) Q := by
  obtain ⟨k, rfl⟩ : ∃ j, k = j + 1 := ⟨k - 1, by omega⟩
  unfold F_Mo_sheet at hF
  refine bk_Mo_sheet_0 ?_
  refine ⟨fun z => ?_, fun z => ?_⟩
  · rw [if_pos z] at hF
    exact fx_Mo_sheet_37 hk u _ _ _ _ _ _ _ hF hQ
  · rw [if_neg z] at hF
    obtain ⟨g, hF⟩ := ge_e hF
    refine ⟨g, ?_⟩
    refine ⟨fun z => ?_, fun z => ?_⟩
    · rw [if_pos z] at hF
      exact fx_Mo_sheet_37 hk u _ _ _ _ _ _ _ hF hQ
    · rw [if_neg z] at hF
      exact fx_Mo_sheet_37 hk u _ _ _ _ _ _ _ hF hQ
def F_Mo_print_45 (u : Nat) : Nat → Int32 → Int32 → Int32 → pm_II → pm_JJ → Option (Int32 × pm_II × pm_JJ)
  | 0, _, _, _, _, _ => none
  | n + 1, x1, x2, x3, I, J =>
    if x1 ≤ x3 then (
      some (((I 120 38) - x2), I, J))
    else (
      bd (F_Mo_sheet u I J) fun r51 I51 J51 =>
      F_Mo_print_45 u n x1 x2 (x3 + Int32.ofInt 1) I51 J51)
def F_Mo_print (u : Nat) (x1 : Int32) (I : pm_II) (J : pm_JJ) : Option (Int32 × pm_II × pm_JJ) :=
  bd (F_Mo_is u x1 (0 : Int32) (500 : Int32) I J) fun r5 I5 J5 =>
  if ¬ r5 = 0 then (
    if ¬ (I5 120 32) = 0 then (
      if ((I5 120 37) + x1) ≤ 4000 then (
        F_Mo_print_45 u u x1 (I5 120 38) (0 : Int32) I5 J5)
      else (
        some (((-4) : Int32), I5, J5)))
    else (
      some (((-3) : Int32), I5, J5)))
  else (
    some (((-1) : Int32), I5, J5))
theorem fx_Mo_print_45 {u k : Nat} {pa pb : Nat} {ga : Nat → Nat} {Q : Option Value → pm_H → Prop} (hk : 3 ≤ k) : ∀ (n : Nat), ∀ (x1 : Int32) (x2 : Int32) (x3 : Int32) (I : pm_II) (J : pm_JJ) (r : Int32) (I2 : pm_II) (J2 : pm_JJ), F_Mo_print_45 u n x1 x2 x3 I J = some (r, I2, J2) → Q (some (.int r)) (hp I2 J2 (pm_RT pa pb ga)) → Px k 176 m_Mo_print 45 [.ref 120, .int x1, .int x2, .int x3] [] (hp I J (pm_RT pa pb ga)) Q := by
  obtain ⟨k, rfl⟩ : ∃ j, k = j + 1 := ⟨k - 1, by omega⟩
  intro n
  induction n with
  | zero => intro x1 x2 x3 I J r I2 J2  hF; cases hF
  | succ n ih =>
    intro x1 x2 x3 I J r I2 J2  hF hQ
    rw [F_Mo_print_45] at hF
    refine bk_Mo_print_45 ?_
    refine ⟨fun z => ?_, fun z => ?_⟩
    · rw [if_pos z] at hF
      exact ret_q (Q := fun a b c => Q (some (.int a)) (hp b c (pm_RT pa pb ga))) hF hQ
    · rw [if_neg z] at hF
      obtain ⟨r51, I51, J51, hC51, hF⟩ := bd_e hF
      refine fx_Mo_sheet (by omega) hC51 ⟨rfl, ?_⟩
      refine bk_Mo_print_54 ?_
      exact ih _ _ _ _ _ _ _ _ hF hQ
theorem fx_Mo_print {u k : Nat} {pa pb : Nat} {ga : Nat → Nat} {Q : Option Value → pm_H → Prop} {x1 : Int32} {I : pm_II} {J : pm_JJ} {r : Int32} {I2 : pm_II} {J2 : pm_JJ} (hk : 3 ≤ k) (hF : F_Mo_print u x1 I J = some (r, I2, J2)) (hQ : Q (some (.int r)) (hp I2 J2 (pm_RT pa pb ga))) : Px k 176 m_Mo_print 0 [.ref 120, .int x1, .null, .null] [] (hp I J (pm_RT pa pb ga)) Q := by
  obtain ⟨k, rfl⟩ : ∃ j, k = j + 1 := ⟨k - 1, by omega⟩
  unfold F_Mo_print at hF
  refine bk_Mo_print_0 ?_
  obtain ⟨r5, I5, J5, hC5, hF⟩ := bd_e hF
  refine fx_Mo_is (by omega) hC5 ⟨rfl, ?_⟩
  refine bk_Mo_print_8 ?_
  refine ⟨fun z => ?_, fun z => ?_⟩
  · rw [if_pos z] at hF
    refine ⟨fun z => ?_, fun z => ?_⟩
    · rw [if_pos z] at hF
      refine ⟨fun z => ?_, fun z => ?_⟩
      · rw [if_pos z] at hF
        exact fx_Mo_print_45 hk u _ _ _ _ _ _ _ _ hF hQ
      · rw [if_neg z] at hF
        exact ret_q (Q := fun a b c => Q (some (.int a)) (hp b c (pm_RT pa pb ga))) hF hQ
    · rw [if_neg z] at hF
      exact ret_q (Q := fun a b c => Q (some (.int a)) (hp b c (pm_RT pa pb ga))) hF hQ
  · rw [if_neg z] at hF
    exact ret_q (Q := fun a b c => Q (some (.int a)) (hp b c (pm_RT pa pb ga))) hF hQ
def F_Mo_good_68 (u : Nat) (x3 : Int32) (I : pm_II) (J : pm_JJ) : Option (Int32 × pm_II × pm_JJ) :=
  some (x3, I, J)
def F_Mo_good_30 (u : Nat) : Nat → Int32 → Int32 → Int32 → pm_II → pm_JJ → Option (Int32 × pm_II × pm_JJ)
  | 0, _, _, _, _, _ => none
  | n + 1, x1, x2, x3, I, J =>
    if 500 ≤ x3 then (
      F_Mo_good_68 u x3 I J)
    else (
      if 4000 ≤ (I 120 37) then (
        F_Mo_good_68 u x3 I J)
      else (
        if (x2 + x1) ≤ (I 120 38) then (
          F_Mo_good_68 u x3 I J)
        else (
          bd (F_Mo_sheet u I J) fun r58 I58 J58 =>
          F_Mo_good_30 u n x1 x2 (x3 + Int32.ofInt 1) I58 J58)))
def F_Mo_good (u : Nat) (x1 : Int32) (I : pm_II) (J : pm_JJ) : Option (Int32 × pm_II × pm_JJ) :=
  bd (F_Mo_is u x1 (1 : Int32) (200 : Int32) I J) fun r5 I5 J5 =>
  if ¬ r5 = 0 then (
    if ¬ (I5 120 32) = 0 then (
      F_Mo_good_30 u u x1 (I5 120 38) (0 : Int32) I5 J5)
    else (
      some (((-3) : Int32), I5, J5)))
  else (
    some (((-1) : Int32), I5, J5))
theorem fx_Mo_good_68 {u k : Nat} {pa pb : Nat} {ga : Nat → Nat} {Q : Option Value → pm_H → Prop} {x1 : Int32} {x2 : Int32} {x3 : Int32} {I : pm_II} {J : pm_JJ} {r : Int32} {I2 : pm_II} {J2 : pm_JJ} (hk : 3 ≤ k) (hF : F_Mo_good_68 u x3 I J = some (r, I2, J2)) (hQ : Q (some (.int r)) (hp I2 J2 (pm_RT pa pb ga))) : Px k 176 m_Mo_good 68 [.ref 120, .int x1, .int x2, .int x3] [] (hp I J (pm_RT pa pb ga)) Q := by
  obtain ⟨k, rfl⟩ : ∃ j, k = j + 1 := ⟨k - 1, by omega⟩
  unfold F_Mo_good_68 at hF
  refine bk_Mo_good_68 ?_
  exact ret_q (Q := fun a b c => Q (some (.int a)) (hp b c (pm_RT pa pb ga))) hF hQ
theorem fx_Mo_good_30 {u k : Nat} {pa pb : Nat} {ga : Nat → Nat} {Q : Option Value → pm_H → Prop} (hk : 3 ≤ k) : ∀ (n : Nat), ∀ (x1 : Int32) (x2 : Int32) (x3 : Int32) (I : pm_II) (J : pm_JJ) (r : Int32) (I2 : pm_II) (J2 : pm_JJ), F_Mo_good_30 u n x1 x2 x3 I J = some (r, I2, J2) → Q (some (.int r)) (hp I2 J2 (pm_RT pa pb ga)) → Px k 176 m_Mo_good 30 [.ref 120, .int x1, .int x2, .int x3] [] (hp I J (pm_RT pa pb ga)) Q := by
  obtain ⟨k, rfl⟩ : ∃ j, k = j + 1 := ⟨k - 1, by omega⟩
  intro n
  induction n with
  | zero => intro x1 x2 x3 I J r I2 J2  hF; cases hF
  | succ n ih =>
    intro x1 x2 x3 I J r I2 J2  hF hQ
    rw [F_Mo_good_30] at hF
    refine bk_Mo_good_30 ?_
    refine ⟨fun z => ?_, fun z => ?_⟩
    · rw [if_pos z] at hF
      exact fx_Mo_good_68 hk hF hQ
    · rw [if_neg z] at hF
      refine ⟨fun z => ?_, fun z => ?_⟩
      · rw [if_pos z] at hF
        exact fx_Mo_good_68 hk hF hQ
      · rw [if_neg z] at hF
        refine ⟨fun z => ?_, fun z => ?_⟩
        · rw [if_pos z] at hF
          exact fx_Mo_good_68 hk hF hQ
        · rw [if_neg z] at hF
          obtain ⟨r58, I58, J58, hC58, hF⟩ := bd_e hF
          refine fx_Mo_sheet (by omega) hC58 ⟨rfl, ?_⟩
          refine bk_Mo_good_61 ?_
          exact ih _ _ _ _ _ _ _ _ hF hQ
theorem fx_Mo_good {u k : Nat} {pa pb : Nat} {ga : Nat → Nat} {Q : Option Value → pm_H → Prop} {x1 : Int32} {I : pm_II} {J : pm_JJ} {r : Int32} {I2 : pm_II} {J2 : pm_JJ} (hk : 3 ≤ k) (hF : F_Mo_good u x1 I J = some (r, I2, J2)) (hQ : Q (some (.int r)) (hp I2 J2 (pm_RT pa pb ga))) : Px k 176 m_Mo_good 0 [.ref 120, .int x1, .null, .null] [] (hp I J (pm_RT pa pb ga)) Q := by
  obtain ⟨k, rfl⟩ : ∃ j, k = j + 1 := ⟨k - 1, by omega⟩
  unfold F_Mo_good at hF
  refine bk_Mo_good_0 ?_
  obtain ⟨r5, I5, J5, hC5, hF⟩ := bd_e hF
  refine fx_Mo_is (by omega) hC5 ⟨rfl, ?_⟩
  refine bk_Mo_good_8 ?_
  refine ⟨fun z => ?_, fun z => ?_⟩
  · rw [if_pos z] at hF
    refine ⟨fun z => ?_, fun z => ?_⟩
    · rw [if_pos z] at hF
      exact fx_Mo_good_30 hk u _ _ _ _ _ _ _ _ hF hQ
    · rw [if_neg z] at hF
      exact ret_q (Q := fun a b c => Q (some (.int a)) (hp b c (pm_RT pa pb ga))) hF hQ
  · rw [if_neg z] at hF
    exact ret_q (Q := fun a b c => Q (some (.int a)) (hp b c (pm_RT pa pb ga))) hF hQ
def F_Mo_zone (u : Nat) (x1 : Int32) (x2 : Int32) (I : pm_II) (J : pm_JJ) : Option (Int32 × pm_II × pm_JJ) :=
  bd (F_Mo_isZone u x1 I J) fun r2 I2 J2 =>
  if ¬ r2 = 0 then (
    if x2 = nI 0 then (
      cond (vq x1 8) (
      some ((I2 140 ((x1 : Int32).toNatClampNeg)), I2, J2)) none)
    else     if x2 = nI 1 then (
      cond (vq x1 8) (
      bd (F_Mo_shown u (J2 143 ((x1 : Int32).toNatClampNeg)) I2 J2) fun r61 I61 J61 =>
      some (r61, I61, J61)) none)
    else     if x2 = nI 2 then (
      cond (vq x1 8) (
      bd (F_Mo_shown u (J2 144 ((x1 : Int32).toNatClampNeg)) I2 J2) fun r71 I71 J71 =>
      some (r71, I71, J71)) none)
    else     if x2 = nI 3 then (
      cond (vq x1 8) (
      some ((I2 141 ((x1 : Int32).toNatClampNeg)), I2, J2)) none)
    else     if x2 = nI 4 then (
      cond (vq x1 8) (
      bd (F_Mo_shown u (J2 145 ((x1 : Int32).toNatClampNeg)) I2 J2) fun r88 I88 J88 =>
      some (r88, I88, J88)) none)
    else     if x2 = nI 5 then (
      cond (vq x1 8) (
      some ((I2 139 ((x1 : Int32).toNatClampNeg)), I2, J2)) none)
    else (
      some (((-1) : Int32), I2, J2)))
  else (
    some (((-1) : Int32), I2, J2))
theorem fx_Mo_zone {u k : Nat} {pa pb : Nat} {ga : Nat → Nat} {Q : Option Value → pm_H → Prop} {x1 : Int32} {x2 : Int32} {I : pm_II} {J : pm_JJ} {r : Int32} {I2 : pm_II} {J2 : pm_JJ} (hk : 2 ≤ k) (hF : F_Mo_zone u x1 x2 I J = some (r, I2, J2)) (hQ : Q (some (.int r)) (hp I2 J2 (pm_RT pa pb ga))) : Px k 176 m_Mo_zone 0 [.ref 120, .int x1, .int x2] [] (hp I J (pm_RT pa pb ga)) Q := by
  obtain ⟨k, rfl⟩ : ∃ j, k = j + 1 := ⟨k - 1, by omega⟩
  unfold F_Mo_zone at hF
  refine bk_Mo_zone_0 ?_
  obtain ⟨r2, I2, J2, hC2, hF⟩ := bd_e hF
  refine fx_Mo_isZone (by omega) hC2 ⟨rfl, ?_⟩
  refine bk_Mo_zone_5 ?_
  refine ⟨fun z => ?_, fun z => ?_⟩
  · rw [if_pos z] at hF
    refine ⟨fun z => ?_, fun z => ?_, fun z => ?_, fun z => ?_, fun z => ?_, fun z => ?_, fun z => ?_⟩
    · rw [if_pos z] at hF
      obtain ⟨g, hF⟩ := gd_e hF
      refine ⟨vq_in g, ?_⟩
      exact ret_q (Q := fun a b c => Q (some (.int a)) (hp b c (pm_RT pa pb ga))) hF hQ
    · rw [if_neg (by rw [z]; decide), if_pos z] at hF
      obtain ⟨g, hF⟩ := gd_e hF
      refine ⟨vq_in g, ?_⟩
      obtain ⟨r61, I61, J61, hC61, hF⟩ := bd_e hF
      refine fx_Mo_shown (by omega) hC61 ⟨rfl, ?_⟩
      refine bk_Mo_zone_64 ?_
      exact ret_q (Q := fun a b c => Q (some (.int a)) (hp b c (pm_RT pa pb ga))) hF hQ
    · rw [if_neg (by rw [z]; decide), if_neg (by rw [z]; decide), if_pos z] at hF
      obtain ⟨g, hF⟩ := gd_e hF
      refine ⟨vq_in g, ?_⟩
      obtain ⟨r71, I71, J71, hC71, hF⟩ := bd_e hF
      refine fx_Mo_shown (by omega) hC71 ⟨rfl, ?_⟩
      refine bk_Mo_zone_74 ?_
      exact ret_q (Q := fun a b c => Q (some (.int a)) (hp b c (pm_RT pa pb ga))) hF hQ
    · rw [if_neg (by rw [z]; decide), if_neg (by rw [z]; decide), if_neg (by rw [z]; decide), if_pos z] at hF
      obtain ⟨g, hF⟩ := gd_e hF
      refine ⟨vq_in g, ?_⟩
      exact ret_q (Q := fun a b c => Q (some (.int a)) (hp b c (pm_RT pa pb ga))) hF hQ
    · rw [if_neg (by rw [z]; decide), if_neg (by rw [z]; decide), if_neg (by rw [z]; decide), if_neg (by rw [z]; decide), if_pos z] at hF
      obtain ⟨g, hF⟩ := gd_e hF
      refine ⟨vq_in g, ?_⟩
      obtain ⟨r88, I88, J88, hC88, hF⟩ := bd_e hF
      refine fx_Mo_shown (by omega) hC88 ⟨rfl, ?_⟩
      refine bk_Mo_zone_91 ?_
      exact ret_q (Q := fun a b c => Q (some (.int a)) (hp b c (pm_RT pa pb ga))) hF hQ
    · rw [if_neg (by rw [z]; decide), if_neg (by rw [z]; decide), if_neg (by rw [z]; decide), if_neg (by rw [z]; decide), if_neg (by rw [z]; decide), if_pos z] at hF
      obtain ⟨g, hF⟩ := gd_e hF
      refine ⟨vq_in g, ?_⟩
      exact ret_q (Q := fun a b c => Q (some (.int a)) (hp b c (pm_RT pa pb ga))) hF hQ
    · rw [if_neg (sw_ne z (by decide) (by decide)), if_neg (sw_ne z (by decide) (by decide)), if_neg (sw_ne z (by decide) (by decide)), if_neg (sw_ne z (by decide) (by decide)), if_neg (sw_ne z (by decide) (by decide)), if_neg (sw_ne z (by decide) (by decide))] at hF
      exact ret_q (Q := fun a b c => Q (some (.int a)) (hp b c (pm_RT pa pb ga))) hF hQ
  · rw [if_neg z] at hF
    exact ret_q (Q := fun a b c => Q (some (.int a)) (hp b c (pm_RT pa pb ga))) hF hQ
def F_Mo_number (u : Nat) (x1 : Int32) (I : pm_II) (J : pm_JJ) : Option (Int32 × pm_II × pm_JJ) :=
  bd (F_Jm_min_II u (I 120 37) (4000 : Int32) I J) fun r9 I9 J9 =>
  bd (F_Mo_is u x1 (1 : Int32) r9 I9 J9) fun r12 I12 J12 =>
  if r12 = 0 then (
    some (((-1) : Int32), I12, J12))
  else (
    cond (vq x1 4001) (
    some ((I12 142 ((x1 : Int32).toNatClampNeg)), I12, J12)) none)
theorem fx_Mo_number {u k : Nat} {pa pb : Nat} {ga : Nat → Nat} {Q : Option Value → pm_H → Prop} {x1 : Int32} {I : pm_II} {J : pm_JJ} {r : Int32} {I2 : pm_II} {J2 : pm_JJ} (hk : 1 ≤ k) (hF : F_Mo_number u x1 I J = some (r, I2, J2)) (hQ : Q (some (.int r)) (hp I2 J2 (pm_RT pa pb ga))) : Px k 176 m_Mo_number 0 [.ref 120, .int x1] [] (hp I J (pm_RT pa pb ga)) Q := by
  obtain ⟨k, rfl⟩ : ∃ j, k = j + 1 := ⟨k - 1, by omega⟩
  unfold F_Mo_number at hF
  refine bk_Mo_number_0 ?_
  obtain ⟨r9, I9, J9, hC9, hF⟩ := bd_e hF
  refine fx_Jm_min_II (by omega) hC9 ⟨rfl, ?_⟩
  refine bk_Mo_number_12 ?_
  obtain ⟨r12, I12, J12, hC12, hF⟩ := bd_e hF
  refine fx_Mo_is (by omega) hC12 ⟨rfl, ?_⟩
  refine bk_Mo_number_15 ?_
  refine ⟨fun z => ?_, fun z => ?_⟩
  · rw [if_pos z] at hF
    exact ret_q (Q := fun a b c => Q (some (.int a)) (hp b c (pm_RT pa pb ga))) hF hQ
  · rw [if_neg z] at hF
    obtain ⟨g, hF⟩ := gd_e hF
    refine ⟨vq_in g, ?_⟩
    exact ret_q (Q := fun a b c => Q (some (.int a)) (hp b c (pm_RT pa pb ga))) hF hQ
def F_Mo_sorts (u : Nat) (x1 : Int32) (x2 : Int32) (x3 : Int32) (I : pm_II) (J : pm_JJ) : Option (Int32 × pm_II × pm_JJ) :=
  bd (F_Mo_is u x1 (1 : Int32) (26 : Int32) I J) fun r4 I4 J4 =>
  if r4 = 0 then (
    some (((-1) : Int32), I4, J4))
  else (
    bd (F_Mo_is u x2 (0 : Int32) (99 : Int32) I4 J4) fun r14 I14 J14 =>
    if r14 = 0 then (
      some (((-1) : Int32), I14, J14))
    else (
      bd (F_Mo_is u x3 (1 : Int32) (20 : Int32) I14 J14) fun r24 I24 J24 =>
      if ¬ r24 = 0 then (
        cond (vq x1 27) (
        cond (vq x1 27) (
        some ((1 : Int32), (pm_up (pm_up I24 146 ((x1 : Int32).toNatClampNeg) x2) 147 ((x1 : Int32).toNatClampNeg) x3), J24)) none) none)
      else (
        some (((-1) : Int32), I24, J24))))
theorem fx_Mo_sorts {u k : Nat} {pa pb : Nat} {ga : Nat → Nat} {Q : Option Value → pm_H → Prop} {x1 : Int32} {x2 : Int32} {x3 : Int32} {I : pm_II} {J : pm_JJ} {r : Int32} {I2 : pm_II} {J2 : pm_JJ} (hk : 1 ≤ k) (hF : F_Mo_sorts u x1 x2 x3 I J = some (r, I2, J2)) (hQ : Q (some (.int r)) (hp I2 J2 (pm_RT pa pb ga))) : Px k 176 m_Mo_sorts 0 [.ref 120, .int x1, .int x2, .int x3] [] (hp I J (pm_RT pa pb ga)) Q := by
  obtain ⟨k, rfl⟩ : ∃ j, k = j + 1 := ⟨k - 1, by omega⟩
  unfold F_Mo_sorts at hF
  refine bk_Mo_sorts_0 ?_
  obtain ⟨r4, I4, J4, hC4, hF⟩ := bd_e hF
  refine fx_Mo_is (by omega) hC4 ⟨rfl, ?_⟩
  refine bk_Mo_sorts_7 ?_
  refine ⟨fun z => ?_, fun z => ?_⟩
  · rw [if_pos z] at hF
    exact ret_q (Q := fun a b c => Q (some (.int a)) (hp b c (pm_RT pa pb ga))) hF hQ
  · rw [if_neg z] at hF
    obtain ⟨r14, I14, J14, hC14, hF⟩ := bd_e hF
    refine fx_Mo_is (by omega) hC14 ⟨rfl, ?_⟩
    refine bk_Mo_sorts_17 ?_
    refine ⟨fun z => ?_, fun z => ?_⟩
    · rw [if_pos z] at hF
      exact ret_q (Q := fun a b c => Q (some (.int a)) (hp b c (pm_RT pa pb ga))) hF hQ
    · rw [if_neg z] at hF
      obtain ⟨r24, I24, J24, hC24, hF⟩ := bd_e hF
      refine fx_Mo_is (by omega) hC24 ⟨rfl, ?_⟩
      refine bk_Mo_sorts_27 ?_
      refine ⟨fun z => ?_, fun z => ?_⟩
      · rw [if_pos z] at hF
        obtain ⟨g, hF⟩ := gd_e hF
        refine ⟨vq_in g, ?_⟩
        obtain ⟨g, hF⟩ := gd_e hF
        refine ⟨vq_in g, ?_⟩
        exact ret_q (Q := fun a b c => Q (some (.int a)) (hp b c (pm_RT pa pb ga))) hF hQ
      · rw [if_neg z] at hF
        exact ret_q (Q := fun a b c => Q (some (.int a)) (hp b c (pm_RT pa pb ga))) hF hQ
def F_Mo_wordWidth_47 (u : Nat) (x2 : Int32) (I : pm_II) (J : pm_JJ) : Option (Int32 × pm_II × pm_JJ) :=
  some (x2, I, J)
def F_Mo_wordWidth_4 (u : Nat) : Nat → Int32 → Int32 → pm_II → pm_JJ → Option (Int32 × pm_II × pm_JJ)
  | 0, _, _, _, _ => none
  | n + 1, x2, x3, I, J =>
    if (I 120 3) ≤ x3 then (
      F_Mo_wordWidth_47 u x2 I J)
    else (
      cond (vq x3 1600) (
      bd (F_Mo_isSmall u (I 122 ((x3 : Int32).toNatClampNeg)) I J) fun r18 I18 J18 =>
      if r18 = 0 then (
        F_Mo_wordWidth_47 u x2 I18 J18)
      else (
        cond (vq x3 1600) (
        cond (vq ((I18 122 ((x3 : Int32).toNatClampNeg)) - (96 : Int32)) 27) (
        F_Mo_wordWidth_4 u n (x2 + (I18 147 ((((I18 122 ((x3 : Int32).toNatClampNeg)) - (96 : Int32)) : Int32).toNatClampNeg))) (x3 + Int32.ofInt 1) I18 J18) none) none)) none)
def F_Mo_wordWidth (u : Nat) (x1 : Int32) (I : pm_II) (J : pm_JJ) : Option (Int32 × pm_II × pm_JJ) :=
  F_Mo_wordWidth_4 u u (0 : Int32) x1 I J
theorem fx_Mo_wordWidth_47 {u k : Nat} {pa pb : Nat} {ga : Nat → Nat} {Q : Option Value → pm_H → Prop} {x1 : Int32} {x2 : Int32} {x3 : Int32} {I : pm_II} {J : pm_JJ} {r : Int32} {I2 : pm_II} {J2 : pm_JJ} (hk : 1 ≤ k) (hF : F_Mo_wordWidth_47 u x2 I J = some (r, I2, J2)) (hQ : Q (some (.int r)) (hp I2 J2 (pm_RT pa pb ga))) : Px k 176 m_Mo_wordWidth 47 [.ref 120, .int x1, .int x2, .int x3] [] (hp I J (pm_RT pa pb ga)) Q := by
  obtain ⟨k, rfl⟩ : ∃ j, k = j + 1 := ⟨k - 1, by omega⟩
  unfold F_Mo_wordWidth_47 at hF
  refine bk_Mo_wordWidth_47 ?_
  exact ret_q (Q := fun a b c => Q (some (.int a)) (hp b c (pm_RT pa pb ga))) hF hQ
theorem fx_Mo_wordWidth_4 {u k : Nat} {pa pb : Nat} {ga : Nat → Nat} {Q : Option Value → pm_H → Prop} (hk : 1 ≤ k) : ∀ (n : Nat), ∀ (x1 : Int32) (x2 : Int32) (x3 : Int32) (I : pm_II) (J : pm_JJ) (r : Int32) (I2 : pm_II) (J2 : pm_JJ), F_Mo_wordWidth_4 u n x2 x3 I J = some (r, I2, J2) → Q (some (.int r)) (hp I2 J2 (pm_RT pa pb ga)) → Px k 176 m_Mo_wordWidth 4 [.ref 120, .int x1, .int x2, .int x3] [] (hp I J (pm_RT pa pb ga)) Q := by
  obtain ⟨k, rfl⟩ : ∃ j, k = j + 1 := ⟨k - 1, by omega⟩
  intro n
  induction n with
  | zero => intro x1 x2 x3 I J r I2 J2  hF; cases hF
  | succ n ih =>
    intro x1 x2 x3 I J r I2 J2  hF hQ
    rw [F_Mo_wordWidth_4] at hF
    refine bk_Mo_wordWidth_4 ?_
    refine ⟨fun z => ?_, fun z => ?_⟩
    · rw [if_pos z] at hF
      exact fx_Mo_wordWidth_47 hk hF hQ
    · rw [if_neg z] at hF
      obtain ⟨g, hF⟩ := gd_e hF
      refine ⟨vq_in g, ?_⟩
      obtain ⟨r18, I18, J18, hC18, hF⟩ := bd_e hF
      refine fx_Mo_isSmall (by omega) hC18 ⟨rfl, ?_⟩
      refine bk_Mo_wordWidth_21 ?_
      refine ⟨fun z => ?_, fun z => ?_⟩
      · rw [if_pos z] at hF
        exact fx_Mo_wordWidth_47 hk hF hQ
      · rw [if_neg z] at hF
        obtain ⟨g, hF⟩ := gd_e hF
        refine ⟨vq_in g, ?_⟩
        obtain ⟨g, hF⟩ := gd_e hF
        refine ⟨vq_in g, ?_⟩
        exact ih _ _ _ _ _ _ _ _ hF hQ
theorem fx_Mo_wordWidth {u k : Nat} {pa pb : Nat} {ga : Nat → Nat} {Q : Option Value → pm_H → Prop} {x1 : Int32} {I : pm_II} {J : pm_JJ} {r : Int32} {I2 : pm_II} {J2 : pm_JJ} (hk : 1 ≤ k) (hF : F_Mo_wordWidth u x1 I J = some (r, I2, J2)) (hQ : Q (some (.int r)) (hp I2 J2 (pm_RT pa pb ga))) : Px k 176 m_Mo_wordWidth 0 [.ref 120, .int x1, .null, .null] [] (hp I J (pm_RT pa pb ga)) Q := by
  obtain ⟨k, rfl⟩ : ∃ j, k = j + 1 := ⟨k - 1, by omega⟩
  unfold F_Mo_wordWidth at hF
  refine bk_Mo_wordWidth_0 ?_
  exact fx_Mo_wordWidth_4 hk u _ _ _ _ _ _ _ _ hF hQ
def F_Mo_lineFrom_98 (u : Nat) (K48 : Int32 → Int32 → Int32 → Int32 → Int32 → Int32 → pm_II → pm_JJ → Option (Int32 × pm_II × pm_JJ)) : Nat → Int32 → Int32 → Int32 → Int32 → Int32 → Int32 → pm_II → pm_JJ → Option (Int32 × pm_II × pm_JJ)
  | 0, _, _, _, _, _, _, _, _ => none
  | n + 1, x1, x2, x3, x4, x5, x6, I, J =>
    cond (vq x6 1600) (
    if (I 122 ((x6 : Int32).toNatClampNeg)) = 10 then (
      K48 x1 x2 x3 x4 x5 x6 I J)
    else (
      cond (vq x6 1600) (
      if (I 122 ((x6 : Int32).toNatClampNeg)) = 32 then (
        K48 x1 x2 x3 x4 x5 x6 I J)
      else (
        F_Mo_lineFrom_98 u K48 n x1 x2 x3 x4 x5 (x6 + Int32.ofInt 1) I J)) none)) none
def F_Mo_lineFrom_303 (u : Nat) (K254 : Int32 → Int32 → Int32 → pm_II → pm_JJ → Option (Int32 × pm_II × pm_JJ)) (x3 : Int32) (x6 : Int32) (x9 : Int32) (s1 : Int32) (s2 : Int32) (I : pm_II) (J : pm_JJ) : Option (Int32 × pm_II × pm_JJ) :=
  cond (vq s1 2624) (
  cond (vq x3 17) (
  cond (vq x3 17) (
  K254 x3 x6 (x9 + Int32.ofInt 1) (pm_up (pm_up I 149 ((s1 : Int32).toNatClampNeg) s2) 150 ((x3 : Int32).toNatClampNeg) ((I 150 ((x3 : Int32).toNatClampNeg)) + (1 : Int32))) J) none) none) none
def F_Mo_lineFrom_254 (u : Nat) : Nat → Int32 → Int32 → Int32 → pm_II → pm_JJ → Option (Int32 × pm_II × pm_JJ)
  | 0, _, _, _, _, _ => none
  | n + 1, x3, x6, x9, I, J =>
    if x6 ≤ x9 then (
      some ((x6 + (1 : Int32)), I, J))
    else (
      cond (vq x3 17) (
      cond (vq x9 1600) (
      if ¬ (I 122 ((x9 : Int32).toNatClampNeg)) = 32 then (
        cond (vq x9 1600) (
        F_Mo_lineFrom_303 u (F_Mo_lineFrom_254 u n) x3 x6 x9 (((160 : Int32) * x3) + (I 150 ((x3 : Int32).toNatClampNeg))) ((I 122 ((x9 : Int32).toNatClampNeg)) - (96 : Int32)) I J) none)
      else (
        F_Mo_lineFrom_303 u (F_Mo_lineFrom_254 u n) x3 x6 x9 (((160 : Int32) * x3) + (I 150 ((x3 : Int32).toNatClampNeg))) (0 : Int32) I J)) none) none)
def F_Mo_lineFrom_190 (u : Nat) : Nat → Int32 → Int32 → Int32 → Int32 → Int32 → Int32 → pm_II → pm_JJ → Option (Int32 × pm_II × pm_JJ)
  | 0, _, _, _, _, _, _, _, _ => none
  | n + 1, x1, x3, x5, x6, x8, x9, I, J =>
    if (x5 - (1 : Int32)) ≤ x9 then (
      cond (vq x3 17) (
      F_Mo_lineFrom_254 u u x3 x6 x1 (pm_up I 150 ((x3 : Int32).toNatClampNeg) 0) J) none)
    else (
      if ¬ (x5 - (1 : Int32)) = 0 then (
      if ¬ (x5 - (1 : Int32)) = 0 then (
      if (x8 - x8 / (x5 - (1 : Int32)) * (x5 - (1 : Int32))) ≤ x9 then (
        cond (vq (((12 : Int32) * x3) + x9) 204) (
        F_Mo_lineFrom_190 u n x1 x3 x5 x6 x8 (x9 + Int32.ofInt 1) (pm_up I 153 (((((12 : Int32) * x3) + x9) : Int32).toNatClampNeg) (((3 : Int32) + (x8 / (x5 - (1 : Int32)))) + (0 : Int32))) J) none)
      else (
        cond (vq (((12 : Int32) * x3) + x9) 204) (
        F_Mo_lineFrom_190 u n x1 x3 x5 x6 x8 (x9 + Int32.ofInt 1) (pm_up I 153 (((((12 : Int32) * x3) + x9) : Int32).toNatClampNeg) (((3 : Int32) + (x8 / (x5 - (1 : Int32)))) + (1 : Int32))) J) none)) else none) else none)
def F_Mo_lineFrom_166 (u : Nat) (x1 : Int32) (x3 : Int32) (x4 : Int32) (x5 : Int32) (x6 : Int32) (s0 : Int32) (I : pm_II) (J : pm_JJ) : Option (Int32 × pm_II × pm_JJ) :=
  cond (vq x3 17) (
  cond (vq x3 17) (
  F_Mo_lineFrom_190 u u x1 x3 x5 x6 s0 (0 : Int32) (pm_up (pm_up I 151 ((x3 : Int32).toNatClampNeg) x5) 152 ((x3 : Int32).toNatClampNeg) (x4 + s0)) J) none) none
def F_Mo_lineFrom_145 (u : Nat) (x1 : Int32) (x2 : Int32) (x3 : Int32) (x4 : Int32) (x5 : Int32) (x6 : Int32) (s0 : Int32) (I : pm_II) (J : pm_JJ) : Option (Int32 × pm_II × pm_JJ) :=
  if ¬ s0 = 0 then (
    F_Mo_lineFrom_166 u x1 x3 x4 x5 x6 (0 : Int32) I J)
  else (
    if ¬ x5 = 1 then (
      F_Mo_lineFrom_166 u x1 x3 x4 x5 x6 (x2 - x4) I J)
    else (
      F_Mo_lineFrom_166 u x1 x3 x4 x5 x6 (0 : Int32) I J))
def F_Mo_lineFrom_128 (u : Nat) (x1 : Int32) (x2 : Int32) (x3 : Int32) (x4 : Int32) (x5 : Int32) (x6 : Int32) (I : pm_II) (J : pm_JJ) : Option (Int32 × pm_II × pm_JJ) :=
  cond (vq x6 1600) (
  if ¬ (I 122 ((x6 : Int32).toNatClampNeg)) = 10 then (
    F_Mo_lineFrom_145 u x1 x2 x3 x4 x5 x6 (0 : Int32) I J)
  else (
    F_Mo_lineFrom_145 u x1 x2 x3 x4 x5 x6 (1 : Int32) I J)) none
def F_Mo_lineFrom_48 (u : Nat) : Nat → Int32 → Int32 → Int32 → Int32 → Int32 → Int32 → pm_II → pm_JJ → Option (Int32 × pm_II × pm_JJ)
  | 0, _, _, _, _, _, _, _, _ => none
  | n + 1, x1, x2, x3, x4, x5, x6, I, J =>
    cond (vq x6 1600) (
    if ¬ (I 122 ((x6 : Int32).toNatClampNeg)) = 32 then (
      F_Mo_lineFrom_128 u x1 x2 x3 x4 x5 x6 I J)
    else (
      bd (F_Mo_wordWidth u (x6 + (1 : Int32)) I J) fun r69 I69 J69 =>
      if x2 < ((x4 + (3 : Int32)) + r69) then (
        F_Mo_lineFrom_128 u x1 x2 x3 x4 x5 x6 I69 J69)
      else (
        bd (F_Mo_wordWidth u (x6 + (1 : Int32)) I69 J69) fun r85 I85 J85 =>
        F_Mo_lineFrom_98 u (F_Mo_lineFrom_48 u n) u x1 x2 x3 (x4 + ((3 : Int32) + r85)) (x5 + Int32.ofInt 1) (x6 + Int32.ofInt 1) I85 J85))) none
def F_Mo_lineFrom_18 (u : Nat) : Nat → Int32 → Int32 → Int32 → Int32 → Int32 → Int32 → pm_II → pm_JJ → Option (Int32 × pm_II × pm_JJ)
  | 0, _, _, _, _, _, _, _, _ => none
  | n + 1, x1, x2, x3, x4, x5, x6, I, J =>
    cond (vq x6 1600) (
    if (I 122 ((x6 : Int32).toNatClampNeg)) = 10 then (
      F_Mo_lineFrom_48 u u x1 x2 x3 x4 x5 x6 I J)
    else (
      cond (vq x6 1600) (
      if (I 122 ((x6 : Int32).toNatClampNeg)) = 32 then (
        F_Mo_lineFrom_48 u u x1 x2 x3 x4 x5 x6 I J)
      else (
        F_Mo_lineFrom_18 u n x1 x2 x3 x4 x5 (x6 + Int32.ofInt 1) I J)) none)) none
def F_Mo_lineFrom (u : Nat) (x1 : Int32) (x2 : Int32) (I : pm_II) (J : pm_JJ) : Option (Int32 × pm_II × pm_JJ) :=
  bd (F_Mo_wordWidth u x1 I J) fun r7 I7 J7 =>
  F_Mo_lineFrom_18 u u x1 x2 (I 120 56) r7 (1 : Int32) x1 I7 J7
theorem fx_Mo_lineFrom_98 {u k : Nat} {pa pb : Nat} {ga : Nat → Nat} {Q : Option Value → pm_H → Prop} {K48 : Int32 → Int32 → Int32 → Int32 → Int32 → Int32 → pm_II → pm_JJ → Option (Int32 × pm_II × pm_JJ)} (hk : 2 ≤ k) (hK48 : ∀ (x1 : Int32) (x2 : Int32) (x3 : Int32) (x4 : Int32) (x5 : Int32) (x6 : Int32) (I : pm_II) (J : pm_JJ) (r : Int32) (I2 : pm_II) (J2 : pm_JJ), K48 x1 x2 x3 x4 x5 x6 I J = some (r, I2, J2) → Q (some (.int r)) (hp I2 J2 (pm_RT pa pb ga)) → Px k 176 m_Mo_lineFrom 48 [.ref 120, .int x1, .int x2, .int x3, .int x4, .int x5, .int x6, .null, .null, .null] [] (hp I J (pm_RT pa pb ga)) Q) : ∀ (n : Nat), ∀ (x1 : Int32) (x2 : Int32) (x3 : Int32) (x4 : Int32) (x5 : Int32) (x6 : Int32) (I : pm_II) (J : pm_JJ) (r : Int32) (I2 : pm_II) (J2 : pm_JJ), F_Mo_lineFrom_98 u K48 n x1 x2 x3 x4 x5 x6 I J = some (r, I2, J2) → Q (some (.int r)) (hp I2 J2 (pm_RT pa pb ga)) → Px k 176 m_Mo_lineFrom 98 [.ref 120, .int x1, .int x2, .int x3, .int x4, .int x5, .int x6, .null, .null, .null] [] (hp I J (pm_RT pa pb ga)) Q := by
  obtain ⟨k, rfl⟩ : ∃ j, k = j + 1 := ⟨k - 1, by omega⟩
  intro n
  induction n with
  | zero => intro x1 x2 x3 x4 x5 x6 I J r I2 J2  hF; cases hF
  | succ n ih =>
    intro x1 x2 x3 x4 x5 x6 I J r I2 J2  hF hQ
    rw [F_Mo_lineFrom_98] at hF
    refine bk_Mo_lineFrom_98 ?_
    obtain ⟨g, hF⟩ := gd_e hF
    refine ⟨vq_in g, ?_⟩
    refine ⟨fun z => ?_, fun z => ?_⟩
    · rw [if_pos z] at hF
      exact hK48 _ _ _ _ _ _ _ _ _ _ _ hF hQ
    · rw [if_neg z] at hF
      obtain ⟨g, hF⟩ := gd_e hF
      refine ⟨vq_in g, ?_⟩
      refine ⟨fun z => ?_, fun z => ?_⟩
      · rw [if_pos z] at hF
        exact hK48 _ _ _ _ _ _ _ _ _ _ _ hF hQ
      · rw [if_neg z] at hF
        exact ih _ _ _ _ _ _ _ _ _ _ _ hF hQ
theorem fx_Mo_lineFrom_303 {u k : Nat} {pa pb : Nat} {ga : Nat → Nat} {Q : Option Value → pm_H → Prop} {K254 : Int32 → Int32 → Int32 → pm_II → pm_JJ → Option (Int32 × pm_II × pm_JJ)} {x1 : Int32} {x2 : Int32} {x3 : Int32} {x4 : Int32} {x5 : Int32} {x6 : Int32} {x7 : Int32} {x8 : Int32} {x9 : Int32} {s1 : Int32} {s2 : Int32} {I : pm_II} {J : pm_JJ} {r : Int32} {I2 : pm_II} {J2 : pm_JJ} (hk : 2 ≤ k) (hK254 : ∀ (x1 : Int32) (x2 : Int32) (x3 : Int32) (x4 : Int32) (x5 : Int32) (x6 : Int32) (x7 : Int32) (x8 : Int32) (x9 : Int32) (I : pm_II) (J : pm_JJ) (r : Int32) (I2 : pm_II) (J2 : pm_JJ), K254 x3 x6 x9 I J = some (r, I2, J2) → Q (some (.int r)) (hp I2 J2 (pm_RT pa pb ga)) → Px k 176 m_Mo_lineFrom 254 [.ref 120, .int x1, .int x2, .int x3, .int x4, .int x5, .int x6, .int x7, .int x8, .int x9] [] (hp I J (pm_RT pa pb ga)) Q) (hF : F_Mo_lineFrom_303 u K254 x3 x6 x9 s1 s2 I J = some (r, I2, J2)) (hQ : Q (some (.int r)) (hp I2 J2 (pm_RT pa pb ga))) : Px k 176 m_Mo_lineFrom 303 [.ref 120, .int x1, .int x2, .int x3, .int x4, .int x5, .int x6, .int x7, .int x8, .int x9] [.int s2, .int s1, .ref 149] (hp I J (pm_RT pa pb ga)) Q := by
  obtain ⟨k, rfl⟩ : ∃ j, k = j + 1 := ⟨k - 1, by omega⟩
  unfold F_Mo_lineFrom_303 at hF
  refine bk_Mo_lineFrom_303 ?_
  obtain ⟨g, hF⟩ := gd_e hF
  refine ⟨vq_in g, ?_⟩
  obtain ⟨g, hF⟩ := gd_e hF
  refine ⟨vq_in g, ?_⟩
  obtain ⟨g, hF⟩ := gd_e hF
  refine ⟨vq_in g, ?_⟩
  exact hK254 _ _ _ _ _ _ _ _ _ _ _ _ _ _ hF hQ
theorem fx_Mo_lineFrom_254 {u k : Nat} {pa pb : Nat} {ga : Nat → Nat} {Q : Option Value → pm_H → Prop} (hk : 2 ≤ k) : ∀ (n : Nat), ∀ (x1 : Int32) (x2 : Int32) (x3 : Int32) (x4 : Int32) (x5 : Int32) (x6 : Int32) (x7 : Int32) (x8 : Int32) (x9 : Int32) (I : pm_II) (J : pm_JJ) (r : Int32) (I2 : pm_II) (J2 : pm_JJ), F_Mo_lineFrom_254 u n x3 x6 x9 I J = some (r, I2, J2) → Q (some (.int r)) (hp I2 J2 (pm_RT pa pb ga)) → Px k 176 m_Mo_lineFrom 254 [.ref 120, .int x1, .int x2, .int x3, .int x4, .int x5, .int x6, .int x7, .int x8, .int x9] [] (hp I J (pm_RT pa pb ga)) Q := by
  obtain ⟨k, rfl⟩ : ∃ j, k = j + 1 := ⟨k - 1, by omega⟩
  intro n
  induction n with
  | zero => intro x1 x2 x3 x4 x5 x6 x7 x8 x9 I J r I2 J2  hF; cases hF
  | succ n ih =>
    intro x1 x2 x3 x4 x5 x6 x7 x8 x9 I J r I2 J2  hF hQ
    rw [F_Mo_lineFrom_254] at hF
    refine bk_Mo_lineFrom_254 ?_
    refine ⟨fun z => ?_, fun z => ?_⟩
    · rw [if_pos z] at hF
      exact ret_q (Q := fun a b c => Q (some (.int a)) (hp b c (pm_RT pa pb ga))) hF hQ
    · rw [if_neg z] at hF
      obtain ⟨g, hF⟩ := gd_e hF
      refine ⟨vq_in g, ?_⟩
      obtain ⟨g, hF⟩ := gd_e hF
      refine ⟨vq_in g, ?_⟩
      refine ⟨fun z => ?_, fun z => ?_⟩
      · rw [if_pos z] at hF
        obtain ⟨g, hF⟩ := gd_e hF
        refine ⟨vq_in g, ?_⟩
        exact fx_Mo_lineFrom_303 hk ih hF hQ
      · rw [if_neg z] at hF
        exact fx_Mo_lineFrom_303 hk ih hF hQ
theorem fx_Mo_lineFrom_190 {u k : Nat} {pa pb : Nat} {ga : Nat → Nat} {Q : Option Value → pm_H → Prop} (hk : 2 ≤ k) : ∀ (n : Nat), ∀ (x1 : Int32) (x2 : Int32) (x3 : Int32) (x4 : Int32) (x5 : Int32) (x6 : Int32) (x7 : Int32) (x8 : Int32) (x9 : Int32) (I : pm_II) (J : pm_JJ) (r : Int32) (I2 : pm_II) (J2 : pm_JJ), F_Mo_lineFrom_190 u n x1 x3 x5 x6 x8 x9 I J = some (r, I2, J2) → Q (some (.int r)) (hp I2 J2 (pm_RT pa pb ga)) → Px k 176 m_Mo_lineFrom 190 [.ref 120, .int x1, .int x2, .int x3, .int x4, .int x5, .int x6, .int x7, .int x8, .int x9] [] (hp I J (pm_RT pa pb ga)) Q := by
  obtain ⟨k, rfl⟩ : ∃ j, k = j + 1 := ⟨k - 1, by omega⟩
  intro n
  induction n with
  | zero => intro x1 x2 x3 x4 x5 x6 x7 x8 x9 I J r I2 J2  hF; cases hF
  | succ n ih =>
    intro x1 x2 x3 x4 x5 x6 x7 x8 x9 I J r I2 J2  hF hQ
    rw [F_Mo_lineFrom_190] at hF
    refine bk_Mo_lineFrom_190 ?_
    refine ⟨fun z => ?_, fun z => ?_⟩
    · rw [if_pos z] at hF
      obtain ⟨g, hF⟩ := gd_e hF
      refine ⟨vq_in g, ?_⟩
      exact fx_Mo_lineFrom_254 hk u _ _ _ _ _ _ _ _ _ _ _ _ _ _ hF hQ
    · rw [if_neg z] at hF
      obtain ⟨g, hF⟩ := ge_e hF
      refine ⟨g, ?_⟩
      obtain ⟨g, hF⟩ := ge_e hF
      refine ⟨g, ?_⟩
      refine ⟨fun z => ?_, fun z => ?_⟩
      · rw [if_pos z] at hF
        obtain ⟨g, hF⟩ := gd_e hF
        refine ⟨vq_in g, ?_⟩
        exact ih _ _ _ _ _ _ _ _ _ _ _ _ _ _ hF hQ
      · rw [if_neg z] at hF
        obtain ⟨g, hF⟩ := gd_e hF
        refine ⟨vq_in g, ?_⟩
        exact ih _ _ _ _ _ _ _ _ _ _ _ _ _ _ hF hQ
theorem fx_Mo_lineFrom_166 {u k : Nat} {pa pb : Nat} {ga : Nat → Nat} {Q : Option Value → pm_H → Prop} {x1 : Int32} {x2 : Int32} {x3 : Int32} {x4 : Int32} {x5 : Int32} {x6 : Int32} {x7 : Int32} {s0 : Int32} {I : pm_II} {J : pm_JJ} {r : Int32} {I2 : pm_II} {J2 : pm_JJ} (hk : 2 ≤ k) (hF : F_Mo_lineFrom_166 u x1 x3 x4 x5 x6 s0 I J = some (r, I2, J2)) (hQ : Q (some (.int r)) (hp I2 J2 (pm_RT pa pb ga))) : Px k 176 m_Mo_lineFrom 166 [.ref 120, .int x1, .int x2, .int x3, .int x4, .int x5, .int x6, .int x7, .null, .null] [.int s0] (hp I J (pm_RT pa pb ga)) Q := by
  obtain ⟨k, rfl⟩ : ∃ j, k = j + 1 := ⟨k - 1, by omega⟩
  unfold F_Mo_lineFrom_166 at hF
  refine bk_Mo_lineFrom_166 ?_
  obtain ⟨g, hF⟩ := gd_e hF
  refine ⟨vq_in g, ?_⟩
  obtain ⟨g, hF⟩ := gd_e hF
  refine ⟨vq_in g, ?_⟩
  exact fx_Mo_lineFrom_190 hk u _ _ _ _ _ _ _ _ _ _ _ _ _ _ hF hQ
theorem fx_Mo_lineFrom_145 {u k : Nat} {pa pb : Nat} {ga : Nat → Nat} {Q : Option Value → pm_H → Prop} {x1 : Int32} {x2 : Int32} {x3 : Int32} {x4 : Int32} {x5 : Int32} {x6 : Int32} {s0 : Int32} {I : pm_II} {J : pm_JJ} {r : Int32} {I2 : pm_II} {J2 : pm_JJ} (hk : 2 ≤ k) (hF : F_Mo_lineFrom_145 u x1 x2 x3 x4 x5 x6 s0 I J = some (r, I2, J2)) (hQ : Q (some (.int r)) (hp I2 J2 (pm_RT pa pb ga))) : Px k 176 m_Mo_lineFrom 145 [.ref 120, .int x1, .int x2, .int x3, .int x4, .int x5, .int x6, .null, .null, .null] [.int s0] (hp I J (pm_RT pa pb ga)) Q := by
  obtain ⟨k, rfl⟩ : ∃ j, k = j + 1 := ⟨k - 1, by omega⟩
  unfold F_Mo_lineFrom_145 at hF
  refine bk_Mo_lineFrom_145 ?_
  refine ⟨fun z => ?_, fun z => ?_⟩
  · rw [if_pos z] at hF
    exact fx_Mo_lineFrom_166 hk hF hQ
  · rw [if_neg z] at hF
    refine ⟨fun z => ?_, fun z => ?_⟩
    · rw [if_pos z] at hF
      exact fx_Mo_lineFrom_166 hk hF hQ
    · rw [if_neg z] at hF
      exact fx_Mo_lineFrom_166 hk hF hQ
theorem fx_Mo_lineFrom_128 {u k : Nat} {pa pb : Nat} {ga : Nat → Nat} {Q : Option Value → pm_H → Prop} {x1 : Int32} {x2 : Int32} {x3 : Int32} {x4 : Int32} {x5 : Int32} {x6 : Int32} {I : pm_II} {J : pm_JJ} {r : Int32} {I2 : pm_II} {J2 : pm_JJ} (hk : 2 ≤ k) (hF : F_Mo_lineFrom_128 u x1 x2 x3 x4 x5 x6 I J = some (r, I2, J2)) (hQ : Q (some (.int r)) (hp I2 J2 (pm_RT pa pb ga))) : Px k 176 m_Mo_lineFrom 128 [.ref 120, .int x1, .int x2, .int x3, .int x4, .int x5, .int x6, .null, .null, .null] [] (hp I J (pm_RT pa pb ga)) Q := by
  obtain ⟨k, rfl⟩ : ∃ j, k = j + 1 := ⟨k - 1, by omega⟩
  unfold F_Mo_lineFrom_128 at hF
  refine bk_Mo_lineFrom_128 ?_
  obtain ⟨g, hF⟩ := gd_e hF
  refine ⟨vq_in g, ?_⟩
  refine ⟨fun z => ?_, fun z => ?_⟩
  · rw [if_pos z] at hF
    exact fx_Mo_lineFrom_145 hk hF hQ
  · rw [if_neg z] at hF
    exact fx_Mo_lineFrom_145 hk hF hQ
theorem fx_Mo_lineFrom_48 {u k : Nat} {pa pb : Nat} {ga : Nat → Nat} {Q : Option Value → pm_H → Prop} (hk : 2 ≤ k) : ∀ (n : Nat), ∀ (x1 : Int32) (x2 : Int32) (x3 : Int32) (x4 : Int32) (x5 : Int32) (x6 : Int32) (I : pm_II) (J : pm_JJ) (r : Int32) (I2 : pm_II) (J2 : pm_JJ), F_Mo_lineFrom_48 u n x1 x2 x3 x4 x5 x6 I J = some (r, I2, J2) → Q (some (.int r)) (hp I2 J2 (pm_RT pa pb ga)) → Px k 176 m_Mo_lineFrom 48 [.ref 120, .int x1, .int x2, .int x3, .int x4, .int x5, .int x6, .null, .null, .null] [] (hp I J (pm_RT pa pb ga)) Q := by
  obtain ⟨k, rfl⟩ : ∃ j, k = j + 1 := ⟨k - 1, by omega⟩
  intro n
  induction n with
  | zero => intro x1 x2 x3 x4 x5 x6 I J r I2 J2  hF; cases hF
  | succ n ih =>
    intro x1 x2 x3 x4 x5 x6 I J r I2 J2  hF hQ
    rw [F_Mo_lineFrom_48] at hF
    refine bk_Mo_lineFrom_48 ?_
    obtain ⟨g, hF⟩ := gd_e hF
    refine ⟨vq_in g, ?_⟩
    refine ⟨fun z => ?_, fun z => ?_⟩
    · rw [if_pos z] at hF
      exact fx_Mo_lineFrom_128 hk hF hQ
    · rw [if_neg z] at hF
      obtain ⟨r69, I69, J69, hC69, hF⟩ := bd_e hF
      refine fx_Mo_wordWidth (by omega) hC69 ⟨rfl, ?_⟩
      refine bk_Mo_lineFrom_72 ?_
      refine ⟨fun z => ?_, fun z => ?_⟩
      · rw [if_pos z] at hF
        exact fx_Mo_lineFrom_128 hk hF hQ
      · rw [if_neg z] at hF
        obtain ⟨r85, I85, J85, hC85, hF⟩ := bd_e hF
        refine fx_Mo_wordWidth (by omega) hC85 ⟨rfl, ?_⟩
        refine bk_Mo_lineFrom_88 ?_
        exact fx_Mo_lineFrom_98 hk ih u _ _ _ _ _ _ _ _ _ _ _ hF hQ
theorem fx_Mo_lineFrom_18 {u k : Nat} {pa pb : Nat} {ga : Nat → Nat} {Q : Option Value → pm_H → Prop} (hk : 2 ≤ k) : ∀ (n : Nat), ∀ (x1 : Int32) (x2 : Int32) (x3 : Int32) (x4 : Int32) (x5 : Int32) (x6 : Int32) (I : pm_II) (J : pm_JJ) (r : Int32) (I2 : pm_II) (J2 : pm_JJ), F_Mo_lineFrom_18 u n x1 x2 x3 x4 x5 x6 I J = some (r, I2, J2) → Q (some (.int r)) (hp I2 J2 (pm_RT pa pb ga)) → Px k 176 m_Mo_lineFrom 18 [.ref 120, .int x1, .int x2, .int x3, .int x4, .int x5, .int x6, .null, .null, .null] [] (hp I J (pm_RT pa pb ga)) Q := by
  obtain ⟨k, rfl⟩ : ∃ j, k = j + 1 := ⟨k - 1, by omega⟩
  intro n
  induction n with
  | zero => intro x1 x2 x3 x4 x5 x6 I J r I2 J2  hF; cases hF
  | succ n ih =>
    intro x1 x2 x3 x4 x5 x6 I J r I2 J2  hF hQ
    rw [F_Mo_lineFrom_18] at hF
    refine bk_Mo_lineFrom_18 ?_
    obtain ⟨g, hF⟩ := gd_e hF
    refine ⟨vq_in g, ?_⟩
    refine ⟨fun z => ?_, fun z => ?_⟩
    · rw [if_pos z] at hF
      exact fx_Mo_lineFrom_48 hk u _ _ _ _ _ _ _ _ _ _ _ hF hQ
    · rw [if_neg z] at hF
      obtain ⟨g, hF⟩ := gd_e hF
      refine ⟨vq_in g, ?_⟩
      refine ⟨fun z => ?_, fun z => ?_⟩
      · rw [if_pos z] at hF
        exact fx_Mo_lineFrom_48 hk u _ _ _ _ _ _ _ _ _ _ _ hF hQ
      · rw [if_neg z] at hF
        exact ih _ _ _ _ _ _ _ _ _ _ _ hF hQ
theorem fx_Mo_lineFrom {u k : Nat} {pa pb : Nat} {ga : Nat → Nat} {Q : Option Value → pm_H → Prop} {x1 : Int32} {x2 : Int32} {I : pm_II} {J : pm_JJ} {r : Int32} {I2 : pm_II} {J2 : pm_JJ} (hk : 2 ≤ k) (hF : F_Mo_lineFrom u x1 x2 I J = some (r, I2, J2)) (hQ : Q (some (.int r)) (hp I2 J2 (pm_RT pa pb ga))) : Px k 176 m_Mo_lineFrom 0 [.ref 120, .int x1, .int x2, .null, .null, .null, .null, .null, .null, .null] [] (hp I J (pm_RT pa pb ga)) Q := by
  obtain ⟨k, rfl⟩ : ∃ j, k = j + 1 := ⟨k - 1, by omega⟩
  unfold F_Mo_lineFrom at hF
  refine bk_Mo_lineFrom_0 ?_
  obtain ⟨r7, I7, J7, hC7, hF⟩ := bd_e hF
  refine fx_Mo_wordWidth (by omega) hC7 ⟨rfl, ?_⟩
  refine bk_Mo_lineFrom_10 ?_
  exact fx_Mo_lineFrom_18 hk u _ _ _ _ _ _ _ _ _ _ _ hF hQ
def F_Mo_laid_131 (u : Nat) (x2 : Int32) (I : pm_II) (J : pm_JJ) : Option (Int32 × pm_II × pm_JJ) :=
  some ((0 : Int32), (pm_up I 120 56 x2), J)
def F_Mo_laid_161 (u : Nat) : Nat → Int32 → Int32 → pm_II → pm_JJ → Option (Int32 × pm_II × pm_JJ)
  | 0, _, _, _, _ => none
  | n + 1, x2, x4, I, J =>
    if 26 < x4 then (
      some (((I 120 56) - x2), I, J))
    else (
      cond (vq x4 27) (
      cond (vq x4 27) (
      cond (vq x4 27) (
      F_Mo_laid_161 u n x2 (x4 + Int32.ofInt 1) (pm_up I 146 ((x4 : Int32).toNatClampNeg) ((I 146 ((x4 : Int32).toNatClampNeg)) - (I 148 ((x4 : Int32).toNatClampNeg)))) J) none) none) none)
def F_Mo_laid_105 (u : Nat) : Nat → Int32 → Int32 → Int32 → pm_II → pm_JJ → Option (Int32 × pm_II × pm_JJ)
  | 0, _, _, _, _, _ => none
  | n + 1, x1, x2, x3, I, J =>
    if (I 120 3) ≤ x3 then (
      F_Mo_laid_161 u u x2 (1 : Int32) I J)
    else (
      if (I 120 56) = 16 then (
        F_Mo_laid_131 u x2 I J)
      else (
        bd (F_Mo_wordWidth u x3 I J) fun r124 I124 J124 =>
        if r124 ≤ x1 then (
          bd (F_Mo_lineFrom u x3 x1 I124 J124) fun r141 I141 J141 =>
          F_Mo_laid_105 u n x1 x2 r141 (pm_up I141 120 56 ((I141 120 56) + (1 : Int32))) J141)
        else (
          F_Mo_laid_131 u x2 I124 J124)))
def F_Mo_laid_69 (u : Nat) : Nat → Int32 → Int32 → pm_II → pm_JJ → Option (Int32 × pm_II × pm_JJ)
  | 0, _, _, _, _ => none
  | n + 1, x1, x2, I, J =>
    if 26 < x2 then (
      F_Mo_laid_105 u u x1 (I 120 56) (0 : Int32) I J)
    else (
      cond (vq x2 27) (
      cond (vq x2 27) (
      if (I 148 ((x2 : Int32).toNatClampNeg)) ≤ (I 146 ((x2 : Int32).toNatClampNeg)) then (
        F_Mo_laid_69 u n x1 (x2 + Int32.ofInt 1) I J)
      else (
        some ((0 : Int32), I, J))) none) none)
def F_Mo_laid_23 (u : Nat) : Nat → Int32 → Int32 → pm_II → pm_JJ → Option (Int32 × pm_II × pm_JJ)
  | 0, _, _, _, _ => none
  | n + 1, x1, x2, I, J =>
    if (I 120 3) ≤ x2 then (
      F_Mo_laid_69 u u x1 (1 : Int32) I J)
    else (
      cond (vq x2 1600) (
      bd (F_Mo_isSmall u (I 122 ((x2 : Int32).toNatClampNeg)) I J) fun r37 I37 J37 =>
      if r37 = 0 then (
        F_Mo_laid_23 u n x1 (x2 + Int32.ofInt 1) I37 J37)
      else (
        cond (vq x2 1600) (
        cond (vq ((I37 122 ((x2 : Int32).toNatClampNeg)) - (96 : Int32)) 27) (
        cond (vq ((I37 122 ((x2 : Int32).toNatClampNeg)) - (96 : Int32)) 27) (
        F_Mo_laid_23 u n x1 (x2 + Int32.ofInt 1) (pm_up I37 148 ((((I37 122 ((x2 : Int32).toNatClampNeg)) - (96 : Int32)) : Int32).toNatClampNeg) ((I37 148 ((((I37 122 ((x2 : Int32).toNatClampNeg)) - (96 : Int32)) : Int32).toNatClampNeg)) + (1 : Int32))) J37) none) none) none)) none)
def F_Mo_laid_2 (u : Nat) : Nat → Int32 → Int32 → pm_II → pm_JJ → Option (Int32 × pm_II × pm_JJ)
  | 0, _, _, _, _ => none
  | n + 1, x1, x2, I, J =>
    if 26 < x2 then (
      F_Mo_laid_23 u u x1 (0 : Int32) I J)
    else (
      cond (vq x2 27) (
      F_Mo_laid_2 u n x1 (x2 + Int32.ofInt 1) (pm_up I 148 ((x2 : Int32).toNatClampNeg) 0) J) none)
def F_Mo_laid (u : Nat) (x1 : Int32) (I : pm_II) (J : pm_JJ) : Option (Int32 × pm_II × pm_JJ) :=
  F_Mo_laid_2 u u x1 (1 : Int32) I J
theorem fx_Mo_laid_131 {u k : Nat} {pa pb : Nat} {ga : Nat → Nat} {Q : Option Value → pm_H → Prop} {x1 : Int32} {x2 : Int32} {x3 : Int32} {I : pm_II} {J : pm_JJ} {r : Int32} {I2 : pm_II} {J2 : pm_JJ} (hk : 3 ≤ k) (hF : F_Mo_laid_131 u x2 I J = some (r, I2, J2)) (hQ : Q (some (.int r)) (hp I2 J2 (pm_RT pa pb ga))) : Px k 176 m_Mo_laid 131 [.ref 120, .int x1, .int x2, .int x3, .null] [] (hp I J (pm_RT pa pb ga)) Q := by
  obtain ⟨k, rfl⟩ : ∃ j, k = j + 1 := ⟨k - 1, by omega⟩
  unfold F_Mo_laid_131 at hF
  refine bk_Mo_laid_131 ?_
  exact ret_q (Q := fun a b c => Q (some (.int a)) (hp b c (pm_RT pa pb ga))) hF hQ
theorem fx_Mo_laid_161 {u k : Nat} {pa pb : Nat} {ga : Nat → Nat} {Q : Option Value → pm_H → Prop} (hk : 3 ≤ k) : ∀ (n : Nat), ∀ (x1 : Int32) (x2 : Int32) (x3 : Int32) (x4 : Int32) (I : pm_II) (J : pm_JJ) (r : Int32) (I2 : pm_II) (J2 : pm_JJ), F_Mo_laid_161 u n x2 x4 I J = some (r, I2, J2) → Q (some (.int r)) (hp I2 J2 (pm_RT pa pb ga)) → Px k 176 m_Mo_laid 161 [.ref 120, .int x1, .int x2, .int x3, .int x4] [] (hp I J (pm_RT pa pb ga)) Q := by
  obtain ⟨k, rfl⟩ : ∃ j, k = j + 1 := ⟨k - 1, by omega⟩
  intro n
  induction n with
  | zero => intro x1 x2 x3 x4 I J r I2 J2  hF; cases hF
  | succ n ih =>
    intro x1 x2 x3 x4 I J r I2 J2  hF hQ
    rw [F_Mo_laid_161] at hF
    refine bk_Mo_laid_161 ?_
    refine ⟨fun z => ?_, fun z => ?_⟩
    · rw [if_pos z] at hF
      exact ret_q (Q := fun a b c => Q (some (.int a)) (hp b c (pm_RT pa pb ga))) hF hQ
    · rw [if_neg z] at hF
      obtain ⟨g, hF⟩ := gd_e hF
      refine ⟨vq_in g, ?_⟩
      obtain ⟨g, hF⟩ := gd_e hF
      refine ⟨vq_in g, ?_⟩
      obtain ⟨g, hF⟩ := gd_e hF
      refine ⟨vq_in g, ?_⟩
      exact ih _ _ _ _ _ _ _ _ _ hF hQ
theorem fx_Mo_laid_105 {u k : Nat} {pa pb : Nat} {ga : Nat → Nat} {Q : Option Value → pm_H → Prop} (hk : 3 ≤ k) : ∀ (n : Nat), ∀ (x1 : Int32) (x2 : Int32) (x3 : Int32) (I : pm_II) (J : pm_JJ) (r : Int32) (I2 : pm_II) (J2 : pm_JJ), F_Mo_laid_105 u n x1 x2 x3 I J = some (r, I2, J2) → Q (some (.int r)) (hp I2 J2 (pm_RT pa pb ga)) → Px k 176 m_Mo_laid 105 [.ref 120, .int x1, .int x2, .int x3, .null] [] (hp I J (pm_RT pa pb ga)) Q := by
  obtain ⟨k, rfl⟩ : ∃ j, k = j + 1 := ⟨k - 1, by omega⟩
  intro n
  induction n with
  | zero => intro x1 x2 x3 I J r I2 J2  hF; cases hF
  | succ n ih =>
    intro x1 x2 x3 I J r I2 J2  hF hQ
    rw [F_Mo_laid_105] at hF
    refine bk_Mo_laid_105 ?_
    refine ⟨fun z => ?_, fun z => ?_⟩
    · rw [if_pos z] at hF
      exact fx_Mo_laid_161 hk u _ _ _ _ _ _ _ _ _ hF hQ
    · rw [if_neg z] at hF
      refine ⟨fun z => ?_, fun z => ?_⟩
      · rw [if_pos z] at hF
        exact fx_Mo_laid_131 hk hF hQ
      · rw [if_neg z] at hF
        obtain ⟨r124, I124, J124, hC124, hF⟩ := bd_e hF
        refine fx_Mo_wordWidth (by omega) hC124 ⟨rfl, ?_⟩
        refine bk_Mo_laid_127 ?_
        refine ⟨fun z => ?_, fun z => ?_⟩
        · rw [if_pos z] at hF
          obtain ⟨r141, I141, J141, hC141, hF⟩ := bd_e hF
          refine fx_Mo_lineFrom (by omega) hC141 ⟨rfl, ?_⟩
          refine bk_Mo_laid_144 ?_
          exact ih _ _ _ _ _ _ _ _ hF hQ
        · rw [if_neg z] at hF
          exact fx_Mo_laid_131 hk hF hQ
theorem fx_Mo_laid_69 {u k : Nat} {pa pb : Nat} {ga : Nat → Nat} {Q : Option Value → pm_H → Prop} (hk : 3 ≤ k) : ∀ (n : Nat), ∀ (x1 : Int32) (x2 : Int32) (I : pm_II) (J : pm_JJ) (r : Int32) (I2 : pm_II) (J2 : pm_JJ), F_Mo_laid_69 u n x1 x2 I J = some (r, I2, J2) → Q (some (.int r)) (hp I2 J2 (pm_RT pa pb ga)) → Px k 176 m_Mo_laid 69 [.ref 120, .int x1, .int x2, .null, .null] [] (hp I J (pm_RT pa pb ga)) Q := by
  obtain ⟨k, rfl⟩ : ∃ j, k = j + 1 := ⟨k - 1, by omega⟩
  intro n
  induction n with
  | zero => intro x1 x2 I J r I2 J2  hF; cases hF
  | succ n ih =>
    intro x1 x2 I J r I2 J2  hF hQ
    rw [F_Mo_laid_69] at hF
    refine bk_Mo_laid_69 ?_
    refine ⟨fun z => ?_, fun z => ?_⟩
    · rw [if_pos z] at hF
      exact fx_Mo_laid_105 hk u _ _ _ _ _ _ _ _ hF hQ
    · rw [if_neg z] at hF
      obtain ⟨g, hF⟩ := gd_e hF
      refine ⟨vq_in g, ?_⟩
      obtain ⟨g, hF⟩ := gd_e hF
      refine ⟨vq_in g, ?_⟩
      refine ⟨fun z => ?_, fun z => ?_⟩
      · rw [if_pos z] at hF
        exact ih _ _ _ _ _ _ _ hF hQ
      · rw [if_neg z] at hF
        exact ret_q (Q := fun a b c => Q (some (.int a)) (hp b c (pm_RT pa pb ga))) hF hQ
theorem fx_Mo_laid_23 {u k : Nat} {pa pb : Nat} {ga : Nat → Nat} {Q : Option Value → pm_H → Prop} (hk : 3 ≤ k) : ∀ (n : Nat), ∀ (x1 : Int32) (x2 : Int32) (I : pm_II) (J : pm_JJ) (r : Int32) (I2 : pm_II) (J2 : pm_JJ), F_Mo_laid_23 u n x1 x2 I J = some (r, I2, J2) → Q (some (.int r)) (hp I2 J2 (pm_RT pa pb ga)) → Px k 176 m_Mo_laid 23 [.ref 120, .int x1, .int x2, .null, .null] [] (hp I J (pm_RT pa pb ga)) Q := by
  obtain ⟨k, rfl⟩ : ∃ j, k = j + 1 := ⟨k - 1, by omega⟩
  intro n
  induction n with
  | zero => intro x1 x2 I J r I2 J2  hF; cases hF
  | succ n ih =>
    intro x1 x2 I J r I2 J2  hF hQ
    rw [F_Mo_laid_23] at hF
    refine bk_Mo_laid_23 ?_
    refine ⟨fun z => ?_, fun z => ?_⟩
    · rw [if_pos z] at hF
      exact fx_Mo_laid_69 hk u _ _ _ _ _ _ _ hF hQ
    · rw [if_neg z] at hF
      obtain ⟨g, hF⟩ := gd_e hF
      refine ⟨vq_in g, ?_⟩
      obtain ⟨r37, I37, J37, hC37, hF⟩ := bd_e hF
      refine fx_Mo_isSmall (by omega) hC37 ⟨rfl, ?_⟩
      refine bk_Mo_laid_40 ?_
      refine ⟨fun z => ?_, fun z => ?_⟩
      · rw [if_pos z] at hF
        exact ih _ _ _ _ _ _ _ hF hQ
      · rw [if_neg z] at hF
        obtain ⟨g, hF⟩ := gd_e hF
        refine ⟨vq_in g, ?_⟩
        obtain ⟨g, hF⟩ := gd_e hF
        refine ⟨vq_in g, ?_⟩
        obtain ⟨g, hF⟩ := gd_e hF
        refine ⟨vq_in g, ?_⟩
        exact ih _ _ _ _ _ _ _ hF hQ
theorem fx_Mo_laid_2 {u k : Nat} {pa pb : Nat} {ga : Nat → Nat} {Q : Option Value → pm_H → Prop} (hk : 3 ≤ k) : ∀ (n : Nat), ∀ (x1 : Int32) (x2 : Int32) (I : pm_II) (J : pm_JJ) (r : Int32) (I2 : pm_II) (J2 : pm_JJ), F_Mo_laid_2 u n x1 x2 I J = some (r, I2, J2) → Q (some (.int r)) (hp I2 J2 (pm_RT pa pb ga)) → Px k 176 m_Mo_laid 2 [.ref 120, .int x1, .int x2, .null, .null] [] (hp I J (pm_RT pa pb ga)) Q := by
  obtain ⟨k, rfl⟩ : ∃ j, k = j + 1 := ⟨k - 1, by omega⟩
  intro n
  induction n with
  | zero => intro x1 x2 I J r I2 J2  hF; cases hF
  | succ n ih =>
    intro x1 x2 I J r I2 J2  hF hQ
    rw [F_Mo_laid_2] at hF
    refine bk_Mo_laid_2 ?_
    refine ⟨fun z => ?_, fun z => ?_⟩
    · rw [if_pos z] at hF
      exact fx_Mo_laid_23 hk u _ _ _ _ _ _ _ hF hQ
    · rw [if_neg z] at hF
      obtain ⟨g, hF⟩ := gd_e hF
      refine ⟨vq_in g, ?_⟩
      exact ih _ _ _ _ _ _ _ hF hQ
theorem fx_Mo_laid {u k : Nat} {pa pb : Nat} {ga : Nat → Nat} {Q : Option Value → pm_H → Prop} {x1 : Int32} {I : pm_II} {J : pm_JJ} {r : Int32} {I2 : pm_II} {J2 : pm_JJ} (hk : 3 ≤ k) (hF : F_Mo_laid u x1 I J = some (r, I2, J2)) (hQ : Q (some (.int r)) (hp I2 J2 (pm_RT pa pb ga))) : Px k 176 m_Mo_laid 0 [.ref 120, .int x1, .null, .null, .null] [] (hp I J (pm_RT pa pb ga)) Q := by
  obtain ⟨k, rfl⟩ : ∃ j, k = j + 1 := ⟨k - 1, by omega⟩
  unfold F_Mo_laid at hF
  refine bk_Mo_laid_0 ?_
  exact fx_Mo_laid_2 hk u _ _ _ _ _ _ _ hF hQ
def F_Mo_set_150 (u : Nat) (K20 : Int32 → Int32 → pm_II → pm_JJ → Option (Int32 × pm_II × pm_JJ)) (x1 : Int32) (x2 : Int32) (I : pm_II) (J : pm_JJ) : Option (Int32 × pm_II × pm_JJ) :=
  K20 x1 (x2 + Int32.ofInt 1) I J
def F_Mo_set_98 (u : Nat) (K20 : Int32 → Int32 → pm_II → pm_JJ → Option (Int32 × pm_II × pm_JJ)) : Nat → Int32 → Int32 → Int32 → pm_II → pm_JJ → Option (Int32 × pm_II × pm_JJ)
  | 0, _, _, _, _, _ => none
  | n + 1, x1, x2, x3, I, J =>
    bd (F_Mo_bad u I J) fun r99 I99 J99 =>
    if ¬ r99 = 0 then (
      F_Mo_set_150 u K20 x1 x2 I99 J99)
    else (
      bd (F_Mo_here u I99 J99) fun r106 I106 J106 =>
      bd (F_Mo_isSmall u r106 I106 J106) fun r109 I109 J109 =>
      if r109 = 0 then (
        F_Mo_set_150 u K20 x1 x2 I109 J109)
      else (
        if ¬ ((I109 120 4) - x3) = 12 then (
          F_Mo_set_98 u K20 n x1 x2 x3 (pm_up I109 120 4 ((I109 120 4) + (1 : Int32))) J109)
        else (
          bd (F_Mo_fail u (I109 120 4) I109 J109) fun _ I131 J131 =>
          F_Mo_set_98 u K20 n x1 x2 x3 I131 J131)))
def F_Mo_set_71 (u : Nat) (K20 : Int32 → Int32 → pm_II → pm_JJ → Option (Int32 × pm_II × pm_JJ)) (x1 : Int32) (x2 : Int32) (s1 : Int32) (s2 : Int32) (I : pm_II) (J : pm_JJ) : Option (Int32 × pm_II × pm_JJ) :=
  bd (F_Mo_here u (pm_up I 120 4 (s1 + s2)) J) fun r81 I81 J81 =>
  bd (F_Mo_isSmall u r81 I81 J81) fun r84 I84 J84 =>
  if ¬ r84 = 0 then (
    F_Mo_set_98 u K20 u x1 x2 (s1 + s2) I84 J84)
  else (
    bd (F_Mo_fail u (I84 120 4) I84 J84) fun _ I95 J95 =>
    F_Mo_set_98 u K20 u x1 x2 (s1 + s2) I95 J95)
def F_Mo_set_40 (u : Nat) (K20 : Int32 → Int32 → pm_II → pm_JJ → Option (Int32 × pm_II × pm_JJ)) (x1 : Int32) (x2 : Int32) (I : pm_II) (J : pm_JJ) : Option (Int32 × pm_II × pm_JJ) :=
  if ¬ x2 = 12 then (
    if ¬ x2 = 0 then (
      F_Mo_set_71 u K20 x1 x2 (I 120 4) (1 : Int32) I J)
    else (
      F_Mo_set_71 u K20 x1 x2 (I 120 4) (0 : Int32) I J))
  else (
    bd (F_Mo_fail u (I 120 4) I J) fun _ I51 J51 =>
    K20 x1 x2 I51 J51)
def F_Mo_set_188 (u : Nat) (x1 : Int32) (I : pm_II) (J : pm_JJ) : Option (Int32 × pm_II × pm_JJ) :=
  bd (F_Mo_bad u I J) fun r189 I189 J189 =>
  if r189 = 0 then (
    bd (F_Mo_laid u x1 I189 J189) fun r206 I206 J206 =>
    some (r206, I206, J206))
  else (
    some ((((-1000) : Int32) - (I189 120 5)), I189, J189))
def F_Mo_set_156 (u : Nat) (x1 : Int32) (I : pm_II) (J : pm_JJ) : Option (Int32 × pm_II × pm_JJ) :=
  bd (F_Mo_need u (10 : Int32) I J) fun _ I159 J159 =>
  bd (F_Mo_bad u I159 J159) fun r163 I163 J163 =>
  if ¬ r163 = 0 then (
    F_Mo_set_188 u x1 I163 J163)
  else (
    if (I163 120 3) ≤ (I163 120 4) then (
      F_Mo_set_188 u x1 I163 J163)
    else (
      bd (F_Mo_fail u (I163 120 4) I163 J163) fun _ I185 J185 =>
      F_Mo_set_188 u x1 I185 J185))
def F_Mo_set_20 (u : Nat) : Nat → Int32 → Int32 → pm_II → pm_JJ → Option (Int32 × pm_II × pm_JJ)
  | 0, _, _, _, _ => none
  | n + 1, x1, x2, I, J =>
    bd (F_Mo_bad u I J) fun r21 I21 J21 =>
    if ¬ r21 = 0 then (
      F_Mo_set_156 u x1 I21 J21)
    else (
      if x2 = 0 then (
        F_Mo_set_40 u (F_Mo_set_20 u n) x1 x2 I21 J21)
      else (
        bd (F_Mo_here u I21 J21) fun r32 I32 J32 =>
        if ¬ r32 = 32 then (
          F_Mo_set_156 u x1 I32 J32)
        else (
          F_Mo_set_40 u (F_Mo_set_20 u n) x1 x2 I32 J32)))
def F_Mo_set (u : Nat) (x1 : Int32) (I : pm_II) (J : pm_JJ) : Option (Int32 × pm_II × pm_JJ) :=
  bd (F_Mo_is u x1 (20 : Int32) (200 : Int32) I J) fun r6 I6 J6 =>
  if ¬ r6 = 0 then (
    bd (F_Mo_take u I6 J6) fun _ I15 J15 =>
    F_Mo_set_20 u u x1 (0 : Int32) I15 J15)
  else (
    some (((-1) : Int32), I6, J6))
theorem fx_Mo_set_150 {u k : Nat} {pa pb : Nat} {ga : Nat → Nat} {Q : Option Value → pm_H → Prop} {K20 : Int32 → Int32 → pm_II → pm_JJ → Option (Int32 × pm_II × pm_JJ)} {x1 : Int32} {x2 : Int32} {x3 : Int32} {I : pm_II} {J : pm_JJ} {r : Int32} {I2 : pm_II} {J2 : pm_JJ} (hk : 4 ≤ k) (hK20 : ∀ (x1 : Int32) (x2 : Int32) (I : pm_II) (J : pm_JJ) (r : Int32) (I2 : pm_II) (J2 : pm_JJ), K20 x1 x2 I J = some (r, I2, J2) → Q (some (.int r)) (hp I2 J2 (pm_RT pa pb ga)) → Px k 176 m_Mo_set 20 [.ref 120, .int x1, .int x2, .null] [] (hp I J (pm_RT pa pb ga)) Q) (hF : F_Mo_set_150 u K20 x1 x2 I J = some (r, I2, J2)) (hQ : Q (some (.int r)) (hp I2 J2 (pm_RT pa pb ga))) : Px k 176 m_Mo_set 150 [.ref 120, .int x1, .int x2, .int x3] [] (hp I J (pm_RT pa pb ga)) Q := by
  obtain ⟨k, rfl⟩ : ∃ j, k = j + 1 := ⟨k - 1, by omega⟩
  unfold F_Mo_set_150 at hF
  refine bk_Mo_set_150 ?_
  exact Px_wk (hK20 _ _ _ _ _ _ _ hF hQ) ⟨Or.inl rfl, Or.inl rfl, Or.inl rfl, Or.inr ⟨rfl, rfl⟩, trivial⟩
theorem fx_Mo_set_98 {u k : Nat} {pa pb : Nat} {ga : Nat → Nat} {Q : Option Value → pm_H → Prop} {K20 : Int32 → Int32 → pm_II → pm_JJ → Option (Int32 × pm_II × pm_JJ)} (hk : 4 ≤ k) (hK20 : ∀ (x1 : Int32) (x2 : Int32) (I : pm_II) (J : pm_JJ) (r : Int32) (I2 : pm_II) (J2 : pm_JJ), K20 x1 x2 I J = some (r, I2, J2) → Q (some (.int r)) (hp I2 J2 (pm_RT pa pb ga)) → Px k 176 m_Mo_set 20 [.ref 120, .int x1, .int x2, .null] [] (hp I J (pm_RT pa pb ga)) Q) : ∀ (n : Nat), ∀ (x1 : Int32) (x2 : Int32) (x3 : Int32) (I : pm_II) (J : pm_JJ) (r : Int32) (I2 : pm_II) (J2 : pm_JJ), F_Mo_set_98 u K20 n x1 x2 x3 I J = some (r, I2, J2) → Q (some (.int r)) (hp I2 J2 (pm_RT pa pb ga)) → Px k 176 m_Mo_set 98 [.ref 120, .int x1, .int x2, .int x3] [] (hp I J (pm_RT pa pb ga)) Q := by
  obtain ⟨k, rfl⟩ : ∃ j, k = j + 1 := ⟨k - 1, by omega⟩
  intro n
  induction n with
  | zero => intro x1 x2 x3 I J r I2 J2  hF; cases hF
  | succ n ih =>
    intro x1 x2 x3 I J r I2 J2  hF hQ
    rw [F_Mo_set_98] at hF
    refine bk_Mo_set_98 ?_
    obtain ⟨r99, I99, J99, hC99, hF⟩ := bd_e hF
    refine fx_Mo_bad (by omega) hC99 ⟨rfl, ?_⟩
    refine bk_Mo_set_102 ?_
    refine ⟨fun z => ?_, fun z => ?_⟩
    · rw [if_pos z] at hF
      exact fx_Mo_set_150 hk hK20 hF hQ
    · rw [if_neg z] at hF
      obtain ⟨r106, I106, J106, hC106, hF⟩ := bd_e hF
      refine fx_Mo_here (by omega) hC106 ⟨rfl, ?_⟩
      refine bk_Mo_set_109 ?_
      obtain ⟨r109, I109, J109, hC109, hF⟩ := bd_e hF
      refine fx_Mo_isSmall (by omega) hC109 ⟨rfl, ?_⟩
      refine bk_Mo_set_112 ?_
      refine ⟨fun z => ?_, fun z => ?_⟩
      · rw [if_pos z] at hF
        exact fx_Mo_set_150 hk hK20 hF hQ
      · rw [if_neg z] at hF
        refine ⟨fun z => ?_, fun z => ?_⟩
        · rw [if_pos z] at hF
          exact ih _ _ _ _ _ _ _ _ hF hQ
        · rw [if_neg z] at hF
          obtain ⟨r131, I131, J131, hC131, hF⟩ := bd_e hF
          refine fx_Mo_fail (by omega) hC131 ⟨rfl, ?_⟩
          refine bk_Mo_set_134 ?_
          exact ih _ _ _ _ _ _ _ _ hF hQ
theorem fx_Mo_set_71 {u k : Nat} {pa pb : Nat} {ga : Nat → Nat} {Q : Option Value → pm_H → Prop} {K20 : Int32 → Int32 → pm_II → pm_JJ → Option (Int32 × pm_II × pm_JJ)} {x1 : Int32} {x2 : Int32} {s1 : Int32} {s2 : Int32} {I : pm_II} {J : pm_JJ} {r : Int32} {I2 : pm_II} {J2 : pm_JJ} (hk : 4 ≤ k) (hK20 : ∀ (x1 : Int32) (x2 : Int32) (I : pm_II) (J : pm_JJ) (r : Int32) (I2 : pm_II) (J2 : pm_JJ), K20 x1 x2 I J = some (r, I2, J2) → Q (some (.int r)) (hp I2 J2 (pm_RT pa pb ga)) → Px k 176 m_Mo_set 20 [.ref 120, .int x1, .int x2, .null] [] (hp I J (pm_RT pa pb ga)) Q) (hF : F_Mo_set_71 u K20 x1 x2 s1 s2 I J = some (r, I2, J2)) (hQ : Q (some (.int r)) (hp I2 J2 (pm_RT pa pb ga))) : Px k 176 m_Mo_set 71 [.ref 120, .int x1, .int x2, .null] [.int s2, .int s1, .ref 120] (hp I J (pm_RT pa pb ga)) Q := by
  obtain ⟨k, rfl⟩ : ∃ j, k = j + 1 := ⟨k - 1, by omega⟩
  unfold F_Mo_set_71 at hF
  refine bk_Mo_set_71 ?_
  obtain ⟨r81, I81, J81, hC81, hF⟩ := bd_e hF
  refine fx_Mo_here (by omega) hC81 ⟨rfl, ?_⟩
  refine bk_Mo_set_84 ?_
  obtain ⟨r84, I84, J84, hC84, hF⟩ := bd_e hF
  refine fx_Mo_isSmall (by omega) hC84 ⟨rfl, ?_⟩
  refine bk_Mo_set_87 ?_
  refine ⟨fun z => ?_, fun z => ?_⟩
  · rw [if_pos z] at hF
    exact fx_Mo_set_98 hk hK20 u _ _ _ _ _ _ _ _ hF hQ
  · rw [if_neg z] at hF
    obtain ⟨r95, I95, J95, hC95, hF⟩ := bd_e hF
    refine fx_Mo_fail (by omega) hC95 ⟨rfl, ?_⟩
    exact fx_Mo_set_98 hk hK20 u _ _ _ _ _ _ _ _ hF hQ
theorem fx_Mo_set_40 {u k : Nat} {pa pb : Nat} {ga : Nat → Nat} {Q : Option Value → pm_H → Prop} {K20 : Int32 → Int32 → pm_II → pm_JJ → Option (Int32 × pm_II × pm_JJ)} {x1 : Int32} {x2 : Int32} {I : pm_II} {J : pm_JJ} {r : Int32} {I2 : pm_II} {J2 : pm_JJ} (hk : 4 ≤ k) (hK20 : ∀ (x1 : Int32) (x2 : Int32) (I : pm_II) (J : pm_JJ) (r : Int32) (I2 : pm_II) (J2 : pm_JJ), K20 x1 x2 I J = some (r, I2, J2) → Q (some (.int r)) (hp I2 J2 (pm_RT pa pb ga)) → Px k 176 m_Mo_set 20 [.ref 120, .int x1, .int x2, .null] [] (hp I J (pm_RT pa pb ga)) Q) (hF : F_Mo_set_40 u K20 x1 x2 I J = some (r, I2, J2)) (hQ : Q (some (.int r)) (hp I2 J2 (pm_RT pa pb ga))) : Px k 176 m_Mo_set 40 [.ref 120, .int x1, .int x2, .null] [] (hp I J (pm_RT pa pb ga)) Q := by
  obtain ⟨k, rfl⟩ : ∃ j, k = j + 1 := ⟨k - 1, by omega⟩
  unfold F_Mo_set_40 at hF
  refine bk_Mo_set_40 ?_
  refine ⟨fun z => ?_, fun z => ?_⟩
  · rw [if_pos z] at hF
    refine ⟨fun z => ?_, fun z => ?_⟩
    · rw [if_pos z] at hF
      exact fx_Mo_set_71 hk hK20 hF hQ
    · rw [if_neg z] at hF
      exact fx_Mo_set_71 hk hK20 hF hQ
  · rw [if_neg z] at hF
    obtain ⟨r51, I51, J51, hC51, hF⟩ := bd_e hF
    refine fx_Mo_fail (by omega) hC51 ⟨rfl, ?_⟩
    refine bk_Mo_set_54 ?_
    exact hK20 _ _ _ _ _ _ _ hF hQ
theorem fx_Mo_set_188 {u k : Nat} {pa pb : Nat} {ga : Nat → Nat} {Q : Option Value → pm_H → Prop} {x1 : Int32} {x2 : Int32} {I : pm_II} {J : pm_JJ} {r : Int32} {I2 : pm_II} {J2 : pm_JJ} (hk : 4 ≤ k) (hF : F_Mo_set_188 u x1 I J = some (r, I2, J2)) (hQ : Q (some (.int r)) (hp I2 J2 (pm_RT pa pb ga))) : Px k 176 m_Mo_set 188 [.ref 120, .int x1, .int x2, .null] [] (hp I J (pm_RT pa pb ga)) Q := by
  obtain ⟨k, rfl⟩ : ∃ j, k = j + 1 := ⟨k - 1, by omega⟩
  unfold F_Mo_set_188 at hF
  refine bk_Mo_set_188 ?_
  obtain ⟨r189, I189, J189, hC189, hF⟩ := bd_e hF
  refine fx_Mo_bad (by omega) hC189 ⟨rfl, ?_⟩
  refine bk_Mo_set_192 ?_
  refine ⟨fun z => ?_, fun z => ?_⟩
  · rw [if_pos z] at hF
    obtain ⟨r206, I206, J206, hC206, hF⟩ := bd_e hF
    refine fx_Mo_laid (by omega) hC206 ⟨rfl, ?_⟩
    refine bk_Mo_set_209 ?_
    exact ret_q (Q := fun a b c => Q (some (.int a)) (hp b c (pm_RT pa pb ga))) hF hQ
  · rw [if_neg z] at hF
    exact ret_q (Q := fun a b c => Q (some (.int a)) (hp b c (pm_RT pa pb ga))) hF hQ
theorem fx_Mo_set_156 {u k : Nat} {pa pb : Nat} {ga : Nat → Nat} {Q : Option Value → pm_H → Prop} {x1 : Int32} {x2 : Int32} {I : pm_II} {J : pm_JJ} {r : Int32} {I2 : pm_II} {J2 : pm_JJ} (hk : 4 ≤ k) (hF : F_Mo_set_156 u x1 I J = some (r, I2, J2)) (hQ : Q (some (.int r)) (hp I2 J2 (pm_RT pa pb ga))) : Px k 176 m_Mo_set 156 [.ref 120, .int x1, .int x2, .null] [] (hp I J (pm_RT pa pb ga)) Q := by
  obtain ⟨k, rfl⟩ : ∃ j, k = j + 1 := ⟨k - 1, by omega⟩
  unfold F_Mo_set_156 at hF
  refine bk_Mo_set_156 ?_
  obtain ⟨r159, I159, J159, hC159, hF⟩ := bd_e hF
  refine fx_Mo_need (by omega) hC159 ⟨rfl, ?_⟩
  refine bk_Mo_set_162 ?_
  obtain ⟨r163, I163, J163, hC163, hF⟩ := bd_e hF
  refine fx_Mo_bad (by omega) hC163 ⟨rfl, ?_⟩
  refine bk_Mo_set_166 ?_
  refine ⟨fun z => ?_, fun z => ?_⟩
  · rw [if_pos z] at hF
    exact fx_Mo_set_188 hk hF hQ
  · rw [if_neg z] at hF
    refine ⟨fun z => ?_, fun z => ?_⟩
    · rw [if_pos z] at hF
      exact fx_Mo_set_188 hk hF hQ
    · rw [if_neg z] at hF
      obtain ⟨r185, I185, J185, hC185, hF⟩ := bd_e hF
      refine fx_Mo_fail (by omega) hC185 ⟨rfl, ?_⟩
      exact fx_Mo_set_188 hk hF hQ
theorem fx_Mo_set_20 {u k : Nat} {pa pb : Nat} {ga : Nat → Nat} {Q : Option Value → pm_H → Prop} (hk : 4 ≤ k) : ∀ (n : Nat), ∀ (x1 : Int32) (x2 : Int32) (I : pm_II) (J : pm_JJ) (r : Int32) (I2 : pm_II) (J2 : pm_JJ), F_Mo_set_20 u n x1 x2 I J = some (r, I2, J2) → Q (some (.int r)) (hp I2 J2 (pm_RT pa pb ga)) → Px k 176 m_Mo_set 20 [.ref 120, .int x1, .int x2, .null] [] (hp I J (pm_RT pa pb ga)) Q := by
  obtain ⟨k, rfl⟩ : ∃ j, k = j + 1 := ⟨k - 1, by omega⟩
  intro n
  induction n with
  | zero => intro x1 x2 I J r I2 J2  hF; cases hF
  | succ n ih =>
    intro x1 x2 I J r I2 J2  hF hQ
    rw [F_Mo_set_20] at hF
    refine bk_Mo_set_20 ?_
    obtain ⟨r21, I21, J21, hC21, hF⟩ := bd_e hF
    refine fx_Mo_bad (by omega) hC21 ⟨rfl, ?_⟩
    refine bk_Mo_set_24 ?_
    refine ⟨fun z => ?_, fun z => ?_⟩
    · rw [if_pos z] at hF
      exact fx_Mo_set_156 hk hF hQ
    · rw [if_neg z] at hF
      refine ⟨fun z => ?_, fun z => ?_⟩
      · rw [if_pos z] at hF
        exact fx_Mo_set_40 hk ih hF hQ
      · rw [if_neg z] at hF
        obtain ⟨r32, I32, J32, hC32, hF⟩ := bd_e hF
        refine fx_Mo_here (by omega) hC32 ⟨rfl, ?_⟩
        refine bk_Mo_set_35 ?_
        refine ⟨fun z => ?_, fun z => ?_⟩
        · rw [if_pos z] at hF
          exact fx_Mo_set_156 hk hF hQ
        · rw [if_neg z] at hF
          exact fx_Mo_set_40 hk ih hF hQ
theorem fx_Mo_set {u k : Nat} {pa pb : Nat} {ga : Nat → Nat} {Q : Option Value → pm_H → Prop} {x1 : Int32} {I : pm_II} {J : pm_JJ} {r : Int32} {I2 : pm_II} {J2 : pm_JJ} (hk : 4 ≤ k) (hF : F_Mo_set u x1 I J = some (r, I2, J2)) (hQ : Q (some (.int r)) (hp I2 J2 (pm_RT pa pb ga))) : Px k 176 m_Mo_set 0 [.ref 120, .int x1, .null, .null] [] (hp I J (pm_RT pa pb ga)) Q := by
  obtain ⟨k, rfl⟩ : ∃ j, k = j + 1 := ⟨k - 1, by omega⟩
  unfold F_Mo_set at hF
  refine bk_Mo_set_0 ?_
  obtain ⟨r6, I6, J6, hC6, hF⟩ := bd_e hF
  refine fx_Mo_is (by omega) hC6 ⟨rfl, ?_⟩
  refine bk_Mo_set_9 ?_
  refine ⟨fun z => ?_, fun z => ?_⟩
  · rw [if_pos z] at hF
    obtain ⟨r15, I15, J15, hC15, hF⟩ := bd_e hF
    refine fx_Mo_take (by omega) hC15 ⟨rfl, ?_⟩
    refine bk_Mo_set_18 ?_
    exact fx_Mo_set_20 hk u _ _ _ _ _ _ _ hF hQ
  · rw [if_neg z] at hF
    exact ret_q (Q := fun a b c => Q (some (.int a)) (hp b c (pm_RT pa pb ga))) hF hQ
def F_Mo_isLine (u : Nat) (x1 : Int32) (I : pm_II) (J : pm_JJ) : Option (Int32 × pm_II × pm_JJ) :=
  bd (F_Mo_is u x1 (0 : Int32) ((I 120 56) - (1 : Int32)) I J) fun r8 I8 J8 =>
  if (r8 = 0 ∨ r8 = 1) then (
  some (r8, I8, J8)) else none
theorem fx_Mo_isLine {u k : Nat} {pa pb : Nat} {ga : Nat → Nat} {Q : Option Value → pm_H → Prop} {x1 : Int32} {I : pm_II} {J : pm_JJ} {r : Int32} {I2 : pm_II} {J2 : pm_JJ} (hk : 1 ≤ k) (hF : F_Mo_isLine u x1 I J = some (r, I2, J2)) (hQ : Q (some (.int r)) (hp I2 J2 (pm_RT pa pb ga))) : Px k 176 m_Mo_isLine 0 [.ref 120, .int x1] [] (hp I J (pm_RT pa pb ga)) Q := by
  obtain ⟨k, rfl⟩ : ∃ j, k = j + 1 := ⟨k - 1, by omega⟩
  unfold F_Mo_isLine at hF
  refine bk_Mo_isLine_0 ?_
  obtain ⟨r8, I8, J8, hC8, hF⟩ := bd_e hF
  refine fx_Mo_is (by omega) hC8 ⟨rfl, ?_⟩
  refine bk_Mo_isLine_11 ?_
  obtain ⟨g, hF⟩ := ge_e hF
  refine ⟨g, ?_⟩
  exact ret_q (Q := fun a b c => Q (some (.int a)) (hp b c (pm_RT pa pb ga))) hF hQ
def F_Mo_distribute_159 (u : Nat) (K66 : Int32 → pm_II → pm_JJ → Option (Int32 × pm_II × pm_JJ)) : Nat → Int32 → Int32 → pm_II → pm_JJ → Option (Int32 × pm_II × pm_JJ)
  | 0, _, _, _, _ => none
  | n + 1, x2, x3, I, J =>
    if 160 ≤ x3 then (
      K66 (x2 + Int32.ofInt 1) I J)
    else (
      cond (vq ((((160 : Int32) * x2) + (160 : Int32)) + x3) 2624) (
      cond (vq (((160 : Int32) * x2) + x3) 2624) (
      F_Mo_distribute_159 u K66 n x2 (x3 + Int32.ofInt 1) (pm_up I 149 (((((160 : Int32) * x2) + x3) : Int32).toNatClampNeg) (I 149 ((((((160 : Int32) * x2) + (160 : Int32)) + x3) : Int32).toNatClampNeg))) J) none) none)
def F_Mo_distribute_120 (u : Nat) (K66 : Int32 → pm_II → pm_JJ → Option (Int32 × pm_II × pm_JJ)) : Nat → Int32 → Int32 → pm_II → pm_JJ → Option (Int32 × pm_II × pm_JJ)
  | 0, _, _, _, _ => none
  | n + 1, x2, x3, I, J =>
    if 12 ≤ x3 then (
      F_Mo_distribute_159 u K66 u x2 (0 : Int32) I J)
    else (
      cond (vq ((((12 : Int32) * x2) + (12 : Int32)) + x3) 204) (
      cond (vq (((12 : Int32) * x2) + x3) 204) (
      F_Mo_distribute_120 u K66 n x2 (x3 + Int32.ofInt 1) (pm_up I 153 (((((12 : Int32) * x2) + x3) : Int32).toNatClampNeg) (I 153 ((((((12 : Int32) * x2) + (12 : Int32)) + x3) : Int32).toNatClampNeg))) J) none) none)
def F_Mo_distribute_66 (u : Nat) : Nat → Int32 → pm_II → pm_JJ → Option (Int32 × pm_II × pm_JJ)
  | 0, _, _, _ => none
  | n + 1, x2, I, J =>
    if (I 120 56) ≤ (x2 + (1 : Int32)) then (
      some (((I 120 56) - (1 : Int32)), (pm_up I 120 56 ((I 120 56) - (1 : Int32))), J))
    else (
      cond (vq (x2 + (1 : Int32)) 17) (
      cond (vq x2 17) (
      cond (vq (x2 + (1 : Int32)) 17) (
      cond (vq x2 17) (
      cond (vq (x2 + (1 : Int32)) 17) (
      cond (vq x2 17) (
      F_Mo_distribute_120 u (F_Mo_distribute_66 u n) u x2 (0 : Int32) (pm_up (pm_up (pm_up I 150 ((x2 : Int32).toNatClampNeg) (I 150 (((x2 + (1 : Int32)) : Int32).toNatClampNeg))) 151 ((x2 : Int32).toNatClampNeg) (I 151 (((x2 + (1 : Int32)) : Int32).toNatClampNeg))) 152 ((x2 : Int32).toNatClampNeg) (I 152 (((x2 + (1 : Int32)) : Int32).toNatClampNeg))) J) none) none) none) none) none) none)
def F_Mo_distribute_12 (u : Nat) : Nat → Int32 → Int32 → pm_II → pm_JJ → Option (Int32 × pm_II × pm_JJ)
  | 0, _, _, _, _ => none
  | n + 1, x1, x2, I, J =>
    cond (vq x1 17) (
    if (I 150 ((x1 : Int32).toNatClampNeg)) ≤ x2 then (
      F_Mo_distribute_66 u u x1 I J)
    else (
      cond (vq (((160 : Int32) * x1) + x2) 2624) (
      if (I 149 (((((160 : Int32) * x1) + x2) : Int32).toNatClampNeg)) ≤ 0 then (
        F_Mo_distribute_12 u n x1 (x2 + Int32.ofInt 1) I J)
      else (
        cond (vq (((160 : Int32) * x1) + x2) 2624) (
        cond (vq (I 149 (((((160 : Int32) * x1) + x2) : Int32).toNatClampNeg)) 27) (
        cond (vq (I 149 (((((160 : Int32) * x1) + x2) : Int32).toNatClampNeg)) 27) (
        F_Mo_distribute_12 u n x1 (x2 + Int32.ofInt 1) (pm_up I 146 (((I 149 (((((160 : Int32) * x1) + x2) : Int32).toNatClampNeg)) : Int32).toNatClampNeg) ((I 146 (((I 149 (((((160 : Int32) * x1) + x2) : Int32).toNatClampNeg)) : Int32).toNatClampNeg)) + (1 : Int32))) J) none) none) none)) none)) none
def F_Mo_distribute (u : Nat) (x1 : Int32) (I : pm_II) (J : pm_JJ) : Option (Int32 × pm_II × pm_JJ) :=
  bd (F_Mo_isLine u x1 I J) fun r2 I2 J2 =>
  if ¬ r2 = 0 then (
    F_Mo_distribute_12 u u x1 (0 : Int32) I2 J2)
  else (
    some (((-1) : Int32), I2, J2))
theorem fx_Mo_distribute_159 {u k : Nat} {pa pb : Nat} {ga : Nat → Nat} {Q : Option Value → pm_H → Prop} {K66 : Int32 → pm_II → pm_JJ → Option (Int32 × pm_II × pm_JJ)} (hk : 2 ≤ k) (hK66 : ∀ (x1 : Int32) (x2 : Int32) (I : pm_II) (J : pm_JJ) (r : Int32) (I2 : pm_II) (J2 : pm_JJ), K66 x2 I J = some (r, I2, J2) → Q (some (.int r)) (hp I2 J2 (pm_RT pa pb ga)) → Px k 176 m_Mo_distribute 66 [.ref 120, .int x1, .int x2, .null] [] (hp I J (pm_RT pa pb ga)) Q) : ∀ (n : Nat), ∀ (x1 : Int32) (x2 : Int32) (x3 : Int32) (I : pm_II) (J : pm_JJ) (r : Int32) (I2 : pm_II) (J2 : pm_JJ), F_Mo_distribute_159 u K66 n x2 x3 I J = some (r, I2, J2) → Q (some (.int r)) (hp I2 J2 (pm_RT pa pb ga)) → Px k 176 m_Mo_distribute 159 [.ref 120, .int x1, .int x2, .int x3] [] (hp I J (pm_RT pa pb ga)) Q := by
  obtain ⟨k, rfl⟩ : ∃ j, k = j + 1 := ⟨k - 1, by omega⟩
  intro n
  induction n with
  | zero => intro x1 x2 x3 I J r I2 J2  hF; cases hF
  | succ n ih =>
    intro x1 x2 x3 I J r I2 J2  hF hQ
    rw [F_Mo_distribute_159] at hF
    refine bk_Mo_distribute_159 ?_
    refine ⟨fun z => ?_, fun z => ?_⟩
    · rw [if_pos z] at hF
      exact Px_wk (hK66 _ _ _ _ _ _ _ hF hQ) ⟨Or.inl rfl, Or.inl rfl, Or.inl rfl, Or.inr ⟨rfl, rfl⟩, trivial⟩
    · rw [if_neg z] at hF
      obtain ⟨g, hF⟩ := gd_e hF
      refine ⟨vq_in g, ?_⟩
      obtain ⟨g, hF⟩ := gd_e hF
      refine ⟨vq_in g, ?_⟩
      exact ih _ _ _ _ _ _ _ _ hF hQ
theorem fx_Mo_distribute_120 {u k : Nat} {pa pb : Nat} {ga : Nat → Nat} {Q : Option Value → pm_H → Prop} {K66 : Int32 → pm_II → pm_JJ → Option (Int32 × pm_II × pm_JJ)} (hk : 2 ≤ k) (hK66 : ∀ (x1 : Int32) (x2 : Int32) (I : pm_II) (J : pm_JJ) (r : Int32) (I2 : pm_II) (J2 : pm_JJ), K66 x2 I J = some (r, I2, J2) → Q (some (.int r)) (hp I2 J2 (pm_RT pa pb ga)) → Px k 176 m_Mo_distribute 66 [.ref 120, .int x1, .int x2, .null] [] (hp I J (pm_RT pa pb ga)) Q) : ∀ (n : Nat), ∀ (x1 : Int32) (x2 : Int32) (x3 : Int32) (I : pm_II) (J : pm_JJ) (r : Int32) (I2 : pm_II) (J2 : pm_JJ), F_Mo_distribute_120 u K66 n x2 x3 I J = some (r, I2, J2) → Q (some (.int r)) (hp I2 J2 (pm_RT pa pb ga)) → Px k 176 m_Mo_distribute 120 [.ref 120, .int x1, .int x2, .int x3] [] (hp I J (pm_RT pa pb ga)) Q := by
  obtain ⟨k, rfl⟩ : ∃ j, k = j + 1 := ⟨k - 1, by omega⟩
  intro n
  induction n with
  | zero => intro x1 x2 x3 I J r I2 J2  hF; cases hF
  | succ n ih =>
    intro x1 x2 x3 I J r I2 J2  hF hQ
    rw [F_Mo_distribute_120] at hF
    refine bk_Mo_distribute_120 ?_
    refine ⟨fun z => ?_, fun z => ?_⟩
    · rw [if_pos z] at hF
      exact fx_Mo_distribute_159 hk hK66 u _ _ _ _ _ _ _ _ hF hQ
    · rw [if_neg z] at hF
      obtain ⟨g, hF⟩ := gd_e hF
      refine ⟨vq_in g, ?_⟩
      obtain ⟨g, hF⟩ := gd_e hF
      refine ⟨vq_in g, ?_⟩
      exact ih _ _ _ _ _ _ _ _ hF hQ
theorem fx_Mo_distribute_66 {u k : Nat} {pa pb : Nat} {ga : Nat → Nat} {Q : Option Value → pm_H → Prop} (hk : 2 ≤ k) : ∀ (n : Nat), ∀ (x1 : Int32) (x2 : Int32) (I : pm_II) (J : pm_JJ) (r : Int32) (I2 : pm_II) (J2 : pm_JJ), F_Mo_distribute_66 u n x2 I J = some (r, I2, J2) → Q (some (.int r)) (hp I2 J2 (pm_RT pa pb ga)) → Px k 176 m_Mo_distribute 66 [.ref 120, .int x1, .int x2, .null] [] (hp I J (pm_RT pa pb ga)) Q := by
  obtain ⟨k, rfl⟩ : ∃ j, k = j + 1 := ⟨k - 1, by omega⟩
  intro n
  induction n with
  | zero => intro x1 x2 I J r I2 J2  hF; cases hF
  | succ n ih =>
    intro x1 x2 I J r I2 J2  hF hQ
    rw [F_Mo_distribute_66] at hF
    refine bk_Mo_distribute_66 ?_
    refine ⟨fun z => ?_, fun z => ?_⟩
    · rw [if_pos z] at hF
      exact ret_q (Q := fun a b c => Q (some (.int a)) (hp b c (pm_RT pa pb ga))) hF hQ
    · rw [if_neg z] at hF
      obtain ⟨g, hF⟩ := gd_e hF
      refine ⟨vq_in g, ?_⟩
      obtain ⟨g, hF⟩ := gd_e hF
      refine ⟨vq_in g, ?_⟩
      obtain ⟨g, hF⟩ := gd_e hF
      refine ⟨vq_in g, ?_⟩
      obtain ⟨g, hF⟩ := gd_e hF
      refine ⟨vq_in g, ?_⟩
      obtain ⟨g, hF⟩ := gd_e hF
      refine ⟨vq_in g, ?_⟩
      obtain ⟨g, hF⟩ := gd_e hF
      refine ⟨vq_in g, ?_⟩
      exact fx_Mo_distribute_120 hk ih u _ _ _ _ _ _ _ _ hF hQ
theorem fx_Mo_distribute_12 {u k : Nat} {pa pb : Nat} {ga : Nat → Nat} {Q : Option Value → pm_H → Prop} (hk : 2 ≤ k) : ∀ (n : Nat), ∀ (x1 : Int32) (x2 : Int32) (I : pm_II) (J : pm_JJ) (r : Int32) (I2 : pm_II) (J2 : pm_JJ), F_Mo_distribute_12 u n x1 x2 I J = some (r, I2, J2) → Q (some (.int r)) (hp I2 J2 (pm_RT pa pb ga)) → Px k 176 m_Mo_distribute 12 [.ref 120, .int x1, .int x2, .null] [] (hp I J (pm_RT pa pb ga)) Q := by
  obtain ⟨k, rfl⟩ : ∃ j, k = j + 1 := ⟨k - 1, by omega⟩
  intro n
  induction n with
  | zero => intro x1 x2 I J r I2 J2  hF; cases hF
  | succ n ih =>
    intro x1 x2 I J r I2 J2  hF hQ
    rw [F_Mo_distribute_12] at hF
    refine bk_Mo_distribute_12 ?_
    obtain ⟨g, hF⟩ := gd_e hF
    refine ⟨vq_in g, ?_⟩
    refine ⟨fun z => ?_, fun z => ?_⟩
    · rw [if_pos z] at hF
      exact fx_Mo_distribute_66 hk u _ _ _ _ _ _ _ hF hQ
    · rw [if_neg z] at hF
      obtain ⟨g, hF⟩ := gd_e hF
      refine ⟨vq_in g, ?_⟩
      refine ⟨fun z => ?_, fun z => ?_⟩
      · rw [if_pos z] at hF
        exact ih _ _ _ _ _ _ _ hF hQ
      · rw [if_neg z] at hF
        obtain ⟨g, hF⟩ := gd_e hF
        refine ⟨vq_in g, ?_⟩
        obtain ⟨g, hF⟩ := gd_e hF
        refine ⟨vq_in g, ?_⟩
        obtain ⟨g, hF⟩ := gd_e hF
        refine ⟨vq_in g, ?_⟩
        exact ih _ _ _ _ _ _ _ hF hQ
theorem fx_Mo_distribute {u k : Nat} {pa pb : Nat} {ga : Nat → Nat} {Q : Option Value → pm_H → Prop} {x1 : Int32} {I : pm_II} {J : pm_JJ} {r : Int32} {I2 : pm_II} {J2 : pm_JJ} (hk : 2 ≤ k) (hF : F_Mo_distribute u x1 I J = some (r, I2, J2)) (hQ : Q (some (.int r)) (hp I2 J2 (pm_RT pa pb ga))) : Px k 176 m_Mo_distribute 0 [.ref 120, .int x1, .null, .null] [] (hp I J (pm_RT pa pb ga)) Q := by
  obtain ⟨k, rfl⟩ : ∃ j, k = j + 1 := ⟨k - 1, by omega⟩
  unfold F_Mo_distribute at hF
  refine bk_Mo_distribute_0 ?_
  obtain ⟨r2, I2, J2, hC2, hF⟩ := bd_e hF
  refine fx_Mo_isLine (by omega) hC2 ⟨rfl, ?_⟩
  refine bk_Mo_distribute_5 ?_
  refine ⟨fun z => ?_, fun z => ?_⟩
  · rw [if_pos z] at hF
    exact fx_Mo_distribute_12 hk u _ _ _ _ _ _ _ hF hQ
  · rw [if_neg z] at hF
    exact ret_q (Q := fun a b c => Q (some (.int a)) (hp b c (pm_RT pa pb ga))) hF hQ
def F_Mo_line (u : Nat) (x1 : Int32) (x2 : Int32) (I : pm_II) (J : pm_JJ) : Option (Int32 × pm_II × pm_JJ) :=
  bd (F_Mo_isLine u x1 I J) fun r2 I2 J2 =>
  if ¬ r2 = 0 then (
    if x2 = nI 0 then (
      cond (vq x1 17) (
      some ((I2 152 ((x1 : Int32).toNatClampNeg)), I2, J2)) none)
    else     if x2 = nI 1 then (
      cond (vq x1 17) (
      some ((I2 151 ((x1 : Int32).toNatClampNeg)), I2, J2)) none)
    else     if x2 = nI 2 then (
      cond (vq x1 17) (
      cond (vq x1 17) (
      some ((((I2 150 ((x1 : Int32).toNatClampNeg)) - (I2 151 ((x1 : Int32).toNatClampNeg))) + (1 : Int32)), I2, J2)) none) none)
    else     if x2 = nI 3 then (
      cond (vq x1 17) (
      if (I2 151 ((x1 : Int32).toNatClampNeg)) ≤ 1 then (
        some ((0 : Int32), I2, J2))
      else (
        cond (vq ((12 : Int32) * x1) 204) (
        some ((I2 153 ((((12 : Int32) * x1) : Int32).toNatClampNeg)), I2, J2)) none)) none)
    else     if x2 = nI 4 then (
      cond (vq x1 17) (
      if (I2 151 ((x1 : Int32).toNatClampNeg)) ≤ 1 then (
        some ((0 : Int32), I2, J2))
      else (
        cond (vq x1 17) (
        cond (vq ((((12 : Int32) * x1) + (I2 151 ((x1 : Int32).toNatClampNeg))) - (2 : Int32)) 204) (
        some ((I2 153 ((((((12 : Int32) * x1) + (I2 151 ((x1 : Int32).toNatClampNeg))) - (2 : Int32)) : Int32).toNatClampNeg)), I2, J2)) none) none)) none)
    else (
      some (((-1) : Int32), I2, J2)))
  else (
    some (((-1) : Int32), I2, J2))
theorem fx_Mo_line {u k : Nat} {pa pb : Nat} {ga : Nat → Nat} {Q : Option Value → pm_H → Prop} {x1 : Int32} {x2 : Int32} {I : pm_II} {J : pm_JJ} {r : Int32} {I2 : pm_II} {J2 : pm_JJ} (hk : 2 ≤ k) (hF : F_Mo_line u x1 x2 I J = some (r, I2, J2)) (hQ : Q (some (.int r)) (hp I2 J2 (pm_RT pa pb ga))) : Px k 176 m_Mo_line 0 [.ref 120, .int x1, .int x2] [] (hp I J (pm_RT pa pb ga)) Q := by
  obtain ⟨k, rfl⟩ : ∃ j, k = j + 1 := ⟨k - 1, by omega⟩
  unfold F_Mo_line at hF
  refine bk_Mo_line_0 ?_
  obtain ⟨r2, I2, J2, hC2, hF⟩ := bd_e hF
  refine fx_Mo_isLine (by omega) hC2 ⟨rfl, ?_⟩
  refine bk_Mo_line_5 ?_
  refine ⟨fun z => ?_, fun z => ?_⟩
  · rw [if_pos z] at hF
    refine ⟨fun z => ?_, fun z => ?_, fun z => ?_, fun z => ?_, fun z => ?_, fun z => ?_⟩
    · rw [if_pos z] at hF
      obtain ⟨g, hF⟩ := gd_e hF
      refine ⟨vq_in g, ?_⟩
      exact ret_q (Q := fun a b c => Q (some (.int a)) (hp b c (pm_RT pa pb ga))) hF hQ
    · rw [if_neg (by rw [z]; decide), if_pos z] at hF
      obtain ⟨g, hF⟩ := gd_e hF
      refine ⟨vq_in g, ?_⟩
      exact ret_q (Q := fun a b c => Q (some (.int a)) (hp b c (pm_RT pa pb ga))) hF hQ
    · rw [if_neg (by rw [z]; decide), if_neg (by rw [z]; decide), if_pos z] at hF
      obtain ⟨g, hF⟩ := gd_e hF
      refine ⟨vq_in g, ?_⟩
      obtain ⟨g, hF⟩ := gd_e hF
      refine ⟨vq_in g, ?_⟩
      exact ret_q (Q := fun a b c => Q (some (.int a)) (hp b c (pm_RT pa pb ga))) hF hQ
    · rw [if_neg (by rw [z]; decide), if_neg (by rw [z]; decide), if_neg (by rw [z]; decide), if_pos z] at hF
      obtain ⟨g, hF⟩ := gd_e hF
      refine ⟨vq_in g, ?_⟩
      refine ⟨fun z => ?_, fun z => ?_⟩
      · rw [if_pos z] at hF
        exact ret_q (Q := fun a b c => Q (some (.int a)) (hp b c (pm_RT pa pb ga))) hF hQ
      · rw [if_neg z] at hF
        obtain ⟨g, hF⟩ := gd_e hF
        refine ⟨vq_in g, ?_⟩
        exact ret_q (Q := fun a b c => Q (some (.int a)) (hp b c (pm_RT pa pb ga))) hF hQ
    · rw [if_neg (by rw [z]; decide), if_neg (by rw [z]; decide), if_neg (by rw [z]; decide), if_neg (by rw [z]; decide), if_pos z] at hF
      obtain ⟨g, hF⟩ := gd_e hF
      refine ⟨vq_in g, ?_⟩
      refine ⟨fun z => ?_, fun z => ?_⟩
      · rw [if_pos z] at hF
        exact ret_q (Q := fun a b c => Q (some (.int a)) (hp b c (pm_RT pa pb ga))) hF hQ
      · rw [if_neg z] at hF
        obtain ⟨g, hF⟩ := gd_e hF
        refine ⟨vq_in g, ?_⟩
        obtain ⟨g, hF⟩ := gd_e hF
        refine ⟨vq_in g, ?_⟩
        exact ret_q (Q := fun a b c => Q (some (.int a)) (hp b c (pm_RT pa pb ga))) hF hQ
    · rw [if_neg (sw_ne z (by decide) (by decide)), if_neg (sw_ne z (by decide) (by decide)), if_neg (sw_ne z (by decide) (by decide)), if_neg (sw_ne z (by decide) (by decide)), if_neg (sw_ne z (by decide) (by decide))] at hF
      exact ret_q (Q := fun a b c => Q (some (.int a)) (hp b c (pm_RT pa pb ga))) hF hQ
  · rw [if_neg z] at hF
    exact ret_q (Q := fun a b c => Q (some (.int a)) (hp b c (pm_RT pa pb ga))) hF hQ
def F_Mo_strip_65 (u : Nat) : Nat → Int32 → Int32 → Int32 → Int32 → pm_II → pm_JJ → Option (Int32 × pm_II × pm_JJ)
  | 0, _, _, _, _, _, _ => none
  | n + 1, x1, x3, x5, x6, I, J =>
    if x3 ≤ x6 then (
      cond (vq (((12 : Int32) * x1) + x5) 204) (
      bd (F_Jm_min_II u (40 : Int32) ((27 : Int32) + (I 153 (((((12 : Int32) * x1) + x5) : Int32).toNatClampNeg))) I J) fun r120 I120 J120 =>
      some (r120, I120, J120)) none)
    else (
      cond (vq (((160 : Int32) * x1) + x6) 2624) (
      if ¬ (I 149 (((((160 : Int32) * x1) + x6) : Int32).toNatClampNeg)) = 0 then (
        F_Mo_strip_65 u n x1 x3 (x5 + (0 : Int32)) (x6 + Int32.ofInt 1) I J)
      else (
        F_Mo_strip_65 u n x1 x3 (x5 + (1 : Int32)) (x6 + Int32.ofInt 1) I J)) none)
def F_Mo_strip (u : Nat) (x1 : Int32) (x2 : Int32) (I : pm_II) (J : pm_JJ) : Option (Int32 × pm_II × pm_JJ) :=
  bd (F_Mo_isLine u x1 I J) fun r2 I2 J2 =>
  if r2 = 0 then (
    some (((-1) : Int32), I2, J2))
  else (
    cond (vq x1 17) (
    bd (F_Mo_is u x2 (0 : Int32) ((I2 150 ((x1 : Int32).toNatClampNeg)) - (1 : Int32)) I2 J2) fun r18 I18 J18 =>
    if ¬ r18 = 0 then (
      cond (vq x1 17) (
      cond (vq (((160 : Int32) * x1) + (((I18 150 ((x1 : Int32).toNatClampNeg)) - (1 : Int32)) - x2)) 2624) (
      if (I18 149 (((((160 : Int32) * x1) + (((I18 150 ((x1 : Int32).toNatClampNeg)) - (1 : Int32)) - x2)) : Int32).toNatClampNeg)) ≤ 0 then (
        F_Mo_strip_65 u u x1 (((I18 150 ((x1 : Int32).toNatClampNeg)) - (1 : Int32)) - x2) (0 : Int32) (0 : Int32) I18 J18)
      else (
        some ((I18 149 (((((160 : Int32) * x1) + (((I18 150 ((x1 : Int32).toNatClampNeg)) - (1 : Int32)) - x2)) : Int32).toNatClampNeg)), I18, J18))) none) none)
    else (
      some (((-1) : Int32), I18, J18))) none)
theorem fx_Mo_strip_65 {u k : Nat} {pa pb : Nat} {ga : Nat → Nat} {Q : Option Value → pm_H → Prop} (hk : 2 ≤ k) : ∀ (n : Nat), ∀ (x1 : Int32) (x2 : Int32) (x3 : Int32) (x4 : Int32) (x5 : Int32) (x6 : Int32) (I : pm_II) (J : pm_JJ) (r : Int32) (I2 : pm_II) (J2 : pm_JJ), F_Mo_strip_65 u n x1 x3 x5 x6 I J = some (r, I2, J2) → Q (some (.int r)) (hp I2 J2 (pm_RT pa pb ga)) → Px k 176 m_Mo_strip 65 [.ref 120, .int x1, .int x2, .int x3, .int x4, .int x5, .int x6] [] (hp I J (pm_RT pa pb ga)) Q := by
  obtain ⟨k, rfl⟩ : ∃ j, k = j + 1 := ⟨k - 1, by omega⟩
  intro n
  induction n with
  | zero => intro x1 x2 x3 x4 x5 x6 I J r I2 J2  hF; cases hF
  | succ n ih =>
    intro x1 x2 x3 x4 x5 x6 I J r I2 J2  hF hQ
    rw [F_Mo_strip_65] at hF
    refine bk_Mo_strip_65 ?_
    refine ⟨fun z => ?_, fun z => ?_⟩
    · rw [if_pos z] at hF
      obtain ⟨g, hF⟩ := gd_e hF
      refine ⟨vq_in g, ?_⟩
      obtain ⟨r120, I120, J120, hC120, hF⟩ := bd_e hF
      refine fx_Jm_min_II (by omega) hC120 ⟨rfl, ?_⟩
      refine bk_Mo_strip_123 ?_
      exact ret_q (Q := fun a b c => Q (some (.int a)) (hp b c (pm_RT pa pb ga))) hF hQ
    · rw [if_neg z] at hF
      obtain ⟨g, hF⟩ := gd_e hF
      refine ⟨vq_in g, ?_⟩
      refine ⟨fun z => ?_, fun z => ?_⟩
      · rw [if_pos z] at hF
        exact ih _ _ _ _ _ _ _ _ _ _ _ hF hQ
      · rw [if_neg z] at hF
        exact ih _ _ _ _ _ _ _ _ _ _ _ hF hQ
theorem fx_Mo_strip {u k : Nat} {pa pb : Nat} {ga : Nat → Nat} {Q : Option Value → pm_H → Prop} {x1 : Int32} {x2 : Int32} {I : pm_II} {J : pm_JJ} {r : Int32} {I2 : pm_II} {J2 : pm_JJ} (hk : 2 ≤ k) (hF : F_Mo_strip u x1 x2 I J = some (r, I2, J2)) (hQ : Q (some (.int r)) (hp I2 J2 (pm_RT pa pb ga))) : Px k 176 m_Mo_strip 0 [.ref 120, .int x1, .int x2, .null, .null, .null, .null] [] (hp I J (pm_RT pa pb ga)) Q := by
  obtain ⟨k, rfl⟩ : ∃ j, k = j + 1 := ⟨k - 1, by omega⟩
  unfold F_Mo_strip at hF
  refine bk_Mo_strip_0 ?_
  obtain ⟨r2, I2, J2, hC2, hF⟩ := bd_e hF
  refine fx_Mo_isLine (by omega) hC2 ⟨rfl, ?_⟩
  refine bk_Mo_strip_5 ?_
  refine ⟨fun z => ?_, fun z => ?_⟩
  · rw [if_pos z] at hF
    exact ret_q (Q := fun a b c => Q (some (.int a)) (hp b c (pm_RT pa pb ga))) hF hQ
  · rw [if_neg z] at hF
    obtain ⟨g, hF⟩ := gd_e hF
    refine ⟨vq_in g, ?_⟩
    obtain ⟨r18, I18, J18, hC18, hF⟩ := bd_e hF
    refine fx_Mo_is (by omega) hC18 ⟨rfl, ?_⟩
    refine bk_Mo_strip_21 ?_
    refine ⟨fun z => ?_, fun z => ?_⟩
    · rw [if_pos z] at hF
      obtain ⟨g, hF⟩ := gd_e hF
      refine ⟨vq_in g, ?_⟩
      obtain ⟨g, hF⟩ := gd_e hF
      refine ⟨vq_in g, ?_⟩
      refine ⟨fun z => ?_, fun z => ?_⟩
      · rw [if_pos z] at hF
        exact fx_Mo_strip_65 hk u _ _ _ _ _ _ _ _ _ _ _ hF hQ
      · rw [if_neg z] at hF
        exact ret_q (Q := fun a b c => Q (some (.int a)) (hp b c (pm_RT pa pb ga))) hF hQ
    · rw [if_neg z] at hF
      exact ret_q (Q := fun a b c => Q (some (.int a)) (hp b c (pm_RT pa pb ga))) hF hQ
def F_Mo_left (u : Nat) (x1 : Int32) (I : pm_II) (J : pm_JJ) : Option (Int32 × pm_II × pm_JJ) :=
  bd (F_Mo_is u x1 (1 : Int32) (26 : Int32) I J) fun r4 I4 J4 =>
  if r4 = 0 then (
    some (((-1) : Int32), I4, J4))
  else (
    cond (vq x1 27) (
    some ((I4 146 ((x1 : Int32).toNatClampNeg)), I4, J4)) none)
theorem fx_Mo_left {u k : Nat} {pa pb : Nat} {ga : Nat → Nat} {Q : Option Value → pm_H → Prop} {x1 : Int32} {I : pm_II} {J : pm_JJ} {r : Int32} {I2 : pm_II} {J2 : pm_JJ} (hk : 1 ≤ k) (hF : F_Mo_left u x1 I J = some (r, I2, J2)) (hQ : Q (some (.int r)) (hp I2 J2 (pm_RT pa pb ga))) : Px k 176 m_Mo_left 0 [.ref 120, .int x1] [] (hp I J (pm_RT pa pb ga)) Q := by
  obtain ⟨k, rfl⟩ : ∃ j, k = j + 1 := ⟨k - 1, by omega⟩
  unfold F_Mo_left at hF
  refine bk_Mo_left_0 ?_
  obtain ⟨r4, I4, J4, hC4, hF⟩ := bd_e hF
  refine fx_Mo_is (by omega) hC4 ⟨rfl, ?_⟩
  refine bk_Mo_left_7 ?_
  refine ⟨fun z => ?_, fun z => ?_⟩
  · rw [if_pos z] at hF
    exact ret_q (Q := fun a b c => Q (some (.int a)) (hp b c (pm_RT pa pb ga))) hF hQ
  · rw [if_neg z] at hF
    obtain ⟨g, hF⟩ := gd_e hF
    refine ⟨vq_in g, ?_⟩
    exact ret_q (Q := fun a b c => Q (some (.int a)) (hp b c (pm_RT pa pb ga))) hF hQ
def F_Mo_pile_343 (u : Nat) (K58 : Int32 → pm_II → pm_JJ → Option (Int32 × pm_II × pm_JJ)) (x3 : Int32) (x4 : Int32) (x5 : Int32) (x6 : Int32) (s1 : Int32) (s2 : Int32) (I : pm_II) (J : pm_JJ) : Option (Int32 × pm_II × pm_JJ) :=
  cond (vq s1 32) (
  if x4 = 0 then (
    cond (vq x5 32) (
    K58 (x3 + Int32.ofInt 1) (pm_up (pm_up I 160 ((s1 : Int32).toNatClampNeg) s2) 161 ((x5 : Int32).toNatClampNeg) x6) J) none)
  else (
    cond (vq x5 32) (
    cond (vq x5 32) (
    K58 (x3 + Int32.ofInt 1) (pm_up (pm_up I 160 ((s1 : Int32).toNatClampNeg) s2) 161 ((x5 : Int32).toNatClampNeg) (I 161 ((x5 : Int32).toNatClampNeg))) J) none) none)) none
def F_Mo_pile_319 (u : Nat) (K58 : Int32 → pm_II → pm_JJ → Option (Int32 × pm_II × pm_JJ)) (x3 : Int32) (x4 : Int32) (x5 : Int32) (x6 : Int32) (s1 : Int32) (s2 : Int32) (I : pm_II) (J : pm_JJ) : Option (Int32 × pm_II × pm_JJ) :=
  cond (vq s1 32) (
  if x4 = 0 then (
    cond (vq x5 32) (
    F_Mo_pile_343 u K58 x3 x4 x5 x6 x5 (I 160 ((x5 : Int32).toNatClampNeg)) (pm_up I 161 ((s1 : Int32).toNatClampNeg) s2) J) none)
  else (
    F_Mo_pile_343 u K58 x3 x4 x5 x6 x5 x6 (pm_up I 161 ((s1 : Int32).toNatClampNeg) s2) J)) none
def F_Mo_pile_288 (u : Nat) (K58 : Int32 → pm_II → pm_JJ → Option (Int32 × pm_II × pm_JJ)) (x3 : Int32) (x4 : Int32) (x5 : Int32) (x6 : Int32) (s1 : Int32) (s2 : Int32) (I : pm_II) (J : pm_JJ) : Option (Int32 × pm_II × pm_JJ) :=
  cond (vq s1 32) (
  if x4 = 0 then (
    cond (vq x5 32) (
    F_Mo_pile_319 u K58 x3 x4 x5 x6 x3 ((I 161 ((x5 : Int32).toNatClampNeg)) - x6) (pm_up I 160 ((s1 : Int32).toNatClampNeg) s2) J) none)
  else (
    cond (vq x5 32) (
    F_Mo_pile_319 u K58 x3 x4 x5 x6 x3 (I 161 ((x5 : Int32).toNatClampNeg)) (pm_up I 160 ((s1 : Int32).toNatClampNeg) s2) J) none)) none
def F_Mo_pile_257 (u : Nat) (K58 : Int32 → pm_II → pm_JJ → Option (Int32 × pm_II × pm_JJ)) (x3 : Int32) (x4 : Int32) (x5 : Int32) (x6 : Int32) (s1 : Int32) (s2 : Int32) (I : pm_II) (J : pm_JJ) : Option (Int32 × pm_II × pm_JJ) :=
  cond (vq s1 32) (
  if x4 = 0 then (
    cond (vq x5 32) (
    F_Mo_pile_288 u K58 x3 x4 x5 x6 x3 (I 160 ((x5 : Int32).toNatClampNeg)) (pm_up I 159 ((s1 : Int32).toNatClampNeg) s2) J) none)
  else (
    cond (vq x5 32) (
    F_Mo_pile_288 u K58 x3 x4 x5 x6 x3 ((I 160 ((x5 : Int32).toNatClampNeg)) - x6) (pm_up I 159 ((s1 : Int32).toNatClampNeg) s2) J) none)) none
def F_Mo_pile_226 (u : Nat) (K58 : Int32 → pm_II → pm_JJ → Option (Int32 × pm_II × pm_JJ)) (x3 : Int32) (x4 : Int32) (x5 : Int32) (x6 : Int32) (s1 : Int32) (s2 : Int32) (I : pm_II) (J : pm_JJ) : Option (Int32 × pm_II × pm_JJ) :=
  cond (vq s1 32) (
  if x4 = 0 then (
    cond (vq x5 32) (
    F_Mo_pile_257 u K58 x3 x4 x5 x6 x3 ((I 159 ((x5 : Int32).toNatClampNeg)) + x6) (pm_up I 158 ((s1 : Int32).toNatClampNeg) s2) J) none)
  else (
    cond (vq x5 32) (
    F_Mo_pile_257 u K58 x3 x4 x5 x6 x3 (I 159 ((x5 : Int32).toNatClampNeg)) (pm_up I 158 ((s1 : Int32).toNatClampNeg) s2) J) none)) none
def F_Mo_pile_178 (u : Nat) (K58 : Int32 → pm_II → pm_JJ → Option (Int32 × pm_II × pm_JJ)) (x3 : Int32) (x4 : Int32) (x5 : Int32) (s0 : Int32) (I : pm_II) (J : pm_JJ) : Option (Int32 × pm_II × pm_JJ) :=
  bd (F_Mo_need u (10 : Int32) I J) fun _ I183 J183 =>
  bd (F_Mo_bad u I183 J183) fun r187 I187 J187 =>
  if r187 = 0 then (
    if x4 = 0 then (
      cond (vq x5 32) (
      F_Mo_pile_226 u K58 x3 x4 x5 s0 x3 (I187 158 ((x5 : Int32).toNatClampNeg)) I187 J187) none)
    else (
      cond (vq x5 32) (
      F_Mo_pile_226 u K58 x3 x4 x5 s0 x3 ((I187 158 ((x5 : Int32).toNatClampNeg)) + s0) I187 J187) none))
  else (
    K58 x3 I187 J187)
def F_Mo_pile_173 (u : Nat) (K58 : Int32 → pm_II → pm_JJ → Option (Int32 × pm_II × pm_JJ)) (x3 : Int32) (x4 : Int32) (x5 : Int32) (s1 : Int32) (s2 : Int32) (I : pm_II) (J : pm_JJ) : Option (Int32 × pm_II × pm_JJ) :=
  bd (F_Mo_behind u s1 (s2 - (1 : Int32)) I J) fun r175 I175 J175 =>
  F_Mo_pile_178 u K58 x3 x4 x5 r175 I175 J175
def F_Mo_pile_128 (u : Nat) (K58 : Int32 → pm_II → pm_JJ → Option (Int32 × pm_II × pm_JJ)) (x3 : Int32) (x4 : Int32) (I : pm_II) (J : pm_JJ) : Option (Int32 × pm_II × pm_JJ) :=
  bd (F_Mo_behind u (0 : Int32) (x3 - (1 : Int32)) I J) fun r133 I133 J133 =>
  bd (F_Mo_bad u I133 J133) fun r139 I139 J139 =>
  if r139 = 0 then (
    if x4 = 0 then (
      cond (vq r133 32) (
      F_Mo_pile_173 u K58 x3 x4 r133 (1 : Int32) (I139 161 ((r133 : Int32).toNatClampNeg)) I139 J139) none)
    else (
      cond (vq r133 32) (
      F_Mo_pile_173 u K58 x3 x4 r133 (1 : Int32) (I139 160 ((r133 : Int32).toNatClampNeg)) I139 J139) none))
  else (
    F_Mo_pile_178 u K58 x3 x4 r133 (0 : Int32) I139 J139)
def F_Mo_pile_120 (u : Nat) (K58 : Int32 → pm_II → pm_JJ → Option (Int32 × pm_II × pm_JJ)) (x3 : Int32) (x4 : Int32) (I : pm_II) (J : pm_JJ) : Option (Int32 × pm_II × pm_JJ) :=
  bd (F_Mo_fail u (I 120 4) I J) fun _ I125 J125 =>
  F_Mo_pile_128 u K58 x3 x4 I125 J125
def F_Mo_pile_97 (u : Nat) (K58 : Int32 → pm_II → pm_JJ → Option (Int32 × pm_II × pm_JJ)) (x3 : Int32) (s0 : Int32) (I : pm_II) (J : pm_JJ) : Option (Int32 × pm_II × pm_JJ) :=
  if x3 = 31 then (
    F_Mo_pile_120 u K58 x3 s0 I J)
  else (
    if ¬ s0 = 0 then (
      F_Mo_pile_128 u K58 x3 s0 I J)
    else (
      bd (F_Mo_isWord u 10 I J) fun r114 I114 J114 =>
      if ¬ r114 = 0 then (
        F_Mo_pile_128 u K58 x3 s0 I114 J114)
      else (
        F_Mo_pile_120 u K58 x3 s0 I114 J114)))
def F_Mo_pile_398 (u : Nat) : Nat → Int32 → Int32 → pm_II → pm_JJ → Option (Int32 × pm_II × pm_JJ)
  | 0, _, _, _, _ => none
  | n + 1, x3, x4, I, J =>
    if x3 ≤ x4 then (
      some ((I 120 65), I, J))
    else (
      cond (vq x4 32) (
      cond (vq x4 32) (
      cond (vq x4 32) (
      cond (vq x4 32) (
      cond (vq x4 32) (
      cond (vq x4 32) (
      cond (vq x4 32) (
      cond (vq x4 32) (
      F_Mo_pile_398 u n x3 (x4 + Int32.ofInt 1) (pm_up (pm_up (pm_up (pm_up I 154 ((x4 : Int32).toNatClampNeg) (I 158 ((x4 : Int32).toNatClampNeg))) 155 ((x4 : Int32).toNatClampNeg) (I 159 ((x4 : Int32).toNatClampNeg))) 156 ((x4 : Int32).toNatClampNeg) (I 160 ((x4 : Int32).toNatClampNeg))) 157 ((x4 : Int32).toNatClampNeg) (I 161 ((x4 : Int32).toNatClampNeg))) J) none) none) none) none) none) none) none) none)
def F_Mo_pile_374 (u : Nat) (x3 : Int32) (I : pm_II) (J : pm_JJ) : Option (Int32 × pm_II × pm_JJ) :=
  bd (F_Mo_bad u I J) fun r375 I375 J375 =>
  if r375 = 0 then (
    F_Mo_pile_398 u u x3 (0 : Int32) (pm_up I375 120 65 x3) J375)
  else (
    some ((((-1000) : Int32) - (I375 120 5)), I375, J375))
def F_Mo_pile_58 (u : Nat) : Nat → Int32 → pm_II → pm_JJ → Option (Int32 × pm_II × pm_JJ)
  | 0, _, _, _ => none
  | n + 1, x3, I, J =>
    bd (F_Mo_bad u I J) fun r59 I59 J59 =>
    if ¬ r59 = 0 then (
      F_Mo_pile_374 u x3 I59 J59)
    else (
      if (I59 120 3) ≤ (I59 120 4) then (
        F_Mo_pile_374 u x3 I59 J59)
      else (
        if 31 ≤ x3 then (
          F_Mo_pile_97 u (F_Mo_pile_58 u n) x3 (0 : Int32) I59 J59)
        else (
          bd (F_Mo_isWord u 9 I59 J59) fun r86 I86 J86 =>
          if r86 = 0 then (
            F_Mo_pile_97 u (F_Mo_pile_58 u n) x3 (0 : Int32) I86 J86)
          else (
            F_Mo_pile_97 u (F_Mo_pile_58 u n) x3 (1 : Int32) I86 J86))))
def F_Mo_pile (u : Nat) (x1 : Int32) (x2 : Int32) (I : pm_II) (J : pm_JJ) : Option (Int32 × pm_II × pm_JJ) :=
  bd (F_Mo_is u x1 (1 : Int32) (999 : Int32) I J) fun r5 I5 J5 =>
  if r5 = 0 then (
    some (((-1) : Int32), I5, J5))
  else (
    bd (F_Mo_is u x2 (1 : Int32) (999 : Int32) I5 J5) fun r16 I16 J16 =>
    if ¬ r16 = 0 then (
      bd (F_Mo_take u I16 J16) fun _ I25 J25 =>
      F_Mo_pile_58 u u (1 : Int32) (pm_up (pm_up (pm_up (pm_up I25 158 0 0) 159 0 0) 160 0 x1) 161 0 x2) J25)
    else (
      some (((-1) : Int32), I16, J16)))
theorem fx_Mo_pile_343 {u k : Nat} {pa pb : Nat} {ga : Nat → Nat} {Q : Option Value → pm_H → Prop} {K58 : Int32 → pm_II → pm_JJ → Option (Int32 × pm_II × pm_JJ)} {x1 : Int32} {x2 : Int32} {x3 : Int32} {x4 : Int32} {x5 : Int32} {x6 : Int32} {s1 : Int32} {s2 : Int32} {I : pm_II} {J : pm_JJ} {r : Int32} {I2 : pm_II} {J2 : pm_JJ} (hk : 5 ≤ k) (hK58 : ∀ (x1 : Int32) (x2 : Int32) (x3 : Int32) (I : pm_II) (J : pm_JJ) (r : Int32) (I2 : pm_II) (J2 : pm_JJ), K58 x3 I J = some (r, I2, J2) → Q (some (.int r)) (hp I2 J2 (pm_RT pa pb ga)) → Px k 176 m_Mo_pile 58 [.ref 120, .int x1, .int x2, .int x3, .null, .null, .null] [] (hp I J (pm_RT pa pb ga)) Q) (hF : F_Mo_pile_343 u K58 x3 x4 x5 x6 s1 s2 I J = some (r, I2, J2)) (hQ : Q (some (.int r)) (hp I2 J2 (pm_RT pa pb ga))) : Px k 176 m_Mo_pile 343 [.ref 120, .int x1, .int x2, .int x3, .int x4, .int x5, .int x6] [.int s2, .int s1, .ref 160] (hp I J (pm_RT pa pb ga)) Q := by
  obtain ⟨k, rfl⟩ : ∃ j, k = j + 1 := ⟨k - 1, by omega⟩
  unfold F_Mo_pile_343 at hF
  refine bk_Mo_pile_343 ?_
  obtain ⟨g, hF⟩ := gd_e hF
  refine ⟨vq_in g, ?_⟩
  refine ⟨fun z => ?_, fun z => ?_⟩
  · rw [if_pos z] at hF
    obtain ⟨g, hF⟩ := gd_e hF
    refine ⟨vq_in g, ?_⟩
    exact Px_wk (hK58 _ _ _ _ _ _ _ _ hF hQ) ⟨Or.inl rfl, Or.inl rfl, Or.inl rfl, Or.inl rfl, Or.inr ⟨rfl, rfl⟩, Or.inr ⟨rfl, rfl⟩, Or.inr ⟨rfl, rfl⟩, trivial⟩
  · rw [if_neg z] at hF
    obtain ⟨g, hF⟩ := gd_e hF
    refine ⟨vq_in g, ?_⟩
    obtain ⟨g, hF⟩ := gd_e hF
    refine ⟨vq_in g, ?_⟩
    exact Px_wk (hK58 _ _ _ _ _ _ _ _ hF hQ) ⟨Or.inl rfl, Or.inl rfl, Or.inl rfl, Or.inl rfl, Or.inr ⟨rfl, rfl⟩, Or.inr ⟨rfl, rfl⟩, Or.inr ⟨rfl, rfl⟩, trivial⟩
theorem fx_Mo_pile_319 {u k : Nat} {pa pb : Nat} {ga : Nat → Nat} {Q : Option Value → pm_H → Prop} {K58 : Int32 → pm_II → pm_JJ → Option (Int32 × pm_II × pm_JJ)} {x1 : Int32} {x2 : Int32} {x3 : Int32} {x4 : Int32} {x5 : Int32} {x6 : Int32} {s1 : Int32} {s2 : Int32} {I : pm_II} {J : pm_JJ} {r : Int32} {I2 : pm_II} {J2 : pm_JJ} (hk : 5 ≤ k) (hK58 : ∀ (x1 : Int32) (x2 : Int32) (x3 : Int32) (I : pm_II) (J : pm_JJ) (r : Int32) (I2 : pm_II) (J2 : pm_JJ), K58 x3 I J = some (r, I2, J2) → Q (some (.int r)) (hp I2 J2 (pm_RT pa pb ga)) → Px k 176 m_Mo_pile 58 [.ref 120, .int x1, .int x2, .int x3, .null, .null, .null] [] (hp I J (pm_RT pa pb ga)) Q) (hF : F_Mo_pile_319 u K58 x3 x4 x5 x6 s1 s2 I J = some (r, I2, J2)) (hQ : Q (some (.int r)) (hp I2 J2 (pm_RT pa pb ga))) : Px k 176 m_Mo_pile 319 [.ref 120, .int x1, .int x2, .int x3, .int x4, .int x5, .int x6] [.int s2, .int s1, .ref 161] (hp I J (pm_RT pa pb ga)) Q := by
  obtain ⟨k, rfl⟩ : ∃ j, k = j + 1 := ⟨k - 1, by omega⟩
  unfold F_Mo_pile_319 at hF
  refine bk_Mo_pile_319 ?_
  obtain ⟨g, hF⟩ := gd_e hF
  refine ⟨vq_in g, ?_⟩
  refine ⟨fun z => ?_, fun z => ?_⟩
  · rw [if_pos z] at hF
    obtain ⟨g, hF⟩ := gd_e hF
    refine ⟨vq_in g, ?_⟩
    exact fx_Mo_pile_343 hk hK58 hF hQ
  · rw [if_neg z] at hF
    exact fx_Mo_pile_343 hk hK58 hF hQ
theorem fx_Mo_pile_288 {u k : Nat} {pa pb : Nat} {ga : Nat → Nat} {Q : Option Value → pm_H → Prop} {K58 : Int32 → pm_II → pm_JJ → Option (Int32 × pm_II × pm_JJ)} {x1 : Int32} {x2 : Int32} {x3 : Int32} {x4 : Int32} {x5 : Int32} {x6 : Int32} {s1 : Int32} {s2 : Int32} {I : pm_II} {J : pm_JJ} {r : Int32} {I2 : pm_II} {J2 : pm_JJ} (hk : 5 ≤ k) (hK58 : ∀ (x1 : Int32) (x2 : Int32) (x3 : Int32) (I : pm_II) (J : pm_JJ) (r : Int32) (I2 : pm_II) (J2 : pm_JJ), K58 x3 I J = some (r, I2, J2) → Q (some (.int r)) (hp I2 J2 (pm_RT pa pb ga)) → Px k 176 m_Mo_pile 58 [.ref 120, .int x1, .int x2, .int x3, .null, .null, .null] [] (hp I J (pm_RT pa pb ga)) Q) (hF : F_Mo_pile_288 u K58 x3 x4 x5 x6 s1 s2 I J = some (r, I2, J2)) (hQ : Q (some (.int r)) (hp I2 J2 (pm_RT pa pb ga))) : Px k 176 m_Mo_pile 288 [.ref 120, .int x1, .int x2, .int x3, .int x4, .int x5, .int x6] [.int s2, .int s1, .ref 160] (hp I J (pm_RT pa pb ga)) Q := by
  obtain ⟨k, rfl⟩ : ∃ j, k = j + 1 := ⟨k - 1, by omega⟩
  unfold F_Mo_pile_288 at hF
  refine bk_Mo_pile_288 ?_
  obtain ⟨g, hF⟩ := gd_e hF
  refine ⟨vq_in g, ?_⟩
  refine ⟨fun z => ?_, fun z => ?_⟩
  · rw [if_pos z] at hF
    obtain ⟨g, hF⟩ := gd_e hF
    refine ⟨vq_in g, ?_⟩
    exact fx_Mo_pile_319 hk hK58 hF hQ
  · rw [if_neg z] at hF
    obtain ⟨g, hF⟩ := gd_e hF
    refine ⟨vq_in g, ?_⟩
    exact fx_Mo_pile_319 hk hK58 hF hQ
theorem fx_Mo_pile_257 {u k : Nat} {pa pb : Nat} {ga : Nat → Nat} {Q : Option Value → pm_H → Prop} {K58 : Int32 → pm_II → pm_JJ → Option (Int32 × pm_II × pm_JJ)} {x1 : Int32} {x2 : Int32} {x3 : Int32} {x4 : Int32} {x5 : Int32} {x6 : Int32} {s1 : Int32} {s2 : Int32} {I : pm_II} {J : pm_JJ} {r : Int32} {I2 : pm_II} {J2 : pm_JJ} (hk : 5 ≤ k) (hK58 : ∀ (x1 : Int32) (x2 : Int32) (x3 : Int32) (I : pm_II) (J : pm_JJ) (r : Int32) (I2 : pm_II) (J2 : pm_JJ), K58 x3 I J = some (r, I2, J2) → Q (some (.int r)) (hp I2 J2 (pm_RT pa pb ga)) → Px k 176 m_Mo_pile 58 [.ref 120, .int x1, .int x2, .int x3, .null, .null, .null] [] (hp I J (pm_RT pa pb ga)) Q) (hF : F_Mo_pile_257 u K58 x3 x4 x5 x6 s1 s2 I J = some (r, I2, J2)) (hQ : Q (some (.int r)) (hp I2 J2 (pm_RT pa pb ga))) : Px k 176 m_Mo_pile 257 [.ref 120, .int x1, .int x2, .int x3, .int x4, .int x5, .int x6] [.int s2, .int s1, .ref 159] (hp I J (pm_RT pa pb ga)) Q := by
  obtain ⟨k, rfl⟩ : ∃ j, k = j + 1 := ⟨k - 1, by omega⟩
  unfold F_Mo_pile_257 at hF
  refine bk_Mo_pile_257 ?_
  obtain ⟨g, hF⟩ := gd_e hF
  refine ⟨vq_in g, ?_⟩
  refine ⟨fun z => ?_, fun z => ?_⟩
  · rw [if_pos z] at hF
    obtain ⟨g, hF⟩ := gd_e hF
    refine ⟨vq_in g, ?_⟩
    exact fx_Mo_pile_288 hk hK58 hF hQ
  · rw [if_neg z] at hF
    obtain ⟨g, hF⟩ := gd_e hF
    refine ⟨vq_in g, ?_⟩
    exact fx_Mo_pile_288 hk hK58 hF hQ
theorem fx_Mo_pile_226 {u k : Nat} {pa pb : Nat} {ga : Nat → Nat} {Q : Option Value → pm_H → Prop} {K58 : Int32 → pm_II → pm_JJ → Option (Int32 × pm_II × pm_JJ)} {x1 : Int32} {x2 : Int32} {x3 : Int32} {x4 : Int32} {x5 : Int32} {x6 : Int32} {s1 : Int32} {s2 : Int32} {I : pm_II} {J : pm_JJ} {r : Int32} {I2 : pm_II} {J2 : pm_JJ} (hk : 5 ≤ k) (hK58 : ∀ (x1 : Int32) (x2 : Int32) (x3 : Int32) (I : pm_II) (J : pm_JJ) (r : Int32) (I2 : pm_II) (J2 : pm_JJ), K58 x3 I J = some (r, I2, J2) → Q (some (.int r)) (hp I2 J2 (pm_RT pa pb ga)) → Px k 176 m_Mo_pile 58 [.ref 120, .int x1, .int x2, .int x3, .null, .null, .null] [] (hp I J (pm_RT pa pb ga)) Q) (hF : F_Mo_pile_226 u K58 x3 x4 x5 x6 s1 s2 I J = some (r, I2, J2)) (hQ : Q (some (.int r)) (hp I2 J2 (pm_RT pa pb ga))) : Px k 176 m_Mo_pile 226 [.ref 120, .int x1, .int x2, .int x3, .int x4, .int x5, .int x6] [.int s2, .int s1, .ref 158] (hp I J (pm_RT pa pb ga)) Q := by
  obtain ⟨k, rfl⟩ : ∃ j, k = j + 1 := ⟨k - 1, by omega⟩
  unfold F_Mo_pile_226 at hF
  refine bk_Mo_pile_226 ?_
  obtain ⟨g, hF⟩ := gd_e hF
  refine ⟨vq_in g, ?_⟩
  refine ⟨fun z => ?_, fun z => ?_⟩
  · rw [if_pos z] at hF
    obtain ⟨g, hF⟩ := gd_e hF
    refine ⟨vq_in g, ?_⟩
    exact fx_Mo_pile_257 hk hK58 hF hQ
  · rw [if_neg z] at hF
    obtain ⟨g, hF⟩ := gd_e hF
    refine ⟨vq_in g, ?_⟩
    exact fx_Mo_pile_257 hk hK58 hF hQ
theorem fx_Mo_pile_178 {u k : Nat} {pa pb : Nat} {ga : Nat → Nat} {Q : Option Value → pm_H → Prop} {K58 : Int32 → pm_II → pm_JJ → Option (Int32 × pm_II × pm_JJ)} {x1 : Int32} {x2 : Int32} {x3 : Int32} {x4 : Int32} {x5 : Int32} {s0 : Int32} {I : pm_II} {J : pm_JJ} {r : Int32} {I2 : pm_II} {J2 : pm_JJ} (hk : 5 ≤ k) (hK58 : ∀ (x1 : Int32) (x2 : Int32) (x3 : Int32) (I : pm_II) (J : pm_JJ) (r : Int32) (I2 : pm_II) (J2 : pm_JJ), K58 x3 I J = some (r, I2, J2) → Q (some (.int r)) (hp I2 J2 (pm_RT pa pb ga)) → Px k 176 m_Mo_pile 58 [.ref 120, .int x1, .int x2, .int x3, .null, .null, .null] [] (hp I J (pm_RT pa pb ga)) Q) (hF : F_Mo_pile_178 u K58 x3 x4 x5 s0 I J = some (r, I2, J2)) (hQ : Q (some (.int r)) (hp I2 J2 (pm_RT pa pb ga))) : Px k 176 m_Mo_pile 178 [.ref 120, .int x1, .int x2, .int x3, .int x4, .int x5, .null] [.int s0] (hp I J (pm_RT pa pb ga)) Q := by
  obtain ⟨k, rfl⟩ : ∃ j, k = j + 1 := ⟨k - 1, by omega⟩
  unfold F_Mo_pile_178 at hF
  refine bk_Mo_pile_178 ?_
  obtain ⟨r183, I183, J183, hC183, hF⟩ := bd_e hF
  refine fx_Mo_need (by omega) hC183 ⟨rfl, ?_⟩
  refine bk_Mo_pile_186 ?_
  obtain ⟨r187, I187, J187, hC187, hF⟩ := bd_e hF
  refine fx_Mo_bad (by omega) hC187 ⟨rfl, ?_⟩
  refine bk_Mo_pile_190 ?_
  refine ⟨fun z => ?_, fun z => ?_⟩
  · rw [if_pos z] at hF
    refine ⟨fun z => ?_, fun z => ?_⟩
    · rw [if_pos z] at hF
      obtain ⟨g, hF⟩ := gd_e hF
      refine ⟨vq_in g, ?_⟩
      exact fx_Mo_pile_226 hk hK58 hF hQ
    · rw [if_neg z] at hF
      obtain ⟨g, hF⟩ := gd_e hF
      refine ⟨vq_in g, ?_⟩
      exact fx_Mo_pile_226 hk hK58 hF hQ
  · rw [if_neg z] at hF
    exact Px_wk (hK58 _ _ _ _ _ _ _ _ hF hQ) ⟨Or.inl rfl, Or.inl rfl, Or.inl rfl, Or.inl rfl, Or.inr ⟨rfl, rfl⟩, Or.inr ⟨rfl, rfl⟩, Or.inr ⟨rfl, rfl⟩, trivial⟩
theorem fx_Mo_pile_173 {u k : Nat} {pa pb : Nat} {ga : Nat → Nat} {Q : Option Value → pm_H → Prop} {K58 : Int32 → pm_II → pm_JJ → Option (Int32 × pm_II × pm_JJ)} {x1 : Int32} {x2 : Int32} {x3 : Int32} {x4 : Int32} {x5 : Int32} {s1 : Int32} {s2 : Int32} {I : pm_II} {J : pm_JJ} {r : Int32} {I2 : pm_II} {J2 : pm_JJ} (hk : 5 ≤ k) (hK58 : ∀ (x1 : Int32) (x2 : Int32) (x3 : Int32) (I : pm_II) (J : pm_JJ) (r : Int32) (I2 : pm_II) (J2 : pm_JJ), K58 x3 I J = some (r, I2, J2) → Q (some (.int r)) (hp I2 J2 (pm_RT pa pb ga)) → Px k 176 m_Mo_pile 58 [.ref 120, .int x1, .int x2, .int x3, .null, .null, .null] [] (hp I J (pm_RT pa pb ga)) Q) (hF : F_Mo_pile_173 u K58 x3 x4 x5 s1 s2 I J = some (r, I2, J2)) (hQ : Q (some (.int r)) (hp I2 J2 (pm_RT pa pb ga))) : Px k 176 m_Mo_pile 173 [.ref 120, .int x1, .int x2, .int x3, .int x4, .int x5, .null] [.int s2, .int s1, .ref 120] (hp I J (pm_RT pa pb ga)) Q := by
  obtain ⟨k, rfl⟩ : ∃ j, k = j + 1 := ⟨k - 1, by omega⟩
  unfold F_Mo_pile_173 at hF
  refine bk_Mo_pile_173 ?_
  obtain ⟨r175, I175, J175, hC175, hF⟩ := bd_e hF
  refine fx_Mo_behind (by omega) hC175 ⟨rfl, ?_⟩
  exact fx_Mo_pile_178 hk hK58 hF hQ
theorem fx_Mo_pile_128 {u k : Nat} {pa pb : Nat} {ga : Nat → Nat} {Q : Option Value → pm_H → Prop} {K58 : Int32 → pm_II → pm_JJ → Option (Int32 × pm_II × pm_JJ)} {x1 : Int32} {x2 : Int32} {x3 : Int32} {x4 : Int32} {I : pm_II} {J : pm_JJ} {r : Int32} {I2 : pm_II} {J2 : pm_JJ} (hk : 5 ≤ k) (hK58 : ∀ (x1 : Int32) (x2 : Int32) (x3 : Int32) (I : pm_II) (J : pm_JJ) (r : Int32) (I2 : pm_II) (J2 : pm_JJ), K58 x3 I J = some (r, I2, J2) → Q (some (.int r)) (hp I2 J2 (pm_RT pa pb ga)) → Px k 176 m_Mo_pile 58 [.ref 120, .int x1, .int x2, .int x3, .null, .null, .null] [] (hp I J (pm_RT pa pb ga)) Q) (hF : F_Mo_pile_128 u K58 x3 x4 I J = some (r, I2, J2)) (hQ : Q (some (.int r)) (hp I2 J2 (pm_RT pa pb ga))) : Px k 176 m_Mo_pile 128 [.ref 120, .int x1, .int x2, .int x3, .int x4, .null, .null] [] (hp I J (pm_RT pa pb ga)) Q := by
  obtain ⟨k, rfl⟩ : ∃ j, k = j + 1 := ⟨k - 1, by omega⟩
  unfold F_Mo_pile_128 at hF
  refine bk_Mo_pile_128 ?_
  obtain ⟨r133, I133, J133, hC133, hF⟩ := bd_e hF
  refine fx_Mo_behind (by omega) hC133 ⟨rfl, ?_⟩
  refine bk_Mo_pile_136 ?_
  obtain ⟨r139, I139, J139, hC139, hF⟩ := bd_e hF
  refine fx_Mo_bad (by omega) hC139 ⟨rfl, ?_⟩
  refine bk_Mo_pile_142 ?_
  refine ⟨fun z => ?_, fun z => ?_⟩
  · rw [if_pos z] at hF
    refine ⟨fun z => ?_, fun z => ?_⟩
    · rw [if_pos z] at hF
      obtain ⟨g, hF⟩ := gd_e hF
      refine ⟨vq_in g, ?_⟩
      exact fx_Mo_pile_173 hk hK58 hF hQ
    · rw [if_neg z] at hF
      obtain ⟨g, hF⟩ := gd_e hF
      refine ⟨vq_in g, ?_⟩
      exact fx_Mo_pile_173 hk hK58 hF hQ
  · rw [if_neg z] at hF
    exact fx_Mo_pile_178 hk hK58 hF hQ
theorem fx_Mo_pile_120 {u k : Nat} {pa pb : Nat} {ga : Nat → Nat} {Q : Option Value → pm_H → Prop} {K58 : Int32 → pm_II → pm_JJ → Option (Int32 × pm_II × pm_JJ)} {x1 : Int32} {x2 : Int32} {x3 : Int32} {x4 : Int32} {I : pm_II} {J : pm_JJ} {r : Int32} {I2 : pm_II} {J2 : pm_JJ} (hk : 5 ≤ k) (hK58 : ∀ (x1 : Int32) (x2 : Int32) (x3 : Int32) (I : pm_II) (J : pm_JJ) (r : Int32) (I2 : pm_II) (J2 : pm_JJ), K58 x3 I J = some (r, I2, J2) → Q (some (.int r)) (hp I2 J2 (pm_RT pa pb ga)) → Px k 176 m_Mo_pile 58 [.ref 120, .int x1, .int x2, .int x3, .null, .null, .null] [] (hp I J (pm_RT pa pb ga)) Q) (hF : F_Mo_pile_120 u K58 x3 x4 I J = some (r, I2, J2)) (hQ : Q (some (.int r)) (hp I2 J2 (pm_RT pa pb ga))) : Px k 176 m_Mo_pile 120 [.ref 120, .int x1, .int x2, .int x3, .int x4, .null, .null] [] (hp I J (pm_RT pa pb ga)) Q := by
  obtain ⟨k, rfl⟩ : ∃ j, k = j + 1 := ⟨k - 1, by omega⟩
  unfold F_Mo_pile_120 at hF
  refine bk_Mo_pile_120 ?_
  obtain ⟨r125, I125, J125, hC125, hF⟩ := bd_e hF
  refine fx_Mo_fail (by omega) hC125 ⟨rfl, ?_⟩
  exact fx_Mo_pile_128 hk hK58 hF hQ
theorem fx_Mo_pile_97 {u k : Nat} {pa pb : Nat} {ga : Nat → Nat} {Q : Option Value → pm_H → Prop} {K58 : Int32 → pm_II → pm_JJ → Option (Int32 × pm_II × pm_JJ)} {x1 : Int32} {x2 : Int32} {x3 : Int32} {s0 : Int32} {I : pm_II} {J : pm_JJ} {r : Int32} {I2 : pm_II} {J2 : pm_JJ} (hk : 5 ≤ k) (hK58 : ∀ (x1 : Int32) (x2 : Int32) (x3 : Int32) (I : pm_II) (J : pm_JJ) (r : Int32) (I2 : pm_II) (J2 : pm_JJ), K58 x3 I J = some (r, I2, J2) → Q (some (.int r)) (hp I2 J2 (pm_RT pa pb ga)) → Px k 176 m_Mo_pile 58 [.ref 120, .int x1, .int x2, .int x3, .null, .null, .null] [] (hp I J (pm_RT pa pb ga)) Q) (hF : F_Mo_pile_97 u K58 x3 s0 I J = some (r, I2, J2)) (hQ : Q (some (.int r)) (hp I2 J2 (pm_RT pa pb ga))) : Px k 176 m_Mo_pile 97 [.ref 120, .int x1, .int x2, .int x3, .null, .null, .null] [.int s0] (hp I J (pm_RT pa pb ga)) Q := by
  obtain ⟨k, rfl⟩ : ∃ j, k = j + 1 := ⟨k - 1, by omega⟩
  unfold F_Mo_pile_97 at hF
  refine bk_Mo_pile_97 ?_
  refine ⟨fun z => ?_, fun z => ?_⟩
  · rw [if_pos z] at hF
    exact fx_Mo_pile_120 hk hK58 hF hQ
  · rw [if_neg z] at hF
    refine ⟨fun z => ?_, fun z => ?_⟩
    · rw [if_pos z] at hF
      exact fx_Mo_pile_128 hk hK58 hF hQ
    · rw [if_neg z] at hF
      obtain ⟨r114, I114, J114, hC114, hF⟩ := bd_e hF
      refine fx_Mo_isWord (by omega) ⟨by decide, by decide⟩ hC114 ⟨rfl, ?_⟩
      refine bk_Mo_pile_117 ?_
      refine ⟨fun z => ?_, fun z => ?_⟩
      · rw [if_pos z] at hF
        exact fx_Mo_pile_128 hk hK58 hF hQ
      · rw [if_neg z] at hF
        exact fx_Mo_pile_120 hk hK58 hF hQ
theorem fx_Mo_pile_398 {u k : Nat} {pa pb : Nat} {ga : Nat → Nat} {Q : Option Value → pm_H → Prop} (hk : 5 ≤ k) : ∀ (n : Nat), ∀ (x1 : Int32) (x2 : Int32) (x3 : Int32) (x4 : Int32) (I : pm_II) (J : pm_JJ) (r : Int32) (I2 : pm_II) (J2 : pm_JJ), F_Mo_pile_398 u n x3 x4 I J = some (r, I2, J2) → Q (some (.int r)) (hp I2 J2 (pm_RT pa pb ga)) → Px k 176 m_Mo_pile 398 [.ref 120, .int x1, .int x2, .int x3, .int x4, .null, .null] [] (hp I J (pm_RT pa pb ga)) Q := by
  obtain ⟨k, rfl⟩ : ∃ j, k = j + 1 := ⟨k - 1, by omega⟩
  intro n
  induction n with
  | zero => intro x1 x2 x3 x4 I J r I2 J2  hF; cases hF
  | succ n ih =>
    intro x1 x2 x3 x4 I J r I2 J2  hF hQ
    rw [F_Mo_pile_398] at hF
    refine bk_Mo_pile_398 ?_
    refine ⟨fun z => ?_, fun z => ?_⟩
    · rw [if_pos z] at hF
      exact ret_q (Q := fun a b c => Q (some (.int a)) (hp b c (pm_RT pa pb ga))) hF hQ
    · rw [if_neg z] at hF
      obtain ⟨g, hF⟩ := gd_e hF
      refine ⟨vq_in g, ?_⟩
      obtain ⟨g, hF⟩ := gd_e hF
      refine ⟨vq_in g, ?_⟩
      obtain ⟨g, hF⟩ := gd_e hF
      refine ⟨vq_in g, ?_⟩
      obtain ⟨g, hF⟩ := gd_e hF
      refine ⟨vq_in g, ?_⟩
      obtain ⟨g, hF⟩ := gd_e hF
      refine ⟨vq_in g, ?_⟩
      obtain ⟨g, hF⟩ := gd_e hF
      refine ⟨vq_in g, ?_⟩
      obtain ⟨g, hF⟩ := gd_e hF
      refine ⟨vq_in g, ?_⟩
      obtain ⟨g, hF⟩ := gd_e hF
      refine ⟨vq_in g, ?_⟩
      exact ih _ _ _ _ _ _ _ _ _ hF hQ
theorem fx_Mo_pile_374 {u k : Nat} {pa pb : Nat} {ga : Nat → Nat} {Q : Option Value → pm_H → Prop} {x1 : Int32} {x2 : Int32} {x3 : Int32} {I : pm_II} {J : pm_JJ} {r : Int32} {I2 : pm_II} {J2 : pm_JJ} (hk : 5 ≤ k) (hF : F_Mo_pile_374 u x3 I J = some (r, I2, J2)) (hQ : Q (some (.int r)) (hp I2 J2 (pm_RT pa pb ga))) : Px k 176 m_Mo_pile 374 [.ref 120, .int x1, .int x2, .int x3, .null, .null, .null] [] (hp I J (pm_RT pa pb ga)) Q := by
  obtain ⟨k, rfl⟩ : ∃ j, k = j + 1 := ⟨k - 1, by omega⟩
  unfold F_Mo_pile_374 at hF
  refine bk_Mo_pile_374 ?_
  obtain ⟨r375, I375, J375, hC375, hF⟩ := bd_e hF
  refine fx_Mo_bad (by omega) hC375 ⟨rfl, ?_⟩
  refine bk_Mo_pile_378 ?_
  refine ⟨fun z => ?_, fun z => ?_⟩
  · rw [if_pos z] at hF
    exact fx_Mo_pile_398 hk u _ _ _ _ _ _ _ _ _ hF hQ
  · rw [if_neg z] at hF
    exact ret_q (Q := fun a b c => Q (some (.int a)) (hp b c (pm_RT pa pb ga))) hF hQ
theorem fx_Mo_pile_58 {u k : Nat} {pa pb : Nat} {ga : Nat → Nat} {Q : Option Value → pm_H → Prop} (hk : 5 ≤ k) : ∀ (n : Nat), ∀ (x1 : Int32) (x2 : Int32) (x3 : Int32) (I : pm_II) (J : pm_JJ) (r : Int32) (I2 : pm_II) (J2 : pm_JJ), F_Mo_pile_58 u n x3 I J = some (r, I2, J2) → Q (some (.int r)) (hp I2 J2 (pm_RT pa pb ga)) → Px k 176 m_Mo_pile 58 [.ref 120, .int x1, .int x2, .int x3, .null, .null, .null] [] (hp I J (pm_RT pa pb ga)) Q := by
  obtain ⟨k, rfl⟩ : ∃ j, k = j + 1 := ⟨k - 1, by omega⟩
  intro n
  induction n with
  | zero => intro x1 x2 x3 I J r I2 J2  hF; cases hF
  | succ n ih =>
    intro x1 x2 x3 I J r I2 J2  hF hQ
    rw [F_Mo_pile_58] at hF
    refine bk_Mo_pile_58 ?_
    obtain ⟨r59, I59, J59, hC59, hF⟩ := bd_e hF
    refine fx_Mo_bad (by omega) hC59 ⟨rfl, ?_⟩
    refine bk_Mo_pile_62 ?_
    refine ⟨fun z => ?_, fun z => ?_⟩
    · rw [if_pos z] at hF
      exact fx_Mo_pile_374 hk hF hQ
    · rw [if_neg z] at hF
      refine ⟨fun z => ?_, fun z => ?_⟩
      · rw [if_pos z] at hF
        exact fx_Mo_pile_374 hk hF hQ
      · rw [if_neg z] at hF
        refine ⟨fun z => ?_, fun z => ?_⟩
        · rw [if_pos z] at hF
          exact fx_Mo_pile_97 hk ih hF hQ
        · rw [if_neg z] at hF
          obtain ⟨r86, I86, J86, hC86, hF⟩ := bd_e hF
          refine fx_Mo_isWord (by omega) ⟨by decide, by decide⟩ hC86 ⟨rfl, ?_⟩
          refine bk_Mo_pile_89 ?_
          refine ⟨fun z => ?_, fun z => ?_⟩
          · rw [if_pos z] at hF
            exact fx_Mo_pile_97 hk ih hF hQ
          · rw [if_neg z] at hF
            exact fx_Mo_pile_97 hk ih hF hQ
theorem fx_Mo_pile {u k : Nat} {pa pb : Nat} {ga : Nat → Nat} {Q : Option Value → pm_H → Prop} {x1 : Int32} {x2 : Int32} {I : pm_II} {J : pm_JJ} {r : Int32} {I2 : pm_II} {J2 : pm_JJ} (hk : 5 ≤ k) (hF : F_Mo_pile u x1 x2 I J = some (r, I2, J2)) (hQ : Q (some (.int r)) (hp I2 J2 (pm_RT pa pb ga))) : Px k 176 m_Mo_pile 0 [.ref 120, .int x1, .int x2, .null, .null, .null, .null] [] (hp I J (pm_RT pa pb ga)) Q := by
  obtain ⟨k, rfl⟩ : ∃ j, k = j + 1 := ⟨k - 1, by omega⟩
  unfold F_Mo_pile at hF
  refine bk_Mo_pile_0 ?_
  obtain ⟨r5, I5, J5, hC5, hF⟩ := bd_e hF
  refine fx_Mo_is (by omega) hC5 ⟨rfl, ?_⟩
  refine bk_Mo_pile_8 ?_
  refine ⟨fun z => ?_, fun z => ?_⟩
  · rw [if_pos z] at hF
    exact ret_q (Q := fun a b c => Q (some (.int a)) (hp b c (pm_RT pa pb ga))) hF hQ
  · rw [if_neg z] at hF
    obtain ⟨r16, I16, J16, hC16, hF⟩ := bd_e hF
    refine fx_Mo_is (by omega) hC16 ⟨rfl, ?_⟩
    refine bk_Mo_pile_19 ?_
    refine ⟨fun z => ?_, fun z => ?_⟩
    · rw [if_pos z] at hF
      obtain ⟨r25, I25, J25, hC25, hF⟩ := bd_e hF
      refine fx_Mo_take (by omega) hC25 ⟨rfl, ?_⟩
      refine bk_Mo_pile_28 ?_
      exact fx_Mo_pile_58 hk u _ _ _ _ _ _ _ _ hF hQ
    · rw [if_neg z] at hF
      exact ret_q (Q := fun a b c => Q (some (.int a)) (hp b c (pm_RT pa pb ga))) hF hQ
def F_Mo_piece (u : Nat) (x1 : Int32) (x2 : Int32) (I : pm_II) (J : pm_JJ) : Option (Int32 × pm_II × pm_JJ) :=
  bd (F_Mo_is u x1 (0 : Int32) ((I 120 65) - (1 : Int32)) I J) fun r8 I8 J8 =>
  if ¬ r8 = 0 then (
    if x2 = nI 0 then (
      cond (vq x1 32) (
      some ((I8 154 ((x1 : Int32).toNatClampNeg)), I8, J8)) none)
    else     if x2 = nI 1 then (
      cond (vq x1 32) (
      some ((I8 155 ((x1 : Int32).toNatClampNeg)), I8, J8)) none)
    else     if x2 = nI 2 then (
      cond (vq x1 32) (
      some ((I8 156 ((x1 : Int32).toNatClampNeg)), I8, J8)) none)
    else     if x2 = nI 3 then (
      cond (vq x1 32) (
      some ((I8 157 ((x1 : Int32).toNatClampNeg)), I8, J8)) none)
    else (
      some (((-1) : Int32), I8, J8)))
  else (
    some (((-1) : Int32), I8, J8))
theorem fx_Mo_piece {u k : Nat} {pa pb : Nat} {ga : Nat → Nat} {Q : Option Value → pm_H → Prop} {x1 : Int32} {x2 : Int32} {I : pm_II} {J : pm_JJ} {r : Int32} {I2 : pm_II} {J2 : pm_JJ} (hk : 1 ≤ k) (hF : F_Mo_piece u x1 x2 I J = some (r, I2, J2)) (hQ : Q (some (.int r)) (hp I2 J2 (pm_RT pa pb ga))) : Px k 176 m_Mo_piece 0 [.ref 120, .int x1, .int x2] [] (hp I J (pm_RT pa pb ga)) Q := by
  obtain ⟨k, rfl⟩ : ∃ j, k = j + 1 := ⟨k - 1, by omega⟩
  unfold F_Mo_piece at hF
  refine bk_Mo_piece_0 ?_
  obtain ⟨r8, I8, J8, hC8, hF⟩ := bd_e hF
  refine fx_Mo_is (by omega) hC8 ⟨rfl, ?_⟩
  refine bk_Mo_piece_11 ?_
  refine ⟨fun z => ?_, fun z => ?_⟩
  · rw [if_pos z] at hF
    refine ⟨fun z => ?_, fun z => ?_, fun z => ?_, fun z => ?_, fun z => ?_⟩
    · rw [if_pos z] at hF
      obtain ⟨g, hF⟩ := gd_e hF
      refine ⟨vq_in g, ?_⟩
      exact ret_q (Q := fun a b c => Q (some (.int a)) (hp b c (pm_RT pa pb ga))) hF hQ
    · rw [if_neg (by rw [z]; decide), if_pos z] at hF
      obtain ⟨g, hF⟩ := gd_e hF
      refine ⟨vq_in g, ?_⟩
      exact ret_q (Q := fun a b c => Q (some (.int a)) (hp b c (pm_RT pa pb ga))) hF hQ
    · rw [if_neg (by rw [z]; decide), if_neg (by rw [z]; decide), if_pos z] at hF
      obtain ⟨g, hF⟩ := gd_e hF
      refine ⟨vq_in g, ?_⟩
      exact ret_q (Q := fun a b c => Q (some (.int a)) (hp b c (pm_RT pa pb ga))) hF hQ
    · rw [if_neg (by rw [z]; decide), if_neg (by rw [z]; decide), if_neg (by rw [z]; decide), if_pos z] at hF
      obtain ⟨g, hF⟩ := gd_e hF
      refine ⟨vq_in g, ?_⟩
      exact ret_q (Q := fun a b c => Q (some (.int a)) (hp b c (pm_RT pa pb ga))) hF hQ
    · rw [if_neg (sw_ne z (by decide) (by decide)), if_neg (sw_ne z (by decide) (by decide)), if_neg (sw_ne z (by decide) (by decide)), if_neg (sw_ne z (by decide) (by decide))] at hF
      exact ret_q (Q := fun a b c => Q (some (.int a)) (hp b c (pm_RT pa pb ga))) hF hQ
  · rw [if_neg z] at hF
    exact ret_q (Q := fun a b c => Q (some (.int a)) (hp b c (pm_RT pa pb ga))) hF hQ
def F_Mo_on_2 (u : Nat) : Nat → Int32 → Int32 → Int32 → pm_II → pm_JJ → Option (Int32 × pm_II × pm_JJ)
  | 0, _, _, _, _, _ => none
  | n + 1, x1, x2, x3, I, J =>
    if (I 120 65) ≤ x3 then (
      some (((-1) : Int32), I, J))
    else (
      cond (vq x3 32) (
      if x1 < (I 154 ((x3 : Int32).toNatClampNeg)) then (
        F_Mo_on_2 u n x1 x2 (x3 + Int32.ofInt 1) I J)
      else (
        cond (vq x3 32) (
        cond (vq x3 32) (
        if ((I 154 ((x3 : Int32).toNatClampNeg)) + (I 156 ((x3 : Int32).toNatClampNeg))) ≤ x1 then (
          F_Mo_on_2 u n x1 x2 (x3 + Int32.ofInt 1) I J)
        else (
          cond (vq x3 32) (
          if x2 < (I 155 ((x3 : Int32).toNatClampNeg)) then (
            F_Mo_on_2 u n x1 x2 (x3 + Int32.ofInt 1) I J)
          else (
            cond (vq x3 32) (
            cond (vq x3 32) (
            if ((I 155 ((x3 : Int32).toNatClampNeg)) + (I 157 ((x3 : Int32).toNatClampNeg))) ≤ x2 then (
              F_Mo_on_2 u n x1 x2 (x3 + Int32.ofInt 1) I J)
            else (
              some (x3, I, J))) none) none)) none)) none) none)) none)
def F_Mo_on (u : Nat) (x1 : Int32) (x2 : Int32) (I : pm_II) (J : pm_JJ) : Option (Int32 × pm_II × pm_JJ) :=
  F_Mo_on_2 u u x1 x2 (0 : Int32) I J
theorem fx_Mo_on_2 {u k : Nat} {pa pb : Nat} {ga : Nat → Nat} {Q : Option Value → pm_H → Prop} (hk : 0 ≤ k) : ∀ (n : Nat), ∀ (x1 : Int32) (x2 : Int32) (x3 : Int32) (I : pm_II) (J : pm_JJ) (r : Int32) (I2 : pm_II) (J2 : pm_JJ), F_Mo_on_2 u n x1 x2 x3 I J = some (r, I2, J2) → Q (some (.int r)) (hp I2 J2 (pm_RT pa pb ga)) → Px k 176 m_Mo_on 2 [.ref 120, .int x1, .int x2, .int x3] [] (hp I J (pm_RT pa pb ga)) Q := by
  intro n
  induction n with
  | zero => intro x1 x2 x3 I J r I2 J2  hF; cases hF
  | succ n ih =>
    intro x1 x2 x3 I J r I2 J2  hF hQ
    rw [F_Mo_on_2] at hF
    refine bk_Mo_on_2 ?_
    refine ⟨fun z => ?_, fun z => ?_⟩
    · rw [if_pos z] at hF
      exact ret_q (Q := fun a b c => Q (some (.int a)) (hp b c (pm_RT pa pb ga))) hF hQ
    · rw [if_neg z] at hF
      obtain ⟨g, hF⟩ := gd_e hF
      refine ⟨vq_in g, ?_⟩
      refine ⟨fun z => ?_, fun z => ?_⟩
      · rw [if_pos z] at hF
        exact ih _ _ _ _ _ _ _ _ hF hQ
      · rw [if_neg z] at hF
        obtain ⟨g, hF⟩ := gd_e hF
        refine ⟨vq_in g, ?_⟩
        obtain ⟨g, hF⟩ := gd_e hF
        refine ⟨vq_in g, ?_⟩
        refine ⟨fun z => ?_, fun z => ?_⟩
        · rw [if_pos z] at hF
          exact ih _ _ _ _ _ _ _ _ hF hQ
        · rw [if_neg z] at hF
          obtain ⟨g, hF⟩ := gd_e hF
          refine ⟨vq_in g, ?_⟩
          refine ⟨fun z => ?_, fun z => ?_⟩
          · rw [if_pos z] at hF
            exact ih _ _ _ _ _ _ _ _ hF hQ
          · rw [if_neg z] at hF
            obtain ⟨g, hF⟩ := gd_e hF
            refine ⟨vq_in g, ?_⟩
            obtain ⟨g, hF⟩ := gd_e hF
            refine ⟨vq_in g, ?_⟩
            refine ⟨fun z => ?_, fun z => ?_⟩
            · rw [if_pos z] at hF
              exact ih _ _ _ _ _ _ _ _ hF hQ
            · rw [if_neg z] at hF
              exact ret_q (Q := fun a b c => Q (some (.int a)) (hp b c (pm_RT pa pb ga))) hF hQ
theorem fx_Mo_on {u k : Nat} {pa pb : Nat} {ga : Nat → Nat} {Q : Option Value → pm_H → Prop} {x1 : Int32} {x2 : Int32} {I : pm_II} {J : pm_JJ} {r : Int32} {I2 : pm_II} {J2 : pm_JJ} (hk : 0 ≤ k) (hF : F_Mo_on u x1 x2 I J = some (r, I2, J2)) (hQ : Q (some (.int r)) (hp I2 J2 (pm_RT pa pb ga))) : Px k 176 m_Mo_on 0 [.ref 120, .int x1, .int x2, .null] [] (hp I J (pm_RT pa pb ga)) Q := by
  unfold F_Mo_on at hF
  refine bk_Mo_on_0 ?_
  exact fx_Mo_on_2 hk u _ _ _ _ _ _ _ _ hF hQ
def F_Mo_gather_59 (u : Nat) (K8 : Int32 → Int32 → pm_II → pm_JJ → Option (Int32 × pm_II × pm_JJ)) (x1 : Int32) (x2 : Int32) (s1 : Int32) (s2 : Int32) (I : pm_II) (J : pm_JJ) : Option (Int32 × pm_II × pm_JJ) :=
  bd (F_Mo_told u (1 : Int32) (8 : Int32) (pm_up I 120 4 (s1 + s2)) J) fun r67 I67 J67 =>
  if ¬ x2 = 0 then (
    K8 (x1 + Int32.ofInt 1) x2 I67 J67)
  else (
    if (I67 120 20) < (x1 + Int32.ofInt 1) then (
      K8 (x1 + Int32.ofInt 1) (x1 + Int32.ofInt 1) I67 J67)
    else (
      if r67 = (x1 + Int32.ofInt 1) then (
        K8 (x1 + Int32.ofInt 1) x2 I67 J67)
      else (
        K8 (x1 + Int32.ofInt 1) (x1 + Int32.ofInt 1) I67 J67)))
def F_Mo_gather_28 (u : Nat) (K8 : Int32 → Int32 → pm_II → pm_JJ → Option (Int32 × pm_II × pm_JJ)) (x1 : Int32) (x2 : Int32) (I : pm_II) (J : pm_JJ) : Option (Int32 × pm_II × pm_JJ) :=
  if ¬ x1 = 20 then (
    if ¬ x1 = 0 then (
      F_Mo_gather_59 u K8 x1 x2 (I 120 4) (1 : Int32) I J)
    else (
      F_Mo_gather_59 u K8 x1 x2 (I 120 4) (0 : Int32) I J))
  else (
    bd (F_Mo_fail u (I 120 4) I J) fun _ I39 J39 =>
    K8 x1 x2 I39 J39)
def F_Mo_gather_128 (u : Nat) (x1 : Int32) (x2 : Int32) (I : pm_II) (J : pm_JJ) : Option (Int32 × pm_II × pm_JJ) :=
  bd (F_Mo_bad u I J) fun r129 I129 J129 =>
  if r129 = 0 then (
    if ¬ x2 = 0 then (
      some (x2, I129, J129))
    else (
      if (I129 120 20) ≤ x1 then (
        some (x2, I129, J129))
      else (
        some ((x1 + (1 : Int32)), I129, J129))))
  else (
    some ((((-1000) : Int32) - (I129 120 5)), I129, J129))
def F_Mo_gather_96 (u : Nat) (x1 : Int32) (x2 : Int32) (I : pm_II) (J : pm_JJ) : Option (Int32 × pm_II × pm_JJ) :=
  bd (F_Mo_need u (10 : Int32) I J) fun _ I99 J99 =>
  bd (F_Mo_bad u I99 J99) fun r103 I103 J103 =>
  if ¬ r103 = 0 then (
    F_Mo_gather_128 u x1 x2 I103 J103)
  else (
    if (I103 120 3) ≤ (I103 120 4) then (
      F_Mo_gather_128 u x1 x2 I103 J103)
    else (
      bd (F_Mo_fail u (I103 120 4) I103 J103) fun _ I125 J125 =>
      F_Mo_gather_128 u x1 x2 I125 J125))
def F_Mo_gather_8 (u : Nat) : Nat → Int32 → Int32 → pm_II → pm_JJ → Option (Int32 × pm_II × pm_JJ)
  | 0, _, _, _, _ => none
  | n + 1, x1, x2, I, J =>
    bd (F_Mo_bad u I J) fun r9 I9 J9 =>
    if ¬ r9 = 0 then (
      F_Mo_gather_96 u x1 x2 I9 J9)
    else (
      if x1 = 0 then (
        F_Mo_gather_28 u (F_Mo_gather_8 u n) x1 x2 I9 J9)
      else (
        bd (F_Mo_here u I9 J9) fun r20 I20 J20 =>
        if ¬ r20 = 32 then (
          F_Mo_gather_96 u x1 x2 I20 J20)
        else (
          F_Mo_gather_28 u (F_Mo_gather_8 u n) x1 x2 I20 J20)))
def F_Mo_gather (u : Nat) (I : pm_II) (J : pm_JJ) : Option (Int32 × pm_II × pm_JJ) :=
  bd (F_Mo_take u I J) fun _ I1 J1 =>
  F_Mo_gather_8 u u (0 : Int32) (0 : Int32) I1 J1
theorem fx_Mo_gather_59 {u k : Nat} {pa pb : Nat} {ga : Nat → Nat} {Q : Option Value → pm_H → Prop} {K8 : Int32 → Int32 → pm_II → pm_JJ → Option (Int32 × pm_II × pm_JJ)} {x1 : Int32} {x2 : Int32} {s1 : Int32} {s2 : Int32} {I : pm_II} {J : pm_JJ} {r : Int32} {I2 : pm_II} {J2 : pm_JJ} (hk : 2 ≤ k) (hK8 : ∀ (x1 : Int32) (x2 : Int32) (I : pm_II) (J : pm_JJ) (r : Int32) (I2 : pm_II) (J2 : pm_JJ), K8 x1 x2 I J = some (r, I2, J2) → Q (some (.int r)) (hp I2 J2 (pm_RT pa pb ga)) → Px k 176 m_Mo_gather 8 [.ref 120, .int x1, .int x2, .null] [] (hp I J (pm_RT pa pb ga)) Q) (hF : F_Mo_gather_59 u K8 x1 x2 s1 s2 I J = some (r, I2, J2)) (hQ : Q (some (.int r)) (hp I2 J2 (pm_RT pa pb ga))) : Px k 176 m_Mo_gather 59 [.ref 120, .int x1, .int x2, .null] [.int s2, .int s1, .ref 120] (hp I J (pm_RT pa pb ga)) Q := by
  obtain ⟨k, rfl⟩ : ∃ j, k = j + 1 := ⟨k - 1, by omega⟩
  unfold F_Mo_gather_59 at hF
  refine bk_Mo_gather_59 ?_
  obtain ⟨r67, I67, J67, hC67, hF⟩ := bd_e hF
  refine fx_Mo_told (by omega) hC67 ⟨rfl, ?_⟩
  refine bk_Mo_gather_70 ?_
  refine ⟨fun z => ?_, fun z => ?_⟩
  · rw [if_pos z] at hF
    exact Px_wk (hK8 _ _ _ _ _ _ _ hF hQ) ⟨Or.inl rfl, Or.inl rfl, Or.inl rfl, Or.inr ⟨rfl, rfl⟩, trivial⟩
  · rw [if_neg z] at hF
    refine ⟨fun z => ?_, fun z => ?_⟩
    · rw [if_pos z] at hF
      exact Px_wk (hK8 _ _ _ _ _ _ _ hF hQ) ⟨Or.inl rfl, Or.inl rfl, Or.inl rfl, Or.inr ⟨rfl, rfl⟩, trivial⟩
    · rw [if_neg z] at hF
      refine ⟨fun z => ?_, fun z => ?_⟩
      · rw [if_pos z] at hF
        exact Px_wk (hK8 _ _ _ _ _ _ _ hF hQ) ⟨Or.inl rfl, Or.inl rfl, Or.inl rfl, Or.inr ⟨rfl, rfl⟩, trivial⟩
      · rw [if_neg z] at hF
        exact Px_wk (hK8 _ _ _ _ _ _ _ hF hQ) ⟨Or.inl rfl, Or.inl rfl, Or.inl rfl, Or.inr ⟨rfl, rfl⟩, trivial⟩
theorem fx_Mo_gather_28 {u k : Nat} {pa pb : Nat} {ga : Nat → Nat} {Q : Option Value → pm_H → Prop} {K8 : Int32 → Int32 → pm_II → pm_JJ → Option (Int32 × pm_II × pm_JJ)} {x1 : Int32} {x2 : Int32} {I : pm_II} {J : pm_JJ} {r : Int32} {I2 : pm_II} {J2 : pm_JJ} (hk : 2 ≤ k) (hK8 : ∀ (x1 : Int32) (x2 : Int32) (I : pm_II) (J : pm_JJ) (r : Int32) (I2 : pm_II) (J2 : pm_JJ), K8 x1 x2 I J = some (r, I2, J2) → Q (some (.int r)) (hp I2 J2 (pm_RT pa pb ga)) → Px k 176 m_Mo_gather 8 [.ref 120, .int x1, .int x2, .null] [] (hp I J (pm_RT pa pb ga)) Q) (hF : F_Mo_gather_28 u K8 x1 x2 I J = some (r, I2, J2)) (hQ : Q (some (.int r)) (hp I2 J2 (pm_RT pa pb ga))) : Px k 176 m_Mo_gather 28 [.ref 120, .int x1, .int x2, .null] [] (hp I J (pm_RT pa pb ga)) Q := by
  obtain ⟨k, rfl⟩ : ∃ j, k = j + 1 := ⟨k - 1, by omega⟩
  unfold F_Mo_gather_28 at hF
  refine bk_Mo_gather_28 ?_
  refine ⟨fun z => ?_, fun z => ?_⟩
  · rw [if_pos z] at hF
    refine ⟨fun z => ?_, fun z => ?_⟩
    · rw [if_pos z] at hF
      exact fx_Mo_gather_59 hk hK8 hF hQ
    · rw [if_neg z] at hF
      exact fx_Mo_gather_59 hk hK8 hF hQ
  · rw [if_neg z] at hF
    obtain ⟨r39, I39, J39, hC39, hF⟩ := bd_e hF
    refine fx_Mo_fail (by omega) hC39 ⟨rfl, ?_⟩
    refine bk_Mo_gather_42 ?_
    exact hK8 _ _ _ _ _ _ _ hF hQ
theorem fx_Mo_gather_128 {u k : Nat} {pa pb : Nat} {ga : Nat → Nat} {Q : Option Value → pm_H → Prop} {x1 : Int32} {x2 : Int32} {I : pm_II} {J : pm_JJ} {r : Int32} {I2 : pm_II} {J2 : pm_JJ} (hk : 2 ≤ k) (hF : F_Mo_gather_128 u x1 x2 I J = some (r, I2, J2)) (hQ : Q (some (.int r)) (hp I2 J2 (pm_RT pa pb ga))) : Px k 176 m_Mo_gather 128 [.ref 120, .int x1, .int x2, .null] [] (hp I J (pm_RT pa pb ga)) Q := by
  obtain ⟨k, rfl⟩ : ∃ j, k = j + 1 := ⟨k - 1, by omega⟩
  unfold F_Mo_gather_128 at hF
  refine bk_Mo_gather_128 ?_
  obtain ⟨r129, I129, J129, hC129, hF⟩ := bd_e hF
  refine fx_Mo_bad (by omega) hC129 ⟨rfl, ?_⟩
  refine bk_Mo_gather_132 ?_
  refine ⟨fun z => ?_, fun z => ?_⟩
  · rw [if_pos z] at hF
    refine ⟨fun z => ?_, fun z => ?_⟩
    · rw [if_pos z] at hF
      exact ret_q (Q := fun a b c => Q (some (.int a)) (hp b c (pm_RT pa pb ga))) hF hQ
    · rw [if_neg z] at hF
      refine ⟨fun z => ?_, fun z => ?_⟩
      · rw [if_pos z] at hF
        exact ret_q (Q := fun a b c => Q (some (.int a)) (hp b c (pm_RT pa pb ga))) hF hQ
      · rw [if_neg z] at hF
        exact ret_q (Q := fun a b c => Q (some (.int a)) (hp b c (pm_RT pa pb ga))) hF hQ
  · rw [if_neg z] at hF
    exact ret_q (Q := fun a b c => Q (some (.int a)) (hp b c (pm_RT pa pb ga))) hF hQ
theorem fx_Mo_gather_96 {u k : Nat} {pa pb : Nat} {ga : Nat → Nat} {Q : Option Value → pm_H → Prop} {x1 : Int32} {x2 : Int32} {I : pm_II} {J : pm_JJ} {r : Int32} {I2 : pm_II} {J2 : pm_JJ} (hk : 2 ≤ k) (hF : F_Mo_gather_96 u x1 x2 I J = some (r, I2, J2)) (hQ : Q (some (.int r)) (hp I2 J2 (pm_RT pa pb ga))) : Px k 176 m_Mo_gather 96 [.ref 120, .int x1, .int x2, .null] [] (hp I J (pm_RT pa pb ga)) Q := by
  obtain ⟨k, rfl⟩ : ∃ j, k = j + 1 := ⟨k - 1, by omega⟩
  unfold F_Mo_gather_96 at hF
  refine bk_Mo_gather_96 ?_
  obtain ⟨r99, I99, J99, hC99, hF⟩ := bd_e hF
  refine fx_Mo_need (by omega) hC99 ⟨rfl, ?_⟩
  refine bk_Mo_gather_102 ?_
  obtain ⟨r103, I103, J103, hC103, hF⟩ := bd_e hF
  refine fx_Mo_bad (by omega) hC103 ⟨rfl, ?_⟩
  refine bk_Mo_gather_106 ?_
  refine ⟨fun z => ?_, fun z => ?_⟩
  · rw [if_pos z] at hF
    exact fx_Mo_gather_128 hk hF hQ
  · rw [if_neg z] at hF
    refine ⟨fun z => ?_, fun z => ?_⟩
    · rw [if_pos z] at hF
      exact fx_Mo_gather_128 hk hF hQ
    · rw [if_neg z] at hF
      obtain ⟨r125, I125, J125, hC125, hF⟩ := bd_e hF
      refine fx_Mo_fail (by omega) hC125 ⟨rfl, ?_⟩
      exact fx_Mo_gather_128 hk hF hQ
theorem fx_Mo_gather_8 {u k : Nat} {pa pb : Nat} {ga : Nat → Nat} {Q : Option Value → pm_H → Prop} (hk : 2 ≤ k) : ∀ (n : Nat), ∀ (x1 : Int32) (x2 : Int32) (I : pm_II) (J : pm_JJ) (r : Int32) (I2 : pm_II) (J2 : pm_JJ), F_Mo_gather_8 u n x1 x2 I J = some (r, I2, J2) → Q (some (.int r)) (hp I2 J2 (pm_RT pa pb ga)) → Px k 176 m_Mo_gather 8 [.ref 120, .int x1, .int x2, .null] [] (hp I J (pm_RT pa pb ga)) Q := by
  obtain ⟨k, rfl⟩ : ∃ j, k = j + 1 := ⟨k - 1, by omega⟩
  intro n
  induction n with
  | zero => intro x1 x2 I J r I2 J2  hF; cases hF
  | succ n ih =>
    intro x1 x2 I J r I2 J2  hF hQ
    rw [F_Mo_gather_8] at hF
    refine bk_Mo_gather_8 ?_
    obtain ⟨r9, I9, J9, hC9, hF⟩ := bd_e hF
    refine fx_Mo_bad (by omega) hC9 ⟨rfl, ?_⟩
    refine bk_Mo_gather_12 ?_
    refine ⟨fun z => ?_, fun z => ?_⟩
    · rw [if_pos z] at hF
      exact fx_Mo_gather_96 hk hF hQ
    · rw [if_neg z] at hF
      refine ⟨fun z => ?_, fun z => ?_⟩
      · rw [if_pos z] at hF
        exact fx_Mo_gather_28 hk ih hF hQ
      · rw [if_neg z] at hF
        obtain ⟨r20, I20, J20, hC20, hF⟩ := bd_e hF
        refine fx_Mo_here (by omega) hC20 ⟨rfl, ?_⟩
        refine bk_Mo_gather_23 ?_
        refine ⟨fun z => ?_, fun z => ?_⟩
        · rw [if_pos z] at hF
          exact fx_Mo_gather_96 hk hF hQ
        · rw [if_neg z] at hF
          exact fx_Mo_gather_28 hk ih hF hQ
theorem fx_Mo_gather {u k : Nat} {pa pb : Nat} {ga : Nat → Nat} {Q : Option Value → pm_H → Prop} {I : pm_II} {J : pm_JJ} {r : Int32} {I2 : pm_II} {J2 : pm_JJ} (hk : 2 ≤ k) (hF : F_Mo_gather u  I J = some (r, I2, J2)) (hQ : Q (some (.int r)) (hp I2 J2 (pm_RT pa pb ga))) : Px k 176 m_Mo_gather 0 [.ref 120, .null, .null, .null] [] (hp I J (pm_RT pa pb ga)) Q := by
  obtain ⟨k, rfl⟩ : ∃ j, k = j + 1 := ⟨k - 1, by omega⟩
  unfold F_Mo_gather at hF
  refine bk_Mo_gather_0 ?_
  obtain ⟨r1, I1, J1, hC1, hF⟩ := bd_e hF
  refine fx_Mo_take (by omega) hC1 ⟨rfl, ?_⟩
  refine bk_Mo_gather_4 ?_
  exact fx_Mo_gather_8 hk u _ _ _ _ _ _ _ hF hQ
def F_Mo_isAhead (u : Nat) (x1 : Int32) (x2 : Int32) (I : pm_II) (J : pm_JJ) : Option (Int32 × pm_II × pm_JJ) :=
  cond (vq x1 161) (
  cond (vq x2 161) (
  if (I 162 ((x1 : Int32).toNatClampNeg)) < (I 162 ((x2 : Int32).toNatClampNeg)) then (
    some ((1 : Int32), I, J))
  else (
    cond (vq x1 161) (
    cond (vq x2 161) (
    if ¬ (I 162 ((x1 : Int32).toNatClampNeg)) = (I 162 ((x2 : Int32).toNatClampNeg)) then (
      some ((0 : Int32), I, J))
    else (
      cond (vq x1 161) (
      cond (vq x2 161) (
      if 0 ≤ (lg_cmp (J 168 ((x1 : Int32).toNatClampNeg)) (J 168 ((x2 : Int32).toNatClampNeg))) then (
        some ((0 : Int32), I, J))
      else (
        some ((1 : Int32), I, J))) none) none)) none) none)) none) none
theorem fx_Mo_isAhead {u k : Nat} {pa pb : Nat} {ga : Nat → Nat} {Q : Option Value → pm_H → Prop} {x1 : Int32} {x2 : Int32} {I : pm_II} {J : pm_JJ} {r : Int32} {I2 : pm_II} {J2 : pm_JJ} (hk : 0 ≤ k) (hF : F_Mo_isAhead u x1 x2 I J = some (r, I2, J2)) (hQ : Q (some (.int r)) (hp I2 J2 (pm_RT pa pb ga))) : Px k 176 m_Mo_isAhead 0 [.ref 120, .int x1, .int x2] [] (hp I J (pm_RT pa pb ga)) Q := by
  unfold F_Mo_isAhead at hF
  refine bk_Mo_isAhead_0 ?_
  obtain ⟨g, hF⟩ := gd_e hF
  refine ⟨vq_in g, ?_⟩
  obtain ⟨g, hF⟩ := gd_e hF
  refine ⟨vq_in g, ?_⟩
  refine ⟨fun z => ?_, fun z => ?_⟩
  · rw [if_pos z] at hF
    exact ret_q (Q := fun a b c => Q (some (.int a)) (hp b c (pm_RT pa pb ga))) hF hQ
  · rw [if_neg z] at hF
    obtain ⟨g, hF⟩ := gd_e hF
    refine ⟨vq_in g, ?_⟩
    obtain ⟨g, hF⟩ := gd_e hF
    refine ⟨vq_in g, ?_⟩
    refine ⟨fun z => ?_, fun z => ?_⟩
    · rw [if_pos z] at hF
      exact ret_q (Q := fun a b c => Q (some (.int a)) (hp b c (pm_RT pa pb ga))) hF hQ
    · rw [if_neg z] at hF
      obtain ⟨g, hF⟩ := gd_e hF
      refine ⟨vq_in g, ?_⟩
      obtain ⟨g, hF⟩ := gd_e hF
      refine ⟨vq_in g, ?_⟩
      refine ⟨fun z => ?_, fun z => ?_⟩
      · rw [if_pos z] at hF
        exact ret_q (Q := fun a b c => Q (some (.int a)) (hp b c (pm_RT pa pb ga))) hF hQ
      · rw [if_neg z] at hF
        exact ret_q (Q := fun a b c => Q (some (.int a)) (hp b c (pm_RT pa pb ga))) hF hQ
def F_Mo_stage_186 (u : Nat) (K2 : Int32 → Int32 → Int32 → pm_II → pm_JJ → Option (Unit × pm_II × pm_JJ)) (K89 : Int32 → Int32 → Int32 → Int32 → Int32 → pm_II → pm_JJ → Option (Unit × pm_II × pm_JJ)) (K152 : Int32 → Int32 → Int32 → Int32 → Int32 → Int32 → Int32 → pm_II → pm_JJ → Option (Unit × pm_II × pm_JJ)) (x1 : Int32) (x2 : Int32) (x4 : Int32) (x5 : Int32) (x7 : Int32) (x8 : Int32) (x9 : Int32) (I : pm_II) (J : pm_JJ) : Option (Unit × pm_II × pm_JJ) :=
  cond (vq x7 121) (
  K152 x1 x2 x4 x5 (x7 + Int32.ofInt 1) x8 (x9 + Int32.ofInt 1) (pm_up I 163 ((x7 : Int32).toNatClampNeg) (I 120 77)) J) none
def F_Mo_stage_152 (u : Nat) (K2 : Int32 → Int32 → Int32 → pm_II → pm_JJ → Option (Unit × pm_II × pm_JJ)) (K89 : Int32 → Int32 → Int32 → Int32 → Int32 → pm_II → pm_JJ → Option (Unit × pm_II × pm_JJ)) : Nat → Int32 → Int32 → Int32 → Int32 → Int32 → Int32 → Int32 → pm_II → pm_JJ → Option (Unit × pm_II × pm_JJ)
  | 0, _, _, _, _, _, _, _, _, _ => none
  | n + 1, x1, x2, x4, x5, x7, x8, x9, I, J =>
    if x8 ≤ x9 then (
      K89 x1 x2 (x4 - x8) x5 x7 (pm_up I 120 77 ((I 120 77) + (1 : Int32))) J)
    else (
      cond (vq x7 121) (
      if ¬ (I 163 ((x7 : Int32).toNatClampNeg)) = (-1) then (
        F_Mo_stage_152 u K2 K89 n x1 x2 x4 x5 (x7 + Int32.ofInt 1) x8 x9 I J)
      else (
        if ¬ x9 = 0 then (
          F_Mo_stage_186 u K2 K89 (F_Mo_stage_152 u K2 K89 n) x1 x2 x4 x5 x7 x8 x9 I J)
        else (
          cond (vq (I 120 77) 121) (
          F_Mo_stage_186 u K2 K89 (F_Mo_stage_152 u K2 K89 n) x1 x2 x4 x5 x7 x8 x9 (pm_up I 167 (((I 120 77) : Int32).toNatClampNeg) x7) J) none))) none)
def F_Mo_stage_117 (u : Nat) (K2 : Int32 → Int32 → Int32 → pm_II → pm_JJ → Option (Unit × pm_II × pm_JJ)) (K89 : Int32 → Int32 → Int32 → Int32 → Int32 → pm_II → pm_JJ → Option (Unit × pm_II × pm_JJ)) (x1 : Int32) (x2 : Int32) (x4 : Int32) (x5 : Int32) (x7 : Int32) (I : pm_II) (J : pm_JJ) : Option (Unit × pm_II × pm_JJ) :=
  bd (F_Jm_min_II u x4 (I 120 76) I J) fun r123 I123 J123 =>
  cond (vq (I123 120 77) 121) (
  cond (vq (I123 120 77) 121) (
  F_Mo_stage_152 u K2 K89 u x1 x2 x4 x5 x7 r123 (0 : Int32) (pm_up (pm_up I123 165 (((I123 120 77) : Int32).toNatClampNeg) x1) 166 (((I123 120 77) : Int32).toNatClampNeg) r123) J123) none) none
def F_Mo_stage_226 (u : Nat) (K2 : Int32 → Int32 → Int32 → pm_II → pm_JJ → Option (Unit × pm_II × pm_JJ)) (x1 : Int32) (x2 : Int32) (x5 : Int32) (I : pm_II) (J : pm_JJ) : Option (Unit × pm_II × pm_JJ) :=
  K2 x1 x2 x5 I J
def F_Mo_stage_89 (u : Nat) (K2 : Int32 → Int32 → Int32 → pm_II → pm_JJ → Option (Unit × pm_II × pm_JJ)) : Nat → Int32 → Int32 → Int32 → Int32 → Int32 → pm_II → pm_JJ → Option (Unit × pm_II × pm_JJ)
  | 0, _, _, _, _, _, _, _ => none
  | n + 1, x1, x2, x4, x5, x7, I, J =>
    if (I 120 76) ≤ x4 then (
      F_Mo_stage_117 u K2 (F_Mo_stage_89 u K2 n) x1 x2 x4 x5 x7 I J)
    else (
      if x4 ≤ 0 then (
        F_Mo_stage_226 u K2 x1 x2 x5 I J)
      else (
        if x1 = 2 then (
          F_Mo_stage_117 u K2 (F_Mo_stage_89 u K2 n) x1 x2 x4 x5 x7 I J)
        else (
          if x4 < (I 120 75) then (
            F_Mo_stage_226 u K2 x1 x2 x5 I J)
          else (
            F_Mo_stage_117 u K2 (F_Mo_stage_89 u K2 n) x1 x2 x4 x5 x7 I J))))
def F_Mo_stage_86 (u : Nat) (K2 : Int32 → Int32 → Int32 → pm_II → pm_JJ → Option (Unit × pm_II × pm_JJ)) (x1 : Int32) (x2 : Int32) (x3 : Int32) (x4 : Int32) (x5 : Int32) (I : pm_II) (J : pm_JJ) : Option (Unit × pm_II × pm_JJ) :=
  F_Mo_stage_89 u K2 u x1 x2 x4 x5 x3 I J
def F_Mo_stage_31 (u : Nat) (K2 : Int32 → Int32 → Int32 → pm_II → pm_JJ → Option (Unit × pm_II × pm_JJ)) : Nat → Int32 → Int32 → Int32 → Int32 → Int32 → Int32 → pm_II → pm_JJ → Option (Unit × pm_II × pm_JJ)
  | 0, _, _, _, _, _, _, _, _ => none
  | n + 1, x1, x2, x3, x4, x5, x6, I, J =>
    if (I 120 73) ≤ x5 then (
      F_Mo_stage_86 u K2 x1 x2 x3 x4 x5 I J)
    else (
      cond (vq x5 121) (
      cond (vq (I 164 ((x5 : Int32).toNatClampNeg)) 161) (
      if ¬ x2 = 0 then (
      if ¬ ((I 162 (((I 164 ((x5 : Int32).toNatClampNeg)) : Int32).toNatClampNeg)) / x2) = x6 then (
        F_Mo_stage_86 u K2 x1 x2 x3 x4 x5 I J)
      else (
        cond (vq x5 121) (
        if ¬ (I 163 ((x5 : Int32).toNatClampNeg)) = (-1) then (
          F_Mo_stage_31 u K2 n x1 x2 x3 (x4 + (0 : Int32)) (x5 + Int32.ofInt 1) x6 I J)
        else (
          F_Mo_stage_31 u K2 n x1 x2 x3 (x4 + (1 : Int32)) (x5 + Int32.ofInt 1) x6 I J)) none)) else none) none) none)
def F_Mo_stage_2 (u : Nat) : Nat → Int32 → Int32 → Int32 → pm_II → pm_JJ → Option (Unit × pm_II × pm_JJ)
  | 0, _, _, _, _, _ => none
  | n + 1, x1, x2, x3, I, J =>
    if (I 120 73) ≤ x3 then (
      some ((), I, J))
    else (
      cond (vq x3 121) (
      cond (vq (I 164 ((x3 : Int32).toNatClampNeg)) 161) (
      if ¬ x2 = 0 then (
      F_Mo_stage_31 u (F_Mo_stage_2 u n) u x1 x2 x3 (0 : Int32) x3 ((I 162 (((I 164 ((x3 : Int32).toNatClampNeg)) : Int32).toNatClampNeg)) / x2) I J) else none) none) none)
def F_Mo_stage (u : Nat) (x1 : Int32) (x2 : Int32) (I : pm_II) (J : pm_JJ) : Option (Unit × pm_II × pm_JJ) :=
  F_Mo_stage_2 u u x1 x2 (0 : Int32) I J
theorem fx_Mo_stage_186 {u k : Nat} {pa pb : Nat} {ga : Nat → Nat} {Q : Option Value → pm_H → Prop} {K2 : Int32 → Int32 → Int32 → pm_II → pm_JJ → Option (Unit × pm_II × pm_JJ)} {K89 : Int32 → Int32 → Int32 → Int32 → Int32 → pm_II → pm_JJ → Option (Unit × pm_II × pm_JJ)} {K152 : Int32 → Int32 → Int32 → Int32 → Int32 → Int32 → Int32 → pm_II → pm_JJ → Option (Unit × pm_II × pm_JJ)} {x1 : Int32} {x2 : Int32} {x3 : Int32} {x4 : Int32} {x5 : Int32} {x6 : Int32} {x7 : Int32} {x8 : Int32} {x9 : Int32} {I : pm_II} {J : pm_JJ} {r : Unit} {I2 : pm_II} {J2 : pm_JJ} (hk : 1 ≤ k) (hK2 : ∀ (x1 : Int32) (x2 : Int32) (x3 : Int32) (I : pm_II) (J : pm_JJ) (r : Unit) (I2 : pm_II) (J2 : pm_JJ), K2 x1 x2 x3 I J = some (r, I2, J2) → Q none (hp I2 J2 (pm_RT pa pb ga)) → Px k 176 m_Mo_stage 2 [.ref 120, .int x1, .int x2, .int x3, .null, .null, .null, .null, .null, .null] [] (hp I J (pm_RT pa pb ga)) Q) (hK89 : ∀ (x1 : Int32) (x2 : Int32) (x3 : Int32) (x4 : Int32) (x5 : Int32) (x6 : Int32) (x7 : Int32) (I : pm_II) (J : pm_JJ) (r : Unit) (I2 : pm_II) (J2 : pm_JJ), K89 x1 x2 x4 x5 x7 I J = some (r, I2, J2) → Q none (hp I2 J2 (pm_RT pa pb ga)) → Px k 176 m_Mo_stage 89 [.ref 120, .int x1, .int x2, .int x3, .int x4, .int x5, .int x6, .int x7, .null, .null] [] (hp I J (pm_RT pa pb ga)) Q) (hK152 : ∀ (x1 : Int32) (x2 : Int32) (x3 : Int32) (x4 : Int32) (x5 : Int32) (x6 : Int32) (x7 : Int32) (x8 : Int32) (x9 : Int32) (I : pm_II) (J : pm_JJ) (r : Unit) (I2 : pm_II) (J2 : pm_JJ), K152 x1 x2 x4 x5 x7 x8 x9 I J = some (r, I2, J2) → Q none (hp I2 J2 (pm_RT pa pb ga)) → Px k 176 m_Mo_stage 152 [.ref 120, .int x1, .int x2, .int x3, .int x4, .int x5, .int x6, .int x7, .int x8, .int x9] [] (hp I J (pm_RT pa pb ga)) Q) (hF : F_Mo_stage_186 u K2 K89 K152 x1 x2 x4 x5 x7 x8 x9 I J = some (r, I2, J2)) (hQ : Q none (hp I2 J2 (pm_RT pa pb ga))) : Px k 176 m_Mo_stage 186 [.ref 120, .int x1, .int x2, .int x3, .int x4, .int x5, .int x6, .int x7, .int x8, .int x9] [] (hp I J (pm_RT pa pb ga)) Q := by
  obtain ⟨k, rfl⟩ : ∃ j, k = j + 1 := ⟨k - 1, by omega⟩
  unfold F_Mo_stage_186 at hF
  refine bk_Mo_stage_186 ?_
  obtain ⟨g, hF⟩ := gd_e hF
  refine ⟨vq_in g, ?_⟩
  exact hK152 _ _ _ _ _ _ _ _ _ _ _ _ _ _ hF hQ
theorem fx_Mo_stage_152 {u k : Nat} {pa pb : Nat} {ga : Nat → Nat} {Q : Option Value → pm_H → Prop} {K2 : Int32 → Int32 → Int32 → pm_II → pm_JJ → Option (Unit × pm_II × pm_JJ)} {K89 : Int32 → Int32 → Int32 → Int32 → Int32 → pm_II → pm_JJ → Option (Unit × pm_II × pm_JJ)} (hk : 1 ≤ k) (hK2 : ∀ (x1 : Int32) (x2 : Int32) (x3 : Int32) (I : pm_II) (J : pm_JJ) (r : Unit) (I2 : pm_II) (J2 : pm_JJ), K2 x1 x2 x3 I J = some (r, I2, J2) → Q none (hp I2 J2 (pm_RT pa pb ga)) → Px k 176 m_Mo_stage 2 [.ref 120, .int x1, .int x2, .int x3, .null, .null, .null, .null, .null, .null] [] (hp I J (pm_RT pa pb ga)) Q) (hK89 : ∀ (x1 : Int32) (x2 : Int32) (x3 : Int32) (x4 : Int32) (x5 : Int32) (x6 : Int32) (x7 : Int32) (I : pm_II) (J : pm_JJ) (r : Unit) (I2 : pm_II) (J2 : pm_JJ), K89 x1 x2 x4 x5 x7 I J = some (r, I2, J2) → Q none (hp I2 J2 (pm_RT pa pb ga)) → Px k 176 m_Mo_stage 89 [.ref 120, .int x1, .int x2, .int x3, .int x4, .int x5, .int x6, .int x7, .null, .null] [] (hp I J (pm_RT pa pb ga)) Q) : ∀ (n : Nat), ∀ (x1 : Int32) (x2 : Int32) (x3 : Int32) (x4 : Int32) (x5 : Int32) (x6 : Int32) (x7 : Int32) (x8 : Int32) (x9 : Int32) (I : pm_II) (J : pm_JJ) (r : Unit) (I2 : pm_II) (J2 : pm_JJ), F_Mo_stage_152 u K2 K89 n x1 x2 x4 x5 x7 x8 x9 I J = some (r, I2, J2) → Q none (hp I2 J2 (pm_RT pa pb ga)) → Px k 176 m_Mo_stage 152 [.ref 120, .int x1, .int x2, .int x3, .int x4, .int x5, .int x6, .int x7, .int x8, .int x9] [] (hp I J (pm_RT pa pb ga)) Q := by
  obtain ⟨k, rfl⟩ : ∃ j, k = j + 1 := ⟨k - 1, by omega⟩
  intro n
  induction n with
  | zero => intro x1 x2 x3 x4 x5 x6 x7 x8 x9 I J r I2 J2  hF; cases hF
  | succ n ih =>
    intro x1 x2 x3 x4 x5 x6 x7 x8 x9 I J r I2 J2  hF hQ
    rw [F_Mo_stage_152] at hF
    refine bk_Mo_stage_152 ?_
    refine ⟨fun z => ?_, fun z => ?_⟩
    · rw [if_pos z] at hF
      exact Px_wk (hK89 _ _ _ _ _ _ _ _ _ _ _ _ hF hQ) ⟨Or.inl rfl, Or.inl rfl, Or.inl rfl, Or.inl rfl, Or.inl rfl, Or.inl rfl, Or.inl rfl, Or.inl rfl, Or.inr ⟨rfl, rfl⟩, Or.inr ⟨rfl, rfl⟩, trivial⟩
    · rw [if_neg z] at hF
      obtain ⟨g, hF⟩ := gd_e hF
      refine ⟨vq_in g, ?_⟩
      refine ⟨fun z => ?_, fun z => ?_⟩
      · rw [if_pos z] at hF
        exact ih _ _ _ _ _ _ _ _ _ _ _ _ _ _ hF hQ
      · rw [if_neg z] at hF
        refine ⟨fun z => ?_, fun z => ?_⟩
        · rw [if_pos z] at hF
          exact fx_Mo_stage_186 hk hK2 hK89 ih hF hQ
        · rw [if_neg z] at hF
          obtain ⟨g, hF⟩ := gd_e hF
          refine ⟨vq_in g, ?_⟩
          exact fx_Mo_stage_186 hk hK2 hK89 ih hF hQ
theorem fx_Mo_stage_117 {u k : Nat} {pa pb : Nat} {ga : Nat → Nat} {Q : Option Value → pm_H → Prop} {K2 : Int32 → Int32 → Int32 → pm_II → pm_JJ → Option (Unit × pm_II × pm_JJ)} {K89 : Int32 → Int32 → Int32 → Int32 → Int32 → pm_II → pm_JJ → Option (Unit × pm_II × pm_JJ)} {x1 : Int32} {x2 : Int32} {x3 : Int32} {x4 : Int32} {x5 : Int32} {x6 : Int32} {x7 : Int32} {I : pm_II} {J : pm_JJ} {r : Unit} {I2 : pm_II} {J2 : pm_JJ} (hk : 1 ≤ k) (hK2 : ∀ (x1 : Int32) (x2 : Int32) (x3 : Int32) (I : pm_II) (J : pm_JJ) (r : Unit) (I2 : pm_II) (J2 : pm_JJ), K2 x1 x2 x3 I J = some (r, I2, J2) → Q none (hp I2 J2 (pm_RT pa pb ga)) → Px k 176 m_Mo_stage 2 [.ref 120, .int x1, .int x2, .int x3, .null, .null, .null, .null, .null, .null] [] (hp I J (pm_RT pa pb ga)) Q) (hK89 : ∀ (x1 : Int32) (x2 : Int32) (x3 : Int32) (x4 : Int32) (x5 : Int32) (x6 : Int32) (x7 : Int32) (I : pm_II) (J : pm_JJ) (r : Unit) (I2 : pm_II) (J2 : pm_JJ), K89 x1 x2 x4 x5 x7 I J = some (r, I2, J2) → Q none (hp I2 J2 (pm_RT pa pb ga)) → Px k 176 m_Mo_stage 89 [.ref 120, .int x1, .int x2, .int x3, .int x4, .int x5, .int x6, .int x7, .null, .null] [] (hp I J (pm_RT pa pb ga)) Q) (hF : F_Mo_stage_117 u K2 K89 x1 x2 x4 x5 x7 I J = some (r, I2, J2)) (hQ : Q none (hp I2 J2 (pm_RT pa pb ga))) : Px k 176 m_Mo_stage 117 [.ref 120, .int x1, .int x2, .int x3, .int x4, .int x5, .int x6, .int x7, .null, .null] [] (hp I J (pm_RT pa pb ga)) Q := by
  obtain ⟨k, rfl⟩ : ∃ j, k = j + 1 := ⟨k - 1, by omega⟩
  unfold F_Mo_stage_117 at hF
  refine bk_Mo_stage_117 ?_
  obtain ⟨r123, I123, J123, hC123, hF⟩ := bd_e hF
  refine fx_Jm_min_II (by omega) hC123 ⟨rfl, ?_⟩
  refine bk_Mo_stage_126 ?_
  obtain ⟨g, hF⟩ := gd_e hF
  refine ⟨vq_in g, ?_⟩
  obtain ⟨g, hF⟩ := gd_e hF
  refine ⟨vq_in g, ?_⟩
  exact fx_Mo_stage_152 hk hK2 hK89 u _ _ _ _ _ _ _ _ _ _ _ _ _ _ hF hQ
theorem fx_Mo_stage_226 {u k : Nat} {pa pb : Nat} {ga : Nat → Nat} {Q : Option Value → pm_H → Prop} {K2 : Int32 → Int32 → Int32 → pm_II → pm_JJ → Option (Unit × pm_II × pm_JJ)} {x1 : Int32} {x2 : Int32} {x3 : Int32} {x4 : Int32} {x5 : Int32} {x6 : Int32} {x7 : Int32} {I : pm_II} {J : pm_JJ} {r : Unit} {I2 : pm_II} {J2 : pm_JJ} (hk : 1 ≤ k) (hK2 : ∀ (x1 : Int32) (x2 : Int32) (x3 : Int32) (I : pm_II) (J : pm_JJ) (r : Unit) (I2 : pm_II) (J2 : pm_JJ), K2 x1 x2 x3 I J = some (r, I2, J2) → Q none (hp I2 J2 (pm_RT pa pb ga)) → Px k 176 m_Mo_stage 2 [.ref 120, .int x1, .int x2, .int x3, .null, .null, .null, .null, .null, .null] [] (hp I J (pm_RT pa pb ga)) Q) (hF : F_Mo_stage_226 u K2 x1 x2 x5 I J = some (r, I2, J2)) (hQ : Q none (hp I2 J2 (pm_RT pa pb ga))) : Px k 176 m_Mo_stage 226 [.ref 120, .int x1, .int x2, .int x3, .int x4, .int x5, .int x6, .int x7, .null, .null] [] (hp I J (pm_RT pa pb ga)) Q := by
  obtain ⟨k, rfl⟩ : ∃ j, k = j + 1 := ⟨k - 1, by omega⟩
  unfold F_Mo_stage_226 at hF
  refine bk_Mo_stage_226 ?_
  exact Px_wk (hK2 _ _ _ _ _ _ _ _ hF hQ) ⟨Or.inl rfl, Or.inl rfl, Or.inl rfl, Or.inl rfl, Or.inr ⟨rfl, rfl⟩, Or.inr ⟨rfl, rfl⟩, Or.inr ⟨rfl, rfl⟩, Or.inr ⟨rfl, rfl⟩, Or.inl rfl, Or.inl rfl, trivial⟩
theorem fx_Mo_stage_89 {u k : Nat} {pa pb : Nat} {ga : Nat → Nat} {Q : Option Value → pm_H → Prop} {K2 : Int32 → Int32 → Int32 → pm_II → pm_JJ → Option (Unit × pm_II × pm_JJ)} (hk : 1 ≤ k) (hK2 : ∀ (x1 : Int32) (x2 : Int32) (x3 : Int32) (I : pm_II) (J : pm_JJ) (r : Unit) (I2 : pm_II) (J2 : pm_JJ), K2 x1 x2 x3 I J = some (r, I2, J2) → Q none (hp I2 J2 (pm_RT pa pb ga)) → Px k 176 m_Mo_stage 2 [.ref 120, .int x1, .int x2, .int x3, .null, .null, .null, .null, .null, .null] [] (hp I J (pm_RT pa pb ga)) Q) : ∀ (n : Nat), ∀ (x1 : Int32) (x2 : Int32) (x3 : Int32) (x4 : Int32) (x5 : Int32) (x6 : Int32) (x7 : Int32) (I : pm_II) (J : pm_JJ) (r : Unit) (I2 : pm_II) (J2 : pm_JJ), F_Mo_stage_89 u K2 n x1 x2 x4 x5 x7 I J = some (r, I2, J2) → Q none (hp I2 J2 (pm_RT pa pb ga)) → Px k 176 m_Mo_stage 89 [.ref 120, .int x1, .int x2, .int x3, .int x4, .int x5, .int x6, .int x7, .null, .null] [] (hp I J (pm_RT pa pb ga)) Q := by
  obtain ⟨k, rfl⟩ : ∃ j, k = j + 1 := ⟨k - 1, by omega⟩
  intro n
  induction n with
  | zero => intro x1 x2 x3 x4 x5 x6 x7 I J r I2 J2  hF; cases hF
  | succ n ih =>
    intro x1 x2 x3 x4 x5 x6 x7 I J r I2 J2  hF hQ
    rw [F_Mo_stage_89] at hF
    refine bk_Mo_stage_89 ?_
    refine ⟨fun z => ?_, fun z => ?_⟩
    · rw [if_pos z] at hF
      exact fx_Mo_stage_117 hk hK2 ih hF hQ
    · rw [if_neg z] at hF
      refine ⟨fun z => ?_, fun z => ?_⟩
      · rw [if_pos z] at hF
        exact fx_Mo_stage_226 hk hK2 hF hQ
      · rw [if_neg z] at hF
        refine ⟨fun z => ?_, fun z => ?_⟩
        · rw [if_pos z] at hF
          exact fx_Mo_stage_117 hk hK2 ih hF hQ
        · rw [if_neg z] at hF
          refine ⟨fun z => ?_, fun z => ?_⟩
          · rw [if_pos z] at hF
            exact fx_Mo_stage_226 hk hK2 hF hQ
          · rw [if_neg z] at hF
            exact fx_Mo_stage_117 hk hK2 ih hF hQ
theorem fx_Mo_stage_86 {u k : Nat} {pa pb : Nat} {ga : Nat → Nat} {Q : Option Value → pm_H → Prop} {K2 : Int32 → Int32 → Int32 → pm_II → pm_JJ → Option (Unit × pm_II × pm_JJ)} {x1 : Int32} {x2 : Int32} {x3 : Int32} {x4 : Int32} {x5 : Int32} {x6 : Int32} {I : pm_II} {J : pm_JJ} {r : Unit} {I2 : pm_II} {J2 : pm_JJ} (hk : 1 ≤ k) (hK2 : ∀ (x1 : Int32) (x2 : Int32) (x3 : Int32) (I : pm_II) (J : pm_JJ) (r : Unit) (I2 : pm_II) (J2 : pm_JJ), K2 x1 x2 x3 I J = some (r, I2, J2) → Q none (hp I2 J2 (pm_RT pa pb ga)) → Px k 176 m_Mo_stage 2 [.ref 120, .int x1, .int x2, .int x3, .null, .null, .null, .null, .null, .null] [] (hp I J (pm_RT pa pb ga)) Q) (hF : F_Mo_stage_86 u K2 x1 x2 x3 x4 x5 I J = some (r, I2, J2)) (hQ : Q none (hp I2 J2 (pm_RT pa pb ga))) : Px k 176 m_Mo_stage 86 [.ref 120, .int x1, .int x2, .int x3, .int x4, .int x5, .int x6, .null, .null, .null] [] (hp I J (pm_RT pa pb ga)) Q := by
  obtain ⟨k, rfl⟩ : ∃ j, k = j + 1 := ⟨k - 1, by omega⟩
  unfold F_Mo_stage_86 at hF
  refine bk_Mo_stage_86 ?_
  exact fx_Mo_stage_89 hk hK2 u _ _ _ _ _ _ _ _ _ _ _ _ hF hQ
theorem fx_Mo_stage_31 {u k : Nat} {pa pb : Nat} {ga : Nat → Nat} {Q : Option Value → pm_H → Prop} {K2 : Int32 → Int32 → Int32 → pm_II → pm_JJ → Option (Unit × pm_II × pm_JJ)} (hk : 1 ≤ k) (hK2 : ∀ (x1 : Int32) (x2 : Int32) (x3 : Int32) (I : pm_II) (J : pm_JJ) (r : Unit) (I2 : pm_II) (J2 : pm_JJ), K2 x1 x2 x3 I J = some (r, I2, J2) → Q none (hp I2 J2 (pm_RT pa pb ga)) → Px k 176 m_Mo_stage 2 [.ref 120, .int x1, .int x2, .int x3, .null, .null, .null, .null, .null, .null] [] (hp I J (pm_RT pa pb ga)) Q) : ∀ (n : Nat), ∀ (x1 : Int32) (x2 : Int32) (x3 : Int32) (x4 : Int32) (x5 : Int32) (x6 : Int32) (I : pm_II) (J : pm_JJ) (r : Unit) (I2 : pm_II) (J2 : pm_JJ), F_Mo_stage_31 u K2 n x1 x2 x3 x4 x5 x6 I J = some (r, I2, J2) → Q none (hp I2 J2 (pm_RT pa pb ga)) → Px k 176 m_Mo_stage 31 [.ref 120, .int x1, .int x2, .int x3, .int x4, .int x5, .int x6, .null, .null, .null] [] (hp I J (pm_RT pa pb ga)) Q := by
  obtain ⟨k, rfl⟩ : ∃ j, k = j + 1 := ⟨k - 1, by omega⟩
  intro n
  induction n with
  | zero => intro x1 x2 x3 x4 x5 x6 I J r I2 J2  hF; cases hF
  | succ n ih =>
    intro x1 x2 x3 x4 x5 x6 I J r I2 J2  hF hQ
    rw [F_Mo_stage_31] at hF
    refine bk_Mo_stage_31 ?_
    refine ⟨fun z => ?_, fun z => ?_⟩
    · rw [if_pos z] at hF
      exact fx_Mo_stage_86 hk hK2 hF hQ
    · rw [if_neg z] at hF
      obtain ⟨g, hF⟩ := gd_e hF
      refine ⟨vq_in g, ?_⟩
      obtain ⟨g, hF⟩ := gd_e hF
      refine ⟨vq_in g, ?_⟩
      obtain ⟨g, hF⟩ := ge_e hF
      refine ⟨g, ?_⟩
      refine ⟨fun z => ?_, fun z => ?_⟩
      · rw [if_pos z] at hF
        exact fx_Mo_stage_86 hk hK2 hF hQ
      · rw [if_neg z] at hF
        obtain ⟨g, hF⟩ := gd_e hF
        refine ⟨vq_in g, ?_⟩
        refine ⟨fun z => ?_, fun z => ?_⟩
        · rw [if_pos z] at hF
          exact ih _ _ _ _ _ _ _ _ _ _ _ hF hQ
        · rw [if_neg z] at hF
          exact ih _ _ _ _ _ _ _ _ _ _ _ hF hQ
theorem fx_Mo_stage_2 {u k : Nat} {pa pb : Nat} {ga : Nat → Nat} {Q : Option Value → pm_H → Prop} (hk : 1 ≤ k) : ∀ (n : Nat), ∀ (x1 : Int32) (x2 : Int32) (x3 : Int32) (I : pm_II) (J : pm_JJ) (r : Unit) (I2 : pm_II) (J2 : pm_JJ), F_Mo_stage_2 u n x1 x2 x3 I J = some (r, I2, J2) → Q none (hp I2 J2 (pm_RT pa pb ga)) → Px k 176 m_Mo_stage 2 [.ref 120, .int x1, .int x2, .int x3, .null, .null, .null, .null, .null, .null] [] (hp I J (pm_RT pa pb ga)) Q := by
  obtain ⟨k, rfl⟩ : ∃ j, k = j + 1 := ⟨k - 1, by omega⟩
  intro n
  induction n with
  | zero => intro x1 x2 x3 I J r I2 J2  hF; cases hF
  | succ n ih =>
    intro x1 x2 x3 I J r I2 J2  hF hQ
    rw [F_Mo_stage_2] at hF
    refine bk_Mo_stage_2 ?_
    refine ⟨fun z => ?_, fun z => ?_⟩
    · rw [if_pos z] at hF
      exact ret_q (Q := fun a b c => Q none (hp b c (pm_RT pa pb ga))) hF hQ
    · rw [if_neg z] at hF
      obtain ⟨g, hF⟩ := gd_e hF
      refine ⟨vq_in g, ?_⟩
      obtain ⟨g, hF⟩ := gd_e hF
      refine ⟨vq_in g, ?_⟩
      obtain ⟨g, hF⟩ := ge_e hF
      refine ⟨g, ?_⟩
      exact fx_Mo_stage_31 hk ih u _ _ _ _ _ _ _ _ _ _ _ hF hQ
theorem fx_Mo_stage {u k : Nat} {pa pb : Nat} {ga : Nat → Nat} {Q : Option Value → pm_H → Prop} {x1 : Int32} {x2 : Int32} {I : pm_II} {J : pm_JJ} {r : Unit} {I2 : pm_II} {J2 : pm_JJ} (hk : 1 ≤ k) (hF : F_Mo_stage u x1 x2 I J = some (r, I2, J2)) (hQ : Q none (hp I2 J2 (pm_RT pa pb ga))) : Px k 176 m_Mo_stage 0 [.ref 120, .int x1, .int x2, .null, .null, .null, .null, .null, .null, .null] [] (hp I J (pm_RT pa pb ga)) Q := by
  obtain ⟨k, rfl⟩ : ∃ j, k = j + 1 := ⟨k - 1, by omega⟩
  unfold F_Mo_stage at hF
  refine bk_Mo_stage_0 ?_
  exact fx_Mo_stage_2 hk u _ _ _ _ _ _ _ _ hF hQ
def F_Mo_bundled_14 (u : Nat) (K2 : Int32 → pm_II → pm_JJ → Option (Unit × pm_II × pm_JJ)) : Nat → Int32 → Int32 → Int32 → pm_II → pm_JJ → Option (Unit × pm_II × pm_JJ)
  | 0, _, _, _, _, _ => none
  | n + 1, x1, x2, x3, I, J =>
    if (I 120 73) ≤ x3 then (
      cond (vq x2 121) (
      cond (vq x2 121) (
      K2 (x1 + Int32.ofInt 1) (pm_up (pm_up I 164 ((x2 : Int32).toNatClampNeg) x1) 163 ((x2 : Int32).toNatClampNeg) (-1)) J) none) none)
    else (
      bd (F_Mo_isAhead u x3 x1 I J) fun r26 I26 J26 =>
      if r26 = 0 then (
        F_Mo_bundled_14 u K2 n x1 (x2 + (0 : Int32)) (x3 + Int32.ofInt 1) I26 J26)
      else (
        F_Mo_bundled_14 u K2 n x1 (x2 + (1 : Int32)) (x3 + Int32.ofInt 1) I26 J26))
def F_Mo_bundled_2 (u : Nat) : Nat → Int32 → pm_II → pm_JJ → Option (Unit × pm_II × pm_JJ)
  | 0, _, _, _ => none
  | n + 1, x1, I, J =>
    if (I 120 73) ≤ x1 then (
      bd (F_Mo_stage u (0 : Int32) (1 : Int32) (pm_up I 120 77 0) J) fun _ I73 J73 =>
      bd (F_Mo_stage u (1 : Int32) (100 : Int32) I73 J73) fun _ I80 J80 =>
      bd (F_Mo_stage u (2 : Int32) (Int32.ofNat 100000) I80 J80) fun _ I88 J88 =>
      some ((), I88, J88))
    else (
      F_Mo_bundled_14 u (F_Mo_bundled_2 u n) u x1 (0 : Int32) (0 : Int32) I J)
def F_Mo_bundled (u : Nat) (I : pm_II) (J : pm_JJ) : Option (Unit × pm_II × pm_JJ) :=
  F_Mo_bundled_2 u u (0 : Int32) I J
theorem fx_Mo_bundled_14 {u k : Nat} {pa pb : Nat} {ga : Nat → Nat} {Q : Option Value → pm_H → Prop} {K2 : Int32 → pm_II → pm_JJ → Option (Unit × pm_II × pm_JJ)} (hk : 2 ≤ k) (hK2 : ∀ (x1 : Int32) (I : pm_II) (J : pm_JJ) (r : Unit) (I2 : pm_II) (J2 : pm_JJ), K2 x1 I J = some (r, I2, J2) → Q none (hp I2 J2 (pm_RT pa pb ga)) → Px k 176 m_Mo_bundled 2 [.ref 120, .int x1, .null, .null] [] (hp I J (pm_RT pa pb ga)) Q) : ∀ (n : Nat), ∀ (x1 : Int32) (x2 : Int32) (x3 : Int32) (I : pm_II) (J : pm_JJ) (r : Unit) (I2 : pm_II) (J2 : pm_JJ), F_Mo_bundled_14 u K2 n x1 x2 x3 I J = some (r, I2, J2) → Q none (hp I2 J2 (pm_RT pa pb ga)) → Px k 176 m_Mo_bundled 14 [.ref 120, .int x1, .int x2, .int x3] [] (hp I J (pm_RT pa pb ga)) Q := by
  obtain ⟨k, rfl⟩ : ∃ j, k = j + 1 := ⟨k - 1, by omega⟩
  intro n
  induction n with
  | zero => intro x1 x2 x3 I J r I2 J2  hF; cases hF
  | succ n ih =>
    intro x1 x2 x3 I J r I2 J2  hF hQ
    rw [F_Mo_bundled_14] at hF
    refine bk_Mo_bundled_14 ?_
    refine ⟨fun z => ?_, fun z => ?_⟩
    · rw [if_pos z] at hF
      obtain ⟨g, hF⟩ := gd_e hF
      refine ⟨vq_in g, ?_⟩
      obtain ⟨g, hF⟩ := gd_e hF
      refine ⟨vq_in g, ?_⟩
      exact Px_wk (hK2 _ _ _ _ _ _ hF hQ) ⟨Or.inl rfl, Or.inl rfl, Or.inr ⟨rfl, rfl⟩, Or.inr ⟨rfl, rfl⟩, trivial⟩
    · rw [if_neg z] at hF
      obtain ⟨r26, I26, J26, hC26, hF⟩ := bd_e hF
      refine fx_Mo_isAhead (by omega) hC26 ⟨rfl, ?_⟩
      refine bk_Mo_bundled_29 ?_
      refine ⟨fun z => ?_, fun z => ?_⟩
      · rw [if_pos z] at hF
        exact ih _ _ _ _ _ _ _ _ hF hQ
      · rw [if_neg z] at hF
        exact ih _ _ _ _ _ _ _ _ hF hQ
theorem fx_Mo_bundled_2 {u k : Nat} {pa pb : Nat} {ga : Nat → Nat} {Q : Option Value → pm_H → Prop} (hk : 2 ≤ k) : ∀ (n : Nat), ∀ (x1 : Int32) (I : pm_II) (J : pm_JJ) (r : Unit) (I2 : pm_II) (J2 : pm_JJ), F_Mo_bundled_2 u n x1 I J = some (r, I2, J2) → Q none (hp I2 J2 (pm_RT pa pb ga)) → Px k 176 m_Mo_bundled 2 [.ref 120, .int x1, .null, .null] [] (hp I J (pm_RT pa pb ga)) Q := by
  obtain ⟨k, rfl⟩ : ∃ j, k = j + 1 := ⟨k - 1, by omega⟩
  intro n
  induction n with
  | zero => intro x1 I J r I2 J2  hF; cases hF
  | succ n ih =>
    intro x1 I J r I2 J2  hF hQ
    rw [F_Mo_bundled_2] at hF
    refine bk_Mo_bundled_2 ?_
    refine ⟨fun z => ?_, fun z => ?_⟩
    · rw [if_pos z] at hF
      obtain ⟨r73, I73, J73, hC73, hF⟩ := bd_e hF
      refine fx_Mo_stage (by omega) hC73 ⟨rfl, ?_⟩
      refine bk_Mo_bundled_76 ?_
      obtain ⟨r80, I80, J80, hC80, hF⟩ := bd_e hF
      refine fx_Mo_stage (by omega) hC80 ⟨rfl, ?_⟩
      refine bk_Mo_bundled_83 ?_
      obtain ⟨r88, I88, J88, hC88, hF⟩ := bd_e hF
      refine fx_Mo_stage (by omega) hC88 ⟨rfl, ?_⟩
      refine bk_Mo_bundled_91 ?_
      exact ret_q (Q := fun a b c => Q none (hp b c (pm_RT pa pb ga))) hF hQ
    · rw [if_neg z] at hF
      exact fx_Mo_bundled_14 hk ih u _ _ _ _ _ _ _ _ hF hQ
theorem fx_Mo_bundled {u k : Nat} {pa pb : Nat} {ga : Nat → Nat} {Q : Option Value → pm_H → Prop} {I : pm_II} {J : pm_JJ} {r : Unit} {I2 : pm_II} {J2 : pm_JJ} (hk : 2 ≤ k) (hF : F_Mo_bundled u  I J = some (r, I2, J2)) (hQ : Q none (hp I2 J2 (pm_RT pa pb ga))) : Px k 176 m_Mo_bundled 0 [.ref 120, .null, .null, .null] [] (hp I J (pm_RT pa pb ga)) Q := by
  obtain ⟨k, rfl⟩ : ∃ j, k = j + 1 := ⟨k - 1, by omega⟩
  unfold F_Mo_bundled at hF
  refine bk_Mo_bundled_0 ?_
  exact fx_Mo_bundled_2 hk u _ _ _ _ _ _ hF hQ
def F_Mo_nameHere_61 (u : Nat) (K34 : Int64 → Int32 → pm_II → pm_JJ → Option (Int64 × pm_II × pm_JJ)) (y1 : Int64) (x3 : Int32) (I : pm_II) (J : pm_JJ) : Option (Int64 × pm_II × pm_JJ) :=
  if ¬ ((I 120 4) - x3) = 8 then (
    bd (F_Mo_here u I J) fun r85 I85 J85 =>
    K34 (y1 ||| ((r85 : Int32).toInt64 <<< ((((56 : Int32) - ((8 : Int32) * ((I85 120 4) - x3))) : Int32).toInt64 &&& 63))) x3 (pm_up I85 120 4 ((I85 120 4) + (1 : Int32))) J85)
  else (
    bd (F_Mo_fail u (I 120 4) I J) fun _ I77 J77 =>
    K34 y1 x3 I77 J77)
def F_Mo_nameHere_117 (u : Nat) (y1 : Int64) (I : pm_II) (J : pm_JJ) : Option (Int64 × pm_II × pm_JJ) :=
  some (y1, I, J)
def F_Mo_nameHere_34 (u : Nat) : Nat → Int64 → Int32 → pm_II → pm_JJ → Option (Int64 × pm_II × pm_JJ)
  | 0, _, _, _, _ => none
  | n + 1, y1, x3, I, J =>
    bd (F_Mo_bad u I J) fun r35 I35 J35 =>
    if ¬ r35 = 0 then (
      F_Mo_nameHere_117 u y1 I35 J35)
    else (
      bd (F_Mo_here u I35 J35) fun r42 I42 J42 =>
      bd (F_Mo_isSmall u r42 I42 J42) fun r45 I45 J45 =>
      if ¬ r45 = 0 then (
        F_Mo_nameHere_61 u (F_Mo_nameHere_34 u n) y1 x3 I45 J45)
      else (
        bd (F_Mo_here u I45 J45) fun r52 I52 J52 =>
        bd (F_Mo_isDigit u r52 I52 J52) fun r55 I55 J55 =>
        if r55 = 0 then (
          F_Mo_nameHere_117 u y1 I55 J55)
        else (
          F_Mo_nameHere_61 u (F_Mo_nameHere_34 u n) y1 x3 I55 J55)))
def F_Mo_nameHere (u : Nat) (I : pm_II) (J : pm_JJ) : Option (Int64 × pm_II × pm_JJ) :=
  bd (F_Mo_bad u I J) fun r1 I1 J1 =>
  if r1 = 0 then (
    bd (F_Mo_here u I1 J1) fun r17 I17 J17 =>
    bd (F_Mo_isSmall u r17 I17 J17) fun r20 I20 J20 =>
    if ¬ r20 = 0 then (
      F_Mo_nameHere_34 u u (Int64.ofNat 0) (I1 120 4) I20 J20)
    else (
      bd (F_Mo_fail u (I20 120 4) I20 J20) fun _ I31 J31 =>
      F_Mo_nameHere_34 u u (Int64.ofNat 0) (I1 120 4) I31 J31))
  else (
    some ((Int64.ofNat 0), I1, J1))
theorem fx_Mo_nameHere_61 {u k : Nat} {pa pb : Nat} {ga : Nat → Nat} {Q : Option Value → pm_H → Prop} {K34 : Int64 → Int32 → pm_II → pm_JJ → Option (Int64 × pm_II × pm_JJ)} {y1 : Int64} {x3 : Int32} {I : pm_II} {J : pm_JJ} {r : Int64} {I2 : pm_II} {J2 : pm_JJ} (hk : 1 ≤ k) (hK34 : ∀ (y1 : Int64) (x3 : Int32) (I : pm_II) (J : pm_JJ) (r : Int64) (I2 : pm_II) (J2 : pm_JJ), K34 y1 x3 I J = some (r, I2, J2) → Q (some (.long r)) (hp I2 J2 (pm_RT pa pb ga)) → Px k 176 m_Mo_nameHere 34 [.ref 120, .long y1, .null, .int x3] [] (hp I J (pm_RT pa pb ga)) Q) (hF : F_Mo_nameHere_61 u K34 y1 x3 I J = some (r, I2, J2)) (hQ : Q (some (.long r)) (hp I2 J2 (pm_RT pa pb ga))) : Px k 176 m_Mo_nameHere 61 [.ref 120, .long y1, .null, .int x3] [] (hp I J (pm_RT pa pb ga)) Q := by
  obtain ⟨k, rfl⟩ : ∃ j, k = j + 1 := ⟨k - 1, by omega⟩
  unfold F_Mo_nameHere_61 at hF
  refine bk_Mo_nameHere_61 ?_
  refine ⟨fun z => ?_, fun z => ?_⟩
  · rw [if_pos z] at hF
    obtain ⟨r85, I85, J85, hC85, hF⟩ := bd_e hF
    refine fx_Mo_here (by omega) hC85 ⟨rfl, ?_⟩
    refine bk_Mo_nameHere_88 ?_
    exact hK34 _ _ _ _ _ _ _ hF hQ
  · rw [if_neg z] at hF
    obtain ⟨r77, I77, J77, hC77, hF⟩ := bd_e hF
    refine fx_Mo_fail (by omega) hC77 ⟨rfl, ?_⟩
    refine bk_Mo_nameHere_80 ?_
    exact hK34 _ _ _ _ _ _ _ hF hQ
theorem fx_Mo_nameHere_117 {u k : Nat} {pa pb : Nat} {ga : Nat → Nat} {Q : Option Value → pm_H → Prop} {y1 : Int64} {x3 : Int32} {I : pm_II} {J : pm_JJ} {r : Int64} {I2 : pm_II} {J2 : pm_JJ} (hk : 1 ≤ k) (hF : F_Mo_nameHere_117 u y1 I J = some (r, I2, J2)) (hQ : Q (some (.long r)) (hp I2 J2 (pm_RT pa pb ga))) : Px k 176 m_Mo_nameHere 117 [.ref 120, .long y1, .null, .int x3] [] (hp I J (pm_RT pa pb ga)) Q := by
  obtain ⟨k, rfl⟩ : ∃ j, k = j + 1 := ⟨k - 1, by omega⟩
  unfold F_Mo_nameHere_117 at hF
  refine bk_Mo_nameHere_117 ?_
  exact ret_q (Q := fun a b c => Q (some (.long a)) (hp b c (pm_RT pa pb ga))) hF hQ
theorem fx_Mo_nameHere_34 {u k : Nat} {pa pb : Nat} {ga : Nat → Nat} {Q : Option Value → pm_H → Prop} (hk : 1 ≤ k) : ∀ (n : Nat), ∀ (y1 : Int64) (x3 : Int32) (I : pm_II) (J : pm_JJ) (r : Int64) (I2 : pm_II) (J2 : pm_JJ), F_Mo_nameHere_34 u n y1 x3 I J = some (r, I2, J2) → Q (some (.long r)) (hp I2 J2 (pm_RT pa pb ga)) → Px k 176 m_Mo_nameHere 34 [.ref 120, .long y1, .null, .int x3] [] (hp I J (pm_RT pa pb ga)) Q := by
  obtain ⟨k, rfl⟩ : ∃ j, k = j + 1 := ⟨k - 1, by omega⟩
  intro n
  induction n with
  | zero => intro y1 x3 I J r I2 J2  hF; cases hF
  | succ n ih =>
    intro y1 x3 I J r I2 J2  hF hQ
    rw [F_Mo_nameHere_34] at hF
    refine bk_Mo_nameHere_34 ?_
    obtain ⟨r35, I35, J35, hC35, hF⟩ := bd_e hF
    refine fx_Mo_bad (by omega) hC35 ⟨rfl, ?_⟩
    refine bk_Mo_nameHere_38 ?_
    refine ⟨fun z => ?_, fun z => ?_⟩
    · rw [if_pos z] at hF
      exact fx_Mo_nameHere_117 hk hF hQ
    · rw [if_neg z] at hF
      obtain ⟨r42, I42, J42, hC42, hF⟩ := bd_e hF
      refine fx_Mo_here (by omega) hC42 ⟨rfl, ?_⟩
      refine bk_Mo_nameHere_45 ?_
      obtain ⟨r45, I45, J45, hC45, hF⟩ := bd_e hF
      refine fx_Mo_isSmall (by omega) hC45 ⟨rfl, ?_⟩
      refine bk_Mo_nameHere_48 ?_
      refine ⟨fun z => ?_, fun z => ?_⟩
      · rw [if_pos z] at hF
        exact fx_Mo_nameHere_61 hk ih hF hQ
      · rw [if_neg z] at hF
        obtain ⟨r52, I52, J52, hC52, hF⟩ := bd_e hF
        refine fx_Mo_here (by omega) hC52 ⟨rfl, ?_⟩
        refine bk_Mo_nameHere_55 ?_
        obtain ⟨r55, I55, J55, hC55, hF⟩ := bd_e hF
        refine fx_Mo_isDigit (by omega) hC55 ⟨rfl, ?_⟩
        refine bk_Mo_nameHere_58 ?_
        refine ⟨fun z => ?_, fun z => ?_⟩
        · rw [if_pos z] at hF
          exact fx_Mo_nameHere_117 hk hF hQ
        · rw [if_neg z] at hF
          exact fx_Mo_nameHere_61 hk ih hF hQ
theorem fx_Mo_nameHere {u k : Nat} {pa pb : Nat} {ga : Nat → Nat} {Q : Option Value → pm_H → Prop} {I : pm_II} {J : pm_JJ} {r : Int64} {I2 : pm_II} {J2 : pm_JJ} (hk : 1 ≤ k) (hF : F_Mo_nameHere u  I J = some (r, I2, J2)) (hQ : Q (some (.long r)) (hp I2 J2 (pm_RT pa pb ga))) : Px k 176 m_Mo_nameHere 0 [.ref 120, .null, .null, .null] [] (hp I J (pm_RT pa pb ga)) Q := by
  obtain ⟨k, rfl⟩ : ∃ j, k = j + 1 := ⟨k - 1, by omega⟩
  unfold F_Mo_nameHere at hF
  refine bk_Mo_nameHere_0 ?_
  obtain ⟨r1, I1, J1, hC1, hF⟩ := bd_e hF
  refine fx_Mo_bad (by omega) hC1 ⟨rfl, ?_⟩
  refine bk_Mo_nameHere_4 ?_
  refine ⟨fun z => ?_, fun z => ?_⟩
  · rw [if_pos z] at hF
    obtain ⟨r17, I17, J17, hC17, hF⟩ := bd_e hF
    refine fx_Mo_here (by omega) hC17 ⟨rfl, ?_⟩
    refine bk_Mo_nameHere_20 ?_
    obtain ⟨r20, I20, J20, hC20, hF⟩ := bd_e hF
    refine fx_Mo_isSmall (by omega) hC20 ⟨rfl, ?_⟩
    refine bk_Mo_nameHere_23 ?_
    refine ⟨fun z => ?_, fun z => ?_⟩
    · rw [if_pos z] at hF
      exact fx_Mo_nameHere_34 hk u _ _ _ _ _ _ _ hF hQ
    · rw [if_neg z] at hF
      obtain ⟨r31, I31, J31, hC31, hF⟩ := bd_e hF
      refine fx_Mo_fail (by omega) hC31 ⟨rfl, ?_⟩
      exact fx_Mo_nameHere_34 hk u _ _ _ _ _ _ _ hF hQ
  · rw [if_neg z] at hF
    exact ret_q (Q := fun a b c => Q (some (.long a)) (hp b c (pm_RT pa pb ga))) hF hQ
def F_Mo_letters_84 (u : Nat) (K14 : Int32 → pm_II → pm_JJ → Option (Int32 × pm_II × pm_JJ)) (K54 : Int32 → Int32 → Int32 → pm_II → pm_JJ → Option (Int32 × pm_II × pm_JJ)) (x1 : Int32) (x2 : Int32) (x3 : Int32) (I : pm_II) (J : pm_JJ) : Option (Int32 × pm_II × pm_JJ) :=
  bd (F_Mo_here u I J) fun r89 I89 J89 =>
  K54 x1 ((((10 : Int32) * x2) + r89) - (48 : Int32)) (x3 + Int32.ofInt 1) (pm_up I89 120 4 ((I89 120 4) + (1 : Int32))) J89
def F_Mo_letters_149 (u : Nat) (K14 : Int32 → pm_II → pm_JJ → Option (Int32 × pm_II × pm_JJ)) : Nat → Int32 → Int32 → Int64 → Int32 → Int32 → pm_II → pm_JJ → Option (Int32 × pm_II × pm_JJ)
  | 0, _, _, _, _, _, _, _ => none
  | n + 1, x1, x2, y3, x5, x6, I, J =>
    if (I 120 74) ≤ x6 then (
      if x5 = 0 then (
        cond (vq (I 120 74) 161) (
        cond (vq (I 120 74) 161) (
        K14 x1 (pm_up (pm_up I 162 (((I 120 74) : Int32).toNatClampNeg) x2) 120 74 ((I 120 74) + (1 : Int32))) (pm_up J 168 (((I 120 74) : Int32).toNatClampNeg) y3)) none) none)
      else (
        K14 x1 I J))
    else (
      if ¬ x5 = 0 then (
        F_Mo_letters_149 u K14 n x1 x2 y3 (1 : Int32) (x6 + Int32.ofInt 1) I J)
      else (
        cond (vq x6 161) (
        if ¬ (I 162 ((x6 : Int32).toNatClampNeg)) = x2 then (
          F_Mo_letters_149 u K14 n x1 x2 y3 (0 : Int32) (x6 + Int32.ofInt 1) I J)
        else (
          cond (vq x6 161) (
          if ¬ (lg_cmp (J 168 ((x6 : Int32).toNatClampNeg)) y3) = 0 then (
            F_Mo_letters_149 u K14 n x1 x2 y3 (0 : Int32) (x6 + Int32.ofInt 1) I J)
          else (
            F_Mo_letters_149 u K14 n x1 x2 y3 (1 : Int32) (x6 + Int32.ofInt 1) I J)) none)) none))
def F_Mo_letters_113 (u : Nat) (K14 : Int32 → pm_II → pm_JJ → Option (Int32 × pm_II × pm_JJ)) (x1 : Int32) (x2 : Int32) (I : pm_II) (J : pm_JJ) : Option (Int32 × pm_II × pm_JJ) :=
  bd (F_Mo_need u (32 : Int32) I J) fun _ I116 J116 =>
  bd (F_Mo_nameHere u I116 J116) fun r120 I120 J120 =>
  bd (F_Mo_need u (10 : Int32) I120 J120) fun _ I127 J127 =>
  bd (F_Mo_bad u I127 J127) fun r131 I131 J131 =>
  if r131 = 0 then (
    F_Mo_letters_149 u K14 u (x1 + Int32.ofInt 1) x2 r120 (0 : Int32) (0 : Int32) I131 J131)
  else (
    K14 x1 I131 J131)
def F_Mo_letters_54 (u : Nat) (K14 : Int32 → pm_II → pm_JJ → Option (Int32 × pm_II × pm_JJ)) : Nat → Int32 → Int32 → Int32 → pm_II → pm_JJ → Option (Int32 × pm_II × pm_JJ)
  | 0, _, _, _, _, _ => none
  | n + 1, x1, x2, x3, I, J =>
    if 5 ≤ x3 then (
      F_Mo_letters_113 u K14 x1 x2 I J)
    else (
      bd (F_Mo_bad u I J) fun r60 I60 J60 =>
      if ¬ r60 = 0 then (
        F_Mo_letters_113 u K14 x1 x2 I60 J60)
      else (
        bd (F_Mo_here u I60 J60) fun r67 I67 J67 =>
        bd (F_Mo_isDigit u r67 I67 J67) fun r70 I70 J70 =>
        if ¬ r70 = 0 then (
          F_Mo_letters_84 u K14 (F_Mo_letters_54 u K14 n) x1 x2 x3 I70 J70)
        else (
          bd (F_Mo_fail u (I70 120 4) I70 J70) fun _ I81 J81 =>
          F_Mo_letters_84 u K14 (F_Mo_letters_54 u K14 n) x1 x2 x3 I81 J81)))
def F_Mo_letters_50 (u : Nat) (K14 : Int32 → pm_II → pm_JJ → Option (Int32 × pm_II × pm_JJ)) (x1 : Int32) (I : pm_II) (J : pm_JJ) : Option (Int32 × pm_II × pm_JJ) :=
  F_Mo_letters_54 u K14 u x1 (0 : Int32) (0 : Int32) I J
def F_Mo_letters_36 (u : Nat) (K14 : Int32 → pm_II → pm_JJ → Option (Int32 × pm_II × pm_JJ)) (x1 : Int32) (I : pm_II) (J : pm_JJ) : Option (Int32 × pm_II × pm_JJ) :=
  if ¬ x1 = 40 then (
    F_Mo_letters_50 u K14 x1 I J)
  else (
    bd (F_Mo_fail u (I 120 4) I J) fun _ I47 J47 =>
    F_Mo_letters_50 u K14 x1 I47 J47)
def F_Mo_letters_240 (u : Nat) (I : pm_II) (J : pm_JJ) : Option (Int32 × pm_II × pm_JJ) :=
  bd (F_Mo_bad u I J) fun r241 I241 J241 =>
  if r241 = 0 then (
    if (I241 120 74) ≤ 120 then (
      bd (F_Mo_bundled u (pm_up I241 120 73 (I241 120 74)) J241) fun _ I277 J277 =>
      some ((I277 120 73), I277, J277))
    else (
      some (((-4) : Int32), I241, J241)))
  else (
    some ((((-1000) : Int32) - (I241 120 5)), I241, J241))
def F_Mo_letters_14 (u : Nat) : Nat → Int32 → pm_II → pm_JJ → Option (Int32 × pm_II × pm_JJ)
  | 0, _, _, _ => none
  | n + 1, x1, I, J =>
    bd (F_Mo_bad u I J) fun r15 I15 J15 =>
    if ¬ r15 = 0 then (
      F_Mo_letters_240 u I15 J15)
    else (
      if (I15 120 4) < (I15 120 3) then (
        F_Mo_letters_36 u (F_Mo_letters_14 u n) x1 I15 J15)
      else (
        if ¬ x1 = 0 then (
          F_Mo_letters_240 u I15 J15)
        else (
          F_Mo_letters_36 u (F_Mo_letters_14 u n) x1 I15 J15)))
def F_Mo_letters (u : Nat) (I : pm_II) (J : pm_JJ) : Option (Int32 × pm_II × pm_JJ) :=
  bd (F_Mo_take u I J) fun _ I1 J1 =>
  F_Mo_letters_14 u u (0 : Int32) (pm_up I1 120 74 (I1 120 73)) J1
theorem fx_Mo_letters_84 {u k : Nat} {pa pb : Nat} {ga : Nat → Nat} {Q : Option Value → pm_H → Prop} {K14 : Int32 → pm_II → pm_JJ → Option (Int32 × pm_II × pm_JJ)} {K54 : Int32 → Int32 → Int32 → pm_II → pm_JJ → Option (Int32 × pm_II × pm_JJ)} {x1 : Int32} {x2 : Int32} {x3 : Int32} {I : pm_II} {J : pm_JJ} {r : Int32} {I2 : pm_II} {J2 : pm_JJ} (hk : 3 ≤ k) (hK14 : ∀ (x1 : Int32) (I : pm_II) (J : pm_JJ) (r : Int32) (I2 : pm_II) (J2 : pm_JJ), K14 x1 I J = some (r, I2, J2) → Q (some (.int r)) (hp I2 J2 (pm_RT pa pb ga)) → Px k 176 m_Mo_letters 14 [.ref 120, .int x1, .null, .null, .null, .null, .null] [] (hp I J (pm_RT pa pb ga)) Q) (hK54 : ∀ (x1 : Int32) (x2 : Int32) (x3 : Int32) (I : pm_II) (J : pm_JJ) (r : Int32) (I2 : pm_II) (J2 : pm_JJ), K54 x1 x2 x3 I J = some (r, I2, J2) → Q (some (.int r)) (hp I2 J2 (pm_RT pa pb ga)) → Px k 176 m_Mo_letters 54 [.ref 120, .int x1, .int x2, .int x3, .null, .null, .null] [] (hp I J (pm_RT pa pb ga)) Q) (hF : F_Mo_letters_84 u K14 K54 x1 x2 x3 I J = some (r, I2, J2)) (hQ : Q (some (.int r)) (hp I2 J2 (pm_RT pa pb ga))) : Px k 176 m_Mo_letters 84 [.ref 120, .int x1, .int x2, .int x3, .null, .null, .null] [] (hp I J (pm_RT pa pb ga)) Q := by
  obtain ⟨k, rfl⟩ : ∃ j, k = j + 1 := ⟨k - 1, by omega⟩
  unfold F_Mo_letters_84 at hF
  refine bk_Mo_letters_84 ?_
  obtain ⟨r89, I89, J89, hC89, hF⟩ := bd_e hF
  refine fx_Mo_here (by omega) hC89 ⟨rfl, ?_⟩
  refine bk_Mo_letters_92 ?_
  exact hK54 _ _ _ _ _ _ _ _ hF hQ
theorem fx_Mo_letters_149 {u k : Nat} {pa pb : Nat} {ga : Nat → Nat} {Q : Option Value → pm_H → Prop} {K14 : Int32 → pm_II → pm_JJ → Option (Int32 × pm_II × pm_JJ)} (hk : 3 ≤ k) (hK14 : ∀ (x1 : Int32) (I : pm_II) (J : pm_JJ) (r : Int32) (I2 : pm_II) (J2 : pm_JJ), K14 x1 I J = some (r, I2, J2) → Q (some (.int r)) (hp I2 J2 (pm_RT pa pb ga)) → Px k 176 m_Mo_letters 14 [.ref 120, .int x1, .null, .null, .null, .null, .null] [] (hp I J (pm_RT pa pb ga)) Q) : ∀ (n : Nat), ∀ (x1 : Int32) (x2 : Int32) (y3 : Int64) (x5 : Int32) (x6 : Int32) (I : pm_II) (J : pm_JJ) (r : Int32) (I2 : pm_II) (J2 : pm_JJ), F_Mo_letters_149 u K14 n x1 x2 y3 x5 x6 I J = some (r, I2, J2) → Q (some (.int r)) (hp I2 J2 (pm_RT pa pb ga)) → Px k 176 m_Mo_letters 149 [.ref 120, .int x1, .int x2, .long y3, .null, .int x5, .int x6] [] (hp I J (pm_RT pa pb ga)) Q := by
  obtain ⟨k, rfl⟩ : ∃ j, k = j + 1 := ⟨k - 1, by omega⟩
  intro n
  induction n with
  | zero => intro x1 x2 y3 x5 x6 I J r I2 J2  hF; cases hF
  | succ n ih =>
    intro x1 x2 y3 x5 x6 I J r I2 J2  hF hQ
    rw [F_Mo_letters_149] at hF
    refine bk_Mo_letters_149 ?_
    refine ⟨fun z => ?_, fun z => ?_⟩
    · rw [if_pos z] at hF
      refine ⟨fun z => ?_, fun z => ?_⟩
      · rw [if_pos z] at hF
        obtain ⟨g, hF⟩ := gd_e hF
        refine ⟨vq_in g, ?_⟩
        obtain ⟨g, hF⟩ := gd_e hF
        refine ⟨vq_in g, ?_⟩
        exact Px_wk (Px_wj 3 y3 (by decide +kernel) rfl (hK14 _ _ _ _ _ _ hF hQ)) ⟨Or.inl rfl, Or.inl rfl, Or.inr ⟨rfl, rfl⟩, Or.inl rfl, Or.inl rfl, Or.inr ⟨rfl, rfl⟩, Or.inr ⟨rfl, rfl⟩, trivial⟩
      · rw [if_neg z] at hF
        exact Px_wk (Px_wj 3 y3 (by decide +kernel) rfl (hK14 _ _ _ _ _ _ hF hQ)) ⟨Or.inl rfl, Or.inl rfl, Or.inr ⟨rfl, rfl⟩, Or.inl rfl, Or.inl rfl, Or.inr ⟨rfl, rfl⟩, Or.inr ⟨rfl, rfl⟩, trivial⟩
    · rw [if_neg z] at hF
      refine ⟨fun z => ?_, fun z => ?_⟩
      · rw [if_pos z] at hF
        exact ih _ _ _ _ _ _ _ _ _ _ hF hQ
      · rw [if_neg z] at hF
        obtain ⟨g, hF⟩ := gd_e hF
        refine ⟨vq_in g, ?_⟩
        refine ⟨fun z => ?_, fun z => ?_⟩
        · rw [if_pos z] at hF
          exact ih _ _ _ _ _ _ _ _ _ _ hF hQ
        · rw [if_neg z] at hF
          obtain ⟨g, hF⟩ := gd_e hF
          refine ⟨vq_in g, ?_⟩
          refine ⟨fun z => ?_, fun z => ?_⟩
          · rw [if_pos z] at hF
            exact ih _ _ _ _ _ _ _ _ _ _ hF hQ
          · rw [if_neg z] at hF
            exact ih _ _ _ _ _ _ _ _ _ _ hF hQ
theorem fx_Mo_letters_113 {u k : Nat} {pa pb : Nat} {ga : Nat → Nat} {Q : Option Value → pm_H → Prop} {K14 : Int32 → pm_II → pm_JJ → Option (Int32 × pm_II × pm_JJ)} {x1 : Int32} {x2 : Int32} {x3 : Int32} {I : pm_II} {J : pm_JJ} {r : Int32} {I2 : pm_II} {J2 : pm_JJ} (hk : 3 ≤ k) (hK14 : ∀ (x1 : Int32) (I : pm_II) (J : pm_JJ) (r : Int32) (I2 : pm_II) (J2 : pm_JJ), K14 x1 I J = some (r, I2, J2) → Q (some (.int r)) (hp I2 J2 (pm_RT pa pb ga)) → Px k 176 m_Mo_letters 14 [.ref 120, .int x1, .null, .null, .null, .null, .null] [] (hp I J (pm_RT pa pb ga)) Q) (hF : F_Mo_letters_113 u K14 x1 x2 I J = some (r, I2, J2)) (hQ : Q (some (.int r)) (hp I2 J2 (pm_RT pa pb ga))) : Px k 176 m_Mo_letters 113 [.ref 120, .int x1, .int x2, .int x3, .null, .null, .null] [] (hp I J (pm_RT pa pb ga)) Q := by
  obtain ⟨k, rfl⟩ : ∃ j, k = j + 1 := ⟨k - 1, by omega⟩
  unfold F_Mo_letters_113 at hF
  refine bk_Mo_letters_113 ?_
  obtain ⟨r116, I116, J116, hC116, hF⟩ := bd_e hF
  refine fx_Mo_need (by omega) hC116 ⟨rfl, ?_⟩
  refine bk_Mo_letters_119 ?_
  obtain ⟨r120, I120, J120, hC120, hF⟩ := bd_e hF
  refine fx_Mo_nameHere (by omega) hC120 ⟨rfl, ?_⟩
  refine bk_Mo_letters_123 ?_
  obtain ⟨r127, I127, J127, hC127, hF⟩ := bd_e hF
  refine fx_Mo_need (by omega) hC127 ⟨rfl, ?_⟩
  refine bk_Mo_letters_130 ?_
  obtain ⟨r131, I131, J131, hC131, hF⟩ := bd_e hF
  refine fx_Mo_bad (by omega) hC131 ⟨rfl, ?_⟩
  refine bk_Mo_letters_134 ?_
  refine ⟨fun z => ?_, fun z => ?_⟩
  · rw [if_pos z] at hF
    exact fx_Mo_letters_149 hk hK14 u _ _ _ _ _ _ _ _ _ _ hF hQ
  · rw [if_neg z] at hF
    exact Px_wk (Px_wj 3 r120 (by decide +kernel) rfl (hK14 _ _ _ _ _ _ hF hQ)) ⟨Or.inl rfl, Or.inl rfl, Or.inr ⟨rfl, rfl⟩, Or.inl rfl, Or.inl rfl, Or.inl rfl, Or.inl rfl, trivial⟩
theorem fx_Mo_letters_54 {u k : Nat} {pa pb : Nat} {ga : Nat → Nat} {Q : Option Value → pm_H → Prop} {K14 : Int32 → pm_II → pm_JJ → Option (Int32 × pm_II × pm_JJ)} (hk : 3 ≤ k) (hK14 : ∀ (x1 : Int32) (I : pm_II) (J : pm_JJ) (r : Int32) (I2 : pm_II) (J2 : pm_JJ), K14 x1 I J = some (r, I2, J2) → Q (some (.int r)) (hp I2 J2 (pm_RT pa pb ga)) → Px k 176 m_Mo_letters 14 [.ref 120, .int x1, .null, .null, .null, .null, .null] [] (hp I J (pm_RT pa pb ga)) Q) : ∀ (n : Nat), ∀ (x1 : Int32) (x2 : Int32) (x3 : Int32) (I : pm_II) (J : pm_JJ) (r : Int32) (I2 : pm_II) (J2 : pm_JJ), F_Mo_letters_54 u K14 n x1 x2 x3 I J = some (r, I2, J2) → Q (some (.int r)) (hp I2 J2 (pm_RT pa pb ga)) → Px k 176 m_Mo_letters 54 [.ref 120, .int x1, .int x2, .int x3, .null, .null, .null] [] (hp I J (pm_RT pa pb ga)) Q := by
  obtain ⟨k, rfl⟩ : ∃ j, k = j + 1 := ⟨k - 1, by omega⟩
  intro n
  induction n with
  | zero => intro x1 x2 x3 I J r I2 J2  hF; cases hF
  | succ n ih =>
    intro x1 x2 x3 I J r I2 J2  hF hQ
    rw [F_Mo_letters_54] at hF
    refine bk_Mo_letters_54 ?_
    refine ⟨fun z => ?_, fun z => ?_⟩
    · rw [if_pos z] at hF
      exact fx_Mo_letters_113 hk hK14 hF hQ
    · rw [if_neg z] at hF
      obtain ⟨r60, I60, J60, hC60, hF⟩ := bd_e hF
      refine fx_Mo_bad (by omega) hC60 ⟨rfl, ?_⟩
      refine bk_Mo_letters_63 ?_
      refine ⟨fun z => ?_, fun z => ?_⟩
      · rw [if_pos z] at hF
        exact fx_Mo_letters_113 hk hK14 hF hQ
      · rw [if_neg z] at hF
        obtain ⟨r67, I67, J67, hC67, hF⟩ := bd_e hF
        refine fx_Mo_here (by omega) hC67 ⟨rfl, ?_⟩
        refine bk_Mo_letters_70 ?_
        obtain ⟨r70, I70, J70, hC70, hF⟩ := bd_e hF
        refine fx_Mo_isDigit (by omega) hC70 ⟨rfl, ?_⟩
        refine bk_Mo_letters_73 ?_
        refine ⟨fun z => ?_, fun z => ?_⟩
        · rw [if_pos z] at hF
          exact fx_Mo_letters_84 hk hK14 ih hF hQ
        · rw [if_neg z] at hF
          obtain ⟨r81, I81, J81, hC81, hF⟩ := bd_e hF
          refine fx_Mo_fail (by omega) hC81 ⟨rfl, ?_⟩
          exact fx_Mo_letters_84 hk hK14 ih hF hQ
theorem fx_Mo_letters_50 {u k : Nat} {pa pb : Nat} {ga : Nat → Nat} {Q : Option Value → pm_H → Prop} {K14 : Int32 → pm_II → pm_JJ → Option (Int32 × pm_II × pm_JJ)} {x1 : Int32} {I : pm_II} {J : pm_JJ} {r : Int32} {I2 : pm_II} {J2 : pm_JJ} (hk : 3 ≤ k) (hK14 : ∀ (x1 : Int32) (I : pm_II) (J : pm_JJ) (r : Int32) (I2 : pm_II) (J2 : pm_JJ), K14 x1 I J = some (r, I2, J2) → Q (some (.int r)) (hp I2 J2 (pm_RT pa pb ga)) → Px k 176 m_Mo_letters 14 [.ref 120, .int x1, .null, .null, .null, .null, .null] [] (hp I J (pm_RT pa pb ga)) Q) (hF : F_Mo_letters_50 u K14 x1 I J = some (r, I2, J2)) (hQ : Q (some (.int r)) (hp I2 J2 (pm_RT pa pb ga))) : Px k 176 m_Mo_letters 50 [.ref 120, .int x1, .null, .null, .null, .null, .null] [] (hp I J (pm_RT pa pb ga)) Q := by
  obtain ⟨k, rfl⟩ : ∃ j, k = j + 1 := ⟨k - 1, by omega⟩
  unfold F_Mo_letters_50 at hF
  refine bk_Mo_letters_50 ?_
  exact fx_Mo_letters_54 hk hK14 u _ _ _ _ _ _ _ _ hF hQ
theorem fx_Mo_letters_36 {u k : Nat} {pa pb : Nat} {ga : Nat → Nat} {Q : Option Value → pm_H → Prop} {K14 : Int32 → pm_II → pm_JJ → Option (Int32 × pm_II × pm_JJ)} {x1 : Int32} {I : pm_II} {J : pm_JJ} {r : Int32} {I2 : pm_II} {J2 : pm_JJ} (hk : 3 ≤ k) (hK14 : ∀ (x1 : Int32) (I : pm_II) (J : pm_JJ) (r : Int32) (I2 : pm_II) (J2 : pm_JJ), K14 x1 I J = some (r, I2, J2) → Q (some (.int r)) (hp I2 J2 (pm_RT pa pb ga)) → Px k 176 m_Mo_letters 14 [.ref 120, .int x1, .null, .null, .null, .null, .null] [] (hp I J (pm_RT pa pb ga)) Q) (hF : F_Mo_letters_36 u K14 x1 I J = some (r, I2, J2)) (hQ : Q (some (.int r)) (hp I2 J2 (pm_RT pa pb ga))) : Px k 176 m_Mo_letters 36 [.ref 120, .int x1, .null, .null, .null, .null, .null] [] (hp I J (pm_RT pa pb ga)) Q := by
  obtain ⟨k, rfl⟩ : ∃ j, k = j + 1 := ⟨k - 1, by omega⟩
  unfold F_Mo_letters_36 at hF
  refine bk_Mo_letters_36 ?_
  refine ⟨fun z => ?_, fun z => ?_⟩
  · rw [if_pos z] at hF
    exact fx_Mo_letters_50 hk hK14 hF hQ
  · rw [if_neg z] at hF
    obtain ⟨r47, I47, J47, hC47, hF⟩ := bd_e hF
    refine fx_Mo_fail (by omega) hC47 ⟨rfl, ?_⟩
    exact fx_Mo_letters_50 hk hK14 hF hQ
theorem fx_Mo_letters_240 {u k : Nat} {pa pb : Nat} {ga : Nat → Nat} {Q : Option Value → pm_H → Prop} {x1 : Int32} {I : pm_II} {J : pm_JJ} {r : Int32} {I2 : pm_II} {J2 : pm_JJ} (hk : 3 ≤ k) (hF : F_Mo_letters_240 u  I J = some (r, I2, J2)) (hQ : Q (some (.int r)) (hp I2 J2 (pm_RT pa pb ga))) : Px k 176 m_Mo_letters 240 [.ref 120, .int x1, .null, .null, .null, .null, .null] [] (hp I J (pm_RT pa pb ga)) Q := by
  obtain ⟨k, rfl⟩ : ∃ j, k = j + 1 := ⟨k - 1, by omega⟩
  unfold F_Mo_letters_240 at hF
  refine bk_Mo_letters_240 ?_
  obtain ⟨r241, I241, J241, hC241, hF⟩ := bd_e hF
  refine fx_Mo_bad (by omega) hC241 ⟨rfl, ?_⟩
  refine bk_Mo_letters_244 ?_
  refine ⟨fun z => ?_, fun z => ?_⟩
  · rw [if_pos z] at hF
    refine ⟨fun z => ?_, fun z => ?_⟩
    · rw [if_pos z] at hF
      obtain ⟨r277, I277, J277, hC277, hF⟩ := bd_e hF
      refine fx_Mo_bundled (by omega) hC277 ⟨rfl, ?_⟩
      refine bk_Mo_letters_280 ?_
      exact ret_q (Q := fun a b c => Q (some (.int a)) (hp b c (pm_RT pa pb ga))) hF hQ
    · rw [if_neg z] at hF
      exact ret_q (Q := fun a b c => Q (some (.int a)) (hp b c (pm_RT pa pb ga))) hF hQ
  · rw [if_neg z] at hF
    exact ret_q (Q := fun a b c => Q (some (.int a)) (hp b c (pm_RT pa pb ga))) hF hQ
theorem fx_Mo_letters_14 {u k : Nat} {pa pb : Nat} {ga : Nat → Nat} {Q : Option Value → pm_H → Prop} (hk : 3 ≤ k) : ∀ (n : Nat), ∀ (x1 : Int32) (I : pm_II) (J : pm_JJ) (r : Int32) (I2 : pm_II) (J2 : pm_JJ), F_Mo_letters_14 u n x1 I J = some (r, I2, J2) → Q (some (.int r)) (hp I2 J2 (pm_RT pa pb ga)) → Px k 176 m_Mo_letters 14 [.ref 120, .int x1, .null, .null, .null, .null, .null] [] (hp I J (pm_RT pa pb ga)) Q := by
  obtain ⟨k, rfl⟩ : ∃ j, k = j + 1 := ⟨k - 1, by omega⟩
  intro n
  induction n with
  | zero => intro x1 I J r I2 J2  hF; cases hF
  | succ n ih =>
    intro x1 I J r I2 J2  hF hQ
    rw [F_Mo_letters_14] at hF
    refine bk_Mo_letters_14 ?_
    obtain ⟨r15, I15, J15, hC15, hF⟩ := bd_e hF
    refine fx_Mo_bad (by omega) hC15 ⟨rfl, ?_⟩
    refine bk_Mo_letters_18 ?_
    refine ⟨fun z => ?_, fun z => ?_⟩
    · rw [if_pos z] at hF
      exact fx_Mo_letters_240 hk hF hQ
    · rw [if_neg z] at hF
      refine ⟨fun z => ?_, fun z => ?_⟩
      · rw [if_pos z] at hF
        exact fx_Mo_letters_36 hk ih hF hQ
      · rw [if_neg z] at hF
        refine ⟨fun z => ?_, fun z => ?_⟩
        · rw [if_pos z] at hF
          exact fx_Mo_letters_240 hk hF hQ
        · rw [if_neg z] at hF
          exact fx_Mo_letters_36 hk ih hF hQ
theorem fx_Mo_letters {u k : Nat} {pa pb : Nat} {ga : Nat → Nat} {Q : Option Value → pm_H → Prop} {I : pm_II} {J : pm_JJ} {r : Int32} {I2 : pm_II} {J2 : pm_JJ} (hk : 3 ≤ k) (hF : F_Mo_letters u  I J = some (r, I2, J2)) (hQ : Q (some (.int r)) (hp I2 J2 (pm_RT pa pb ga))) : Px k 176 m_Mo_letters 0 [.ref 120, .null, .null, .null, .null, .null, .null] [] (hp I J (pm_RT pa pb ga)) Q := by
  obtain ⟨k, rfl⟩ : ∃ j, k = j + 1 := ⟨k - 1, by omega⟩
  unfold F_Mo_letters at hF
  refine bk_Mo_letters_0 ?_
  obtain ⟨r1, I1, J1, hC1, hF⟩ := bd_e hF
  refine fx_Mo_take (by omega) hC1 ⟨rfl, ?_⟩
  refine bk_Mo_letters_4 ?_
  exact fx_Mo_letters_14 hk u _ _ _ _ _ _ hF hQ
def F_Mo_bundles (u : Nat) (x1 : Int32) (x2 : Int32) (I : pm_II) (J : pm_JJ) : Option (Int32 × pm_II × pm_JJ) :=
  bd (F_Mo_is u x1 (1 : Int32) x2 I J) fun r3 I3 J3 =>
  if r3 = 0 then (
    some (((-1) : Int32), I3, J3))
  else (
    bd (F_Mo_is u x2 (1 : Int32) (30 : Int32) I3 J3) fun r13 I13 J13 =>
    if ¬ r13 = 0 then (
      bd (F_Mo_bundled u (pm_up (pm_up I13 120 75 x1) 120 76 x2) J13) fun _ I32 J32 =>
      some ((I32 120 77), I32, J32))
    else (
      some (((-1) : Int32), I13, J13)))
theorem fx_Mo_bundles {u k : Nat} {pa pb : Nat} {ga : Nat → Nat} {Q : Option Value → pm_H → Prop} {x1 : Int32} {x2 : Int32} {I : pm_II} {J : pm_JJ} {r : Int32} {I2 : pm_II} {J2 : pm_JJ} (hk : 3 ≤ k) (hF : F_Mo_bundles u x1 x2 I J = some (r, I2, J2)) (hQ : Q (some (.int r)) (hp I2 J2 (pm_RT pa pb ga))) : Px k 176 m_Mo_bundles 0 [.ref 120, .int x1, .int x2] [] (hp I J (pm_RT pa pb ga)) Q := by
  obtain ⟨k, rfl⟩ : ∃ j, k = j + 1 := ⟨k - 1, by omega⟩
  unfold F_Mo_bundles at hF
  refine bk_Mo_bundles_0 ?_
  obtain ⟨r3, I3, J3, hC3, hF⟩ := bd_e hF
  refine fx_Mo_is (by omega) hC3 ⟨rfl, ?_⟩
  refine bk_Mo_bundles_6 ?_
  refine ⟨fun z => ?_, fun z => ?_⟩
  · rw [if_pos z] at hF
    exact ret_q (Q := fun a b c => Q (some (.int a)) (hp b c (pm_RT pa pb ga))) hF hQ
  · rw [if_neg z] at hF
    obtain ⟨r13, I13, J13, hC13, hF⟩ := bd_e hF
    refine fx_Mo_is (by omega) hC13 ⟨rfl, ?_⟩
    refine bk_Mo_bundles_16 ?_
    refine ⟨fun z => ?_, fun z => ?_⟩
    · rw [if_pos z] at hF
      obtain ⟨r32, I32, J32, hC32, hF⟩ := bd_e hF
      refine fx_Mo_bundled (by omega) hC32 ⟨rfl, ?_⟩
      refine bk_Mo_bundles_35 ?_
      exact ret_q (Q := fun a b c => Q (some (.int a)) (hp b c (pm_RT pa pb ga))) hF hQ
    · rw [if_neg z] at hF
      exact ret_q (Q := fun a b c => Q (some (.int a)) (hp b c (pm_RT pa pb ga))) hF hQ
def F_Mo_nameByte (u : Nat) (y1 : Int64) (x3 : Int32) (I : pm_II) (J : pm_JJ) : Option (Int32 × pm_II × pm_JJ) :=
  if 8 ≤ x3 then (
    some ((0 : Int32), I, J))
  else (
    some (((((y1 >>> ((((56 : Int32) - ((8 : Int32) * x3)) : Int32).toInt64 &&& 63)) &&& (Int64.ofNat 255)) : Int64).toInt32), I, J))
theorem fx_Mo_nameByte {u k : Nat} {pa pb : Nat} {ga : Nat → Nat} {Q : Option Value → pm_H → Prop} {y1 : Int64} {x3 : Int32} {I : pm_II} {J : pm_JJ} {r : Int32} {I2 : pm_II} {J2 : pm_JJ} (hk : 0 ≤ k) (hF : F_Mo_nameByte u y1 x3 I J = some (r, I2, J2)) (hQ : Q (some (.int r)) (hp I2 J2 (pm_RT pa pb ga))) : Px k 176 m_Mo_nameByte 0 [.ref 120, .long y1, .null, .int x3] [] (hp I J (pm_RT pa pb ga)) Q := by
  unfold F_Mo_nameByte at hF
  refine bk_Mo_nameByte_0 ?_
  refine ⟨fun z => ?_, fun z => ?_⟩
  · rw [if_pos z] at hF
    exact ret_q (Q := fun a b c => Q (some (.int a)) (hp b c (pm_RT pa pb ga))) hF hQ
  · rw [if_neg z] at hF
    exact ret_q (Q := fun a b c => Q (some (.int a)) (hp b c (pm_RT pa pb ga))) hF hQ
def F_Mo_letter_54 (u : Nat) (x1 : Int32) (x2 : Int32) (y3 : Int64) (x5 : Int32) (I : pm_II) (J : pm_JJ) : Option (Int32 × pm_II × pm_JJ) :=
  if x2 = nI 0 then (
    cond (vq x1 121) (
    cond (vq (I 164 ((x1 : Int32).toNatClampNeg)) 161) (
    some ((I 162 (((I 164 ((x1 : Int32).toNatClampNeg)) : Int32).toNatClampNeg)), I, J)) none) none)
  else   if x2 = nI 1 then (
    some (x5, I, J))
  else   if x2 = nI 2 then (
    cond (vq x1 121) (
    some ((I 163 ((x1 : Int32).toNatClampNeg)), I, J)) none)
  else   if x2 = nI 3 then (
    cond (vq x1 121) (
    some ((I 164 ((x1 : Int32).toNatClampNeg)), I, J)) none)
  else (
    bd (F_Mo_is u x2 (10 : Int32) ((9 : Int32) + x5) I J) fun r121 I121 J121 =>
    if r121 = 0 then (
      some (((-1) : Int32), I121, J121))
    else (
      bd (F_Mo_nameByte u y3 (x2 - (10 : Int32)) I121 J121) fun r133 I133 J133 =>
      some (r133, I133, J133)))
def F_Mo_letter_31 (u : Nat) : Nat → Int32 → Int32 → Int64 → Int32 → pm_II → pm_JJ → Option (Int32 × pm_II × pm_JJ)
  | 0, _, _, _, _, _, _ => none
  | n + 1, x1, x2, y3, x5, I, J =>
    if 8 ≤ x5 then (
      F_Mo_letter_54 u x1 x2 y3 x5 I J)
    else (
      bd (F_Mo_nameByte u y3 x5 I J) fun r42 I42 J42 =>
      if r42 = 0 then (
        F_Mo_letter_54 u x1 x2 y3 x5 I42 J42)
      else (
        F_Mo_letter_31 u n x1 x2 y3 (x5 + Int32.ofInt 1) I42 J42))
def F_Mo_letter (u : Nat) (x1 : Int32) (x2 : Int32) (I : pm_II) (J : pm_JJ) : Option (Int32 × pm_II × pm_JJ) :=
  bd (F_Mo_is u x1 (0 : Int32) ((I 120 73) - (1 : Int32)) I J) fun r8 I8 J8 =>
  if ¬ r8 = 0 then (
    cond (vq x1 121) (
    cond (vq (I8 164 ((x1 : Int32).toNatClampNeg)) 161) (
    F_Mo_letter_31 u u x1 x2 (J8 168 (((I8 164 ((x1 : Int32).toNatClampNeg)) : Int32).toNatClampNeg)) (0 : Int32) I8 J8) none) none)
  else (
    some (((-1) : Int32), I8, J8))
theorem fx_Mo_letter_54 {u k : Nat} {pa pb : Nat} {ga : Nat → Nat} {Q : Option Value → pm_H → Prop} {x1 : Int32} {x2 : Int32} {y3 : Int64} {x5 : Int32} {I : pm_II} {J : pm_JJ} {r : Int32} {I2 : pm_II} {J2 : pm_JJ} (hk : 1 ≤ k) (hF : F_Mo_letter_54 u x1 x2 y3 x5 I J = some (r, I2, J2)) (hQ : Q (some (.int r)) (hp I2 J2 (pm_RT pa pb ga))) : Px k 176 m_Mo_letter 54 [.ref 120, .int x1, .int x2, .long y3, .null, .int x5] [] (hp I J (pm_RT pa pb ga)) Q := by
  obtain ⟨k, rfl⟩ : ∃ j, k = j + 1 := ⟨k - 1, by omega⟩
  unfold F_Mo_letter_54 at hF
  refine bk_Mo_letter_54 ?_
  refine ⟨fun z => ?_, fun z => ?_, fun z => ?_, fun z => ?_, fun z => ?_⟩
  · rw [if_pos z] at hF
    obtain ⟨g, hF⟩ := gd_e hF
    refine ⟨vq_in g, ?_⟩
    obtain ⟨g, hF⟩ := gd_e hF
    refine ⟨vq_in g, ?_⟩
    exact ret_q (Q := fun a b c => Q (some (.int a)) (hp b c (pm_RT pa pb ga))) hF hQ
  · rw [if_neg (by rw [z]; decide), if_pos z] at hF
    exact ret_q (Q := fun a b c => Q (some (.int a)) (hp b c (pm_RT pa pb ga))) hF hQ
  · rw [if_neg (by rw [z]; decide), if_neg (by rw [z]; decide), if_pos z] at hF
    obtain ⟨g, hF⟩ := gd_e hF
    refine ⟨vq_in g, ?_⟩
    exact ret_q (Q := fun a b c => Q (some (.int a)) (hp b c (pm_RT pa pb ga))) hF hQ
  · rw [if_neg (by rw [z]; decide), if_neg (by rw [z]; decide), if_neg (by rw [z]; decide), if_pos z] at hF
    obtain ⟨g, hF⟩ := gd_e hF
    refine ⟨vq_in g, ?_⟩
    exact ret_q (Q := fun a b c => Q (some (.int a)) (hp b c (pm_RT pa pb ga))) hF hQ
  · rw [if_neg (sw_ne z (by decide) (by decide)), if_neg (sw_ne z (by decide) (by decide)), if_neg (sw_ne z (by decide) (by decide)), if_neg (sw_ne z (by decide) (by decide))] at hF
    obtain ⟨r121, I121, J121, hC121, hF⟩ := bd_e hF
    refine fx_Mo_is (by omega) hC121 ⟨rfl, ?_⟩
    refine bk_Mo_letter_124 ?_
    refine ⟨fun z => ?_, fun z => ?_⟩
    · rw [if_pos z] at hF
      exact ret_q (Q := fun a b c => Q (some (.int a)) (hp b c (pm_RT pa pb ga))) hF hQ
    · rw [if_neg z] at hF
      obtain ⟨r133, I133, J133, hC133, hF⟩ := bd_e hF
      refine fx_Mo_nameByte (by omega) hC133 ⟨rfl, ?_⟩
      refine bk_Mo_letter_136 ?_
      exact ret_q (Q := fun a b c => Q (some (.int a)) (hp b c (pm_RT pa pb ga))) hF hQ
theorem fx_Mo_letter_31 {u k : Nat} {pa pb : Nat} {ga : Nat → Nat} {Q : Option Value → pm_H → Prop} (hk : 1 ≤ k) : ∀ (n : Nat), ∀ (x1 : Int32) (x2 : Int32) (y3 : Int64) (x5 : Int32) (I : pm_II) (J : pm_JJ) (r : Int32) (I2 : pm_II) (J2 : pm_JJ), F_Mo_letter_31 u n x1 x2 y3 x5 I J = some (r, I2, J2) → Q (some (.int r)) (hp I2 J2 (pm_RT pa pb ga)) → Px k 176 m_Mo_letter 31 [.ref 120, .int x1, .int x2, .long y3, .null, .int x5] [] (hp I J (pm_RT pa pb ga)) Q := by
  obtain ⟨k, rfl⟩ : ∃ j, k = j + 1 := ⟨k - 1, by omega⟩
  intro n
  induction n with
  | zero => intro x1 x2 y3 x5 I J r I2 J2  hF; cases hF
  | succ n ih =>
    intro x1 x2 y3 x5 I J r I2 J2  hF hQ
    rw [F_Mo_letter_31] at hF
    refine bk_Mo_letter_31 ?_
    refine ⟨fun z => ?_, fun z => ?_⟩
    · rw [if_pos z] at hF
      exact fx_Mo_letter_54 hk hF hQ
    · rw [if_neg z] at hF
      obtain ⟨r42, I42, J42, hC42, hF⟩ := bd_e hF
      refine fx_Mo_nameByte (by omega) hC42 ⟨rfl, ?_⟩
      refine bk_Mo_letter_45 ?_
      refine ⟨fun z => ?_, fun z => ?_⟩
      · rw [if_pos z] at hF
        exact fx_Mo_letter_54 hk hF hQ
      · rw [if_neg z] at hF
        exact ih _ _ _ _ _ _ _ _ _ hF hQ
theorem fx_Mo_letter {u k : Nat} {pa pb : Nat} {ga : Nat → Nat} {Q : Option Value → pm_H → Prop} {x1 : Int32} {x2 : Int32} {I : pm_II} {J : pm_JJ} {r : Int32} {I2 : pm_II} {J2 : pm_JJ} (hk : 1 ≤ k) (hF : F_Mo_letter u x1 x2 I J = some (r, I2, J2)) (hQ : Q (some (.int r)) (hp I2 J2 (pm_RT pa pb ga))) : Px k 176 m_Mo_letter 0 [.ref 120, .int x1, .int x2, .null, .null, .null] [] (hp I J (pm_RT pa pb ga)) Q := by
  obtain ⟨k, rfl⟩ : ∃ j, k = j + 1 := ⟨k - 1, by omega⟩
  unfold F_Mo_letter at hF
  refine bk_Mo_letter_0 ?_
  obtain ⟨r8, I8, J8, hC8, hF⟩ := bd_e hF
  refine fx_Mo_is (by omega) hC8 ⟨rfl, ?_⟩
  refine bk_Mo_letter_11 ?_
  refine ⟨fun z => ?_, fun z => ?_⟩
  · rw [if_pos z] at hF
    obtain ⟨g, hF⟩ := gd_e hF
    refine ⟨vq_in g, ?_⟩
    obtain ⟨g, hF⟩ := gd_e hF
    refine ⟨vq_in g, ?_⟩
    exact fx_Mo_letter_31 hk u _ _ _ _ _ _ _ _ _ hF hQ
  · rw [if_neg z] at hF
    exact ret_q (Q := fun a b c => Q (some (.int a)) (hp b c (pm_RT pa pb ga))) hF hQ
def F_Mo_bundle (u : Nat) (x1 : Int32) (x2 : Int32) (I : pm_II) (J : pm_JJ) : Option (Int32 × pm_II × pm_JJ) :=
  bd (F_Mo_is u x1 (0 : Int32) ((I 120 77) - (1 : Int32)) I J) fun r8 I8 J8 =>
  if ¬ r8 = 0 then (
    if x2 = nI 0 then (
      cond (vq x1 121) (
      some ((I8 165 ((x1 : Int32).toNatClampNeg)), I8, J8)) none)
    else     if x2 = nI 1 then (
      cond (vq x1 121) (
      some ((I8 166 ((x1 : Int32).toNatClampNeg)), I8, J8)) none)
    else     if x2 = nI 2 then (
      cond (vq x1 121) (
      some ((I8 167 ((x1 : Int32).toNatClampNeg)), I8, J8)) none)
    else (
      some (((-1) : Int32), I8, J8)))
  else (
    some (((-1) : Int32), I8, J8))
theorem fx_Mo_bundle {u k : Nat} {pa pb : Nat} {ga : Nat → Nat} {Q : Option Value → pm_H → Prop} {x1 : Int32} {x2 : Int32} {I : pm_II} {J : pm_JJ} {r : Int32} {I2 : pm_II} {J2 : pm_JJ} (hk : 1 ≤ k) (hF : F_Mo_bundle u x1 x2 I J = some (r, I2, J2)) (hQ : Q (some (.int r)) (hp I2 J2 (pm_RT pa pb ga))) : Px k 176 m_Mo_bundle 0 [.ref 120, .int x1, .int x2] [] (hp I J (pm_RT pa pb ga)) Q := by
  obtain ⟨k, rfl⟩ : ∃ j, k = j + 1 := ⟨k - 1, by omega⟩
  unfold F_Mo_bundle at hF
  refine bk_Mo_bundle_0 ?_
  obtain ⟨r8, I8, J8, hC8, hF⟩ := bd_e hF
  refine fx_Mo_is (by omega) hC8 ⟨rfl, ?_⟩
  refine bk_Mo_bundle_11 ?_
  refine ⟨fun z => ?_, fun z => ?_⟩
  · rw [if_pos z] at hF
    refine ⟨fun z => ?_, fun z => ?_, fun z => ?_, fun z => ?_⟩
    · rw [if_pos z] at hF
      obtain ⟨g, hF⟩ := gd_e hF
      refine ⟨vq_in g, ?_⟩
      exact ret_q (Q := fun a b c => Q (some (.int a)) (hp b c (pm_RT pa pb ga))) hF hQ
    · rw [if_neg (by rw [z]; decide), if_pos z] at hF
      obtain ⟨g, hF⟩ := gd_e hF
      refine ⟨vq_in g, ?_⟩
      exact ret_q (Q := fun a b c => Q (some (.int a)) (hp b c (pm_RT pa pb ga))) hF hQ
    · rw [if_neg (by rw [z]; decide), if_neg (by rw [z]; decide), if_pos z] at hF
      obtain ⟨g, hF⟩ := gd_e hF
      refine ⟨vq_in g, ?_⟩
      exact ret_q (Q := fun a b c => Q (some (.int a)) (hp b c (pm_RT pa pb ga))) hF hQ
    · rw [if_neg (sw_ne z (by decide) (by decide)), if_neg (sw_ne z (by decide) (by decide)), if_neg (sw_ne z (by decide) (by decide))] at hF
      exact ret_q (Q := fun a b c => Q (some (.int a)) (hp b c (pm_RT pa pb ga))) hF hQ
  · rw [if_neg z] at hF
    exact ret_q (Q := fun a b c => Q (some (.int a)) (hp b c (pm_RT pa pb ga))) hF hQ
def F_Mo_strike_23 (u : Nat) : Nat → Int32 → pm_II → pm_JJ → Option (Int32 × pm_II × pm_JJ)
  | 0, _, _, _ => none
  | n + 1, x2, I, J =>
    if (I 120 73) ≤ (x2 + (1 : Int32)) then (
      bd (F_Mo_bundled u (pm_up I 120 73 ((I 120 73) - (1 : Int32))) J) fun _ I78 J78 =>
      some ((I78 120 73), I78, J78))
    else (
      cond (vq (x2 + (1 : Int32)) 161) (
      cond (vq x2 161) (
      cond (vq (x2 + (1 : Int32)) 161) (
      cond (vq x2 161) (
      F_Mo_strike_23 u n (x2 + Int32.ofInt 1) (pm_up I 162 ((x2 : Int32).toNatClampNeg) (I 162 (((x2 + (1 : Int32)) : Int32).toNatClampNeg))) (pm_up J 168 ((x2 : Int32).toNatClampNeg) (J 168 (((x2 + (1 : Int32)) : Int32).toNatClampNeg)))) none) none) none) none)
def F_Mo_strike (u : Nat) (x1 : Int32) (I : pm_II) (J : pm_JJ) : Option (Int32 × pm_II × pm_JJ) :=
  bd (F_Mo_is u x1 (0 : Int32) ((I 120 73) - (1 : Int32)) I J) fun r8 I8 J8 =>
  if ¬ r8 = 0 then (
    cond (vq x1 121) (
    F_Mo_strike_23 u u (I8 164 ((x1 : Int32).toNatClampNeg)) I8 J8) none)
  else (
    some (((-1) : Int32), I8, J8))
theorem fx_Mo_strike_23 {u k : Nat} {pa pb : Nat} {ga : Nat → Nat} {Q : Option Value → pm_H → Prop} (hk : 3 ≤ k) : ∀ (n : Nat), ∀ (x1 : Int32) (x2 : Int32) (I : pm_II) (J : pm_JJ) (r : Int32) (I2 : pm_II) (J2 : pm_JJ), F_Mo_strike_23 u n x2 I J = some (r, I2, J2) → Q (some (.int r)) (hp I2 J2 (pm_RT pa pb ga)) → Px k 176 m_Mo_strike 23 [.ref 120, .int x1, .int x2] [] (hp I J (pm_RT pa pb ga)) Q := by
  obtain ⟨k, rfl⟩ : ∃ j, k = j + 1 := ⟨k - 1, by omega⟩
  intro n
  induction n with
  | zero => intro x1 x2 I J r I2 J2  hF; cases hF
  | succ n ih =>
    intro x1 x2 I J r I2 J2  hF hQ
    rw [F_Mo_strike_23] at hF
    refine bk_Mo_strike_23 ?_
    refine ⟨fun z => ?_, fun z => ?_⟩
    · rw [if_pos z] at hF
      obtain ⟨r78, I78, J78, hC78, hF⟩ := bd_e hF
      refine fx_Mo_bundled (by omega) hC78 ⟨rfl, ?_⟩
      refine bk_Mo_strike_81 ?_
      exact ret_q (Q := fun a b c => Q (some (.int a)) (hp b c (pm_RT pa pb ga))) hF hQ
    · rw [if_neg z] at hF
      obtain ⟨g, hF⟩ := gd_e hF
      refine ⟨vq_in g, ?_⟩
      obtain ⟨g, hF⟩ := gd_e hF
      refine ⟨vq_in g, ?_⟩
      obtain ⟨g, hF⟩ := gd_e hF
      refine ⟨vq_in g, ?_⟩
      obtain ⟨g, hF⟩ := gd_e hF
      refine ⟨vq_in g, ?_⟩
      exact ih _ _ _ _ _ _ _ hF hQ
theorem fx_Mo_strike {u k : Nat} {pa pb : Nat} {ga : Nat → Nat} {Q : Option Value → pm_H → Prop} {x1 : Int32} {I : pm_II} {J : pm_JJ} {r : Int32} {I2 : pm_II} {J2 : pm_JJ} (hk : 3 ≤ k) (hF : F_Mo_strike u x1 I J = some (r, I2, J2)) (hQ : Q (some (.int r)) (hp I2 J2 (pm_RT pa pb ga))) : Px k 176 m_Mo_strike 0 [.ref 120, .int x1, .null] [] (hp I J (pm_RT pa pb ga)) Q := by
  obtain ⟨k, rfl⟩ : ∃ j, k = j + 1 := ⟨k - 1, by omega⟩
  unfold F_Mo_strike at hF
  refine bk_Mo_strike_0 ?_
  obtain ⟨r8, I8, J8, hC8, hF⟩ := bd_e hF
  refine fx_Mo_is (by omega) hC8 ⟨rfl, ?_⟩
  refine bk_Mo_strike_11 ?_
  refine ⟨fun z => ?_, fun z => ?_⟩
  · rw [if_pos z] at hF
    obtain ⟨g, hF⟩ := gd_e hF
    refine ⟨vq_in g, ?_⟩
    exact fx_Mo_strike_23 hk u _ _ _ _ _ _ _ hF hQ
  · rw [if_neg z] at hF
    exact ret_q (Q := fun a b c => Q (some (.int a)) (hp b c (pm_RT pa pb ga))) hF hQ
def F_Mo_ordered (u : Nat) (I : pm_II) (J : pm_JJ) : Option (Unit × pm_II × pm_JJ) :=
  some ((), (pm_up I 120 91 0), J)
theorem fx_Mo_ordered {u k : Nat} {pa pb : Nat} {ga : Nat → Nat} {Q : Option Value → pm_H → Prop} {I : pm_II} {J : pm_JJ} {r : Unit} {I2 : pm_II} {J2 : pm_JJ} (hk : 0 ≤ k) (hF : F_Mo_ordered u  I J = some (r, I2, J2)) (hQ : Q none (hp I2 J2 (pm_RT pa pb ga))) : Px k 176 m_Mo_ordered 0 [.ref 120] [] (hp I J (pm_RT pa pb ga)) Q := by
  unfold F_Mo_ordered at hF
  refine bk_Mo_ordered_0 ?_
  exact ret_q (Q := fun a b c => Q none (hp b c (pm_RT pa pb ga))) hF hQ
def F_Mo_job (u : Nat) (x1 : Int32) (x2 : Int32) (x3 : Int32) (x4 : Int32) (I : pm_II) (J : pm_JJ) : Option (Int32 × pm_II × pm_JJ) :=
  bd (F_Mo_is u x1 (0 : Int32) (3 : Int32) I J) fun r3 I3 J3 =>
  if r3 = 0 then (
    some (((-1) : Int32), I3, J3))
  else (
    bd (F_Mo_is u x2 (1 : Int32) (99 : Int32) I3 J3) fun r13 I13 J13 =>
    if r13 = 0 then (
      some (((-1) : Int32), I13, J13))
    else (
      bd (F_Mo_is u x3 (1 : Int32) (99 : Int32) I13 J13) fun r23 I23 J23 =>
      if r23 = 0 then (
        some (((-1) : Int32), I23, J23))
      else (
        bd (F_Mo_is u x4 (0 : Int32) (999 : Int32) I23 J23) fun r35 I35 J35 =>
        if ¬ r35 = 0 then (
          if ¬ (I35 120 85) = 6 then (
            cond (vq (I35 120 85) 6) (
            cond (vq (I35 120 85) 6) (
            cond (vq (I35 120 85) 6) (
            cond (vq (I35 120 85) 6) (
            bd (F_Mo_ordered u (pm_up (pm_up (pm_up (pm_up (pm_up I35 169 (((I35 120 85) : Int32).toNatClampNeg) x1) 170 (((I35 120 85) : Int32).toNatClampNeg) x2) 171 (((I35 120 85) : Int32).toNatClampNeg) x3) 172 (((I35 120 85) : Int32).toNatClampNeg) x4) 120 85 ((I35 120 85) + (1 : Int32))) J35) fun _ I107 J107 =>
            some (((I107 120 85) - (1 : Int32)), I107, J107)) none) none) none) none)
          else (
            some (((-4) : Int32), I35, J35)))
        else (
          some (((-1) : Int32), I35, J35)))))
theorem fx_Mo_job {u k : Nat} {pa pb : Nat} {ga : Nat → Nat} {Q : Option Value → pm_H → Prop} {x1 : Int32} {x2 : Int32} {x3 : Int32} {x4 : Int32} {I : pm_II} {J : pm_JJ} {r : Int32} {I2 : pm_II} {J2 : pm_JJ} (hk : 1 ≤ k) (hF : F_Mo_job u x1 x2 x3 x4 I J = some (r, I2, J2)) (hQ : Q (some (.int r)) (hp I2 J2 (pm_RT pa pb ga))) : Px k 176 m_Mo_job 0 [.ref 120, .int x1, .int x2, .int x3, .int x4] [] (hp I J (pm_RT pa pb ga)) Q := by
  obtain ⟨k, rfl⟩ : ∃ j, k = j + 1 := ⟨k - 1, by omega⟩
  unfold F_Mo_job at hF
  refine bk_Mo_job_0 ?_
  obtain ⟨r3, I3, J3, hC3, hF⟩ := bd_e hF
  refine fx_Mo_is (by omega) hC3 ⟨rfl, ?_⟩
  refine bk_Mo_job_6 ?_
  refine ⟨fun z => ?_, fun z => ?_⟩
  · rw [if_pos z] at hF
    exact ret_q (Q := fun a b c => Q (some (.int a)) (hp b c (pm_RT pa pb ga))) hF hQ
  · rw [if_neg z] at hF
    obtain ⟨r13, I13, J13, hC13, hF⟩ := bd_e hF
    refine fx_Mo_is (by omega) hC13 ⟨rfl, ?_⟩
    refine bk_Mo_job_16 ?_
    refine ⟨fun z => ?_, fun z => ?_⟩
    · rw [if_pos z] at hF
      exact ret_q (Q := fun a b c => Q (some (.int a)) (hp b c (pm_RT pa pb ga))) hF hQ
    · rw [if_neg z] at hF
      obtain ⟨r23, I23, J23, hC23, hF⟩ := bd_e hF
      refine fx_Mo_is (by omega) hC23 ⟨rfl, ?_⟩
      refine bk_Mo_job_26 ?_
      refine ⟨fun z => ?_, fun z => ?_⟩
      · rw [if_pos z] at hF
        exact ret_q (Q := fun a b c => Q (some (.int a)) (hp b c (pm_RT pa pb ga))) hF hQ
      · rw [if_neg z] at hF
        obtain ⟨r35, I35, J35, hC35, hF⟩ := bd_e hF
        refine fx_Mo_is (by omega) hC35 ⟨rfl, ?_⟩
        refine bk_Mo_job_38 ?_
        refine ⟨fun z => ?_, fun z => ?_⟩
        · rw [if_pos z] at hF
          refine ⟨fun z => ?_, fun z => ?_⟩
          · rw [if_pos z] at hF
            obtain ⟨g, hF⟩ := gd_e hF
            refine ⟨vq_in g, ?_⟩
            obtain ⟨g, hF⟩ := gd_e hF
            refine ⟨vq_in g, ?_⟩
            obtain ⟨g, hF⟩ := gd_e hF
            refine ⟨vq_in g, ?_⟩
            obtain ⟨g, hF⟩ := gd_e hF
            refine ⟨vq_in g, ?_⟩
            obtain ⟨r107, I107, J107, hC107, hF⟩ := bd_e hF
            refine fx_Mo_ordered (by omega) hC107 ⟨rfl, ?_⟩
            refine bk_Mo_job_110 ?_
            exact ret_q (Q := fun a b c => Q (some (.int a)) (hp b c (pm_RT pa pb ga))) hF hQ
          · rw [if_neg z] at hF
            exact ret_q (Q := fun a b c => Q (some (.int a)) (hp b c (pm_RT pa pb ga))) hF hQ
        · rw [if_neg z] at hF
          exact ret_q (Q := fun a b c => Q (some (.int a)) (hp b c (pm_RT pa pb ga))) hF hQ
def F_Mo_times (u : Nat) (x1 : Int32) (x2 : Int32) (I : pm_II) (J : pm_JJ) : Option (Int32 × pm_II × pm_JJ) :=
  bd (F_Mo_is u x1 (0 : Int32) (50 : Int32) I J) fun r4 I4 J4 =>
  if r4 = 0 then (
    some (((-1) : Int32), I4, J4))
  else (
    bd (F_Mo_is u x2 (0 : Int32) (50 : Int32) I4 J4) fun r14 I14 J14 =>
    if ¬ r14 = 0 then (
      bd (F_Mo_ordered u (pm_up (pm_up I14 120 86 x1) 120 87 x2) J14) fun _ I33 J33 =>
      some ((1 : Int32), I33, J33))
    else (
      some (((-1) : Int32), I14, J14)))
theorem fx_Mo_times {u k : Nat} {pa pb : Nat} {ga : Nat → Nat} {Q : Option Value → pm_H → Prop} {x1 : Int32} {x2 : Int32} {I : pm_II} {J : pm_JJ} {r : Int32} {I2 : pm_II} {J2 : pm_JJ} (hk : 1 ≤ k) (hF : F_Mo_times u x1 x2 I J = some (r, I2, J2)) (hQ : Q (some (.int r)) (hp I2 J2 (pm_RT pa pb ga))) : Px k 176 m_Mo_times 0 [.ref 120, .int x1, .int x2] [] (hp I J (pm_RT pa pb ga)) Q := by
  obtain ⟨k, rfl⟩ : ∃ j, k = j + 1 := ⟨k - 1, by omega⟩
  unfold F_Mo_times at hF
  refine bk_Mo_times_0 ?_
  obtain ⟨r4, I4, J4, hC4, hF⟩ := bd_e hF
  refine fx_Mo_is (by omega) hC4 ⟨rfl, ?_⟩
  refine bk_Mo_times_7 ?_
  refine ⟨fun z => ?_, fun z => ?_⟩
  · rw [if_pos z] at hF
    exact ret_q (Q := fun a b c => Q (some (.int a)) (hp b c (pm_RT pa pb ga))) hF hQ
  · rw [if_neg z] at hF
    obtain ⟨r14, I14, J14, hC14, hF⟩ := bd_e hF
    refine fx_Mo_is (by omega) hC14 ⟨rfl, ?_⟩
    refine bk_Mo_times_17 ?_
    refine ⟨fun z => ?_, fun z => ?_⟩
    · rw [if_pos z] at hF
      obtain ⟨r33, I33, J33, hC33, hF⟩ := bd_e hF
      refine fx_Mo_ordered (by omega) hC33 ⟨rfl, ?_⟩
      refine bk_Mo_times_36 ?_
      exact ret_q (Q := fun a b c => Q (some (.int a)) (hp b c (pm_RT pa pb ga))) hF hQ
    · rw [if_neg z] at hF
      exact ret_q (Q := fun a b c => Q (some (.int a)) (hp b c (pm_RT pa pb ga))) hF hQ
def F_Mo_drop_18 (u : Nat) : Nat → Int32 → pm_II → pm_JJ → Option (Int32 × pm_II × pm_JJ)
  | 0, _, _, _ => none
  | n + 1, x2, I, J =>
    if (I 120 85) ≤ (x2 + (1 : Int32)) then (
      bd (F_Mo_ordered u (pm_up I 120 85 ((I 120 85) - (1 : Int32))) J) fun _ I101 J101 =>
      some ((I101 120 85), I101, J101))
    else (
      cond (vq (x2 + (1 : Int32)) 6) (
      cond (vq x2 6) (
      cond (vq (x2 + (1 : Int32)) 6) (
      cond (vq x2 6) (
      cond (vq (x2 + (1 : Int32)) 6) (
      cond (vq x2 6) (
      cond (vq (x2 + (1 : Int32)) 6) (
      cond (vq x2 6) (
      F_Mo_drop_18 u n (x2 + Int32.ofInt 1) (pm_up (pm_up (pm_up (pm_up I 169 ((x2 : Int32).toNatClampNeg) (I 169 (((x2 + (1 : Int32)) : Int32).toNatClampNeg))) 170 ((x2 : Int32).toNatClampNeg) (I 170 (((x2 + (1 : Int32)) : Int32).toNatClampNeg))) 171 ((x2 : Int32).toNatClampNeg) (I 171 (((x2 + (1 : Int32)) : Int32).toNatClampNeg))) 172 ((x2 : Int32).toNatClampNeg) (I 172 (((x2 + (1 : Int32)) : Int32).toNatClampNeg))) J) none) none) none) none) none) none) none) none)
def F_Mo_drop (u : Nat) (x1 : Int32) (I : pm_II) (J : pm_JJ) : Option (Int32 × pm_II × pm_JJ) :=
  bd (F_Mo_is u x1 (0 : Int32) ((I 120 85) - (1 : Int32)) I J) fun r8 I8 J8 =>
  if ¬ r8 = 0 then (
    F_Mo_drop_18 u u x1 I8 J8)
  else (
    some (((-1) : Int32), I8, J8))
theorem fx_Mo_drop_18 {u k : Nat} {pa pb : Nat} {ga : Nat → Nat} {Q : Option Value → pm_H → Prop} (hk : 1 ≤ k) : ∀ (n : Nat), ∀ (x1 : Int32) (x2 : Int32) (I : pm_II) (J : pm_JJ) (r : Int32) (I2 : pm_II) (J2 : pm_JJ), F_Mo_drop_18 u n x2 I J = some (r, I2, J2) → Q (some (.int r)) (hp I2 J2 (pm_RT pa pb ga)) → Px k 176 m_Mo_drop 18 [.ref 120, .int x1, .int x2] [] (hp I J (pm_RT pa pb ga)) Q := by
  obtain ⟨k, rfl⟩ : ∃ j, k = j + 1 := ⟨k - 1, by omega⟩
  intro n
  induction n with
  | zero => intro x1 x2 I J r I2 J2  hF; cases hF
  | succ n ih =>
    intro x1 x2 I J r I2 J2  hF hQ
    rw [F_Mo_drop_18] at hF
    refine bk_Mo_drop_18 ?_
    refine ⟨fun z => ?_, fun z => ?_⟩
    · rw [if_pos z] at hF
      obtain ⟨r101, I101, J101, hC101, hF⟩ := bd_e hF
      refine fx_Mo_ordered (by omega) hC101 ⟨rfl, ?_⟩
      refine bk_Mo_drop_104 ?_
      exact ret_q (Q := fun a b c => Q (some (.int a)) (hp b c (pm_RT pa pb ga))) hF hQ
    · rw [if_neg z] at hF
      obtain ⟨g, hF⟩ := gd_e hF
      refine ⟨vq_in g, ?_⟩
      obtain ⟨g, hF⟩ := gd_e hF
      refine ⟨vq_in g, ?_⟩
      obtain ⟨g, hF⟩ := gd_e hF
      refine ⟨vq_in g, ?_⟩
      obtain ⟨g, hF⟩ := gd_e hF
      refine ⟨vq_in g, ?_⟩
      obtain ⟨g, hF⟩ := gd_e hF
      refine ⟨vq_in g, ?_⟩
      obtain ⟨g, hF⟩ := gd_e hF
      refine ⟨vq_in g, ?_⟩
      obtain ⟨g, hF⟩ := gd_e hF
      refine ⟨vq_in g, ?_⟩
      obtain ⟨g, hF⟩ := gd_e hF
      refine ⟨vq_in g, ?_⟩
      exact ih _ _ _ _ _ _ _ hF hQ
theorem fx_Mo_drop {u k : Nat} {pa pb : Nat} {ga : Nat → Nat} {Q : Option Value → pm_H → Prop} {x1 : Int32} {I : pm_II} {J : pm_JJ} {r : Int32} {I2 : pm_II} {J2 : pm_JJ} (hk : 1 ≤ k) (hF : F_Mo_drop u x1 I J = some (r, I2, J2)) (hQ : Q (some (.int r)) (hp I2 J2 (pm_RT pa pb ga))) : Px k 176 m_Mo_drop 0 [.ref 120, .int x1, .null] [] (hp I J (pm_RT pa pb ga)) Q := by
  obtain ⟨k, rfl⟩ : ∃ j, k = j + 1 := ⟨k - 1, by omega⟩
  unfold F_Mo_drop at hF
  refine bk_Mo_drop_0 ?_
  obtain ⟨r8, I8, J8, hC8, hF⟩ := bd_e hF
  refine fx_Mo_is (by omega) hC8 ⟨rfl, ?_⟩
  refine bk_Mo_drop_11 ?_
  refine ⟨fun z => ?_, fun z => ?_⟩
  · rw [if_pos z] at hF
    exact fx_Mo_drop_18 hk u _ _ _ _ _ _ _ hF hQ
  · rw [if_neg z] at hF
    exact ret_q (Q := fun a b c => Q (some (.int a)) (hp b c (pm_RT pa pb ga))) hF hQ
def F_Mo_runs_98 (u : Nat) (K17 : Nat → Int32 → Int32 → Int32 → pm_II → pm_JJ → Option (Unit × pm_II × pm_JJ)) (a1 : Nat) (x3 : Int32) (x4 : Int32) (x5 : Int32) (s0 : Int32) (s1 : Int32) (I : pm_II) (J : pm_JJ) : Option (Unit × pm_II × pm_JJ) :=
  cond (vq x5 6) (
  bd (F_Jm_max u x3 (((s0 + s1) + (I 170 ((x5 : Int32).toNatClampNeg))) + (I 120 87)) I J) fun r119 I119 J119 =>
  cond (vq x5 6) (
  cond (vq ((5 : Int32) * x5) 30) (
  cond (vq (((5 : Int32) * x5) + (1 : Int32)) 30) (
  cond (vq (((5 : Int32) * x5) + (2 : Int32)) 30) (
  cond (vq (((5 : Int32) * x5) + (3 : Int32)) 30) (
  cond (vq x5 6) (
  bd (F_Jm_max u (0 : Int32) ((r119 + (I119 171 ((x5 : Int32).toNatClampNeg))) - (I119 172 ((x5 : Int32).toNatClampNeg))) (pm_up (pm_up (pm_up (pm_up I119 175 ((((5 : Int32) * x5) : Int32).toNatClampNeg) (s0 + s1)) 175 (((((5 : Int32) * x5) + (1 : Int32)) : Int32).toNatClampNeg) ((s0 + s1) + (I 170 ((x5 : Int32).toNatClampNeg)))) 175 (((((5 : Int32) * x5) + (2 : Int32)) : Int32).toNatClampNeg) r119) 175 (((((5 : Int32) * x5) + (3 : Int32)) : Int32).toNatClampNeg) (r119 + (I119 171 ((x5 : Int32).toNatClampNeg)))) J119) fun r203 I203 J203 =>
  cond (vq (((5 : Int32) * x5) + (4 : Int32)) 30) (
  cond (vq (((5 : Int32) * x5) + (4 : Int32)) 30) (
  K17 a1 ((s0 + s1) + (I 170 ((x5 : Int32).toNatClampNeg))) (r119 + (I119 171 ((x5 : Int32).toNatClampNeg))) (x4 + Int32.ofInt 1) (pm_up (pm_up I203 175 (((((5 : Int32) * x5) + (4 : Int32)) : Int32).toNatClampNeg) r203) 120 88 ((I203 120 88) + ((pm_up I203 175 (((((5 : Int32) * x5) + (4 : Int32)) : Int32).toNatClampNeg) r203) 175 (((((5 : Int32) * x5) + (4 : Int32)) : Int32).toNatClampNeg)))) J203) none) none) none) none) none) none) none) none) none
def F_Mo_runs_80 (u : Nat) (K17 : Nat → Int32 → Int32 → Int32 → pm_II → pm_JJ → Option (Unit × pm_II × pm_JJ)) (a1 : Nat) (x2 : Int32) (x3 : Int32) (x4 : Int32) (x5 : Int32) (x6 : Int32) (s1 : Int32) (s2 : Int32) (I : pm_II) (J : pm_JJ) : Option (Unit × pm_II × pm_JJ) :=
  if x6 = 0 then (
    F_Mo_runs_98 u K17 a1 x3 x4 x5 x2 (0 : Int32) (pm_up I 120 90 (s1 + s2)) J)
  else (
    F_Mo_runs_98 u K17 a1 x3 x4 x5 x2 (I 120 86) (pm_up I 120 90 (s1 + s2)) J)
def F_Mo_runs_63 (u : Nat) (K17 : Nat → Int32 → Int32 → Int32 → pm_II → pm_JJ → Option (Unit × pm_II × pm_JJ)) (a1 : Nat) (x2 : Int32) (x3 : Int32) (x4 : Int32) (x5 : Int32) (s0 : Int32) (I : pm_II) (J : pm_JJ) : Option (Unit × pm_II × pm_JJ) :=
  if s0 = 0 then (
    F_Mo_runs_80 u K17 a1 x2 x3 x4 x5 s0 (I 120 90) (0 : Int32) I J)
  else (
    F_Mo_runs_80 u K17 a1 x2 x3 x4 x5 s0 (I 120 90) (1 : Int32) I J)
def F_Mo_runs_17 (u : Nat) : Nat → Nat → Int32 → Int32 → Int32 → pm_II → pm_JJ → Option (Unit × pm_II × pm_JJ)
  | 0, _, _, _, _, _, _ => none
  | n + 1, a1, x2, x3, x4, I, J =>
    if (I 120 85) ≤ x4 then (
      some ((), (pm_up I 120 89 x3), J))
    else (
      cond (vq x4 6) (
      if x4 ≤ 0 then (
        F_Mo_runs_63 u (F_Mo_runs_17 u n) a1 x2 x3 x4 (I a1 ((x4 : Int32).toNatClampNeg)) (0 : Int32) I J)
      else (
        cond (vq (I a1 ((x4 : Int32).toNatClampNeg)) 6) (
        cond (vq (x4 - (1 : Int32)) 6) (
        cond (vq (I a1 (((x4 - (1 : Int32)) : Int32).toNatClampNeg)) 6) (
        if (I 169 (((I a1 ((x4 : Int32).toNatClampNeg)) : Int32).toNatClampNeg)) = (I 169 (((I a1 (((x4 - (1 : Int32)) : Int32).toNatClampNeg)) : Int32).toNatClampNeg)) then (
          F_Mo_runs_63 u (F_Mo_runs_17 u n) a1 x2 x3 x4 (I a1 ((x4 : Int32).toNatClampNeg)) (0 : Int32) I J)
        else (
          F_Mo_runs_63 u (F_Mo_runs_17 u n) a1 x2 x3 x4 (I a1 ((x4 : Int32).toNatClampNeg)) (1 : Int32) I J)) none) none) none)) none)
def F_Mo_runs (u : Nat) (a1 : Nat) (I : pm_II) (J : pm_JJ) : Option (Unit × pm_II × pm_JJ) :=
  F_Mo_runs_17 u u a1 (0 : Int32) (0 : Int32) (0 : Int32) (pm_up (pm_up I 120 88 0) 120 90 0) J
theorem fx_Mo_runs_98 {u k : Nat} {pa pb : Nat} {ga : Nat → Nat} {Q : Option Value → pm_H → Prop} {K17 : Nat → Int32 → Int32 → Int32 → pm_II → pm_JJ → Option (Unit × pm_II × pm_JJ)} {a1 : Nat} {x2 : Int32} {x3 : Int32} {x4 : Int32} {x5 : Int32} {x6 : Int32} {s0 : Int32} {s1 : Int32} {I : pm_II} {J : pm_JJ} {r : Unit} {I2 : pm_II} {J2 : pm_JJ} (hk : 1 ≤ k) (hK17 : ∀ (a1 : Nat) (x2 : Int32) (x3 : Int32) (x4 : Int32) (I : pm_II) (J : pm_JJ) (r : Unit) (I2 : pm_II) (J2 : pm_JJ), oM a1 → K17 a1 x2 x3 x4 I J = some (r, I2, J2) → Q none (hp I2 J2 (pm_RT pa pb ga)) → Px k 176 m_Mo_runs 17 [.ref 120, .ref a1, .int x2, .int x3, .int x4, .null, .null, .null, .null] [] (hp I J (pm_RT pa pb ga)) Q) (ha1 : oM a1) (hF : F_Mo_runs_98 u K17 a1 x3 x4 x5 s0 s1 I J = some (r, I2, J2)) (hQ : Q none (hp I2 J2 (pm_RT pa pb ga))) : Px k 176 m_Mo_runs 98 [.ref 120, .ref a1, .int x2, .int x3, .int x4, .int x5, .int x6, .null, .null] [.int s1, .int s0] (hp I J (pm_RT pa pb ga)) Q := by
  obtain ⟨k, rfl⟩ : ∃ j, k = j + 1 := ⟨k - 1, by omega⟩
  unfold F_Mo_runs_98 at hF
  refine bk_Mo_runs_98 ?_
  obtain ⟨g, hF⟩ := gd_e hF
  refine ⟨vq_in g, ?_⟩
  obtain ⟨r119, I119, J119, hC119, hF⟩ := bd_e hF
  refine fx_Jm_max (by omega) hC119 ⟨rfl, ?_⟩
  refine bk_Mo_runs_122 ?_
  obtain ⟨g, hF⟩ := gd_e hF
  refine ⟨vq_in g, ?_⟩
  obtain ⟨g, hF⟩ := gd_e hF
  refine ⟨vq_in g, ?_⟩
  obtain ⟨g, hF⟩ := gd_e hF
  refine ⟨vq_in g, ?_⟩
  obtain ⟨g, hF⟩ := gd_e hF
  refine ⟨vq_in g, ?_⟩
  obtain ⟨g, hF⟩ := gd_e hF
  refine ⟨vq_in g, ?_⟩
  obtain ⟨g, hF⟩ := gd_e hF
  refine ⟨vq_in g, ?_⟩
  obtain ⟨r203, I203, J203, hC203, hF⟩ := bd_e hF
  refine fx_Jm_max (by omega) hC203 ⟨rfl, ?_⟩
  refine bk_Mo_runs_206 ?_
  obtain ⟨g, hF⟩ := gd_e hF
  refine ⟨vq_in g, ?_⟩
  obtain ⟨g, hF⟩ := gd_e hF
  refine ⟨vq_in g, ?_⟩
  exact Px_wk (hK17 _ _ _ _ _ _ _ _ _ ha1 hF hQ) ⟨Or.inl rfl, Or.inl rfl, Or.inl rfl, Or.inl rfl, Or.inl rfl, Or.inr ⟨rfl, rfl⟩, Or.inr ⟨rfl, rfl⟩, Or.inr ⟨rfl, rfl⟩, Or.inr ⟨rfl, rfl⟩, trivial⟩
theorem fx_Mo_runs_80 {u k : Nat} {pa pb : Nat} {ga : Nat → Nat} {Q : Option Value → pm_H → Prop} {K17 : Nat → Int32 → Int32 → Int32 → pm_II → pm_JJ → Option (Unit × pm_II × pm_JJ)} {a1 : Nat} {x2 : Int32} {x3 : Int32} {x4 : Int32} {x5 : Int32} {x6 : Int32} {s1 : Int32} {s2 : Int32} {I : pm_II} {J : pm_JJ} {r : Unit} {I2 : pm_II} {J2 : pm_JJ} (hk : 1 ≤ k) (hK17 : ∀ (a1 : Nat) (x2 : Int32) (x3 : Int32) (x4 : Int32) (I : pm_II) (J : pm_JJ) (r : Unit) (I2 : pm_II) (J2 : pm_JJ), oM a1 → K17 a1 x2 x3 x4 I J = some (r, I2, J2) → Q none (hp I2 J2 (pm_RT pa pb ga)) → Px k 176 m_Mo_runs 17 [.ref 120, .ref a1, .int x2, .int x3, .int x4, .null, .null, .null, .null] [] (hp I J (pm_RT pa pb ga)) Q) (ha1 : oM a1) (hF : F_Mo_runs_80 u K17 a1 x2 x3 x4 x5 x6 s1 s2 I J = some (r, I2, J2)) (hQ : Q none (hp I2 J2 (pm_RT pa pb ga))) : Px k 176 m_Mo_runs 80 [.ref 120, .ref a1, .int x2, .int x3, .int x4, .int x5, .int x6, .null, .null] [.int s2, .int s1, .ref 120] (hp I J (pm_RT pa pb ga)) Q := by
  obtain ⟨k, rfl⟩ : ∃ j, k = j + 1 := ⟨k - 1, by omega⟩
  unfold F_Mo_runs_80 at hF
  refine bk_Mo_runs_80 ?_
  refine ⟨fun z => ?_, fun z => ?_⟩
  · rw [if_pos z] at hF
    exact fx_Mo_runs_98 hk hK17 ha1 hF hQ
  · rw [if_neg z] at hF
    exact fx_Mo_runs_98 hk hK17 ha1 hF hQ
theorem fx_Mo_runs_63 {u k : Nat} {pa pb : Nat} {ga : Nat → Nat} {Q : Option Value → pm_H → Prop} {K17 : Nat → Int32 → Int32 → Int32 → pm_II → pm_JJ → Option (Unit × pm_II × pm_JJ)} {a1 : Nat} {x2 : Int32} {x3 : Int32} {x4 : Int32} {x5 : Int32} {s0 : Int32} {I : pm_II} {J : pm_JJ} {r : Unit} {I2 : pm_II} {J2 : pm_JJ} (hk : 1 ≤ k) (hK17 : ∀ (a1 : Nat) (x2 : Int32) (x3 : Int32) (x4 : Int32) (I : pm_II) (J : pm_JJ) (r : Unit) (I2 : pm_II) (J2 : pm_JJ), oM a1 → K17 a1 x2 x3 x4 I J = some (r, I2, J2) → Q none (hp I2 J2 (pm_RT pa pb ga)) → Px k 176 m_Mo_runs 17 [.ref 120, .ref a1, .int x2, .int x3, .int x4, .null, .null, .null, .null] [] (hp I J (pm_RT pa pb ga)) Q) (ha1 : oM a1) (hF : F_Mo_runs_63 u K17 a1 x2 x3 x4 x5 s0 I J = some (r, I2, J2)) (hQ : Q none (hp I2 J2 (pm_RT pa pb ga))) : Px k 176 m_Mo_runs 63 [.ref 120, .ref a1, .int x2, .int x3, .int x4, .int x5, .null, .null, .null] [.int s0] (hp I J (pm_RT pa pb ga)) Q := by
  obtain ⟨k, rfl⟩ : ∃ j, k = j + 1 := ⟨k - 1, by omega⟩
  unfold F_Mo_runs_63 at hF
  refine bk_Mo_runs_63 ?_
  refine ⟨fun z => ?_, fun z => ?_⟩
  · rw [if_pos z] at hF
    exact fx_Mo_runs_80 hk hK17 ha1 hF hQ
  · rw [if_neg z] at hF
    exact fx_Mo_runs_80 hk hK17 ha1 hF hQ
theorem fx_Mo_runs_17 {u k : Nat} {pa pb : Nat} {ga : Nat → Nat} {Q : Option Value → pm_H → Prop} (hk : 1 ≤ k) : ∀ (n : Nat), ∀ (a1 : Nat) (x2 : Int32) (x3 : Int32) (x4 : Int32) (I : pm_II) (J : pm_JJ) (r : Unit) (I2 : pm_II) (J2 : pm_JJ), oM a1 → F_Mo_runs_17 u n a1 x2 x3 x4 I J = some (r, I2, J2) → Q none (hp I2 J2 (pm_RT pa pb ga)) → Px k 176 m_Mo_runs 17 [.ref 120, .ref a1, .int x2, .int x3, .int x4, .null, .null, .null, .null] [] (hp I J (pm_RT pa pb ga)) Q := by
  obtain ⟨k, rfl⟩ : ∃ j, k = j + 1 := ⟨k - 1, by omega⟩
  intro n
  induction n with
  | zero => intro a1 x2 x3 x4 I J r I2 J2 ha1 hF; cases hF
  | succ n ih =>
    intro a1 x2 x3 x4 I J r I2 J2 ha1 hF hQ
    rw [F_Mo_runs_17] at hF
    refine bk_Mo_runs_17 ?_
    refine ⟨fun z => ?_, fun z => ?_⟩
    · rw [if_pos z] at hF
      exact ret_q (Q := fun a b c => Q none (hp b c (pm_RT pa pb ga))) hF hQ
    · rw [if_neg z] at hF
      refine ⟨oM_ob ha1, ?_⟩
      obtain ⟨g, hF⟩ := gd_e hF
      refine ⟨(oM_in ha1 g), ?_⟩
      refine ⟨fun z => ?_, fun z => ?_⟩
      · rw [if_pos z] at hF
        exact fx_Mo_runs_63 hk ih ha1 hF hQ
      · rw [if_neg z] at hF
        obtain ⟨g, hF⟩ := gd_e hF
        refine ⟨vq_in g, ?_⟩
        refine ⟨oM_ob ha1, ?_⟩
        obtain ⟨g, hF⟩ := gd_e hF
        refine ⟨(oM_in ha1 g), ?_⟩
        obtain ⟨g, hF⟩ := gd_e hF
        refine ⟨vq_in g, ?_⟩
        refine ⟨fun z => ?_, fun z => ?_⟩
        · rw [if_pos z] at hF
          exact fx_Mo_runs_63 hk ih ha1 hF hQ
        · rw [if_neg z] at hF
          exact fx_Mo_runs_63 hk ih ha1 hF hQ
theorem fx_Mo_runs {u k : Nat} {pa pb : Nat} {ga : Nat → Nat} {Q : Option Value → pm_H → Prop} {a1 : Nat} {I : pm_II} {J : pm_JJ} {r : Unit} {I2 : pm_II} {J2 : pm_JJ} (hk : 1 ≤ k) (ha1 : oM a1) (hF : F_Mo_runs u a1 I J = some (r, I2, J2)) (hQ : Q none (hp I2 J2 (pm_RT pa pb ga))) : Px k 176 m_Mo_runs 0 [.ref 120, .ref a1, .null, .null, .null, .null, .null, .null, .null] [] (hp I J (pm_RT pa pb ga)) Q := by
  obtain ⟨k, rfl⟩ : ∃ j, k = j + 1 := ⟨k - 1, by omega⟩
  unfold F_Mo_runs at hF
  refine bk_Mo_runs_0 ?_
  exact fx_Mo_runs_17 hk u _ _ _ _ _ _ _ _ _ ha1 hF hQ
def F_Mo_findOrder_228 (u : Nat) (K52 : Int32 → Int32 → Int32 → Int32 → Int32 → pm_II → pm_JJ → Option (Unit × pm_II × pm_JJ)) (x1 : Int32) (x2 : Int32) (x3 : Int32) (x4 : Int32) (x5 : Int32) (I : pm_II) (J : pm_JJ) : Option (Unit × pm_II × pm_JJ) :=
  K52 x1 x2 x3 x4 (x5 + Int32.ofInt 1) I J
def F_Mo_findOrder_199 (u : Nat) (K52 : Int32 → Int32 → Int32 → Int32 → Int32 → pm_II → pm_JJ → Option (Unit × pm_II × pm_JJ)) : Nat → Int32 → Int32 → Int32 → Int32 → Int32 → Int32 → pm_II → pm_JJ → Option (Unit × pm_II × pm_JJ)
  | 0, _, _, _, _, _, _, _, _ => none
  | n + 1, x1, x2, x3, x4, x5, x8, I, J =>
    if (I 120 85) ≤ x8 then (
      F_Mo_findOrder_228 u K52 x1 x2 x3 x4 x5 I J)
    else (
      cond (vq x8 6) (
      cond (vq x8 6) (
      F_Mo_findOrder_199 u K52 n x1 x2 x3 x4 x5 (x8 + Int32.ofInt 1) (pm_up I 173 ((x8 : Int32).toNatClampNeg) (I 174 ((x8 : Int32).toNatClampNeg))) J) none) none)
def F_Mo_findOrder_184 (u : Nat) (K52 : Int32 → Int32 → Int32 → Int32 → Int32 → pm_II → pm_JJ → Option (Unit × pm_II × pm_JJ)) (x4 : Int32) (x5 : Int32) (I : pm_II) (J : pm_JJ) : Option (Unit × pm_II × pm_JJ) :=
  F_Mo_findOrder_199 u K52 u (I 120 88) (I 120 89) (1 : Int32) x4 x5 (0 : Int32) I J
def F_Mo_findOrder_81 (u : Nat) (K52 : Int32 → Int32 → Int32 → Int32 → Int32 → pm_II → pm_JJ → Option (Unit × pm_II × pm_JJ)) : Nat → Int32 → Int32 → Int32 → Int32 → Int32 → Int32 → Int32 → Int32 → pm_II → pm_JJ → Option (Unit × pm_II × pm_JJ)
  | 0, _, _, _, _, _, _, _, _, _, _ => none
  | n + 1, x1, x2, x3, x4, x5, x6, x7, x8, I, J =>
    if x8 < 0 then (
      if x6 = (((1 : Int32) <<< ((I 120 85) &&& 31)) - (1 : Int32)) then (
        bd (F_Mo_runs u 174 I J) fun _ I150 J150 =>
        if x3 = 0 then (
          F_Mo_findOrder_184 u K52 x4 x5 I150 J150)
        else (
          if x1 < (I150 120 88) then (
            F_Mo_findOrder_228 u K52 x1 x2 x3 x4 x5 I150 J150)
          else (
            if ¬ (I150 120 88) = x1 then (
              F_Mo_findOrder_184 u K52 x4 x5 I150 J150)
            else (
              if (I150 120 89) < x2 then (
                F_Mo_findOrder_184 u K52 x4 x5 I150 J150)
              else (
                F_Mo_findOrder_228 u K52 x1 x2 x3 x4 x5 I150 J150)))))
      else (
        F_Mo_findOrder_228 u K52 x1 x2 x3 x4 x5 I J))
    else (
      if ¬ (I 120 85) = 0 then (
      cond (vq x8 6) (
      if ¬ (I 120 85) = 0 then (
      if ¬ (I 120 85) = 0 then (
      F_Mo_findOrder_81 u K52 n x1 x2 x3 x4 x5 (x6 ||| ((1 : Int32) <<< ((x7 - x7 / (I 120 85) * (I 120 85)) &&& 31))) (x7 / (I 120 85)) (x8 + Int32.ofInt (-1)) (pm_up I 174 ((x8 : Int32).toNatClampNeg) (x7 - x7 / (I 120 85) * (I 120 85))) J) else none) else none) none) else none)
def F_Mo_findOrder_234 (u : Nat) (I : pm_II) (J : pm_JJ) : Option (Unit × pm_II × pm_JJ) :=
  bd (F_Mo_runs u 173 I J) fun _ I239 J239 =>
  some ((), I239, J239)
def F_Mo_findOrder_52 (u : Nat) : Nat → Int32 → Int32 → Int32 → Int32 → Int32 → pm_II → pm_JJ → Option (Unit × pm_II × pm_JJ)
  | 0, _, _, _, _, _, _, _ => none
  | n + 1, x1, x2, x3, x4, x5, I, J =>
    if x4 ≤ x5 then (
      F_Mo_findOrder_234 u I J)
    else (
      if (I 120 85) ≤ 0 then (
        F_Mo_findOrder_234 u I J)
      else (
        F_Mo_findOrder_81 u (F_Mo_findOrder_52 u n) u x1 x2 x3 x4 x5 (0 : Int32) x5 ((I 120 85) - (1 : Int32)) I J))
def F_Mo_findOrder_25 (u : Nat) : Nat → Int32 → Int32 → Int32 → Int32 → Int32 → pm_II → pm_JJ → Option (Unit × pm_II × pm_JJ)
  | 0, _, _, _, _, _, _, _ => none
  | n + 1, x1, x2, x3, x4, x5, I, J =>
    if (I 120 85) ≤ x5 then (
      F_Mo_findOrder_52 u u x1 x2 x3 x4 (0 : Int32) I J)
    else (
      F_Mo_findOrder_25 u n x1 x2 x3 (x4 * (I 120 85)) (x5 + Int32.ofInt 1) I J)
def F_Mo_findOrder (u : Nat) (I : pm_II) (J : pm_JJ) : Option (Unit × pm_II × pm_JJ) :=
  if (I 120 91) = 0 then (
    F_Mo_findOrder_25 u u (0 : Int32) (0 : Int32) (0 : Int32) (1 : Int32) (0 : Int32) (pm_up I 120 91 1) J)
  else (
    some ((), I, J))
theorem fx_Mo_findOrder_228 {u k : Nat} {pa pb : Nat} {ga : Nat → Nat} {Q : Option Value → pm_H → Prop} {K52 : Int32 → Int32 → Int32 → Int32 → Int32 → pm_II → pm_JJ → Option (Unit × pm_II × pm_JJ)} {x1 : Int32} {x2 : Int32} {x3 : Int32} {x4 : Int32} {x5 : Int32} {x6 : Int32} {x7 : Int32} {x8 : Int32} {I : pm_II} {J : pm_JJ} {r : Unit} {I2 : pm_II} {J2 : pm_JJ} (hk : 2 ≤ k) (hK52 : ∀ (x1 : Int32) (x2 : Int32) (x3 : Int32) (x4 : Int32) (x5 : Int32) (I : pm_II) (J : pm_JJ) (r : Unit) (I2 : pm_II) (J2 : pm_JJ), K52 x1 x2 x3 x4 x5 I J = some (r, I2, J2) → Q none (hp I2 J2 (pm_RT pa pb ga)) → Px k 176 m_Mo_findOrder 52 [.ref 120, .int x1, .int x2, .int x3, .int x4, .int x5, .null, .null, .null] [] (hp I J (pm_RT pa pb ga)) Q) (hF : F_Mo_findOrder_228 u K52 x1 x2 x3 x4 x5 I J = some (r, I2, J2)) (hQ : Q none (hp I2 J2 (pm_RT pa pb ga))) : Px k 176 m_Mo_findOrder 228 [.ref 120, .int x1, .int x2, .int x3, .int x4, .int x5, .int x6, .int x7, .int x8] [] (hp I J (pm_RT pa pb ga)) Q := by
  obtain ⟨k, rfl⟩ : ∃ j, k = j + 1 := ⟨k - 1, by omega⟩
  unfold F_Mo_findOrder_228 at hF
  refine bk_Mo_findOrder_228 ?_
  exact Px_wk (hK52 _ _ _ _ _ _ _ _ _ _ hF hQ) ⟨Or.inl rfl, Or.inl rfl, Or.inl rfl, Or.inl rfl, Or.inl rfl, Or.inl rfl, Or.inr ⟨rfl, rfl⟩, Or.inr ⟨rfl, rfl⟩, Or.inr ⟨rfl, rfl⟩, trivial⟩
theorem fx_Mo_findOrder_199 {u k : Nat} {pa pb : Nat} {ga : Nat → Nat} {Q : Option Value → pm_H → Prop} {K52 : Int32 → Int32 → Int32 → Int32 → Int32 → pm_II → pm_JJ → Option (Unit × pm_II × pm_JJ)} (hk : 2 ≤ k) (hK52 : ∀ (x1 : Int32) (x2 : Int32) (x3 : Int32) (x4 : Int32) (x5 : Int32) (I : pm_II) (J : pm_JJ) (r : Unit) (I2 : pm_II) (J2 : pm_JJ), K52 x1 x2 x3 x4 x5 I J = some (r, I2, J2) → Q none (hp I2 J2 (pm_RT pa pb ga)) → Px k 176 m_Mo_findOrder 52 [.ref 120, .int x1, .int x2, .int x3, .int x4, .int x5, .null, .null, .null] [] (hp I J (pm_RT pa pb ga)) Q) : ∀ (n : Nat), ∀ (x1 : Int32) (x2 : Int32) (x3 : Int32) (x4 : Int32) (x5 : Int32) (x6 : Int32) (x7 : Int32) (x8 : Int32) (I : pm_II) (J : pm_JJ) (r : Unit) (I2 : pm_II) (J2 : pm_JJ), F_Mo_findOrder_199 u K52 n x1 x2 x3 x4 x5 x8 I J = some (r, I2, J2) → Q none (hp I2 J2 (pm_RT pa pb ga)) → Px k 176 m_Mo_findOrder 199 [.ref 120, .int x1, .int x2, .int x3, .int x4, .int x5, .int x6, .int x7, .int x8] [] (hp I J (pm_RT pa pb ga)) Q := by
  obtain ⟨k, rfl⟩ : ∃ j, k = j + 1 := ⟨k - 1, by omega⟩
  intro n
  induction n with
  | zero => intro x1 x2 x3 x4 x5 x6 x7 x8 I J r I2 J2  hF; cases hF
  | succ n ih =>
    intro x1 x2 x3 x4 x5 x6 x7 x8 I J r I2 J2  hF hQ
    rw [F_Mo_findOrder_199] at hF
    refine bk_Mo_findOrder_199 ?_
    refine ⟨fun z => ?_, fun z => ?_⟩
    · rw [if_pos z] at hF
      exact fx_Mo_findOrder_228 hk hK52 hF hQ
    · rw [if_neg z] at hF
      obtain ⟨g, hF⟩ := gd_e hF
      refine ⟨vq_in g, ?_⟩
      obtain ⟨g, hF⟩ := gd_e hF
      refine ⟨vq_in g, ?_⟩
      exact ih _ _ _ _ _ _ _ _ _ _ _ _ _ hF hQ
theorem fx_Mo_findOrder_184 {u k : Nat} {pa pb : Nat} {ga : Nat → Nat} {Q : Option Value → pm_H → Prop} {K52 : Int32 → Int32 → Int32 → Int32 → Int32 → pm_II → pm_JJ → Option (Unit × pm_II × pm_JJ)} {x1 : Int32} {x2 : Int32} {x3 : Int32} {x4 : Int32} {x5 : Int32} {x6 : Int32} {x7 : Int32} {x8 : Int32} {I : pm_II} {J : pm_JJ} {r : Unit} {I2 : pm_II} {J2 : pm_JJ} (hk : 2 ≤ k) (hK52 : ∀ (x1 : Int32) (x2 : Int32) (x3 : Int32) (x4 : Int32) (x5 : Int32) (I : pm_II) (J : pm_JJ) (r : Unit) (I2 : pm_II) (J2 : pm_JJ), K52 x1 x2 x3 x4 x5 I J = some (r, I2, J2) → Q none (hp I2 J2 (pm_RT pa pb ga)) → Px k 176 m_Mo_findOrder 52 [.ref 120, .int x1, .int x2, .int x3, .int x4, .int x5, .null, .null, .null] [] (hp I J (pm_RT pa pb ga)) Q) (hF : F_Mo_findOrder_184 u K52 x4 x5 I J = some (r, I2, J2)) (hQ : Q none (hp I2 J2 (pm_RT pa pb ga))) : Px k 176 m_Mo_findOrder 184 [.ref 120, .int x1, .int x2, .int x3, .int x4, .int x5, .int x6, .int x7, .int x8] [] (hp I J (pm_RT pa pb ga)) Q := by
  obtain ⟨k, rfl⟩ : ∃ j, k = j + 1 := ⟨k - 1, by omega⟩
  unfold F_Mo_findOrder_184 at hF
  refine bk_Mo_findOrder_184 ?_
  exact fx_Mo_findOrder_199 hk hK52 u _ _ _ _ _ _ _ _ _ _ _ _ _ hF hQ
theorem fx_Mo_findOrder_81 {u k : Nat} {pa pb : Nat} {ga : Nat → Nat} {Q : Option Value → pm_H → Prop} {K52 : Int32 → Int32 → Int32 → Int32 → Int32 → pm_II → pm_JJ → Option (Unit × pm_II × pm_JJ)} (hk : 2 ≤ k) (hK52 : ∀ (x1 : Int32) (x2 : Int32) (x3 : Int32) (x4 : Int32) (x5 : Int32) (I : pm_II) (J : pm_JJ) (r : Unit) (I2 : pm_II) (J2 : pm_JJ), K52 x1 x2 x3 x4 x5 I J = some (r, I2, J2) → Q none (hp I2 J2 (pm_RT pa pb ga)) → Px k 176 m_Mo_findOrder 52 [.ref 120, .int x1, .int x2, .int x3, .int x4, .int x5, .null, .null, .null] [] (hp I J (pm_RT pa pb ga)) Q) : ∀ (n : Nat), ∀ (x1 : Int32) (x2 : Int32) (x3 : Int32) (x4 : Int32) (x5 : Int32) (x6 : Int32) (x7 : Int32) (x8 : Int32) (I : pm_II) (J : pm_JJ) (r : Unit) (I2 : pm_II) (J2 : pm_JJ), F_Mo_findOrder_81 u K52 n x1 x2 x3 x4 x5 x6 x7 x8 I J = some (r, I2, J2) → Q none (hp I2 J2 (pm_RT pa pb ga)) → Px k 176 m_Mo_findOrder 81 [.ref 120, .int x1, .int x2, .int x3, .int x4, .int x5, .int x6, .int x7, .int x8] [] (hp I J (pm_RT pa pb ga)) Q := by
  obtain ⟨k, rfl⟩ : ∃ j, k = j + 1 := ⟨k - 1, by omega⟩
  intro n
  induction n with
  | zero => intro x1 x2 x3 x4 x5 x6 x7 x8 I J r I2 J2  hF; cases hF
  | succ n ih =>
    intro x1 x2 x3 x4 x5 x6 x7 x8 I J r I2 J2  hF hQ
    rw [F_Mo_findOrder_81] at hF
    refine bk_Mo_findOrder_81 ?_
    refine ⟨fun z => ?_, fun z => ?_⟩
    · rw [if_pos z] at hF
      refine ⟨fun z => ?_, fun z => ?_⟩
      · rw [if_pos z] at hF
        obtain ⟨r150, I150, J150, hC150, hF⟩ := bd_e hF
        refine fx_Mo_runs (by omega) (Or.inr rfl) hC150 ⟨rfl, ?_⟩
        refine bk_Mo_findOrder_153 ?_
        refine ⟨fun z => ?_, fun z => ?_⟩
        · rw [if_pos z] at hF
          exact fx_Mo_findOrder_184 hk hK52 hF hQ
        · rw [if_neg z] at hF
          refine ⟨fun z => ?_, fun z => ?_⟩
          · rw [if_pos z] at hF
            exact fx_Mo_findOrder_228 hk hK52 hF hQ
          · rw [if_neg z] at hF
            refine ⟨fun z => ?_, fun z => ?_⟩
            · rw [if_pos z] at hF
              exact fx_Mo_findOrder_184 hk hK52 hF hQ
            · rw [if_neg z] at hF
              refine ⟨fun z => ?_, fun z => ?_⟩
              · rw [if_pos z] at hF
                exact fx_Mo_findOrder_184 hk hK52 hF hQ
              · rw [if_neg z] at hF
                exact fx_Mo_findOrder_228 hk hK52 hF hQ
      · rw [if_neg z] at hF
        exact fx_Mo_findOrder_228 hk hK52 hF hQ
    · rw [if_neg z] at hF
      obtain ⟨g, hF⟩ := ge_e hF
      refine ⟨g, ?_⟩
      obtain ⟨g, hF⟩ := gd_e hF
      refine ⟨vq_in g, ?_⟩
      obtain ⟨g, hF⟩ := ge_e hF
      refine ⟨g, ?_⟩
      obtain ⟨g, hF⟩ := ge_e hF
      refine ⟨g, ?_⟩
      exact ih _ _ _ _ _ _ _ _ _ _ _ _ _ hF hQ
theorem fx_Mo_findOrder_234 {u k : Nat} {pa pb : Nat} {ga : Nat → Nat} {Q : Option Value → pm_H → Prop} {x1 : Int32} {x2 : Int32} {x3 : Int32} {x4 : Int32} {x5 : Int32} {I : pm_II} {J : pm_JJ} {r : Unit} {I2 : pm_II} {J2 : pm_JJ} (hk : 2 ≤ k) (hF : F_Mo_findOrder_234 u  I J = some (r, I2, J2)) (hQ : Q none (hp I2 J2 (pm_RT pa pb ga))) : Px k 176 m_Mo_findOrder 234 [.ref 120, .int x1, .int x2, .int x3, .int x4, .int x5, .null, .null, .null] [] (hp I J (pm_RT pa pb ga)) Q := by
  obtain ⟨k, rfl⟩ : ∃ j, k = j + 1 := ⟨k - 1, by omega⟩
  unfold F_Mo_findOrder_234 at hF
  refine bk_Mo_findOrder_234 ?_
  obtain ⟨r239, I239, J239, hC239, hF⟩ := bd_e hF
  refine fx_Mo_runs (by omega) (Or.inl rfl) hC239 ⟨rfl, ?_⟩
  refine bk_Mo_findOrder_242 ?_
  exact ret_q (Q := fun a b c => Q none (hp b c (pm_RT pa pb ga))) hF hQ
theorem fx_Mo_findOrder_52 {u k : Nat} {pa pb : Nat} {ga : Nat → Nat} {Q : Option Value → pm_H → Prop} (hk : 2 ≤ k) : ∀ (n : Nat), ∀ (x1 : Int32) (x2 : Int32) (x3 : Int32) (x4 : Int32) (x5 : Int32) (I : pm_II) (J : pm_JJ) (r : Unit) (I2 : pm_II) (J2 : pm_JJ), F_Mo_findOrder_52 u n x1 x2 x3 x4 x5 I J = some (r, I2, J2) → Q none (hp I2 J2 (pm_RT pa pb ga)) → Px k 176 m_Mo_findOrder 52 [.ref 120, .int x1, .int x2, .int x3, .int x4, .int x5, .null, .null, .null] [] (hp I J (pm_RT pa pb ga)) Q := by
  obtain ⟨k, rfl⟩ : ∃ j, k = j + 1 := ⟨k - 1, by omega⟩
  intro n
  induction n with
  | zero => intro x1 x2 x3 x4 x5 I J r I2 J2  hF; cases hF
  | succ n ih =>
    intro x1 x2 x3 x4 x5 I J r I2 J2  hF hQ
    rw [F_Mo_findOrder_52] at hF
    refine bk_Mo_findOrder_52 ?_
    refine ⟨fun z => ?_, fun z => ?_⟩
    · rw [if_pos z] at hF
      exact fx_Mo_findOrder_234 hk hF hQ
    · rw [if_neg z] at hF
      refine ⟨fun z => ?_, fun z => ?_⟩
      · rw [if_pos z] at hF
        exact fx_Mo_findOrder_234 hk hF hQ
      · rw [if_neg z] at hF
        exact fx_Mo_findOrder_81 hk ih u _ _ _ _ _ _ _ _ _ _ _ _ _ hF hQ
theorem fx_Mo_findOrder_25 {u k : Nat} {pa pb : Nat} {ga : Nat → Nat} {Q : Option Value → pm_H → Prop} (hk : 2 ≤ k) : ∀ (n : Nat), ∀ (x1 : Int32) (x2 : Int32) (x3 : Int32) (x4 : Int32) (x5 : Int32) (I : pm_II) (J : pm_JJ) (r : Unit) (I2 : pm_II) (J2 : pm_JJ), F_Mo_findOrder_25 u n x1 x2 x3 x4 x5 I J = some (r, I2, J2) → Q none (hp I2 J2 (pm_RT pa pb ga)) → Px k 176 m_Mo_findOrder 25 [.ref 120, .int x1, .int x2, .int x3, .int x4, .int x5, .null, .null, .null] [] (hp I J (pm_RT pa pb ga)) Q := by
  obtain ⟨k, rfl⟩ : ∃ j, k = j + 1 := ⟨k - 1, by omega⟩
  intro n
  induction n with
  | zero => intro x1 x2 x3 x4 x5 I J r I2 J2  hF; cases hF
  | succ n ih =>
    intro x1 x2 x3 x4 x5 I J r I2 J2  hF hQ
    rw [F_Mo_findOrder_25] at hF
    refine bk_Mo_findOrder_25 ?_
    refine ⟨fun z => ?_, fun z => ?_⟩
    · rw [if_pos z] at hF
      exact fx_Mo_findOrder_52 hk u _ _ _ _ _ _ _ _ _ _ hF hQ
    · rw [if_neg z] at hF
      exact ih _ _ _ _ _ _ _ _ _ _ hF hQ
theorem fx_Mo_findOrder {u k : Nat} {pa pb : Nat} {ga : Nat → Nat} {Q : Option Value → pm_H → Prop} {I : pm_II} {J : pm_JJ} {r : Unit} {I2 : pm_II} {J2 : pm_JJ} (hk : 2 ≤ k) (hF : F_Mo_findOrder u  I J = some (r, I2, J2)) (hQ : Q none (hp I2 J2 (pm_RT pa pb ga))) : Px k 176 m_Mo_findOrder 0 [.ref 120, .null, .null, .null, .null, .null, .null, .null, .null] [] (hp I J (pm_RT pa pb ga)) Q := by
  obtain ⟨k, rfl⟩ : ∃ j, k = j + 1 := ⟨k - 1, by omega⟩
  unfold F_Mo_findOrder at hF
  refine bk_Mo_findOrder_0 ?_
  refine ⟨fun z => ?_, fun z => ?_⟩
  · rw [if_pos z] at hF
    exact fx_Mo_findOrder_25 hk u _ _ _ _ _ _ _ _ _ _ hF hQ
  · rw [if_neg z] at hF
    exact ret_q (Q := fun a b c => Q none (hp b c (pm_RT pa pb ga))) hF hQ
def F_Mo_order (u : Nat) (x1 : Int32) (I : pm_II) (J : pm_JJ) : Option (Int32 × pm_II × pm_JJ) :=
  bd (F_Mo_findOrder u I J) fun _ I1 J1 =>
  bd (F_Mo_is u x1 (0 : Int32) ((I1 120 85) - (1 : Int32)) I1 J1) fun r12 I12 J12 =>
  if r12 = 0 then (
    some (((-1) : Int32), I12, J12))
  else (
    cond (vq x1 6) (
    some ((I12 173 ((x1 : Int32).toNatClampNeg)), I12, J12)) none)
theorem fx_Mo_order {u k : Nat} {pa pb : Nat} {ga : Nat → Nat} {Q : Option Value → pm_H → Prop} {x1 : Int32} {I : pm_II} {J : pm_JJ} {r : Int32} {I2 : pm_II} {J2 : pm_JJ} (hk : 3 ≤ k) (hF : F_Mo_order u x1 I J = some (r, I2, J2)) (hQ : Q (some (.int r)) (hp I2 J2 (pm_RT pa pb ga))) : Px k 176 m_Mo_order 0 [.ref 120, .int x1] [] (hp I J (pm_RT pa pb ga)) Q := by
  obtain ⟨k, rfl⟩ : ∃ j, k = j + 1 := ⟨k - 1, by omega⟩
  unfold F_Mo_order at hF
  refine bk_Mo_order_0 ?_
  obtain ⟨r1, I1, J1, hC1, hF⟩ := bd_e hF
  refine fx_Mo_findOrder (by omega) hC1 ⟨rfl, ?_⟩
  refine bk_Mo_order_4 ?_
  obtain ⟨r12, I12, J12, hC12, hF⟩ := bd_e hF
  refine fx_Mo_is (by omega) hC12 ⟨rfl, ?_⟩
  refine bk_Mo_order_15 ?_
  refine ⟨fun z => ?_, fun z => ?_⟩
  · rw [if_pos z] at hF
    exact ret_q (Q := fun a b c => Q (some (.int a)) (hp b c (pm_RT pa pb ga))) hF hQ
  · rw [if_neg z] at hF
    obtain ⟨g, hF⟩ := gd_e hF
    refine ⟨vq_in g, ?_⟩
    exact ret_q (Q := fun a b c => Q (some (.int a)) (hp b c (pm_RT pa pb ga))) hF hQ
def F_Mo_when (u : Nat) (x1 : Int32) (x2 : Int32) (I : pm_II) (J : pm_JJ) : Option (Int32 × pm_II × pm_JJ) :=
  bd (F_Mo_findOrder u I J) fun _ I1 J1 =>
  bd (F_Mo_is u x1 (0 : Int32) ((I1 120 85) - (1 : Int32)) I1 J1) fun r12 I12 J12 =>
  if r12 = 0 then (
    some (((-1) : Int32), I12, J12))
  else (
    bd (F_Mo_is u x2 (0 : Int32) (4 : Int32) I12 J12) fun r21 I21 J21 =>
    if r21 = 0 then (
      some (((-1) : Int32), I21, J21))
    else (
      cond (vq (((5 : Int32) * x1) + x2) 30) (
      some ((I21 175 (((((5 : Int32) * x1) + x2) : Int32).toNatClampNeg)), I21, J21)) none))
theorem fx_Mo_when {u k : Nat} {pa pb : Nat} {ga : Nat → Nat} {Q : Option Value → pm_H → Prop} {x1 : Int32} {x2 : Int32} {I : pm_II} {J : pm_JJ} {r : Int32} {I2 : pm_II} {J2 : pm_JJ} (hk : 3 ≤ k) (hF : F_Mo_when u x1 x2 I J = some (r, I2, J2)) (hQ : Q (some (.int r)) (hp I2 J2 (pm_RT pa pb ga))) : Px k 176 m_Mo_when 0 [.ref 120, .int x1, .int x2] [] (hp I J (pm_RT pa pb ga)) Q := by
  obtain ⟨k, rfl⟩ : ∃ j, k = j + 1 := ⟨k - 1, by omega⟩
  unfold F_Mo_when at hF
  refine bk_Mo_when_0 ?_
  obtain ⟨r1, I1, J1, hC1, hF⟩ := bd_e hF
  refine fx_Mo_findOrder (by omega) hC1 ⟨rfl, ?_⟩
  refine bk_Mo_when_4 ?_
  obtain ⟨r12, I12, J12, hC12, hF⟩ := bd_e hF
  refine fx_Mo_is (by omega) hC12 ⟨rfl, ?_⟩
  refine bk_Mo_when_15 ?_
  refine ⟨fun z => ?_, fun z => ?_⟩
  · rw [if_pos z] at hF
    exact ret_q (Q := fun a b c => Q (some (.int a)) (hp b c (pm_RT pa pb ga))) hF hQ
  · rw [if_neg z] at hF
    obtain ⟨r21, I21, J21, hC21, hF⟩ := bd_e hF
    refine fx_Mo_is (by omega) hC21 ⟨rfl, ?_⟩
    refine bk_Mo_when_24 ?_
    refine ⟨fun z => ?_, fun z => ?_⟩
    · rw [if_pos z] at hF
      exact ret_q (Q := fun a b c => Q (some (.int a)) (hp b c (pm_RT pa pb ga))) hF hQ
    · rw [if_neg z] at hF
      obtain ⟨g, hF⟩ := gd_e hF
      refine ⟨vq_in g, ?_⟩
      exact ret_q (Q := fun a b c => Q (some (.int a)) (hp b c (pm_RT pa pb ga))) hF hQ
def F_Mo_count_8 (u : Nat) : Nat → Int32 → Int32 → Int32 → pm_II → pm_JJ → Option (Int32 × pm_II × pm_JJ)
  | 0, _, _, _, _, _ => none
  | n + 1, x1, x2, x3, I, J =>
    if (I 120 15) ≤ x3 then (
      if x1 = nI 0 then (
        some ((I 120 88), I, J))
      else       if x1 = nI 1 then (
        some ((I 120 89), I, J))
      else       if x1 = nI 2 then (
        some ((I 120 90), I, J))
      else       if x1 = nI 3 then (
        some ((I 120 15), I, J))
      else       if x1 = nI 4 then (
        some (x2, I, J))
      else       if x1 = nI 5 then (
        some (((I 120 18) * (I 120 19)), I, J))
      else       if x1 = nI 6 then (
        some ((I 120 20), I, J))
      else       if x1 = nI 7 then (
        some ((I 120 37), I, J))
      else       if x1 = nI 8 then (
        some ((I 120 38), I, J))
      else       if x1 = nI 9 then (
        some ((I 120 56), I, J))
      else       if x1 = nI 10 then (
        some ((I 120 65), I, J))
      else       if x1 = nI 11 then (
        some ((I 120 73), I, J))
      else       if x1 = nI 12 then (
        some ((I 120 77), I, J))
      else       if x1 = nI 13 then (
        some ((I 120 85), I, J))
      else (
        some (((-1) : Int32), I, J)))
    else (
      bd (F_Mo_waste u x3 I J) fun r19 I19 J19 =>
      F_Mo_count_8 u n x1 (x2 + r19) (x3 + Int32.ofInt 1) I19 J19)
def F_Mo_count (u : Nat) (x1 : Int32) (I : pm_II) (J : pm_JJ) : Option (Int32 × pm_II × pm_JJ) :=
  bd (F_Mo_findOrder u I J) fun _ I1 J1 =>
  F_Mo_count_8 u u x1 (0 : Int32) (0 : Int32) I1 J1
theorem fx_Mo_count_8 {u k : Nat} {pa pb : Nat} {ga : Nat → Nat} {Q : Option Value → pm_H → Prop} (hk : 3 ≤ k) : ∀ (n : Nat), ∀ (x1 : Int32) (x2 : Int32) (x3 : Int32) (I : pm_II) (J : pm_JJ) (r : Int32) (I2 : pm_II) (J2 : pm_JJ), F_Mo_count_8 u n x1 x2 x3 I J = some (r, I2, J2) → Q (some (.int r)) (hp I2 J2 (pm_RT pa pb ga)) → Px k 176 m_Mo_count 8 [.ref 120, .int x1, .int x2, .int x3] [] (hp I J (pm_RT pa pb ga)) Q := by
  obtain ⟨k, rfl⟩ : ∃ j, k = j + 1 := ⟨k - 1, by omega⟩
  intro n
  induction n with
  | zero => intro x1 x2 x3 I J r I2 J2  hF; cases hF
  | succ n ih =>
    intro x1 x2 x3 I J r I2 J2  hF hQ
    rw [F_Mo_count_8] at hF
    refine bk_Mo_count_8 ?_
    refine ⟨fun z => ?_, fun z => ?_⟩
    · rw [if_pos z] at hF
      refine ⟨fun z => ?_, fun z => ?_, fun z => ?_, fun z => ?_, fun z => ?_, fun z => ?_, fun z => ?_, fun z => ?_, fun z => ?_, fun z => ?_, fun z => ?_, fun z => ?_, fun z => ?_, fun z => ?_, fun z => ?_⟩
      · rw [if_pos z] at hF
        exact ret_q (Q := fun a b c => Q (some (.int a)) (hp b c (pm_RT pa pb ga))) hF hQ
      · rw [if_neg (by rw [z]; decide), if_pos z] at hF
        exact ret_q (Q := fun a b c => Q (some (.int a)) (hp b c (pm_RT pa pb ga))) hF hQ
      · rw [if_neg (by rw [z]; decide), if_neg (by rw [z]; decide), if_pos z] at hF
        exact ret_q (Q := fun a b c => Q (some (.int a)) (hp b c (pm_RT pa pb ga))) hF hQ
      · rw [if_neg (by rw [z]; decide), if_neg (by rw [z]; decide), if_neg (by rw [z]; decide), if_pos z] at hF
        exact ret_q (Q := fun a b c => Q (some (.int a)) (hp b c (pm_RT pa pb ga))) hF hQ
      · rw [if_neg (by rw [z]; decide), if_neg (by rw [z]; decide), if_neg (by rw [z]; decide), if_neg (by rw [z]; decide), if_pos z] at hF
        exact ret_q (Q := fun a b c => Q (some (.int a)) (hp b c (pm_RT pa pb ga))) hF hQ
      · rw [if_neg (by rw [z]; decide), if_neg (by rw [z]; decide), if_neg (by rw [z]; decide), if_neg (by rw [z]; decide), if_neg (by rw [z]; decide), if_pos z] at hF
        exact ret_q (Q := fun a b c => Q (some (.int a)) (hp b c (pm_RT pa pb ga))) hF hQ
      · rw [if_neg (by rw [z]; decide), if_neg (by rw [z]; decide), if_neg (by rw [z]; decide), if_neg (by rw [z]; decide), if_neg (by rw [z]; decide), if_neg (by rw [z]; decide), if_pos z] at hF
        exact ret_q (Q := fun a b c => Q (some (.int a)) (hp b c (pm_RT pa pb ga))) hF hQ
      · rw [if_neg (by rw [z]; decide), if_neg (by rw [z]; decide), if_neg (by rw [z]; decide), if_neg (by rw [z]; decide), if_neg (by rw [z]; decide), if_neg (by rw [z]; decide), if_neg (by rw [z]; decide), if_pos z] at hF
        exact ret_q (Q := fun a b c => Q (some (.int a)) (hp b c (pm_RT pa pb ga))) hF hQ
      · rw [if_neg (by rw [z]; decide), if_neg (by rw [z]; decide), if_neg (by rw [z]; decide), if_neg (by rw [z]; decide), if_neg (by rw [z]; decide), if_neg (by rw [z]; decide), if_neg (by rw [z]; decide), if_neg (by rw [z]; decide), if_pos z] at hF
        exact ret_q (Q := fun a b c => Q (some (.int a)) (hp b c (pm_RT pa pb ga))) hF hQ
      · rw [if_neg (by rw [z]; decide), if_neg (by rw [z]; decide), if_neg (by rw [z]; decide), if_neg (by rw [z]; decide), if_neg (by rw [z]; decide), if_neg (by rw [z]; decide), if_neg (by rw [z]; decide), if_neg (by rw [z]; decide), if_neg (by rw [z]; decide), if_pos z] at hF
        exact ret_q (Q := fun a b c => Q (some (.int a)) (hp b c (pm_RT pa pb ga))) hF hQ
      · rw [if_neg (by rw [z]; decide), if_neg (by rw [z]; decide), if_neg (by rw [z]; decide), if_neg (by rw [z]; decide), if_neg (by rw [z]; decide), if_neg (by rw [z]; decide), if_neg (by rw [z]; decide), if_neg (by rw [z]; decide), if_neg (by rw [z]; decide), if_neg (by rw [z]; decide), if_pos z] at hF
        exact ret_q (Q := fun a b c => Q (some (.int a)) (hp b c (pm_RT pa pb ga))) hF hQ
      · rw [if_neg (by rw [z]; decide), if_neg (by rw [z]; decide), if_neg (by rw [z]; decide), if_neg (by rw [z]; decide), if_neg (by rw [z]; decide), if_neg (by rw [z]; decide), if_neg (by rw [z]; decide), if_neg (by rw [z]; decide), if_neg (by rw [z]; decide), if_neg (by rw [z]; decide), if_neg (by rw [z]; decide), if_pos z] at hF
        exact ret_q (Q := fun a b c => Q (some (.int a)) (hp b c (pm_RT pa pb ga))) hF hQ
      · rw [if_neg (by rw [z]; decide), if_neg (by rw [z]; decide), if_neg (by rw [z]; decide), if_neg (by rw [z]; decide), if_neg (by rw [z]; decide), if_neg (by rw [z]; decide), if_neg (by rw [z]; decide), if_neg (by rw [z]; decide), if_neg (by rw [z]; decide), if_neg (by rw [z]; decide), if_neg (by rw [z]; decide), if_neg (by rw [z]; decide), if_pos z] at hF
        exact ret_q (Q := fun a b c => Q (some (.int a)) (hp b c (pm_RT pa pb ga))) hF hQ
      · rw [if_neg (by rw [z]; decide), if_neg (by rw [z]; decide), if_neg (by rw [z]; decide), if_neg (by rw [z]; decide), if_neg (by rw [z]; decide), if_neg (by rw [z]; decide), if_neg (by rw [z]; decide), if_neg (by rw [z]; decide), if_neg (by rw [z]; decide), if_neg (by rw [z]; decide), if_neg (by rw [z]; decide), if_neg (by rw [z]; decide), if_neg (by rw [z]; decide), if_pos z] at hF
        exact ret_q (Q := fun a b c => Q (some (.int a)) (hp b c (pm_RT pa pb ga))) hF hQ
      · rw [if_neg (sw_ne z (by decide) (by decide)), if_neg (sw_ne z (by decide) (by decide)), if_neg (sw_ne z (by decide) (by decide)), if_neg (sw_ne z (by decide) (by decide)), if_neg (sw_ne z (by decide) (by decide)), if_neg (sw_ne z (by decide) (by decide)), if_neg (sw_ne z (by decide) (by decide)), if_neg (sw_ne z (by decide) (by decide)), if_neg (sw_ne z (by decide) (by decide)), if_neg (sw_ne z (by decide) (by decide)), if_neg (sw_ne z (by decide) (by decide)), if_neg (sw_ne z (by decide) (by decide)), if_neg (sw_ne z (by decide) (by decide)), if_neg (sw_ne z (by decide) (by decide))] at hF
        exact ret_q (Q := fun a b c => Q (some (.int a)) (hp b c (pm_RT pa pb ga))) hF hQ
    · rw [if_neg z] at hF
      obtain ⟨r19, I19, J19, hC19, hF⟩ := bd_e hF
      refine fx_Mo_waste (by omega) hC19 ⟨rfl, ?_⟩
      refine bk_Mo_count_22 ?_
      exact ih _ _ _ _ _ _ _ _ hF hQ
theorem fx_Mo_count {u k : Nat} {pa pb : Nat} {ga : Nat → Nat} {Q : Option Value → pm_H → Prop} {x1 : Int32} {I : pm_II} {J : pm_JJ} {r : Int32} {I2 : pm_II} {J2 : pm_JJ} (hk : 3 ≤ k) (hF : F_Mo_count u x1 I J = some (r, I2, J2)) (hQ : Q (some (.int r)) (hp I2 J2 (pm_RT pa pb ga))) : Px k 176 m_Mo_count 0 [.ref 120, .int x1, .null, .null] [] (hp I J (pm_RT pa pb ga)) Q := by
  obtain ⟨k, rfl⟩ : ∃ j, k = j + 1 := ⟨k - 1, by omega⟩
  unfold F_Mo_count at hF
  refine bk_Mo_count_0 ?_
  obtain ⟨r1, I1, J1, hC1, hF⟩ := bd_e hF
  refine fx_Mo_findOrder (by omega) hC1 ⟨rfl, ?_⟩
  refine bk_Mo_count_4 ?_
  exact fx_Mo_count_8 hk u _ _ _ _ _ _ _ _ hF hQ
