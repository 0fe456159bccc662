def F_Fo_isAcross (u : Nat) (x0 : Int32) (I : pm_II) (J : pm_JJ) : Option (Int32 × pm_II × pm_JJ) :=
  if x0 = 108 then (
    some ((1 : Int32), I, J))
  else (
    if ¬ x0 = 114 then (
      some ((0 : Int32), I, J))
    else (
      some ((1 : Int32), I, J)))
theorem fx_Fo_isAcross {u k : Nat} {pa pb : Nat} {ga : Nat → Nat} {Q : Option Value → pm_H → Prop} {x0 : Int32} {I : pm_II} {J : pm_JJ} {r : Int32} {I2 : pm_II} {J2 : pm_JJ} (hk : 0 ≤ k) (hF : F_Fo_isAcross u x0 I J = some (r, I2, J2)) (hQ : Q (some (.int r)) (hp I2 J2 (pm_RT pa pb ga))) : Px k 176 m_Fo_isAcross 0 [.int x0] [] (hp I J (pm_RT pa pb ga)) Q := by
  unfold F_Fo_isAcross at hF
  refine bk_Fo_isAcross_0 ?_
  refine ⟨fun z => ?_, fun z => ?_⟩
  · rw [if_pos z] at hF
    exact ret_q (Q := fun a b c => Q (some (.int a)) (hp b c (pm_RT pa pb ga))) hF hQ
  · rw [if_neg z] at hF
    refine ⟨fun z => ?_, fun z => ?_⟩
    · rw [if_pos z] at hF
      exact ret_q (Q := fun a b c => Q (some (.int a)) (hp b c (pm_RT pa pb ga))) hF hQ
    · rw [if_neg z] at hF
      exact ret_q (Q := fun a b c => Q (some (.int a)) (hp b c (pm_RT pa pb ga))) hF hQ
def F_Fo_layOver_87 (u : Nat) (K13 : Int32 → Int32 → Int32 → Int32 → Int32 → pm_II → pm_JJ → Option (Unit × pm_II × pm_JJ)) (x1 : Int32) (x2 : Int32) (x4 : Int32) (x5 : Int32) (x6 : Int32) (x7 : Int32) (I : pm_II) (J : pm_JJ) : Option (Unit × pm_II × pm_JJ) :=
  cond (vq (x5 + x6) 64) (
  cond (vq ((x2 * (I 29 10)) + x6) 64) (
  cond (vq ((x5 + (I 29 10)) + x6) 64) (
  K13 x1 x2 x4 x5 (x6 + Int32.ofInt 1) (pm_up (pm_up I 31 (((x5 + x6) : Int32).toNatClampNeg) x7) 31 ((((x5 + (I 29 10)) + x6) : Int32).toNatClampNeg) (I 32 ((((x2 * (I 29 10)) + x6) : Int32).toNatClampNeg))) J) none) none) none
def F_Fo_layOver_134 (u : Nat) (I : pm_II) (J : pm_JJ) : Option (Unit × pm_II × pm_JJ) :=
  some ((), I, J)
def F_Fo_layOver_13 (u : Nat) : Nat → Int32 → Int32 → Int32 → Int32 → Int32 → pm_II → pm_JJ → Option (Unit × pm_II × pm_JJ)
  | 0, _, _, _, _, _, _, _ => none
  | n + 1, x1, x2, x4, x5, x6, I, J =>
    if (I 29 10) ≤ x6 then (
      F_Fo_layOver_134 u I J)
    else (
      if 64 ≤ ((x5 + (I 29 10)) + x6) then (
        F_Fo_layOver_134 u I J)
      else (
        cond (vq ((((x1 * (I 29 10)) + (I 29 10)) - (1 : Int32)) - x6) 64) (
        cond (vq (I 32 ((((((x1 * (I 29 10)) + (I 29 10)) - (1 : Int32)) - x6) : Int32).toNatClampNeg)) 64) (
        cond (vq (I 32 ((((((x1 * (I 29 10)) + (I 29 10)) - (1 : Int32)) - x6) : Int32).toNatClampNeg)) 64) (
        if ¬ x4 = 0 then (
          F_Fo_layOver_87 u (F_Fo_layOver_13 u n) x1 x2 x4 x5 x6 (I 32 ((((((x1 * (I 29 10)) + (I 29 10)) - (1 : Int32)) - x6) : Int32).toNatClampNeg)) (pm_up I 34 (((I 32 ((((((x1 * (I 29 10)) + (I 29 10)) - (1 : Int32)) - x6) : Int32).toNatClampNeg)) : Int32).toNatClampNeg) ((I 34 (((I 32 ((((((x1 * (I 29 10)) + (I 29 10)) - (1 : Int32)) - x6) : Int32).toNatClampNeg)) : Int32).toNatClampNeg)) ^^^ (1 : Int32))) J)
        else (
          cond (vq (I 32 ((((((x1 * (I 29 10)) + (I 29 10)) - (1 : Int32)) - x6) : Int32).toNatClampNeg)) 64) (
          cond (vq (I 32 ((((((x1 * (I 29 10)) + (I 29 10)) - (1 : Int32)) - x6) : Int32).toNatClampNeg)) 64) (
          F_Fo_layOver_87 u (F_Fo_layOver_13 u n) x1 x2 x4 x5 x6 (I 32 ((((((x1 * (I 29 10)) + (I 29 10)) - (1 : Int32)) - x6) : Int32).toNatClampNeg)) (pm_up (pm_up I 34 (((I 32 ((((((x1 * (I 29 10)) + (I 29 10)) - (1 : Int32)) - x6) : Int32).toNatClampNeg)) : Int32).toNatClampNeg) ((I 34 (((I 32 ((((((x1 * (I 29 10)) + (I 29 10)) - (1 : Int32)) - x6) : Int32).toNatClampNeg)) : Int32).toNatClampNeg)) ^^^ (1 : Int32))) 35 (((I 32 ((((((x1 * (I 29 10)) + (I 29 10)) - (1 : Int32)) - x6) : Int32).toNatClampNeg)) : Int32).toNatClampNeg) ((I 35 (((I 32 ((((((x1 * (I 29 10)) + (I 29 10)) - (1 : Int32)) - x6) : Int32).toNatClampNeg)) : Int32).toNatClampNeg)) ^^^ (1 : Int32))) J) none) none)) none) none) none))
def F_Fo_layOver (u : Nat) (x1 : Int32) (x2 : Int32) (x3 : Int32) (x4 : Int32) (I : pm_II) (J : pm_JJ) : Option (Unit × pm_II × pm_JJ) :=
  F_Fo_layOver_13 u u x1 x2 x4 ((x3 * (2 : Int32)) * (I 29 10)) (0 : Int32) I J
theorem fx_Fo_layOver_87 {u k : Nat} {pa pb : Nat} {ga : Nat → Nat} {Q : Option Value → pm_H → Prop} {K13 : Int32 → Int32 → Int32 → Int32 → Int32 → pm_II → pm_JJ → Option (Unit × pm_II × pm_JJ)} {x1 : Int32} {x2 : Int32} {x3 : Int32} {x4 : Int32} {x5 : Int32} {x6 : Int32} {x7 : Int32} {I : pm_II} {J : pm_JJ} {r : Unit} {I2 : pm_II} {J2 : pm_JJ} (hk : 0 ≤ k) (hK13 : ∀ (x1 : Int32) (x2 : Int32) (x3 : Int32) (x4 : Int32) (x5 : Int32) (x6 : Int32) (I : pm_II) (J : pm_JJ) (r : Unit) (I2 : pm_II) (J2 : pm_JJ), K13 x1 x2 x4 x5 x6 I J = some (r, I2, J2) → Q none (hp I2 J2 (pm_RT pa pb ga)) → Px k 176 m_Fo_layOver 13 [.ref 29, .int x1, .int x2, .int x3, .int x4, .int x5, .int x6, .null] [] (hp I J (pm_RT pa pb ga)) Q) (hF : F_Fo_layOver_87 u K13 x1 x2 x4 x5 x6 x7 I J = some (r, I2, J2)) (hQ : Q none (hp I2 J2 (pm_RT pa pb ga))) : Px k 176 m_Fo_layOver 87 [.ref 29, .int x1, .int x2, .int x3, .int x4, .int x5, .int x6, .int x7] [] (hp I J (pm_RT pa pb ga)) Q := by
  unfold F_Fo_layOver_87 at hF
  refine bk_Fo_layOver_87 ?_
  obtain ⟨g, hF⟩ := gd_e hF
  refine ⟨vq_in g, ?_⟩
  obtain ⟨g, hF⟩ := gd_e hF
  refine ⟨vq_in g, ?_⟩
  obtain ⟨g, hF⟩ := gd_e hF
  refine ⟨vq_in g, ?_⟩
  exact Px_wk (hK13 _ _ _ _ _ _ _ _ _ _ _ hF hQ) ⟨Or.inl rfl, Or.inl rfl, Or.inl rfl, Or.inl rfl, Or.inl rfl, Or.inl rfl, Or.inl rfl, Or.inr ⟨rfl, rfl⟩, trivial⟩
theorem fx_Fo_layOver_134 {u k : Nat} {pa pb : Nat} {ga : Nat → Nat} {Q : Option Value → pm_H → Prop} {x1 : Int32} {x2 : Int32} {x3 : Int32} {x4 : Int32} {x5 : Int32} {x6 : Int32} {I : pm_II} {J : pm_JJ} {r : Unit} {I2 : pm_II} {J2 : pm_JJ} (hk : 0 ≤ k) (hF : F_Fo_layOver_134 u  I J = some (r, I2, J2)) (hQ : Q none (hp I2 J2 (pm_RT pa pb ga))) : Px k 176 m_Fo_layOver 134 [.ref 29, .int x1, .int x2, .int x3, .int x4, .int x5, .int x6, .null] [] (hp I J (pm_RT pa pb ga)) Q := by
  unfold F_Fo_layOver_134 at hF
  refine bk_Fo_layOver_134 ?_
  exact ret_q (Q := fun a b c => Q none (hp b c (pm_RT pa pb ga))) hF hQ
theorem fx_Fo_layOver_13 {u k : Nat} {pa pb : Nat} {ga : Nat → Nat} {Q : Option Value → pm_H → Prop} (hk : 0 ≤ k) : ∀ (n : Nat), ∀ (x1 : Int32) (x2 : Int32) (x3 : Int32) (x4 : Int32) (x5 : Int32) (x6 : Int32) (I : pm_II) (J : pm_JJ) (r : Unit) (I2 : pm_II) (J2 : pm_JJ), F_Fo_layOver_13 u n x1 x2 x4 x5 x6 I J = some (r, I2, J2) → Q none (hp I2 J2 (pm_RT pa pb ga)) → Px k 176 m_Fo_layOver 13 [.ref 29, .int x1, .int x2, .int x3, .int x4, .int x5, .int x6, .null] [] (hp I J (pm_RT pa pb ga)) Q := by
  intro n
  induction n with
  | zero => intro x1 x2 x3 x4 x5 x6 I J r I2 J2  hF; cases hF
  | succ n ih =>
    intro x1 x2 x3 x4 x5 x6 I J r I2 J2  hF hQ
    rw [F_Fo_layOver_13] at hF
    refine bk_Fo_layOver_13 ?_
    refine ⟨fun z => ?_, fun z => ?_⟩
    · rw [if_pos z] at hF
      exact fx_Fo_layOver_134 hk hF hQ
    · rw [if_neg z] at hF
      refine ⟨fun z => ?_, fun z => ?_⟩
      · rw [if_pos z] at hF
        exact fx_Fo_layOver_134 hk hF hQ
      · rw [if_neg z] at hF
        obtain ⟨g, hF⟩ := gd_e hF
        refine ⟨vq_in g, ?_⟩
        obtain ⟨g, hF⟩ := gd_e hF
        refine ⟨vq_in g, ?_⟩
        obtain ⟨g, hF⟩ := gd_e hF
        refine ⟨vq_in g, ?_⟩
        refine ⟨fun z => ?_, fun z => ?_⟩
        · rw [if_pos z] at hF
          exact fx_Fo_layOver_87 hk ih hF hQ
        · rw [if_neg z] at hF
          obtain ⟨g, hF⟩ := gd_e hF
          refine ⟨vq_in g, ?_⟩
          obtain ⟨g, hF⟩ := gd_e hF
          refine ⟨vq_in g, ?_⟩
          exact fx_Fo_layOver_87 hk ih hF hQ
theorem fx_Fo_layOver {u k : Nat} {pa pb : Nat} {ga : Nat → Nat} {Q : Option Value → pm_H → Prop} {x1 : Int32} {x2 : Int32} {x3 : Int32} {x4 : Int32} {I : pm_II} {J : pm_JJ} {r : Unit} {I2 : pm_II} {J2 : pm_JJ} (hk : 0 ≤ k) (hF : F_Fo_layOver u x1 x2 x3 x4 I J = some (r, I2, J2)) (hQ : Q none (hp I2 J2 (pm_RT pa pb ga))) : Px k 176 m_Fo_layOver 0 [.ref 29, .int x1, .int x2, .int x3, .int x4, .null, .null, .null] [] (hp I J (pm_RT pa pb ga)) Q := by
  unfold F_Fo_layOver at hF
  refine bk_Fo_layOver_0 ?_
  exact fx_Fo_layOver_13 hk u _ _ _ _ _ _ _ _ _ _ _ hF hQ
def F_Fo_foldOver_195 (u : Nat) (K111 : Int32 → Int32 → Int32 → Int32 → Int32 → Int32 → pm_II → pm_JJ → Option (Unit × pm_II × pm_JJ)) (K121 : Int32 → Int32 → Int32 → Int32 → Int32 → Int32 → Int32 → pm_II → pm_JJ → Option (Unit × pm_II × pm_JJ)) (x2 : Int32) (x4 : Int32) (x5 : Int32) (x6 : Int32) (x7 : Int32) (x8 : Int32) (x9 : Int32) (x12 : Int32) (s0 : Int32) (I : pm_II) (J : pm_JJ) : Option (Unit × pm_II × pm_JJ) :=
  bd (F_Fo_layOver u s0 x12 ((x8 * x5) + x9) x2 I J) fun _ I211 J211 =>
  K121 x2 x4 x5 x6 x7 x8 (x9 + Int32.ofInt 1) I211 J211
def F_Fo_foldOver_121 (u : Nat) (K111 : Int32 → Int32 → Int32 → Int32 → Int32 → Int32 → pm_II → pm_JJ → Option (Unit × pm_II × pm_JJ)) : Nat → Int32 → Int32 → Int32 → Int32 → Int32 → Int32 → Int32 → pm_II → pm_JJ → Option (Unit × pm_II × pm_JJ)
  | 0, _, _, _, _, _, _, _, _, _ => none
  | n + 1, x2, x4, x5, x6, x7, x8, x9, I, J =>
    if x5 ≤ x9 then (
      K111 x2 x4 x5 x6 x7 (x8 + Int32.ofInt 1) I J)
    else (
      if x2 = 0 then (
        F_Fo_foldOver_195 u K111 (F_Fo_foldOver_121 u K111 n) x2 x4 x5 x6 x7 x8 x9 (((x8 + x6) * (I 29 9)) + (x9 + x7)) (((((I 29 8) - (1 : Int32)) - (x8 + x6)) * (I 29 9)) + (x9 + x7)) I J)
      else (
        F_Fo_foldOver_195 u K111 (F_Fo_foldOver_121 u K111 n) x2 x4 x5 x6 x7 x8 x9 (((x8 + x6) * (I 29 9)) + (x9 + x7)) (((((x8 + x6) * (I 29 9)) + (I 29 9)) - (1 : Int32)) - (x9 + x7)) I J))
def F_Fo_foldOver_111 (u : Nat) : Nat → Int32 → Int32 → Int32 → Int32 → Int32 → Int32 → pm_II → pm_JJ → Option (Unit × pm_II × pm_JJ)
  | 0, _, _, _, _, _, _, _, _ => none
  | n + 1, x2, x4, x5, x6, x7, x8, I, J =>
    if x4 ≤ x8 then (
      some ((), (pm_up (pm_up (pm_up I 29 8 x4) 29 9 x5) 29 10 ((I 29 10) * (2 : Int32))), J))
    else (
      F_Fo_foldOver_121 u (F_Fo_foldOver_111 u n) u x2 x4 x5 x6 x7 x8 (0 : Int32) I J)
def F_Fo_foldOver_90 (u : Nat) (x2 : Int32) (x3 : Int32) (x4 : Int32) (x5 : Int32) (s0 : Int32) (I : pm_II) (J : pm_JJ) : Option (Unit × pm_II × pm_JJ) :=
  if x2 = 0 then (
    F_Fo_foldOver_111 u u x2 x4 x5 s0 (0 : Int32) (0 : Int32) I J)
  else (
    if x3 = 0 then (
      F_Fo_foldOver_111 u u x2 x4 x5 s0 (0 : Int32) (0 : Int32) I J)
    else (
      F_Fo_foldOver_111 u u x2 x4 x5 s0 x5 (0 : Int32) I J))
def F_Fo_foldOver_74 (u : Nat) (x2 : Int32) (x3 : Int32) (x4 : Int32) (s0 : Int32) (I : pm_II) (J : pm_JJ) : Option (Unit × pm_II × pm_JJ) :=
  if ¬ x2 = 0 then (
    F_Fo_foldOver_90 u x2 x3 x4 s0 (0 : Int32) I J)
  else (
    if x3 = 0 then (
      F_Fo_foldOver_90 u x2 x3 x4 s0 (0 : Int32) I J)
    else (
      F_Fo_foldOver_90 u x2 x3 x4 s0 x4 I J))
def F_Fo_foldOver_55 (u : Nat) (x2 : Int32) (x3 : Int32) (s0 : Int32) (I : pm_II) (J : pm_JJ) : Option (Unit × pm_II × pm_JJ) :=
  if x2 = 0 then (
    F_Fo_foldOver_74 u x2 x3 s0 (I 29 9) I J)
  else (
    F_Fo_foldOver_74 u x2 x3 s0 ((I 29 9) / 2) I J)
def F_Fo_foldOver_37 (u : Nat) (x2 : Int32) (s0 : Int32) (I : pm_II) (J : pm_JJ) : Option (Unit × pm_II × pm_JJ) :=
  if x2 = 0 then (
    F_Fo_foldOver_55 u x2 s0 ((I 29 8) / 2) I J)
  else (
    F_Fo_foldOver_55 u x2 s0 (I 29 8) I J)
def F_Fo_foldOver (u : Nat) (x1 : Int32) (I : pm_II) (J : pm_JJ) : Option (Unit × pm_II × pm_JJ) :=
  bd (F_Fo_isAcross u x1 (cpI I 31 0 32 0 64) J) fun r16 I16 J16 =>
  if x1 = 108 then (
    F_Fo_foldOver_37 u r16 (1 : Int32) I16 J16)
  else (
    if ¬ x1 = 116 then (
      F_Fo_foldOver_37 u r16 (0 : Int32) I16 J16)
    else (
      F_Fo_foldOver_37 u r16 (1 : Int32) I16 J16))
theorem fx_Fo_foldOver_195 {u k : Nat} {pa pb : Nat} {ga : Nat → Nat} {Q : Option Value → pm_H → Prop} {K111 : Int32 → Int32 → Int32 → Int32 → Int32 → Int32 → pm_II → pm_JJ → Option (Unit × pm_II × pm_JJ)} {K121 : Int32 → Int32 → Int32 → Int32 → Int32 → Int32 → Int32 → pm_II → pm_JJ → Option (Unit × pm_II × pm_JJ)} {x1 : Int32} {x2 : Int32} {x3 : Int32} {x4 : Int32} {x5 : Int32} {x6 : Int32} {x7 : Int32} {x8 : Int32} {x9 : Int32} {x10 : Int32} {x11 : Int32} {x12 : Int32} {s0 : Int32} {I : pm_II} {J : pm_JJ} {r : Unit} {I2 : pm_II} {J2 : pm_JJ} (hk : 2 ≤ k) (hK111 : ∀ (x1 : Int32) (x2 : Int32) (x3 : Int32) (x4 : Int32) (x5 : Int32) (x6 : Int32) (x7 : Int32) (x8 : Int32) (I : pm_II) (J : pm_JJ) (r : Unit) (I2 : pm_II) (J2 : pm_JJ), K111 x2 x4 x5 x6 x7 x8 I J = some (r, I2, J2) → Q none (hp I2 J2 (pm_RT pa pb ga)) → Px k 176 m_Fo_foldOver 111 [.ref 29, .int x1, .int x2, .int x3, .int x4, .int x5, .int x6, .int x7, .int x8, .null, .null, .null, .null, .null] [] (hp I J (pm_RT pa pb ga)) Q) (hK121 : ∀ (x1 : Int32) (x2 : Int32) (x3 : Int32) (x4 : Int32) (x5 : Int32) (x6 : Int32) (x7 : Int32) (x8 : Int32) (x9 : Int32) (I : pm_II) (J : pm_JJ) (r : Unit) (I2 : pm_II) (J2 : pm_JJ), K121 x2 x4 x5 x6 x7 x8 x9 I J = some (r, I2, J2) → Q none (hp I2 J2 (pm_RT pa pb ga)) → Px k 176 m_Fo_foldOver 121 [.ref 29, .int x1, .int x2, .int x3, .int x4, .int x5, .int x6, .int x7, .int x8, .int x9, .null, .null, .null, .null] [] (hp I J (pm_RT pa pb ga)) Q) (hF : F_Fo_foldOver_195 u K111 K121 x2 x4 x5 x6 x7 x8 x9 x12 s0 I J = some (r, I2, J2)) (hQ : Q none (hp I2 J2 (pm_RT pa pb ga))) : Px k 176 m_Fo_foldOver 195 [.ref 29, .int x1, .int x2, .int x3, .int x4, .int x5, .int x6, .int x7, .int x8, .int x9, .int x10, .int x11, .int x12, .null] [.int s0] (hp I J (pm_RT pa pb ga)) Q := by
  obtain ⟨k, rfl⟩ : ∃ j, k = j + 2 := ⟨k - 2, by omega⟩
  unfold F_Fo_foldOver_195 at hF
  refine bk_Fo_foldOver_195 ?_
  obtain ⟨r211, I211, J211, hC211, hF⟩ := bd_e hF
  refine fx_Fo_layOver (by omega) hC211 ⟨rfl, ?_⟩
  refine bk_Fo_foldOver_214 ?_
  exact Px_wk (hK121 _ _ _ _ _ _ _ _ _ _ _ _ _ _ hF hQ) ⟨Or.inl rfl, Or.inl rfl, Or.inl rfl, Or.inl rfl, Or.inl rfl, Or.inl rfl, Or.inl rfl, Or.inl rfl, Or.inl rfl, Or.inl rfl, Or.inr ⟨rfl, rfl⟩, Or.inr ⟨rfl, rfl⟩, Or.inr ⟨rfl, rfl⟩, Or.inr ⟨rfl, rfl⟩, trivial⟩
theorem fx_Fo_foldOver_121 {u k : Nat} {pa pb : Nat} {ga : Nat → Nat} {Q : Option Value → pm_H → Prop} {K111 : Int32 → Int32 → Int32 → Int32 → Int32 → Int32 → pm_II → pm_JJ → Option (Unit × pm_II × pm_JJ)} (hk : 2 ≤ k) (hK111 : ∀ (x1 : Int32) (x2 : Int32) (x3 : Int32) (x4 : Int32) (x5 : Int32) (x6 : Int32) (x7 : Int32) (x8 : Int32) (I : pm_II) (J : pm_JJ) (r : Unit) (I2 : pm_II) (J2 : pm_JJ), K111 x2 x4 x5 x6 x7 x8 I J = some (r, I2, J2) → Q none (hp I2 J2 (pm_RT pa pb ga)) → Px k 176 m_Fo_foldOver 111 [.ref 29, .int x1, .int x2, .int x3, .int x4, .int x5, .int x6, .int x7, .int x8, .null, .null, .null, .null, .null] [] (hp I J (pm_RT pa pb ga)) Q) : ∀ (n : Nat), ∀ (x1 : Int32) (x2 : Int32) (x3 : Int32) (x4 : Int32) (x5 : Int32) (x6 : Int32) (x7 : Int32) (x8 : Int32) (x9 : Int32) (I : pm_II) (J : pm_JJ) (r : Unit) (I2 : pm_II) (J2 : pm_JJ), F_Fo_foldOver_121 u K111 n x2 x4 x5 x6 x7 x8 x9 I J = some (r, I2, J2) → Q none (hp I2 J2 (pm_RT pa pb ga)) → Px k 176 m_Fo_foldOver 121 [.ref 29, .int x1, .int x2, .int x3, .int x4, .int x5, .int x6, .int x7, .int x8, .int x9, .null, .null, .null, .null] [] (hp I J (pm_RT pa pb ga)) Q := by
  obtain ⟨k, rfl⟩ : ∃ j, k = j + 2 := ⟨k - 2, by omega⟩
  intro n
  induction n with
  | zero => intro x1 x2 x3 x4 x5 x6 x7 x8 x9 I J r I2 J2  hF; cases hF
  | succ n ih =>
    intro x1 x2 x3 x4 x5 x6 x7 x8 x9 I J r I2 J2  hF hQ
    rw [F_Fo_foldOver_121] at hF
    refine bk_Fo_foldOver_121 ?_
    refine ⟨fun z => ?_, fun z => ?_⟩
    · rw [if_pos z] at hF
      exact Px_wk (hK111 _ _ _ _ _ _ _ _ _ _ _ _ _ hF hQ) ⟨Or.inl rfl, Or.inl rfl, Or.inl rfl, Or.inl rfl, Or.inl rfl, Or.inl rfl, Or.inl rfl, Or.inl rfl, Or.inl rfl, Or.inr ⟨rfl, rfl⟩, Or.inl rfl, Or.inl rfl, Or.inl rfl, Or.inl rfl, trivial⟩
    · rw [if_neg z] at hF
      refine ⟨fun z => ?_, fun z => ?_⟩
      · rw [if_pos z] at hF
        exact fx_Fo_foldOver_195 hk hK111 ih hF hQ
      · rw [if_neg z] at hF
        exact fx_Fo_foldOver_195 hk hK111 ih hF hQ
theorem fx_Fo_foldOver_111 {u k : Nat} {pa pb : Nat} {ga : Nat → Nat} {Q : Option Value → pm_H → Prop} (hk : 2 ≤ k) : ∀ (n : Nat), ∀ (x1 : Int32) (x2 : Int32) (x3 : Int32) (x4 : Int32) (x5 : Int32) (x6 : Int32) (x7 : Int32) (x8 : Int32) (I : pm_II) (J : pm_JJ) (r : Unit) (I2 : pm_II) (J2 : pm_JJ), F_Fo_foldOver_111 u n x2 x4 x5 x6 x7 x8 I J = some (r, I2, J2) → Q none (hp I2 J2 (pm_RT pa pb ga)) → Px k 176 m_Fo_foldOver 111 [.ref 29, .int x1, .int x2, .int x3, .int x4, .int x5, .int x6, .int x7, .int x8, .null, .null, .null, .null, .null] [] (hp I J (pm_RT pa pb ga)) Q := by
  obtain ⟨k, rfl⟩ : ∃ j, k = j + 2 := ⟨k - 2, by omega⟩
  intro n
  induction n with
  | zero => intro x1 x2 x3 x4 x5 x6 x7 x8 I J r I2 J2  hF; cases hF
  | succ n ih =>
    intro x1 x2 x3 x4 x5 x6 x7 x8 I J r I2 J2  hF hQ
    rw [F_Fo_foldOver_111] at hF
    refine bk_Fo_foldOver_111 ?_
    refine ⟨fun z => ?_, fun z => ?_⟩
    · rw [if_pos z] at hF
      exact ret_q (Q := fun a b c => Q none (hp b c (pm_RT pa pb ga))) hF hQ
    · rw [if_neg z] at hF
      exact fx_Fo_foldOver_121 hk ih u _ _ _ _ _ _ _ _ _ _ _ _ _ _ hF hQ
theorem fx_Fo_foldOver_90 {u k : Nat} {pa pb : Nat} {ga : Nat → Nat} {Q : Option Value → pm_H → Prop} {x1 : Int32} {x2 : Int32} {x3 : Int32} {x4 : Int32} {x5 : Int32} {s0 : Int32} {I : pm_II} {J : pm_JJ} {r : Unit} {I2 : pm_II} {J2 : pm_JJ} (hk : 2 ≤ k) (hF : F_Fo_foldOver_90 u x2 x3 x4 x5 s0 I J = some (r, I2, J2)) (hQ : Q none (hp I2 J2 (pm_RT pa pb ga))) : Px k 176 m_Fo_foldOver 90 [.ref 29, .int x1, .int x2, .int x3, .int x4, .int x5, .null, .null, .null, .null, .null, .null, .null, .null] [.int s0] (hp I J (pm_RT pa pb ga)) Q := by
  obtain ⟨k, rfl⟩ : ∃ j, k = j + 2 := ⟨k - 2, by omega⟩
  unfold F_Fo_foldOver_90 at hF
  refine bk_Fo_foldOver_90 ?_
  refine ⟨fun z => ?_, fun z => ?_⟩
  · rw [if_pos z] at hF
    exact fx_Fo_foldOver_111 hk u _ _ _ _ _ _ _ _ _ _ _ _ _ hF hQ
  · rw [if_neg z] at hF
    refine ⟨fun z => ?_, fun z => ?_⟩
    · rw [if_pos z] at hF
      exact fx_Fo_foldOver_111 hk u _ _ _ _ _ _ _ _ _ _ _ _ _ hF hQ
    · rw [if_neg z] at hF
      exact fx_Fo_foldOver_111 hk u _ _ _ _ _ _ _ _ _ _ _ _ _ hF hQ
theorem fx_Fo_foldOver_74 {u k : Nat} {pa pb : Nat} {ga : Nat → Nat} {Q : Option Value → pm_H → Prop} {x1 : Int32} {x2 : Int32} {x3 : Int32} {x4 : Int32} {s0 : Int32} {I : pm_II} {J : pm_JJ} {r : Unit} {I2 : pm_II} {J2 : pm_JJ} (hk : 2 ≤ k) (hF : F_Fo_foldOver_74 u x2 x3 x4 s0 I J = some (r, I2, J2)) (hQ : Q none (hp I2 J2 (pm_RT pa pb ga))) : Px k 176 m_Fo_foldOver 74 [.ref 29, .int x1, .int x2, .int x3, .int x4, .null, .null, .null, .null, .null, .null, .null, .null, .null] [.int s0] (hp I J (pm_RT pa pb ga)) Q := by
  obtain ⟨k, rfl⟩ : ∃ j, k = j + 2 := ⟨k - 2, by omega⟩
  unfold F_Fo_foldOver_74 at hF
  refine bk_Fo_foldOver_74 ?_
  refine ⟨fun z => ?_, fun z => ?_⟩
  · rw [if_pos z] at hF
    exact fx_Fo_foldOver_90 hk hF hQ
  · rw [if_neg z] at hF
    refine ⟨fun z => ?_, fun z => ?_⟩
    · rw [if_pos z] at hF
      exact fx_Fo_foldOver_90 hk hF hQ
    · rw [if_neg z] at hF
      exact fx_Fo_foldOver_90 hk hF hQ
theorem fx_Fo_foldOver_55 {u k : Nat} {pa pb : Nat} {ga : Nat → Nat} {Q : Option Value → pm_H → Prop} {x1 : Int32} {x2 : Int32} {x3 : Int32} {s0 : Int32} {I : pm_II} {J : pm_JJ} {r : Unit} {I2 : pm_II} {J2 : pm_JJ} (hk : 2 ≤ k) (hF : F_Fo_foldOver_55 u x2 x3 s0 I J = some (r, I2, J2)) (hQ : Q none (hp I2 J2 (pm_RT pa pb ga))) : Px k 176 m_Fo_foldOver 55 [.ref 29, .int x1, .int x2, .int x3, .null, .null, .null, .null, .null, .null, .null, .null, .null, .null] [.int s0] (hp I J (pm_RT pa pb ga)) Q := by
  obtain ⟨k, rfl⟩ : ∃ j, k = j + 2 := ⟨k - 2, by omega⟩
  unfold F_Fo_foldOver_55 at hF
  refine bk_Fo_foldOver_55 ?_
  refine ⟨fun z => ?_, fun z => ?_⟩
  · rw [if_pos z] at hF
    exact fx_Fo_foldOver_74 hk hF hQ
  · rw [if_neg z] at hF
    exact fx_Fo_foldOver_74 hk hF hQ
theorem fx_Fo_foldOver_37 {u k : Nat} {pa pb : Nat} {ga : Nat → Nat} {Q : Option Value → pm_H → Prop} {x1 : Int32} {x2 : Int32} {s0 : Int32} {I : pm_II} {J : pm_JJ} {r : Unit} {I2 : pm_II} {J2 : pm_JJ} (hk : 2 ≤ k) (hF : F_Fo_foldOver_37 u x2 s0 I J = some (r, I2, J2)) (hQ : Q none (hp I2 J2 (pm_RT pa pb ga))) : Px k 176 m_Fo_foldOver 37 [.ref 29, .int x1, .int x2, .null, .null, .null, .null, .null, .null, .null, .null, .null, .null, .null] [.int s0] (hp I J (pm_RT pa pb ga)) Q := by
  obtain ⟨k, rfl⟩ : ∃ j, k = j + 2 := ⟨k - 2, by omega⟩
  unfold F_Fo_foldOver_37 at hF
  refine bk_Fo_foldOver_37 ?_
  refine ⟨fun z => ?_, fun z => ?_⟩
  · rw [if_pos z] at hF
    exact fx_Fo_foldOver_55 hk hF hQ
  · rw [if_neg z] at hF
    exact fx_Fo_foldOver_55 hk hF hQ
theorem fx_Fo_foldOver {u k : Nat} {pa pb : Nat} {ga : Nat → Nat} {Q : Option Value → pm_H → Prop} {x1 : Int32} {I : pm_II} {J : pm_JJ} {r : Unit} {I2 : pm_II} {J2 : pm_JJ} (hk : 2 ≤ k) (hF : F_Fo_foldOver u x1 I J = some (r, I2, J2)) (hQ : Q none (hp I2 J2 (pm_RT pa pb ga))) : Px k 176 m_Fo_foldOver 0 [.ref 29, .int x1, .null, .null, .null, .null, .null, .null, .null, .null, .null, .null, .null, .null] [] (hp I J (pm_RT pa pb ga)) Q := by
  obtain ⟨k, rfl⟩ : ∃ j, k = j + 2 := ⟨k - 2, by omega⟩
  unfold F_Fo_foldOver at hF
  refine bk_Fo_foldOver_0 ?_
  show Px _ 176 m_Fo_foldOver 15 [.ref 29, .int x1, .null, .null, .null, .null, .null, .null, .null, .null, .null, .null, .null, .null] [] (hp (cpI I 31 0 32 0 64) J (pm_RT pa pb ga)) Q
  refine bk_Fo_foldOver_15 ?_
  obtain ⟨r16, I16, J16, hC16, hF⟩ := bd_e hF
  refine fx_Fo_isAcross (by omega) hC16 ⟨rfl, ?_⟩
  refine bk_Fo_foldOver_19 ?_
  refine ⟨fun z => ?_, fun z => ?_⟩
  · rw [if_pos z] at hF
    exact fx_Fo_foldOver_37 hk hF hQ
  · rw [if_neg z] at hF
    refine ⟨fun z => ?_, fun z => ?_⟩
    · rw [if_pos z] at hF
      exact fx_Fo_foldOver_37 hk hF hQ
    · rw [if_neg z] at hF
      exact fx_Fo_foldOver_37 hk hF hQ
def F_Fo_leaves (u : Nat) (I : pm_II) (J : pm_JJ) : Option (Int32 × pm_II × pm_JJ) :=
  some (((I 29 6) * (I 29 7)), I, J)
theorem fx_Fo_leaves {u k : Nat} {pa pb : Nat} {ga : Nat → Nat} {Q : Option Value → pm_H → Prop} {I : pm_II} {J : pm_JJ} {r : Int32} {I2 : pm_II} {J2 : pm_JJ} (hk : 0 ≤ k) (hF : F_Fo_leaves u  I J = some (r, I2, J2)) (hQ : Q (some (.int r)) (hp I2 J2 (pm_RT pa pb ga))) : Px k 176 m_Fo_leaves 0 [.ref 29] [] (hp I J (pm_RT pa pb ga)) Q := by
  unfold F_Fo_leaves at hF
  refine bk_Fo_leaves_0 ?_
  exact ret_q (Q := fun a b c => Q (some (.int a)) (hp b c (pm_RT pa pb ga))) hF hQ
def F_Fo_foldSheet_138 (u : Nat) (I : pm_II) (J : pm_JJ) : Option (Unit × pm_II × pm_JJ) :=
  some ((), I, J)
def F_Fo_foldSheet_102 (u : Nat) : Nat → Int32 → pm_II → pm_JJ → Option (Unit × pm_II × pm_JJ)
  | 0, _, _, _ => none
  | n + 1, x4, I, J =>
    bd (F_Fo_leaves u I J) fun r105 I105 J105 =>
    if r105 ≤ x4 then (
      F_Fo_foldSheet_138 u I105 J105)
    else (
      if 64 ≤ x4 then (
        F_Fo_foldSheet_138 u I105 J105)
      else (
        cond (vq x4 64) (
        cond (vq (I105 31 ((x4 : Int32).toNatClampNeg)) 64) (
        F_Fo_foldSheet_102 u n (x4 + Int32.ofInt 1) (pm_up I105 33 (((I105 31 ((x4 : Int32).toNatClampNeg)) : Int32).toNatClampNeg) x4) J105) none) none))
def F_Fo_foldSheet_99 (u : Nat) (I : pm_II) (J : pm_JJ) : Option (Unit × pm_II × pm_JJ) :=
  F_Fo_foldSheet_102 u u (0 : Int32) I J
def F_Fo_foldSheet_69 (u : Nat) : Nat → Int32 → Int32 → pm_II → pm_JJ → Option (Unit × pm_II × pm_JJ)
  | 0, _, _, _, _ => none
  | n + 1, x3, x4, I, J =>
    if x3 ≤ x4 then (
      F_Fo_foldSheet_99 u I J)
    else (
      if 6 ≤ x4 then (
        F_Fo_foldSheet_99 u I J)
      else (
        cond (vq x4 6) (
        bd (F_Fo_foldOver u (I 30 ((x4 : Int32).toNatClampNeg)) I J) fun _ I90 J90 =>
        F_Fo_foldSheet_69 u n x3 (x4 + Int32.ofInt 1) I90 J90) none))
def F_Fo_foldSheet_28 (u : Nat) : Nat → Int32 → Int32 → pm_II → pm_JJ → Option (Unit × pm_II × pm_JJ)
  | 0, _, _, _, _ => none
  | n + 1, x3, x4, I, J =>
    if 64 ≤ x4 then (
      F_Fo_foldSheet_69 u u x3 (0 : Int32) I J)
    else (
      cond (vq x4 64) (
      cond (vq x4 64) (
      cond (vq x4 64) (
      F_Fo_foldSheet_28 u n x3 (x4 + Int32.ofInt 1) (pm_up (pm_up (pm_up I 31 ((x4 : Int32).toNatClampNeg) x4) 34 ((x4 : Int32).toNatClampNeg) 0) 35 ((x4 : Int32).toNatClampNeg) 0) J) none) none) none)
def F_Fo_foldSheet (u : Nat) (x1 : Int32) (x2 : Int32) (x3 : Int32) (I : pm_II) (J : pm_JJ) : Option (Unit × pm_II × pm_JJ) :=
  F_Fo_foldSheet_28 u u x3 (0 : Int32) (pm_up (pm_up (pm_up (pm_up (pm_up I 29 6 x1) 29 7 x2) 29 8 x1) 29 9 x2) 29 10 1) J
theorem fx_Fo_foldSheet_138 {u k : Nat} {pa pb : Nat} {ga : Nat → Nat} {Q : Option Value → pm_H → Prop} {x1 : Int32} {x2 : Int32} {x3 : Int32} {x4 : Int32} {I : pm_II} {J : pm_JJ} {r : Unit} {I2 : pm_II} {J2 : pm_JJ} (hk : 3 ≤ k) (hF : F_Fo_foldSheet_138 u  I J = some (r, I2, J2)) (hQ : Q none (hp I2 J2 (pm_RT pa pb ga))) : Px k 176 m_Fo_foldSheet 138 [.ref 29, .int x1, .int x2, .int x3, .int x4] [] (hp I J (pm_RT pa pb ga)) Q := by
  obtain ⟨k, rfl⟩ : ∃ j, k = j + 1 := ⟨k - 1, by omega⟩
  unfold F_Fo_foldSheet_138 at hF
  refine bk_Fo_foldSheet_138 ?_
  exact ret_q (Q := fun a b c => Q none (hp b c (pm_RT pa pb ga))) hF hQ
theorem fx_Fo_foldSheet_102 {u k : Nat} {pa pb : Nat} {ga : Nat → Nat} {Q : Option Value → pm_H → Prop} (hk : 3 ≤ k) : ∀ (n : Nat), ∀ (x1 : Int32) (x2 : Int32) (x3 : Int32) (x4 : Int32) (I : pm_II) (J : pm_JJ) (r : Unit) (I2 : pm_II) (J2 : pm_JJ), F_Fo_foldSheet_102 u n x4 I J = some (r, I2, J2) → Q none (hp I2 J2 (pm_RT pa pb ga)) → Px k 176 m_Fo_foldSheet 102 [.ref 29, .int x1, .int x2, .int x3, .int x4] [] (hp I J (pm_RT pa pb ga)) Q := by
  obtain ⟨k, rfl⟩ : ∃ j, k = j + 1 := ⟨k - 1, by omega⟩
  intro n
  induction n with
  | zero => intro x1 x2 x3 x4 I J r I2 J2  hF; cases hF
  | succ n ih =>
    intro x1 x2 x3 x4 I J r I2 J2  hF hQ
    rw [F_Fo_foldSheet_102] at hF
    refine bk_Fo_foldSheet_102 ?_
    obtain ⟨r105, I105, J105, hC105, hF⟩ := bd_e hF
    refine fx_Fo_leaves (by omega) hC105 ⟨rfl, ?_⟩
    refine bk_Fo_foldSheet_108 ?_
    refine ⟨fun z => ?_, fun z => ?_⟩
    · rw [if_pos z] at hF
      exact fx_Fo_foldSheet_138 hk hF hQ
    · rw [if_neg z] at hF
      refine ⟨fun z => ?_, fun z => ?_⟩
      · rw [if_pos z] at hF
        exact fx_Fo_foldSheet_138 hk hF hQ
      · rw [if_neg z] at hF
        obtain ⟨g, hF⟩ := gd_e hF
        refine ⟨vq_in g, ?_⟩
        obtain ⟨g, hF⟩ := gd_e hF
        refine ⟨vq_in g, ?_⟩
        exact ih _ _ _ _ _ _ _ _ _ hF hQ
theorem fx_Fo_foldSheet_99 {u k : Nat} {pa pb : Nat} {ga : Nat → Nat} {Q : Option Value → pm_H → Prop} {x1 : Int32} {x2 : Int32} {x3 : Int32} {x4 : Int32} {I : pm_II} {J : pm_JJ} {r : Unit} {I2 : pm_II} {J2 : pm_JJ} (hk : 3 ≤ k) (hF : F_Fo_foldSheet_99 u  I J = some (r, I2, J2)) (hQ : Q none (hp I2 J2 (pm_RT pa pb ga))) : Px k 176 m_Fo_foldSheet 99 [.ref 29, .int x1, .int x2, .int x3, .int x4] [] (hp I J (pm_RT pa pb ga)) Q := by
  obtain ⟨k, rfl⟩ : ∃ j, k = j + 1 := ⟨k - 1, by omega⟩
  unfold F_Fo_foldSheet_99 at hF
  refine bk_Fo_foldSheet_99 ?_
  exact fx_Fo_foldSheet_102 hk u _ _ _ _ _ _ _ _ _ hF hQ
theorem fx_Fo_foldSheet_69 {u k : Nat} {pa pb : Nat} {ga : Nat → Nat} {Q : Option Value → pm_H → Prop} (hk : 3 ≤ k) : ∀ (n : Nat), ∀ (x1 : Int32) (x2 : Int32) (x3 : Int32) (x4 : Int32) (I : pm_II) (J : pm_JJ) (r : Unit) (I2 : pm_II) (J2 : pm_JJ), F_Fo_foldSheet_69 u n x3 x4 I J = some (r, I2, J2) → Q none (hp I2 J2 (pm_RT pa pb ga)) → Px k 176 m_Fo_foldSheet 69 [.ref 29, .int x1, .int x2, .int x3, .int x4] [] (hp I J (pm_RT pa pb ga)) Q := by
  obtain ⟨k, rfl⟩ : ∃ j, k = j + 1 := ⟨k - 1, by omega⟩
  intro n
  induction n with
  | zero => intro x1 x2 x3 x4 I J r I2 J2  hF; cases hF
  | succ n ih =>
    intro x1 x2 x3 x4 I J r I2 J2  hF hQ
    rw [F_Fo_foldSheet_69] at hF
    refine bk_Fo_foldSheet_69 ?_
    refine ⟨fun z => ?_, fun z => ?_⟩
    · rw [if_pos z] at hF
      exact fx_Fo_foldSheet_99 hk hF hQ
    · rw [if_neg z] at hF
      refine ⟨fun z => ?_, fun z => ?_⟩
      · rw [if_pos z] at hF
        exact fx_Fo_foldSheet_99 hk hF hQ
      · rw [if_neg z] at hF
        obtain ⟨g, hF⟩ := gd_e hF
        refine ⟨vq_in g, ?_⟩
        obtain ⟨r90, I90, J90, hC90, hF⟩ := bd_e hF
        refine fx_Fo_foldOver (by omega) hC90 ⟨rfl, ?_⟩
        refine bk_Fo_foldSheet_93 ?_
        exact ih _ _ _ _ _ _ _ _ _ hF hQ
theorem fx_Fo_foldSheet_28 {u k : Nat} {pa pb : Nat} {ga : Nat → Nat} {Q : Option Value → pm_H → Prop} (hk : 3 ≤ k) : ∀ (n : Nat), ∀ (x1 : Int32) (x2 : Int32) (x3 : Int32) (x4 : Int32) (I : pm_II) (J : pm_JJ) (r : Unit) (I2 : pm_II) (J2 : pm_JJ), F_Fo_foldSheet_28 u n x3 x4 I J = some (r, I2, J2) → Q none (hp I2 J2 (pm_RT pa pb ga)) → Px k 176 m_Fo_foldSheet 28 [.ref 29, .int x1, .int x2, .int x3, .int x4] [] (hp I J (pm_RT pa pb ga)) Q := by
  obtain ⟨k, rfl⟩ : ∃ j, k = j + 1 := ⟨k - 1, by omega⟩
  intro n
  induction n with
  | zero => intro x1 x2 x3 x4 I J r I2 J2  hF; cases hF
  | succ n ih =>
    intro x1 x2 x3 x4 I J r I2 J2  hF hQ
    rw [F_Fo_foldSheet_28] at hF
    refine bk_Fo_foldSheet_28 ?_
    refine ⟨fun z => ?_, fun z => ?_⟩
    · rw [if_pos z] at hF
      exact fx_Fo_foldSheet_69 hk u _ _ _ _ _ _ _ _ _ hF hQ
    · rw [if_neg z] at hF
      obtain ⟨g, hF⟩ := gd_e hF
      refine ⟨vq_in g, ?_⟩
      obtain ⟨g, hF⟩ := gd_e hF
      refine ⟨vq_in g, ?_⟩
      obtain ⟨g, hF⟩ := gd_e hF
      refine ⟨vq_in g, ?_⟩
      exact ih _ _ _ _ _ _ _ _ _ hF hQ
theorem fx_Fo_foldSheet {u k : Nat} {pa pb : Nat} {ga : Nat → Nat} {Q : Option Value → pm_H → Prop} {x1 : Int32} {x2 : Int32} {x3 : Int32} {I : pm_II} {J : pm_JJ} {r : Unit} {I2 : pm_II} {J2 : pm_JJ} (hk : 3 ≤ k) (hF : F_Fo_foldSheet u x1 x2 x3 I J = some (r, I2, J2)) (hQ : Q none (hp I2 J2 (pm_RT pa pb ga))) : Px k 176 m_Fo_foldSheet 0 [.ref 29, .int x1, .int x2, .int x3, .null] [] (hp I J (pm_RT pa pb ga)) Q := by
  obtain ⟨k, rfl⟩ : ∃ j, k = j + 1 := ⟨k - 1, by omega⟩
  unfold F_Fo_foldSheet at hF
  refine bk_Fo_foldSheet_0 ?_
  exact fx_Fo_foldSheet_28 hk u _ _ _ _ _ _ _ _ _ hF hQ
def F_Ro_adopt_30 (u : Nat) (K2 : Int32 → pm_II → pm_JJ → Option (Unit × pm_II × pm_JJ)) (x1 : Int32) (s1 : Int32) (s2 : Int32) (I : pm_II) (J : pm_JJ) : Option (Unit × pm_II × pm_JJ) :=
  cond (vq s1 4) (
  if (I 19 11) ≤ x1 then (
    cond (vq x1 4) (
    K2 (x1 + Int32.ofInt 1) (pm_up (pm_up I 20 ((s1 : Int32).toNatClampNeg) s2) 21 ((x1 : Int32).toNatClampNeg) 0) J) none)
  else (
    cond (vq x1 4) (
    cond (vq x1 4) (
    K2 (x1 + Int32.ofInt 1) (pm_up (pm_up I 20 ((s1 : Int32).toNatClampNeg) s2) 21 ((x1 : Int32).toNatClampNeg) (I 23 ((x1 : Int32).toNatClampNeg))) J) none) none)) none
def F_Ro_adopt_65 (u : Nat) : Nat → Int32 → Int32 → pm_II → pm_JJ → Option (Unit × pm_II × pm_JJ)
  | 0, _, _, _, _ => none
  | n + 1, x1, x2, I, J =>
    if x2 < 0 then (
      some ((), I, J))
    else (
      cond (vq x2 4) (
      cond (vq x2 4) (
      F_Ro_adopt_65 u n (x1 * ((I 21 ((x2 : Int32).toNatClampNeg)) + (1 : Int32))) (x2 + Int32.ofInt (-1)) (pm_up I 24 ((x2 : Int32).toNatClampNeg) x1) J) none) none)
def F_Ro_adopt_2 (u : Nat) : Nat → Int32 → pm_II → pm_JJ → Option (Unit × pm_II × pm_JJ)
  | 0, _, _, _ => none
  | n + 1, x1, I, J =>
    if 4 ≤ x1 then (
      F_Ro_adopt_65 u u (1 : Int32) (3 : Int32) I J)
    else (
      if (I 19 11) ≤ x1 then (
        F_Ro_adopt_30 u (F_Ro_adopt_2 u n) x1 x1 (0 : Int32) I J)
      else (
        cond (vq x1 4) (
        F_Ro_adopt_30 u (F_Ro_adopt_2 u n) x1 x1 (I 22 ((x1 : Int32).toNatClampNeg)) I J) none))
def F_Ro_adopt (u : Nat) (I : pm_II) (J : pm_JJ) : Option (Unit × pm_II × pm_JJ) :=
  F_Ro_adopt_2 u u (0 : Int32) I J
theorem fx_Ro_adopt_30 {u k : Nat} {pa pb : Nat} {ga : Nat → Nat} {Q : Option Value → pm_H → Prop} {K2 : Int32 → pm_II → pm_JJ → Option (Unit × pm_II × pm_JJ)} {x1 : Int32} {s1 : Int32} {s2 : Int32} {I : pm_II} {J : pm_JJ} {r : Unit} {I2 : pm_II} {J2 : pm_JJ} (hk : 0 ≤ k) (hK2 : ∀ (x1 : Int32) (I : pm_II) (J : pm_JJ) (r : Unit) (I2 : pm_II) (J2 : pm_JJ), K2 x1 I J = some (r, I2, J2) → Q none (hp I2 J2 (pm_RT pa pb ga)) → Px k 176 m_Ro_adopt 2 [.ref 19, .int x1, .null] [] (hp I J (pm_RT pa pb ga)) Q) (hF : F_Ro_adopt_30 u K2 x1 s1 s2 I J = some (r, I2, J2)) (hQ : Q none (hp I2 J2 (pm_RT pa pb ga))) : Px k 176 m_Ro_adopt 30 [.ref 19, .int x1, .null] [.int s2, .int s1, .ref 20] (hp I J (pm_RT pa pb ga)) Q := by
  unfold F_Ro_adopt_30 at hF
  refine bk_Ro_adopt_30 ?_
  obtain ⟨g, hF⟩ := gd_e hF
  refine ⟨vq_in g, ?_⟩
  refine ⟨fun z => ?_, fun z => ?_⟩
  · rw [if_pos z] at hF
    obtain ⟨g, hF⟩ := gd_e hF
    refine ⟨vq_in g, ?_⟩
    exact hK2 _ _ _ _ _ _ hF hQ
  · rw [if_neg z] at hF
    obtain ⟨g, hF⟩ := gd_e hF
    refine ⟨vq_in g, ?_⟩
    obtain ⟨g, hF⟩ := gd_e hF
    refine ⟨vq_in g, ?_⟩
    exact hK2 _ _ _ _ _ _ hF hQ
theorem fx_Ro_adopt_65 {u k : Nat} {pa pb : Nat} {ga : Nat → Nat} {Q : Option Value → pm_H → Prop} (hk : 0 ≤ k) : ∀ (n : Nat), ∀ (x1 : Int32) (x2 : Int32) (I : pm_II) (J : pm_JJ) (r : Unit) (I2 : pm_II) (J2 : pm_JJ), F_Ro_adopt_65 u n x1 x2 I J = some (r, I2, J2) → Q none (hp I2 J2 (pm_RT pa pb ga)) → Px k 176 m_Ro_adopt 65 [.ref 19, .int x1, .int x2] [] (hp I J (pm_RT pa pb ga)) Q := by
  intro n
  induction n with
  | zero => intro x1 x2 I J r I2 J2  hF; cases hF
  | succ n ih =>
    intro x1 x2 I J r I2 J2  hF hQ
    rw [F_Ro_adopt_65] at hF
    refine bk_Ro_adopt_65 ?_
    refine ⟨fun z => ?_, fun z => ?_⟩
    · rw [if_pos z] at hF
      exact ret_q (Q := fun a b c => Q none (hp b c (pm_RT pa pb ga))) hF hQ
    · rw [if_neg z] at hF
      obtain ⟨g, hF⟩ := gd_e hF
      refine ⟨vq_in g, ?_⟩
      obtain ⟨g, hF⟩ := gd_e hF
      refine ⟨vq_in g, ?_⟩
      exact ih _ _ _ _ _ _ _ hF hQ
theorem fx_Ro_adopt_2 {u k : Nat} {pa pb : Nat} {ga : Nat → Nat} {Q : Option Value → pm_H → Prop} (hk : 0 ≤ k) : ∀ (n : Nat), ∀ (x1 : Int32) (I : pm_II) (J : pm_JJ) (r : Unit) (I2 : pm_II) (J2 : pm_JJ), F_Ro_adopt_2 u n x1 I J = some (r, I2, J2) → Q none (hp I2 J2 (pm_RT pa pb ga)) → Px k 176 m_Ro_adopt 2 [.ref 19, .int x1, .null] [] (hp I J (pm_RT pa pb ga)) Q := by
  intro n
  induction n with
  | zero => intro x1 I J r I2 J2  hF; cases hF
  | succ n ih =>
    intro x1 I J r I2 J2  hF hQ
    rw [F_Ro_adopt_2] at hF
    refine bk_Ro_adopt_2 ?_
    refine ⟨fun z => ?_, fun z => ?_⟩
    · rw [if_pos z] at hF
      exact fx_Ro_adopt_65 hk u _ _ _ _ _ _ _ hF hQ
    · rw [if_neg z] at hF
      refine ⟨fun z => ?_, fun z => ?_⟩
      · rw [if_pos z] at hF
        exact fx_Ro_adopt_30 hk ih hF hQ
      · rw [if_neg z] at hF
        obtain ⟨g, hF⟩ := gd_e hF
        refine ⟨vq_in g, ?_⟩
        exact fx_Ro_adopt_30 hk ih hF hQ
theorem fx_Ro_adopt {u k : Nat} {pa pb : Nat} {ga : Nat → Nat} {Q : Option Value → pm_H → Prop} {I : pm_II} {J : pm_JJ} {r : Unit} {I2 : pm_II} {J2 : pm_JJ} (hk : 0 ≤ k) (hF : F_Ro_adopt u  I J = some (r, I2, J2)) (hQ : Q none (hp I2 J2 (pm_RT pa pb ga))) : Px k 176 m_Ro_adopt 0 [.ref 19, .null, .null] [] (hp I J (pm_RT pa pb ga)) Q := by
  unfold F_Ro_adopt at hF
  refine bk_Ro_adopt_0 ?_
  exact fx_Ro_adopt_2 hk u _ _ _ _ _ _ hF hQ
def F_Ro_onePiece_2 (u : Nat) : Nat → Int32 → pm_II → pm_JJ → Option (Int32 × pm_II × pm_JJ)
  | 0, _, _, _ => none
  | n + 1, x1, I, J =>
    if 4 ≤ x1 then (
      some ((0 : Int32), I, J))
    else (
      cond (vq x1 4) (
      if (I 25 ((x1 : Int32).toNatClampNeg)) ≤ 0 then (
        F_Ro_onePiece_2 u n (x1 + Int32.ofInt 1) I J)
      else (
        cond (vq x1 4) (
        some ((I 24 ((x1 : Int32).toNatClampNeg)), I, J)) none)) none)
def F_Ro_onePiece (u : Nat) (I : pm_II) (J : pm_JJ) : Option (Int32 × pm_II × pm_JJ) :=
  F_Ro_onePiece_2 u u (0 : Int32) I J
theorem fx_Ro_onePiece_2 {u k : Nat} {pa pb : Nat} {ga : Nat → Nat} {Q : Option Value → pm_H → Prop} (hk : 0 ≤ k) : ∀ (n : Nat), ∀ (x1 : Int32) (I : pm_II) (J : pm_JJ) (r : Int32) (I2 : pm_II) (J2 : pm_JJ), F_Ro_onePiece_2 u n x1 I J = some (r, I2, J2) → Q (some (.int r)) (hp I2 J2 (pm_RT pa pb ga)) → Px k 176 m_Ro_onePiece 2 [.ref 19, .int x1] [] (hp I J (pm_RT pa pb ga)) Q := by
  intro n
  induction n with
  | zero => intro x1 I J r I2 J2  hF; cases hF
  | succ n ih =>
    intro x1 I J r I2 J2  hF hQ
    rw [F_Ro_onePiece_2] at hF
    refine bk_Ro_onePiece_2 ?_
    refine ⟨fun z => ?_, fun z => ?_⟩
    · rw [if_pos z] at hF
      exact ret_q (Q := fun a b c => Q (some (.int a)) (hp b c (pm_RT pa pb ga))) hF hQ
    · rw [if_neg z] at hF
      obtain ⟨g, hF⟩ := gd_e hF
      refine ⟨vq_in g, ?_⟩
      refine ⟨fun z => ?_, fun z => ?_⟩
      · rw [if_pos z] at hF
        exact ih _ _ _ _ _ _ hF hQ
      · rw [if_neg z] at hF
        obtain ⟨g, hF⟩ := gd_e hF
        refine ⟨vq_in g, ?_⟩
        exact ret_q (Q := fun a b c => Q (some (.int a)) (hp b c (pm_RT pa pb ga))) hF hQ
theorem fx_Ro_onePiece {u k : Nat} {pa pb : Nat} {ga : Nat → Nat} {Q : Option Value → pm_H → Prop} {I : pm_II} {J : pm_JJ} {r : Int32} {I2 : pm_II} {J2 : pm_JJ} (hk : 0 ≤ k) (hF : F_Ro_onePiece u  I J = some (r, I2, J2)) (hQ : Q (some (.int r)) (hp I2 J2 (pm_RT pa pb ga))) : Px k 176 m_Ro_onePiece 0 [.ref 19, .null] [] (hp I J (pm_RT pa pb ga)) Q := by
  unfold F_Ro_onePiece at hF
  refine bk_Ro_onePiece_0 ?_
  exact fx_Ro_onePiece_2 hk u _ _ _ _ _ _ hF hQ
def F_Ro_mostOf (u : Nat) (x1 : Int32) (x2 : Int32) (x3 : Int32) (I : pm_II) (J : pm_JJ) : Option (Int32 × pm_II × pm_JJ) :=
  cond (vq x1 4) (
  bd (F_Jm_min_II u (I 25 ((x1 : Int32).toNatClampNeg)) x2 I J) fun r7 I7 J7 =>
  cond (vq x1 4) (
  if (I7 20 ((x1 : Int32).toNatClampNeg)) ≤ 0 then (
    some ((0 : Int32), I7, J7))
  else (
    cond (vq x1 4) (
    if ¬ (I7 20 ((x1 : Int32).toNatClampNeg)) = 0 then (
    bd (F_Jm_min_II u r7 (x3 / (I7 20 ((x1 : Int32).toNatClampNeg))) I7 J7) fun r31 I31 J31 =>
    some (r31, I31, J31)) else none) none)) none) none
theorem fx_Ro_mostOf {u k : Nat} {pa pb : Nat} {ga : Nat → Nat} {Q : Option Value → pm_H → Prop} {x1 : Int32} {x2 : Int32} {x3 : Int32} {I : pm_II} {J : pm_JJ} {r : Int32} {I2 : pm_II} {J2 : pm_JJ} (hk : 1 ≤ k) (hF : F_Ro_mostOf u x1 x2 x3 I J = some (r, I2, J2)) (hQ : Q (some (.int r)) (hp I2 J2 (pm_RT pa pb ga))) : Px k 176 m_Ro_mostOf 0 [.ref 19, .int x1, .int x2, .int x3, .null] [] (hp I J (pm_RT pa pb ga)) Q := by
  obtain ⟨k, rfl⟩ : ∃ j, k = j + 1 := ⟨k - 1, by omega⟩
  unfold F_Ro_mostOf at hF
  refine bk_Ro_mostOf_0 ?_
  obtain ⟨g, hF⟩ := gd_e hF
  refine ⟨vq_in g, ?_⟩
  obtain ⟨r7, I7, J7, hC7, hF⟩ := bd_e hF
  refine fx_Jm_min_II (by omega) hC7 ⟨rfl, ?_⟩
  refine bk_Ro_mostOf_10 ?_
  obtain ⟨g, hF⟩ := gd_e hF
  refine ⟨vq_in g, ?_⟩
  refine ⟨fun z => ?_, fun z => ?_⟩
  · rw [if_pos z] at hF
    exact ret_q (Q := fun a b c => Q (some (.int a)) (hp b c (pm_RT pa pb ga))) hF hQ
  · rw [if_neg z] at hF
    obtain ⟨g, hF⟩ := gd_e hF
    refine ⟨vq_in g, ?_⟩
    obtain ⟨g, hF⟩ := ge_e hF
    refine ⟨g, ?_⟩
    obtain ⟨r31, I31, J31, hC31, hF⟩ := bd_e hF
    refine fx_Jm_min_II (by omega) hC31 ⟨rfl, ?_⟩
    refine bk_Ro_mostOf_34 ?_
    exact ret_q (Q := fun a b c => Q (some (.int a)) (hp b c (pm_RT pa pb ga))) hF hQ
def F_Ro_reaches_87 (u : Nat) (C : Int32 → Int32 → Int32 → Int32 → Int32 → pm_II → pm_JJ → Option (Int32 × pm_II × pm_JJ)) : Nat → Int32 → Int32 → Int32 → Int32 → Int32 → Int32 → pm_II → pm_JJ → Option (Int32 × pm_II × pm_JJ)
  | 0, _, _, _, _, _, _, _, _ => none
  | n + 1, x1, x2, x3, x4, x5, x7, I, J =>
    if x7 < 0 then (
      some ((0 : Int32), I, J))
    else (
      cond (vq x1 4) (
      cond (vq x1 4) (
      cond (vq x1 4) (
      bd (C (x1 + (1 : Int32)) (x2 - x7) (x3 - (x7 * (I 20 ((x1 : Int32).toNatClampNeg)))) (x4 - (x7 * (I 24 ((x1 : Int32).toNatClampNeg)))) x5 (pm_up I 26 ((x1 : Int32).toNatClampNeg) x7) J) fun r133 I133 J133 =>
      if r133 = 0 then (
        F_Ro_reaches_87 u C n x1 x2 x3 x4 x5 (x7 + Int32.ofInt (-1)) I133 J133)
      else (
        some ((1 : Int32), I133, J133))) none) none) none)
def F_Ro_reaches_r (u : Nat) : Nat → Int32 → Int32 → Int32 → Int32 → Int32 → pm_II → pm_JJ → Option (Int32 × pm_II × pm_JJ)
  | 0, _, _, _, _, _, _, _ => none
  | n + 1, x1, x2, x3, x4, x5, I, J =>
    if x1 < 0 then (
      some ((0 : Int32), I, J))
    else (
      if 4 ≤ x1 then (
        some ((0 : Int32), I, J))
      else (
        if 0 ≤ x5 then (
          bd (F_Ro_mostOf u x1 x2 x3 I J) fun r20 I20 J20 =>
          if ¬ x1 = 3 then (
            F_Ro_reaches_87 u (F_Ro_reaches_r u n) u x1 x2 x3 x4 x5 r20 I20 J20)
          else (
            cond (vq x1 4) (
            cond (vq x1 4) (
            if (x4 - (r20 * (I20 24 ((x1 : Int32).toNatClampNeg)))) < 0 then (
              some ((0 : Int32), (pm_up I20 26 ((x1 : Int32).toNatClampNeg) r20), J20))
            else (
              if 625 ≤ (x4 - (r20 * (I20 24 ((x1 : Int32).toNatClampNeg)))) then (
                some ((0 : Int32), (pm_up I20 26 ((x1 : Int32).toNatClampNeg) r20), J20))
              else (
                cond (vq (x4 - (r20 * (I20 24 ((x1 : Int32).toNatClampNeg)))) 625) (
                if x5 < (I20 27 (((x4 - (r20 * (I20 24 ((x1 : Int32).toNatClampNeg)))) : Int32).toNatClampNeg)) then (
                  some ((0 : Int32), (pm_up I20 26 ((x1 : Int32).toNatClampNeg) r20), J20))
                else (
                  some ((1 : Int32), (pm_up I20 26 ((x1 : Int32).toNatClampNeg) r20), J20))) none))) none) none))
        else (
          some ((0 : Int32), I, J))))
def F_Ro_reaches (u : Nat) (x1 : Int32) (x2 : Int32) (x3 : Int32) (x4 : Int32) (x5 : Int32) (I : pm_II) (J : pm_JJ) : Option (Int32 × pm_II × pm_JJ) := F_Ro_reaches_r u 10 x1 x2 x3 x4 x5 I J
theorem fx_Ro_reaches_87 {u k : Nat} {pa pb : Nat} {ga : Nat → Nat} {Q : Option Value → pm_H → Prop} {C : Int32 → Int32 → Int32 → Int32 → Int32 → pm_II → pm_JJ → Option (Int32 × pm_II × pm_JJ)} (hk : 2 ≤ k) (hCC : ∀ j, k = j + 1 → ∀ (x1 : Int32) (x2 : Int32) (x3 : Int32) (x4 : Int32) (x5 : Int32) (I : pm_II) (J : pm_JJ) (r : Int32) (I2 : pm_II) (J2 : pm_JJ) (Q : Option Value → pm_H → Prop), C x1 x2 x3 x4 x5 I J = some (r, I2, J2) → Q (some (.int r)) (hp I2 J2 (pm_RT pa pb ga)) → Px j 176 m_Ro_reaches 0 [.ref 19, .int x1, .int x2, .int x3, .int x4, .int x5, .null, .null] [] (hp I J (pm_RT pa pb ga)) Q) : ∀ (n : Nat), ∀ (x1 : Int32) (x2 : Int32) (x3 : Int32) (x4 : Int32) (x5 : Int32) (x6 : Int32) (x7 : Int32) (I : pm_II) (J : pm_JJ) (r : Int32) (I2 : pm_II) (J2 : pm_JJ), F_Ro_reaches_87 u C n x1 x2 x3 x4 x5 x7 I J = some (r, I2, J2) → Q (some (.int r)) (hp I2 J2 (pm_RT pa pb ga)) → Px k 176 m_Ro_reaches 87 [.ref 19, .int x1, .int x2, .int x3, .int x4, .int x5, .int x6, .int x7] [] (hp I J (pm_RT pa pb ga)) Q := by
  obtain ⟨k, rfl⟩ : ∃ j, k = j + 1 := ⟨k - 1, by omega⟩
  have hCC := hCC _ rfl
  intro n
  induction n with
  | zero => intro x1 x2 x3 x4 x5 x6 x7 I J r I2 J2  hF; cases hF
  | succ n ih =>
    intro x1 x2 x3 x4 x5 x6 x7 I J r I2 J2  hF hQ
    rw [F_Ro_reaches_87] at hF
    refine bk_Ro_reaches_87 ?_
    refine ⟨fun z => ?_, fun z => ?_⟩
    · rw [if_pos z] at hF
      exact ret_q (Q := fun a b c => Q (some (.int a)) (hp b c (pm_RT pa pb ga))) hF hQ
    · rw [if_neg z] at hF
      obtain ⟨g, hF⟩ := gd_e hF
      refine ⟨vq_in g, ?_⟩
      obtain ⟨g, hF⟩ := gd_e hF
      refine ⟨vq_in g, ?_⟩
      obtain ⟨g, hF⟩ := gd_e hF
      refine ⟨vq_in g, ?_⟩
      obtain ⟨r133, I133, J133, hC133, hF⟩ := bd_e hF
      refine hCC _ _ _ _ _ _ _ _ _ _ _ hC133 ⟨rfl, ?_⟩
      refine bk_Ro_reaches_136 ?_
      refine ⟨fun z => ?_, fun z => ?_⟩
      · rw [if_pos z] at hF
        exact ih _ _ _ _ _ _ _ _ _ _ _ _ hF hQ
      · rw [if_neg z] at hF
        exact ret_q (Q := fun a b c => Q (some (.int a)) (hp b c (pm_RT pa pb ga))) hF hQ
theorem fx_Ro_reaches_r {u : Nat} {pa pb : Nat} {ga : Nat → Nat} : ∀ (n k : Nat), 2 + n ≤ k → ∀ (x1 : Int32) (x2 : Int32) (x3 : Int32) (x4 : Int32) (x5 : Int32) (I : pm_II) (J : pm_JJ) (r : Int32) (I2 : pm_II) (J2 : pm_JJ) (Q : Option Value → pm_H → Prop), F_Ro_reaches_r u n x1 x2 x3 x4 x5 I J = some (r, I2, J2) → Q (some (.int r)) (hp I2 J2 (pm_RT pa pb ga)) → Px k 176 m_Ro_reaches 0 [.ref 19, .int x1, .int x2, .int x3, .int x4, .int x5, .null, .null] [] (hp I J (pm_RT pa pb ga)) Q := by
  intro n
  induction n with
  | zero => intro k hk x1 x2 x3 x4 x5 I J r I2 J2 Q hF; cases hF
  | succ n ih =>
    intro k hk x1 x2 x3 x4 x5 I J r I2 J2 Q hF hQ
    obtain ⟨k, rfl⟩ : ∃ j, k = j + 1 := ⟨k - 1, by omega⟩
    have hCC := ih k (by omega)
    have hk : 2 ≤ k + 1 := by omega
    rw [F_Ro_reaches_r] at hF
    refine bk_Ro_reaches_0 ?_
    refine ⟨fun z => ?_, fun z => ?_⟩
    · rw [if_pos z] at hF
      exact ret_q (Q := fun a b c => Q (some (.int a)) (hp b c (pm_RT pa pb ga))) hF hQ
    · rw [if_neg z] at hF
      refine ⟨fun z => ?_, fun z => ?_⟩
      · rw [if_pos z] at hF
        exact ret_q (Q := fun a b c => Q (some (.int a)) (hp b c (pm_RT pa pb ga))) hF hQ
      · rw [if_neg z] at hF
        refine ⟨fun z => ?_, fun z => ?_⟩
        · rw [if_pos z] at hF
          obtain ⟨r20, I20, J20, hC20, hF⟩ := bd_e hF
          refine fx_Ro_mostOf (by omega) hC20 ⟨rfl, ?_⟩
          refine bk_Ro_reaches_23 ?_
          refine ⟨fun z => ?_, fun z => ?_⟩
          · rw [if_pos z] at hF
            exact fx_Ro_reaches_87 hk (fun j e => by cases e; exact hCC) u _ _ _ _ _ _ _ _ _ _ _ _ hF hQ
          · rw [if_neg z] at hF
            obtain ⟨g, hF⟩ := gd_e hF
            refine ⟨vq_in g, ?_⟩
            obtain ⟨g, hF⟩ := gd_e hF
            refine ⟨vq_in g, ?_⟩
            refine ⟨fun z => ?_, fun z => ?_⟩
            · rw [if_pos z] at hF
              exact ret_q (Q := fun a b c => Q (some (.int a)) (hp b c (pm_RT pa pb ga))) hF hQ
            · rw [if_neg z] at hF
              refine ⟨fun z => ?_, fun z => ?_⟩
              · rw [if_pos z] at hF
                exact ret_q (Q := fun a b c => Q (some (.int a)) (hp b c (pm_RT pa pb ga))) hF hQ
              · rw [if_neg z] at hF
                obtain ⟨g, hF⟩ := gd_e hF
                refine ⟨vq_in g, ?_⟩
                refine ⟨fun z => ?_, fun z => ?_⟩
                · rw [if_pos z] at hF
                  exact ret_q (Q := fun a b c => Q (some (.int a)) (hp b c (pm_RT pa pb ga))) hF hQ
                · rw [if_neg z] at hF
                  exact ret_q (Q := fun a b c => Q (some (.int a)) (hp b c (pm_RT pa pb ga))) hF hQ
        · rw [if_neg z] at hF
          exact ret_q (Q := fun a b c => Q (some (.int a)) (hp b c (pm_RT pa pb ga))) hF hQ
theorem fx_Ro_reaches {u k : Nat} {pa pb : Nat} {ga : Nat → Nat} {Q : Option Value → pm_H → Prop} {x1 : Int32} {x2 : Int32} {x3 : Int32} {x4 : Int32} {x5 : Int32} {I : pm_II} {J : pm_JJ} {r : Int32} {I2 : pm_II} {J2 : pm_JJ} (hk : 12 ≤ k) (hF : F_Ro_reaches u x1 x2 x3 x4 x5 I J = some (r, I2, J2)) (hQ : Q (some (.int r)) (hp I2 J2 (pm_RT pa pb ga))) : Px k 176 m_Ro_reaches 0 [.ref 19, .int x1, .int x2, .int x3, .int x4, .int x5, .null, .null] [] (hp I J (pm_RT pa pb ga)) Q :=
  fx_Ro_reaches_r 10 k (by omega) _ _ _ _ _ _ _ _ _ _ _ hF hQ
def F_Ro_stepOpen_2 (u : Nat) : Nat → Int32 → pm_II → pm_JJ → Option (Unit × pm_II × pm_JJ)
  | 0, _, _, _ => none
  | n + 1, x1, I, J =>
    if x1 < 0 then (
      some ((), I, J))
    else (
      cond (vq x1 4) (
      cond (vq x1 4) (
      if (I 21 ((x1 : Int32).toNatClampNeg)) ≤ (I 25 ((x1 : Int32).toNatClampNeg)) then (
        cond (vq x1 4) (
        F_Ro_stepOpen_2 u n (x1 + Int32.ofInt (-1)) (pm_up I 25 ((x1 : Int32).toNatClampNeg) 0) J) none)
      else (
        cond (vq x1 4) (
        cond (vq x1 4) (
        some ((), (pm_up I 25 ((x1 : Int32).toNatClampNeg) ((I 25 ((x1 : Int32).toNatClampNeg)) + (1 : Int32))), J)) none) none)) none) none)
def F_Ro_stepOpen (u : Nat) (I : pm_II) (J : pm_JJ) : Option (Unit × pm_II × pm_JJ) :=
  F_Ro_stepOpen_2 u u (3 : Int32) I J
theorem fx_Ro_stepOpen_2 {u k : Nat} {pa pb : Nat} {ga : Nat → Nat} {Q : Option Value → pm_H → Prop} (hk : 0 ≤ k) : ∀ (n : Nat), ∀ (x1 : Int32) (I : pm_II) (J : pm_JJ) (r : Unit) (I2 : pm_II) (J2 : pm_JJ), F_Ro_stepOpen_2 u n x1 I J = some (r, I2, J2) → Q none (hp I2 J2 (pm_RT pa pb ga)) → Px k 176 m_Ro_stepOpen 2 [.ref 19, .int x1] [] (hp I J (pm_RT pa pb ga)) Q := by
  intro n
  induction n with
  | zero => intro x1 I J r I2 J2  hF; cases hF
  | succ n ih =>
    intro x1 I J r I2 J2  hF hQ
    rw [F_Ro_stepOpen_2] at hF
    refine bk_Ro_stepOpen_2 ?_
    refine ⟨fun z => ?_, fun z => ?_⟩
    · rw [if_pos z] at hF
      exact ret_q (Q := fun a b c => Q none (hp b c (pm_RT pa pb ga))) hF hQ
    · rw [if_neg z] at hF
      obtain ⟨g, hF⟩ := gd_e hF
      refine ⟨vq_in g, ?_⟩
      obtain ⟨g, hF⟩ := gd_e hF
      refine ⟨vq_in g, ?_⟩
      refine ⟨fun z => ?_, fun z => ?_⟩
      · rw [if_pos z] at hF
        obtain ⟨g, hF⟩ := gd_e hF
        refine ⟨vq_in g, ?_⟩
        exact ih _ _ _ _ _ _ hF hQ
      · rw [if_neg z] at hF
        obtain ⟨g, hF⟩ := gd_e hF
        refine ⟨vq_in g, ?_⟩
        obtain ⟨g, hF⟩ := gd_e hF
        refine ⟨vq_in g, ?_⟩
        exact ret_q (Q := fun a b c => Q none (hp b c (pm_RT pa pb ga))) hF hQ
theorem fx_Ro_stepOpen {u k : Nat} {pa pb : Nat} {ga : Nat → Nat} {Q : Option Value → pm_H → Prop} {I : pm_II} {J : pm_JJ} {r : Unit} {I2 : pm_II} {J2 : pm_JJ} (hk : 0 ≤ k) (hF : F_Ro_stepOpen u  I J = some (r, I2, J2)) (hQ : Q none (hp I2 J2 (pm_RT pa pb ga))) : Px k 176 m_Ro_stepOpen 0 [.ref 19, .null] [] (hp I J (pm_RT pa pb ga)) Q := by
  unfold F_Ro_stepOpen at hF
  refine bk_Ro_stepOpen_0 ?_
  exact fx_Ro_stepOpen_2 hk u _ _ _ _ _ _ hF hQ
def F_Ro_wholeState_4 (u : Nat) : Nat → Int32 → Int32 → pm_II → pm_JJ → Option (Int32 × pm_II × pm_JJ)
  | 0, _, _, _, _ => none
  | n + 1, x1, x2, I, J =>
    if 4 ≤ x2 then (
      bd (F_Jm_min_II u x1 (624 : Int32) I J) fun r35 I35 J35 =>
      some (r35, I35, J35))
    else (
      cond (vq x2 4) (
      cond (vq x2 4) (
      F_Ro_wholeState_4 u n (x1 + ((I 21 ((x2 : Int32).toNatClampNeg)) * (I 24 ((x2 : Int32).toNatClampNeg)))) (x2 + Int32.ofInt 1) I J) none) none)
def F_Ro_wholeState (u : Nat) (I : pm_II) (J : pm_JJ) : Option (Int32 × pm_II × pm_JJ) :=
  F_Ro_wholeState_4 u u (0 : Int32) (0 : Int32) I J
theorem fx_Ro_wholeState_4 {u k : Nat} {pa pb : Nat} {ga : Nat → Nat} {Q : Option Value → pm_H → Prop} (hk : 1 ≤ k) : ∀ (n : Nat), ∀ (x1 : Int32) (x2 : Int32) (I : pm_II) (J : pm_JJ) (r : Int32) (I2 : pm_II) (J2 : pm_JJ), F_Ro_wholeState_4 u n x1 x2 I J = some (r, I2, J2) → Q (some (.int r)) (hp I2 J2 (pm_RT pa pb ga)) → Px k 176 m_Ro_wholeState 4 [.ref 19, .int x1, .int x2] [] (hp I J (pm_RT pa pb ga)) Q := by
  obtain ⟨k, rfl⟩ : ∃ j, k = j + 1 := ⟨k - 1, by omega⟩
  intro n
  induction n with
  | zero => intro x1 x2 I J r I2 J2  hF; cases hF
  | succ n ih =>
    intro x1 x2 I J r I2 J2  hF hQ
    rw [F_Ro_wholeState_4] at hF
    refine bk_Ro_wholeState_4 ?_
    refine ⟨fun z => ?_, fun z => ?_⟩
    · rw [if_pos z] at hF
      obtain ⟨r35, I35, J35, hC35, hF⟩ := bd_e hF
      refine fx_Jm_min_II (by omega) hC35 ⟨rfl, ?_⟩
      refine bk_Ro_wholeState_38 ?_
      exact ret_q (Q := fun a b c => Q (some (.int a)) (hp b c (pm_RT pa pb ga))) hF hQ
    · rw [if_neg z] at hF
      obtain ⟨g, hF⟩ := gd_e hF
      refine ⟨vq_in g, ?_⟩
      obtain ⟨g, hF⟩ := gd_e hF
      refine ⟨vq_in g, ?_⟩
      exact ih _ _ _ _ _ _ _ hF hQ
theorem fx_Ro_wholeState {u k : Nat} {pa pb : Nat} {ga : Nat → Nat} {Q : Option Value → pm_H → Prop} {I : pm_II} {J : pm_JJ} {r : Int32} {I2 : pm_II} {J2 : pm_JJ} (hk : 1 ≤ k) (hF : F_Ro_wholeState u  I J = some (r, I2, J2)) (hQ : Q (some (.int r)) (hp I2 J2 (pm_RT pa pb ga))) : Px k 176 m_Ro_wholeState 0 [.ref 19, .null, .null] [] (hp I J (pm_RT pa pb ga)) Q := by
  obtain ⟨k, rfl⟩ : ∃ j, k = j + 1 := ⟨k - 1, by omega⟩
  unfold F_Ro_wholeState at hF
  refine bk_Ro_wholeState_0 ?_
  exact fx_Ro_wholeState_4 hk u _ _ _ _ _ _ _ hF hQ
def F_Ro_countFewest_34 (u : Nat) : Nat → Int32 → Int32 → pm_II → pm_JJ → Option (Unit × pm_II × pm_JJ)
  | 0, _, _, _, _ => none
  | n + 1, x1, x2, I, J =>
    if x1 < x2 then (
      some ((), I, J))
    else (
      bd (F_Ro_stepOpen u I J) fun _ I40 J40 =>
      bd (F_Ro_onePiece u I40 J40) fun r50 I50 J50 =>
      bd (F_Jm_max u (0 : Int32) (x2 - r50) I50 J50) fun r54 I54 J54 =>
      cond (vq r54 625) (
      cond (vq x2 625) (
      bd (F_Ro_reaches u (0 : Int32) (I54 19 10) (I54 19 9) x2 ((I54 27 ((r54 : Int32).toNatClampNeg)) - (1 : Int32)) (pm_up I54 27 ((x2 : Int32).toNatClampNeg) 99) J54) fun r86 I86 J86 =>
      if r86 = 0 then (
        cond (vq x2 625) (
        F_Ro_countFewest_34 u n x1 (x2 + Int32.ofInt 1) (pm_up I86 27 ((x2 : Int32).toNatClampNeg) ((I54 27 ((r54 : Int32).toNatClampNeg)) + (1 : Int32))) J86) none)
      else (
        cond (vq x2 625) (
        F_Ro_countFewest_34 u n x1 (x2 + Int32.ofInt 1) (pm_up I86 27 ((x2 : Int32).toNatClampNeg) (I54 27 ((r54 : Int32).toNatClampNeg))) J86) none)) none) none)
def F_Ro_countFewest_7 (u : Nat) : Nat → Int32 → Int32 → pm_II → pm_JJ → Option (Unit × pm_II × pm_JJ)
  | 0, _, _, _, _ => none
  | n + 1, x1, x2, I, J =>
    if 4 ≤ x2 then (
      F_Ro_countFewest_34 u u x1 (1 : Int32) (pm_up I 27 0 0) J)
    else (
      cond (vq x2 4) (
      F_Ro_countFewest_7 u n x1 (x2 + Int32.ofInt 1) (pm_up I 25 ((x2 : Int32).toNatClampNeg) 0) J) none)
def F_Ro_countFewest (u : Nat) (I : pm_II) (J : pm_JJ) : Option (Unit × pm_II × pm_JJ) :=
  bd (F_Ro_wholeState u I J) fun r1 I1 J1 =>
  F_Ro_countFewest_7 u u r1 (0 : Int32) I1 J1
theorem fx_Ro_countFewest_34 {u k : Nat} {pa pb : Nat} {ga : Nat → Nat} {Q : Option Value → pm_H → Prop} (hk : 13 ≤ k) : ∀ (n : Nat), ∀ (x1 : Int32) (x2 : Int32) (I : pm_II) (J : pm_JJ) (r : Unit) (I2 : pm_II) (J2 : pm_JJ), F_Ro_countFewest_34 u n x1 x2 I J = some (r, I2, J2) → Q none (hp I2 J2 (pm_RT pa pb ga)) → Px k 176 m_Ro_countFewest 34 [.ref 19, .int x1, .int x2, .null] [] (hp I J (pm_RT pa pb ga)) Q := by
  obtain ⟨k, rfl⟩ : ∃ j, k = j + 1 := ⟨k - 1, by omega⟩
  intro n
  induction n with
  | zero => intro x1 x2 I J r I2 J2  hF; cases hF
  | succ n ih =>
    intro x1 x2 I J r I2 J2  hF hQ
    rw [F_Ro_countFewest_34] at hF
    refine bk_Ro_countFewest_34 ?_
    refine ⟨fun z => ?_, fun z => ?_⟩
    · rw [if_pos z] at hF
      exact ret_q (Q := fun a b c => Q none (hp b c (pm_RT pa pb ga))) hF hQ
    · rw [if_neg z] at hF
      obtain ⟨r40, I40, J40, hC40, hF⟩ := bd_e hF
      refine fx_Ro_stepOpen (by omega) hC40 ⟨rfl, ?_⟩
      refine bk_Ro_countFewest_43 ?_
      obtain ⟨r50, I50, J50, hC50, hF⟩ := bd_e hF
      refine fx_Ro_onePiece (by omega) hC50 ⟨rfl, ?_⟩
      refine bk_Ro_countFewest_53 ?_
      obtain ⟨r54, I54, J54, hC54, hF⟩ := bd_e hF
      refine fx_Jm_max (by omega) hC54 ⟨rfl, ?_⟩
      refine bk_Ro_countFewest_57 ?_
      obtain ⟨g, hF⟩ := gd_e hF
      refine ⟨vq_in g, ?_⟩
      obtain ⟨g, hF⟩ := gd_e hF
      refine ⟨vq_in g, ?_⟩
      obtain ⟨r86, I86, J86, hC86, hF⟩ := bd_e hF
      refine fx_Ro_reaches (by omega) hC86 ⟨rfl, ?_⟩
      refine bk_Ro_countFewest_89 ?_
      refine ⟨fun z => ?_, fun z => ?_⟩
      · rw [if_pos z] at hF
        obtain ⟨g, hF⟩ := gd_e hF
        refine ⟨vq_in g, ?_⟩
        exact Px_wk (ih _ _ _ _ _ _ _ hF hQ) ⟨Or.inl rfl, Or.inl rfl, Or.inl rfl, Or.inr ⟨rfl, rfl⟩, trivial⟩
      · rw [if_neg z] at hF
        obtain ⟨g, hF⟩ := gd_e hF
        refine ⟨vq_in g, ?_⟩
        exact Px_wk (ih _ _ _ _ _ _ _ hF hQ) ⟨Or.inl rfl, Or.inl rfl, Or.inl rfl, Or.inr ⟨rfl, rfl⟩, trivial⟩
theorem fx_Ro_countFewest_7 {u k : Nat} {pa pb : Nat} {ga : Nat → Nat} {Q : Option Value → pm_H → Prop} (hk : 13 ≤ k) : ∀ (n : Nat), ∀ (x1 : Int32) (x2 : Int32) (I : pm_II) (J : pm_JJ) (r : Unit) (I2 : pm_II) (J2 : pm_JJ), F_Ro_countFewest_7 u n x1 x2 I J = some (r, I2, J2) → Q none (hp I2 J2 (pm_RT pa pb ga)) → Px k 176 m_Ro_countFewest 7 [.ref 19, .int x1, .int x2, .null] [] (hp I J (pm_RT pa pb ga)) Q := by
  obtain ⟨k, rfl⟩ : ∃ j, k = j + 1 := ⟨k - 1, by omega⟩
  intro n
  induction n with
  | zero => intro x1 x2 I J r I2 J2  hF; cases hF
  | succ n ih =>
    intro x1 x2 I J r I2 J2  hF hQ
    rw [F_Ro_countFewest_7] at hF
    refine bk_Ro_countFewest_7 ?_
    refine ⟨fun z => ?_, fun z => ?_⟩
    · rw [if_pos z] at hF
      exact fx_Ro_countFewest_34 hk u _ _ _ _ _ _ _ hF hQ
    · rw [if_neg z] at hF
      obtain ⟨g, hF⟩ := gd_e hF
      refine ⟨vq_in g, ?_⟩
      exact ih _ _ _ _ _ _ _ hF hQ
theorem fx_Ro_countFewest {u k : Nat} {pa pb : Nat} {ga : Nat → Nat} {Q : Option Value → pm_H → Prop} {I : pm_II} {J : pm_JJ} {r : Unit} {I2 : pm_II} {J2 : pm_JJ} (hk : 13 ≤ k) (hF : F_Ro_countFewest u  I J = some (r, I2, J2)) (hQ : Q none (hp I2 J2 (pm_RT pa pb ga))) : Px k 176 m_Ro_countFewest 0 [.ref 19, .null, .null, .null] [] (hp I J (pm_RT pa pb ga)) Q := by
  obtain ⟨k, rfl⟩ : ∃ j, k = j + 1 := ⟨k - 1, by omega⟩
  unfold F_Ro_countFewest at hF
  refine bk_Ro_countFewest_0 ?_
  obtain ⟨r1, I1, J1, hC1, hF⟩ := bd_e hF
  refine fx_Ro_wholeState (by omega) hC1 ⟨rfl, ?_⟩
  refine bk_Ro_countFewest_4 ?_
  exact fx_Ro_countFewest_7 hk u _ _ _ _ _ _ _ hF hQ
def F_Ro_makePlan_80 (u : Nat) (K35 : Int32 → pm_II → pm_JJ → Option (Unit × pm_II × pm_JJ)) : Nat → Int32 → Int32 → pm_II → pm_JJ → Option (Unit × pm_II × pm_JJ)
  | 0, _, _, _, _ => none
  | n + 1, x1, x2, I, J =>
    if 4 ≤ x2 then (
      K35 x1 (pm_up I 19 12 ((I 19 12) + (1 : Int32))) J)
    else (
      cond (vq x2 4) (
      cond (vq (((I 19 12) * (4 : Int32)) + x2) 64) (
      cond (vq x2 4) (
      cond (vq x2 4) (
      cond (vq x2 4) (
      cond (vq x2 4) (
      cond (vq x2 4) (
      F_Ro_makePlan_80 u K35 n (x1 - ((I 26 ((x2 : Int32).toNatClampNeg)) * (I 24 ((x2 : Int32).toNatClampNeg)))) (x2 + Int32.ofInt 1) (pm_up (pm_up I 28 (((((I 19 12) * (4 : Int32)) + x2) : Int32).toNatClampNeg) (I 26 ((x2 : Int32).toNatClampNeg))) 25 ((x2 : Int32).toNatClampNeg) ((I 25 ((x2 : Int32).toNatClampNeg)) - (I 26 ((x2 : Int32).toNatClampNeg)))) J) none) none) none) none) none) none) none)
def F_Ro_makePlan_154 (u : Nat) (I : pm_II) (J : pm_JJ) : Option (Unit × pm_II × pm_JJ) :=
  some ((), I, J)
def F_Ro_makePlan_35 (u : Nat) : Nat → Int32 → pm_II → pm_JJ → Option (Unit × pm_II × pm_JJ)
  | 0, _, _, _ => none
  | n + 1, x1, I, J =>
    if x1 ≤ 0 then (
      F_Ro_makePlan_154 u I J)
    else (
      if 625 ≤ x1 then (
        F_Ro_makePlan_154 u I J)
      else (
        if 16 ≤ (I 19 12) then (
          F_Ro_makePlan_154 u I J)
        else (
          cond (vq x1 625) (
          bd (F_Ro_reaches u (0 : Int32) (I 19 10) (I 19 9) x1 ((I 27 ((x1 : Int32).toNatClampNeg)) - (1 : Int32)) I J) fun r74 I74 J74 =>
          F_Ro_makePlan_80 u (F_Ro_makePlan_35 u n) u x1 (0 : Int32) I74 J74) none)))
def F_Ro_makePlan_7 (u : Nat) : Nat → Int32 → Int32 → pm_II → pm_JJ → Option (Unit × pm_II × pm_JJ)
  | 0, _, _, _, _ => none
  | n + 1, x1, x2, I, J =>
    if 4 ≤ x2 then (
      F_Ro_makePlan_35 u u x1 (pm_up I 19 12 0) J)
    else (
      cond (vq x2 4) (
      cond (vq x2 4) (
      F_Ro_makePlan_7 u n x1 (x2 + Int32.ofInt 1) (pm_up I 25 ((x2 : Int32).toNatClampNeg) (I 21 ((x2 : Int32).toNatClampNeg))) J) none) none)
def F_Ro_makePlan (u : Nat) (I : pm_II) (J : pm_JJ) : Option (Unit × pm_II × pm_JJ) :=
  bd (F_Ro_wholeState u I J) fun r1 I1 J1 =>
  F_Ro_makePlan_7 u u r1 (0 : Int32) I1 J1
theorem fx_Ro_makePlan_80 {u k : Nat} {pa pb : Nat} {ga : Nat → Nat} {Q : Option Value → pm_H → Prop} {K35 : Int32 → pm_II → pm_JJ → Option (Unit × pm_II × pm_JJ)} (hk : 13 ≤ k) (hK35 : ∀ (x1 : Int32) (x2 : Int32) (I : pm_II) (J : pm_JJ) (r : Unit) (I2 : pm_II) (J2 : pm_JJ), K35 x1 I J = some (r, I2, J2) → Q none (hp I2 J2 (pm_RT pa pb ga)) → Px k 176 m_Ro_makePlan 35 [.ref 19, .int x1, .int x2] [] (hp I J (pm_RT pa pb ga)) Q) : ∀ (n : Nat), ∀ (x1 : Int32) (x2 : Int32) (I : pm_II) (J : pm_JJ) (r : Unit) (I2 : pm_II) (J2 : pm_JJ), F_Ro_makePlan_80 u K35 n x1 x2 I J = some (r, I2, J2) → Q none (hp I2 J2 (pm_RT pa pb ga)) → Px k 176 m_Ro_makePlan 80 [.ref 19, .int x1, .int x2] [] (hp I J (pm_RT pa pb ga)) Q := by
  obtain ⟨k, rfl⟩ : ∃ j, k = j + 1 := ⟨k - 1, by omega⟩
  intro n
  induction n with
  | zero => intro x1 x2 I J r I2 J2  hF; cases hF
  | succ n ih =>
    intro x1 x2 I J r I2 J2  hF hQ
    rw [F_Ro_makePlan_80] at hF
    refine bk_Ro_makePlan_80 ?_
    refine ⟨fun z => ?_, fun z => ?_⟩
    · rw [if_pos z] at hF
      exact hK35 _ _ _ _ _ _ _ hF hQ
    · rw [if_neg z] at hF
      obtain ⟨g, hF⟩ := gd_e hF
      refine ⟨vq_in g, ?_⟩
      obtain ⟨g, hF⟩ := gd_e hF
      refine ⟨vq_in g, ?_⟩
      obtain ⟨g, hF⟩ := gd_e hF
      refine ⟨vq_in g, ?_⟩
      obtain ⟨g, hF⟩ := gd_e hF
      refine ⟨vq_in g, ?_⟩
      obtain ⟨g, hF⟩ := gd_e hF
      refine ⟨vq_in g, ?_⟩
      obtain ⟨g, hF⟩ := gd_e hF
      refine ⟨vq_in g, ?_⟩
      obtain ⟨g, hF⟩ := gd_e hF
      refine ⟨vq_in g, ?_⟩
      exact ih _ _ _ _ _ _ _ hF hQ
theorem fx_Ro_makePlan_154 {u k : Nat} {pa pb : Nat} {ga : Nat → Nat} {Q : Option Value → pm_H → Prop} {x1 : Int32} {x2 : Int32} {I : pm_II} {J : pm_JJ} {r : Unit} {I2 : pm_II} {J2 : pm_JJ} (hk : 13 ≤ k) (hF : F_Ro_makePlan_154 u  I J = some (r, I2, J2)) (hQ : Q none (hp I2 J2 (pm_RT pa pb ga))) : Px k 176 m_Ro_makePlan 154 [.ref 19, .int x1, .int x2] [] (hp I J (pm_RT pa pb ga)) Q := by
  obtain ⟨k, rfl⟩ : ∃ j, k = j + 1 := ⟨k - 1, by omega⟩
  unfold F_Ro_makePlan_154 at hF
  refine bk_Ro_makePlan_154 ?_
  exact ret_q (Q := fun a b c => Q none (hp b c (pm_RT pa pb ga))) hF hQ
theorem fx_Ro_makePlan_35 {u k : Nat} {pa pb : Nat} {ga : Nat → Nat} {Q : Option Value → pm_H → Prop} (hk : 13 ≤ k) : ∀ (n : Nat), ∀ (x1 : Int32) (x2 : Int32) (I : pm_II) (J : pm_JJ) (r : Unit) (I2 : pm_II) (J2 : pm_JJ), F_Ro_makePlan_35 u n x1 I J = some (r, I2, J2) → Q none (hp I2 J2 (pm_RT pa pb ga)) → Px k 176 m_Ro_makePlan 35 [.ref 19, .int x1, .int x2] [] (hp I J (pm_RT pa pb ga)) Q := by
  obtain ⟨k, rfl⟩ : ∃ j, k = j + 1 := ⟨k - 1, by omega⟩
  intro n
  induction n with
  | zero => intro x1 x2 I J r I2 J2  hF; cases hF
  | succ n ih =>
    intro x1 x2 I J r I2 J2  hF hQ
    rw [F_Ro_makePlan_35] at hF
    refine bk_Ro_makePlan_35 ?_
    refine ⟨fun z => ?_, fun z => ?_⟩
    · rw [if_pos z] at hF
      exact fx_Ro_makePlan_154 hk hF hQ
    · rw [if_neg z] at hF
      refine ⟨fun z => ?_, fun z => ?_⟩
      · rw [if_pos z] at hF
        exact fx_Ro_makePlan_154 hk hF hQ
      · rw [if_neg z] at hF
        refine ⟨fun z => ?_, fun z => ?_⟩
        · rw [if_pos z] at hF
          exact fx_Ro_makePlan_154 hk hF hQ
        · rw [if_neg z] at hF
          obtain ⟨g, hF⟩ := gd_e hF
          refine ⟨vq_in g, ?_⟩
          obtain ⟨r74, I74, J74, hC74, hF⟩ := bd_e hF
          refine fx_Ro_reaches (by omega) hC74 ⟨rfl, ?_⟩
          refine bk_Ro_makePlan_77 ?_
          exact fx_Ro_makePlan_80 hk ih u _ _ _ _ _ _ _ hF hQ
theorem fx_Ro_makePlan_7 {u k : Nat} {pa pb : Nat} {ga : Nat → Nat} {Q : Option Value → pm_H → Prop} (hk : 13 ≤ k) : ∀ (n : Nat), ∀ (x1 : Int32) (x2 : Int32) (I : pm_II) (J : pm_JJ) (r : Unit) (I2 : pm_II) (J2 : pm_JJ), F_Ro_makePlan_7 u n x1 x2 I J = some (r, I2, J2) → Q none (hp I2 J2 (pm_RT pa pb ga)) → Px k 176 m_Ro_makePlan 7 [.ref 19, .int x1, .int x2] [] (hp I J (pm_RT pa pb ga)) Q := by
  obtain ⟨k, rfl⟩ : ∃ j, k = j + 1 := ⟨k - 1, by omega⟩
  intro n
  induction n with
  | zero => intro x1 x2 I J r I2 J2  hF; cases hF
  | succ n ih =>
    intro x1 x2 I J r I2 J2  hF hQ
    rw [F_Ro_makePlan_7] at hF
    refine bk_Ro_makePlan_7 ?_
    refine ⟨fun z => ?_, fun z => ?_⟩
    · rw [if_pos z] at hF
      exact fx_Ro_makePlan_35 hk u _ _ _ _ _ _ _ hF hQ
    · rw [if_neg z] at hF
      obtain ⟨g, hF⟩ := gd_e hF
      refine ⟨vq_in g, ?_⟩
      obtain ⟨g, hF⟩ := gd_e hF
      refine ⟨vq_in g, ?_⟩
      exact ih _ _ _ _ _ _ _ hF hQ
theorem fx_Ro_makePlan {u k : Nat} {pa pb : Nat} {ga : Nat → Nat} {Q : Option Value → pm_H → Prop} {I : pm_II} {J : pm_JJ} {r : Unit} {I2 : pm_II} {J2 : pm_JJ} (hk : 13 ≤ k) (hF : F_Ro_makePlan u  I J = some (r, I2, J2)) (hQ : Q none (hp I2 J2 (pm_RT pa pb ga))) : Px k 176 m_Ro_makePlan 0 [.ref 19, .null, .null] [] (hp I J (pm_RT pa pb ga)) Q := by
  obtain ⟨k, rfl⟩ : ∃ j, k = j + 1 := ⟨k - 1, by omega⟩
  unfold F_Ro_makePlan at hF
  refine bk_Ro_makePlan_0 ?_
  obtain ⟨r1, I1, J1, hC1, hF⟩ := bd_e hF
  refine fx_Ro_wholeState (by omega) hC1 ⟨rfl, ?_⟩
  refine bk_Ro_makePlan_4 ?_
  exact fx_Ro_makePlan_7 hk u _ _ _ _ _ _ _ hF hQ
def F_Ro_readLine_48 (u : Nat) (K22 : Int32 → Int32 → Int32 → pm_II → pm_JJ → Option (Unit × pm_II × pm_JJ)) (x2 : Int32) (x4 : Int32) (x5 : Int32) (I : pm_II) (J : pm_JJ) : Option (Unit × pm_II × pm_JJ) :=
  K22 x2 x4 (x5 + Int32.ofInt 1) I J
def F_Ro_readLine_22 (u : Nat) : Nat → Int32 → Int32 → Int32 → pm_II → pm_JJ → Option (Unit × pm_II × pm_JJ)
  | 0, _, _, _, _, _ => none
  | n + 1, x2, x4, x5, I, J =>
    if x2 ≤ x5 then (
      bd (F_Jm_min_II u (9 : Int32) x4 I J) fun r65 I65 J65 =>
      bd (F_Ta_readNextNumber u (1 : Int32) r65 I65 J65) fun r68 I68 J68 =>
      cond (vq x2 4) (
      bd (F_Ta_expect u (10 : Int32) (pm_up I68 23 ((x2 : Int32).toNatClampNeg) r68) J68) fun _ I75 J75 =>
      some ((), I75, J75)) none)
    else (
      cond (vq x5 4) (
      cond (vq x2 4) (
      if ¬ (I 22 ((x5 : Int32).toNatClampNeg)) = (I 22 ((x2 : Int32).toNatClampNeg)) then (
        F_Ro_readLine_48 u (F_Ro_readLine_22 u n) x2 x4 x5 I J)
      else (
        bd (F_Ta_blameToken u I J) fun _ I45 J45 =>
        F_Ro_readLine_48 u (F_Ro_readLine_22 u n) x2 x4 x5 I45 J45)) none) none)
def F_Ro_readLine (u : Nat) (x2 : Int32) (x3 : Int32) (x4 : Int32) (I : pm_II) (J : pm_JJ) : Option (Unit × pm_II × pm_JJ) :=
  bd (F_Ta_readKeyword u 4 I J) fun _ I3 J3 =>
  bd (F_Ta_readNextNumber u (10 : Int32) x3 I3 J3) fun r15 I15 J15 =>
  cond (vq x2 4) (
  F_Ro_readLine_22 u u x2 x4 (0 : Int32) (pm_up I15 22 ((x2 : Int32).toNatClampNeg) r15) J15) none
theorem fx_Ro_readLine_48 {u k : Nat} {pa pb : Nat} {ga : Nat → Nat} {Q : Option Value → pm_H → Prop} {K22 : Int32 → Int32 → Int32 → pm_II → pm_JJ → Option (Unit × pm_II × pm_JJ)} {x2 : Int32} {x3 : Int32} {x4 : Int32} {x5 : Int32} {I : pm_II} {J : pm_JJ} {r : Unit} {I2 : pm_II} {J2 : pm_JJ} (hk : 6 ≤ k) (hK22 : ∀ (x2 : Int32) (x3 : Int32) (x4 : Int32) (x5 : Int32) (I : pm_II) (J : pm_JJ) (r : Unit) (I2 : pm_II) (J2 : pm_JJ), K22 x2 x4 x5 I J = some (r, I2, J2) → Q none (hp I2 J2 (pm_RT pa pb ga)) → Px k 176 m_Ro_readLine 22 [.ref 19, .ref 17, .int x2, .int x3, .int x4, .int x5] [] (hp I J (pm_RT pa pb ga)) Q) (hF : F_Ro_readLine_48 u K22 x2 x4 x5 I J = some (r, I2, J2)) (hQ : Q none (hp I2 J2 (pm_RT pa pb ga))) : Px k 176 m_Ro_readLine 48 [.ref 19, .ref 17, .int x2, .int x3, .int x4, .int x5] [] (hp I J (pm_RT pa pb ga)) Q := by
  obtain ⟨k, rfl⟩ : ∃ j, k = j + 1 := ⟨k - 1, by omega⟩
  unfold F_Ro_readLine_48 at hF
  refine bk_Ro_readLine_48 ?_
  exact hK22 _ _ _ _ _ _ _ _ _ hF hQ
theorem fx_Ro_readLine_22 {u k : Nat} {pa pb : Nat} {ga : Nat → Nat} {Q : Option Value → pm_H → Prop} (hk : 6 ≤ k) : ∀ (n : Nat), ∀ (x2 : Int32) (x3 : Int32) (x4 : Int32) (x5 : Int32) (I : pm_II) (J : pm_JJ) (r : Unit) (I2 : pm_II) (J2 : pm_JJ), F_Ro_readLine_22 u n x2 x4 x5 I J = some (r, I2, J2) → Q none (hp I2 J2 (pm_RT pa pb ga)) → Px k 176 m_Ro_readLine 22 [.ref 19, .ref 17, .int x2, .int x3, .int x4, .int x5] [] (hp I J (pm_RT pa pb ga)) Q := by
  obtain ⟨k, rfl⟩ : ∃ j, k = j + 1 := ⟨k - 1, by omega⟩
  intro n
  induction n with
  | zero => intro x2 x3 x4 x5 I J r I2 J2  hF; cases hF
  | succ n ih =>
    intro x2 x3 x4 x5 I J r I2 J2  hF hQ
    rw [F_Ro_readLine_22] at hF
    refine bk_Ro_readLine_22 ?_
    refine ⟨fun z => ?_, fun z => ?_⟩
    · rw [if_pos z] at hF
      obtain ⟨r65, I65, J65, hC65, hF⟩ := bd_e hF
      refine fx_Jm_min_II (by omega) hC65 ⟨rfl, ?_⟩
      refine bk_Ro_readLine_68 ?_
      obtain ⟨r68, I68, J68, hC68, hF⟩ := bd_e hF
      refine fx_Ta_readNextNumber (by omega) hC68 ⟨rfl, ?_⟩
      refine bk_Ro_readLine_71 ?_
      obtain ⟨g, hF⟩ := gd_e hF
      refine ⟨vq_in g, ?_⟩
      obtain ⟨r75, I75, J75, hC75, hF⟩ := bd_e hF
      refine fx_Ta_expect (by omega) hC75 ⟨rfl, ?_⟩
      refine bk_Ro_readLine_78 ?_
      exact ret_q (Q := fun a b c => Q none (hp b c (pm_RT pa pb ga))) hF hQ
    · rw [if_neg z] at hF
      obtain ⟨g, hF⟩ := gd_e hF
      refine ⟨vq_in g, ?_⟩
      obtain ⟨g, hF⟩ := gd_e hF
      refine ⟨vq_in g, ?_⟩
      refine ⟨fun z => ?_, fun z => ?_⟩
      · rw [if_pos z] at hF
        exact fx_Ro_readLine_48 hk ih hF hQ
      · rw [if_neg z] at hF
        obtain ⟨r45, I45, J45, hC45, hF⟩ := bd_e hF
        refine fx_Ta_blameToken (by omega) hC45 ⟨rfl, ?_⟩
        exact fx_Ro_readLine_48 hk ih hF hQ
theorem fx_Ro_readLine {u k : Nat} {pa pb : Nat} {ga : Nat → Nat} {Q : Option Value → pm_H → Prop} {x2 : Int32} {x3 : Int32} {x4 : Int32} {I : pm_II} {J : pm_JJ} {r : Unit} {I2 : pm_II} {J2 : pm_JJ} (hk : 6 ≤ k) (hF : F_Ro_readLine u x2 x3 x4 I J = some (r, I2, J2)) (hQ : Q none (hp I2 J2 (pm_RT pa pb ga))) : Px k 176 m_Ro_readLine 0 [.ref 19, .ref 17, .int x2, .int x3, .int x4, .null] [] (hp I J (pm_RT pa pb ga)) Q := by
  obtain ⟨k, rfl⟩ : ∃ j, k = j + 1 := ⟨k - 1, by omega⟩
  unfold F_Ro_readLine at hF
  refine bk_Ro_readLine_0 ?_
  obtain ⟨r3, I3, J3, hC3, hF⟩ := bd_e hF
  refine fx_Ta_readKeyword (by omega) ⟨by decide, by decide⟩ hC3 ⟨rfl, ?_⟩
  refine bk_Ro_readLine_6 ?_
  obtain ⟨r15, I15, J15, hC15, hF⟩ := bd_e hF
  refine fx_Ta_readNextNumber (by omega) hC15 ⟨rfl, ?_⟩
  refine bk_Ro_readLine_18 ?_
  obtain ⟨g, hF⟩ := gd_e hF
  refine ⟨vq_in g, ?_⟩
  exact fx_Ro_readLine_22 hk u _ _ _ _ _ _ _ _ _ hF hQ
def F_Ro_takeText_75 (u : Nat) (x2 : Int32) (x3 : Int32) (x4 : Int32) (I : pm_II) (J : pm_JJ) : Option (Int32 × pm_II × pm_JJ) :=
  bd (F_Ta_finish u I J) fun _ I76 J76 =>
  bd (F_Ta_isRight u I76 J76) fun r80 I80 J80 =>
  if ¬ r80 = 0 then (
    bd (F_Ro_adopt u (pm_up (pm_up (pm_up I80 19 9 x2) 19 10 x3) 19 11 x4) J80) fun _ I105 J105 =>
    bd (F_Ro_countFewest u I105 J105) fun _ I109 J109 =>
    bd (F_Ro_makePlan u I109 J109) fun _ I113 J113 =>
    some ((I113 19 12), I113, J113))
  else (
    some (((-1) : Int32), I80, J80))
def F_Ro_takeText_37 (u : Nat) : Nat → Int32 → Int32 → Int32 → Int32 → pm_II → pm_JJ → Option (Int32 × pm_II × pm_JJ)
  | 0, _, _, _, _, _, _ => none
  | n + 1, x2, x3, x4, x5, I, J =>
    bd (F_Ro_readLine u x4 x2 x5 I J) fun _ I44 J44 =>
    cond (vq x4 4) (
    if 4 ≤ (x4 + Int32.ofInt 1) then (
      F_Ro_takeText_75 u x2 x3 (x4 + Int32.ofInt 1) I44 J44)
    else (
      bd (F_Ta_hasMore u I44 J44) fun r69 I69 J69 =>
      if ¬ r69 = 0 then (
        F_Ro_takeText_37 u n x2 x3 (x4 + Int32.ofInt 1) (x5 - (I44 23 ((x4 : Int32).toNatClampNeg))) I69 J69)
      else (
        F_Ro_takeText_75 u x2 x3 (x4 + Int32.ofInt 1) I69 J69))) none
def F_Ro_takeText (u : Nat) (I : pm_II) (J : pm_JJ) : Option (Int32 × pm_II × pm_JJ) :=
  bd (F_Ta_readKeyword u 3 I J) fun _ I3 J3 =>
  bd (F_Ta_readNextNumber u (50 : Int32) (400 : Int32) I3 J3) fun r12 I12 J12 =>
  bd (F_Ta_readNextNumber u (1 : Int32) (6 : Int32) I12 J12) fun r20 I20 J20 =>
  bd (F_Ta_expect u (10 : Int32) I20 J20) fun _ I27 J27 =>
  F_Ro_takeText_37 u u r12 r20 (0 : Int32) (16 : Int32) I27 J27
theorem fx_Ro_takeText_75 {u k : Nat} {pa pb : Nat} {ga : Nat → Nat} {Q : Option Value → pm_H → Prop} {x2 : Int32} {x3 : Int32} {x4 : Int32} {x5 : Int32} {I : pm_II} {J : pm_JJ} {r : Int32} {I2 : pm_II} {J2 : pm_JJ} (hk : 14 ≤ k) (hF : F_Ro_takeText_75 u x2 x3 x4 I J = some (r, I2, J2)) (hQ : Q (some (.int r)) (hp I2 J2 (pm_RT pa pb ga))) : Px k 176 m_Ro_takeText 75 [.ref 19, .ref 17, .int x2, .int x3, .int x4, .int x5] [] (hp I J (pm_RT pa pb ga)) Q := by
  obtain ⟨k, rfl⟩ : ∃ j, k = j + 1 := ⟨k - 1, by omega⟩
  unfold F_Ro_takeText_75 at hF
  refine bk_Ro_takeText_75 ?_
  obtain ⟨r76, I76, J76, hC76, hF⟩ := bd_e hF
  refine fx_Ta_finish (by omega) hC76 ⟨rfl, ?_⟩
  refine bk_Ro_takeText_79 ?_
  obtain ⟨r80, I80, J80, hC80, hF⟩ := bd_e hF
  refine fx_Ta_isRight (by omega) hC80 ⟨rfl, ?_⟩
  refine bk_Ro_takeText_83 ?_
  refine ⟨fun z => ?_, fun z => ?_⟩
  · rw [if_pos z] at hF
    obtain ⟨r105, I105, J105, hC105, hF⟩ := bd_e hF
    refine fx_Ro_adopt (by omega) hC105 ⟨rfl, ?_⟩
    refine bk_Ro_takeText_108 ?_
    obtain ⟨r109, I109, J109, hC109, hF⟩ := bd_e hF
    refine fx_Ro_countFewest (by omega) hC109 ⟨rfl, ?_⟩
    refine bk_Ro_takeText_112 ?_
    obtain ⟨r113, I113, J113, hC113, hF⟩ := bd_e hF
    refine fx_Ro_makePlan (by omega) hC113 ⟨rfl, ?_⟩
    refine bk_Ro_takeText_116 ?_
    exact ret_q (Q := fun a b c => Q (some (.int a)) (hp b c (pm_RT pa pb ga))) hF hQ
  · rw [if_neg z] at hF
    exact ret_q (Q := fun a b c => Q (some (.int a)) (hp b c (pm_RT pa pb ga))) hF hQ
theorem fx_Ro_takeText_37 {u k : Nat} {pa pb : Nat} {ga : Nat → Nat} {Q : Option Value → pm_H → Prop} (hk : 14 ≤ k) : ∀ (n : Nat), ∀ (x2 : Int32) (x3 : Int32) (x4 : Int32) (x5 : Int32) (I : pm_II) (J : pm_JJ) (r : Int32) (I2 : pm_II) (J2 : pm_JJ), F_Ro_takeText_37 u n x2 x3 x4 x5 I J = some (r, I2, J2) → Q (some (.int r)) (hp I2 J2 (pm_RT pa pb ga)) → Px k 176 m_Ro_takeText 37 [.ref 19, .ref 17, .int x2, .int x3, .int x4, .int x5] [] (hp I J (pm_RT pa pb ga)) Q := by
  obtain ⟨k, rfl⟩ : ∃ j, k = j + 1 := ⟨k - 1, by omega⟩
  intro n
  induction n with
  | zero => intro x2 x3 x4 x5 I J r I2 J2  hF; cases hF
  | succ n ih =>
    intro x2 x3 x4 x5 I J r I2 J2  hF hQ
    rw [F_Ro_takeText_37] at hF
    refine bk_Ro_takeText_37 ?_
    obtain ⟨r44, I44, J44, hC44, hF⟩ := bd_e hF
    refine fx_Ro_readLine (by omega) hC44 ⟨rfl, ?_⟩
    refine bk_Ro_takeText_47 ?_
    obtain ⟨g, hF⟩ := gd_e hF
    refine ⟨vq_in g, ?_⟩
    refine ⟨fun z => ?_, fun z => ?_⟩
    · rw [if_pos z] at hF
      exact fx_Ro_takeText_75 hk hF hQ
    · rw [if_neg z] at hF
      obtain ⟨r69, I69, J69, hC69, hF⟩ := bd_e hF
      refine fx_Ta_hasMore (by omega) hC69 ⟨rfl, ?_⟩
      refine bk_Ro_takeText_72 ?_
      refine ⟨fun z => ?_, fun z => ?_⟩
      · rw [if_pos z] at hF
        exact ih _ _ _ _ _ _ _ _ _ hF hQ
      · rw [if_neg z] at hF
        exact fx_Ro_takeText_75 hk hF hQ
theorem fx_Ro_takeText {u k : Nat} {pa pb : Nat} {ga : Nat → Nat} {Q : Option Value → pm_H → Prop} {I : pm_II} {J : pm_JJ} {r : Int32} {I2 : pm_II} {J2 : pm_JJ} (hk : 14 ≤ k) (hF : F_Ro_takeText u  I J = some (r, I2, J2)) (hQ : Q (some (.int r)) (hp I2 J2 (pm_RT pa pb ga))) : Px k 176 m_Ro_takeText 0 [.ref 19, .ref 17, .null, .null, .null, .null] [] (hp I J (pm_RT pa pb ga)) Q := by
  obtain ⟨k, rfl⟩ : ∃ j, k = j + 1 := ⟨k - 1, by omega⟩
  unfold F_Ro_takeText at hF
  refine bk_Ro_takeText_0 ?_
  obtain ⟨r3, I3, J3, hC3, hF⟩ := bd_e hF
  refine fx_Ta_readKeyword (by omega) ⟨by decide, by decide⟩ hC3 ⟨rfl, ?_⟩
  refine bk_Ro_takeText_6 ?_
  obtain ⟨r12, I12, J12, hC12, hF⟩ := bd_e hF
  refine fx_Ta_readNextNumber (by omega) hC12 ⟨rfl, ?_⟩
  refine bk_Ro_takeText_15 ?_
  obtain ⟨r20, I20, J20, hC20, hF⟩ := bd_e hF
  refine fx_Ta_readNextNumber (by omega) hC20 ⟨rfl, ?_⟩
  refine bk_Ro_takeText_23 ?_
  obtain ⟨r27, I27, J27, hC27, hF⟩ := bd_e hF
  refine fx_Ta_expect (by omega) hC27 ⟨rfl, ?_⟩
  refine bk_Ro_takeText_30 ?_
  exact fx_Ro_takeText_37 hk u _ _ _ _ _ _ _ _ _ hF hQ
def F_Ro_lostOf_7 (u : Nat) : Nat → Int32 → Int32 → Int32 → pm_II → pm_JJ → Option (Int32 × pm_II × pm_JJ)
  | 0, _, _, _, _, _ => none
  | n + 1, x1, x2, x3, I, J =>
    if 4 ≤ x3 then (
      some (x2, I, J))
    else (
      cond (vq ((x1 * (4 : Int32)) + x3) 64) (
      cond (vq x3 4) (
      F_Ro_lostOf_7 u n x1 (x2 - ((I 28 ((((x1 * (4 : Int32)) + x3) : Int32).toNatClampNeg)) * (I 20 ((x3 : Int32).toNatClampNeg)))) (x3 + Int32.ofInt 1) I J) none) none)
def F_Ro_lostOf (u : Nat) (x1 : Int32) (I : pm_II) (J : pm_JJ) : Option (Int32 × pm_II × pm_JJ) :=
  F_Ro_lostOf_7 u u x1 (I 19 9) (0 : Int32) I J
theorem fx_Ro_lostOf_7 {u k : Nat} {pa pb : Nat} {ga : Nat → Nat} {Q : Option Value → pm_H → Prop} (hk : 0 ≤ k) : ∀ (n : Nat), ∀ (x1 : Int32) (x2 : Int32) (x3 : Int32) (I : pm_II) (J : pm_JJ) (r : Int32) (I2 : pm_II) (J2 : pm_JJ), F_Ro_lostOf_7 u n x1 x2 x3 I J = some (r, I2, J2) → Q (some (.int r)) (hp I2 J2 (pm_RT pa pb ga)) → Px k 176 m_Ro_lostOf 7 [.ref 19, .int x1, .int x2, .int x3] [] (hp I J (pm_RT pa pb ga)) Q := by
  intro n
  induction n with
  | zero => intro x1 x2 x3 I J r I2 J2  hF; cases hF
  | succ n ih =>
    intro x1 x2 x3 I J r I2 J2  hF hQ
    rw [F_Ro_lostOf_7] at hF
    refine bk_Ro_lostOf_7 ?_
    refine ⟨fun z => ?_, fun z => ?_⟩
    · rw [if_pos z] at hF
      exact ret_q (Q := fun a b c => Q (some (.int a)) (hp b c (pm_RT pa pb ga))) hF hQ
    · rw [if_neg z] at hF
      obtain ⟨g, hF⟩ := gd_e hF
      refine ⟨vq_in g, ?_⟩
      obtain ⟨g, hF⟩ := gd_e hF
      refine ⟨vq_in g, ?_⟩
      exact ih _ _ _ _ _ _ _ _ hF hQ
theorem fx_Ro_lostOf {u k : Nat} {pa pb : Nat} {ga : Nat → Nat} {Q : Option Value → pm_H → Prop} {x1 : Int32} {I : pm_II} {J : pm_JJ} {r : Int32} {I2 : pm_II} {J2 : pm_JJ} (hk : 0 ≤ k) (hF : F_Ro_lostOf u x1 I J = some (r, I2, J2)) (hQ : Q (some (.int r)) (hp I2 J2 (pm_RT pa pb ga))) : Px k 176 m_Ro_lostOf 0 [.ref 19, .int x1, .null, .null] [] (hp I J (pm_RT pa pb ga)) Q := by
  unfold F_Ro_lostOf at hF
  refine bk_Ro_lostOf_0 ?_
  exact fx_Ro_lostOf_7 hk u _ _ _ _ _ _ _ _ hF hQ
def F_Ro_tell (u : Nat) (x1 : Int32) (x2 : Int32) (I : pm_II) (J : pm_JJ) : Option (Int32 × pm_II × pm_JJ) :=
  if x1 < 0 then (
    some (((-1) : Int32), I, J))
  else (
    if (I 19 12) ≤ x1 then (
      some (((-1) : Int32), I, J))
    else (
      if x2 < (-1) then (
        some (((-1) : Int32), I, J))
      else (
        if x2 < (I 19 11) then (
          if ¬ x2 = (-1) then (
            cond (vq ((x1 * (4 : Int32)) + x2) 64) (
            some ((I 28 ((((x1 * (4 : Int32)) + x2) : Int32).toNatClampNeg)), I, J)) none)
          else (
            bd (F_Ro_lostOf u x1 I J) fun r34 I34 J34 =>
            some (r34, I34, J34)))
        else (
          some (((-1) : Int32), I, J)))))
theorem fx_Ro_tell {u k : Nat} {pa pb : Nat} {ga : Nat → Nat} {Q : Option Value → pm_H → Prop} {x1 : Int32} {x2 : Int32} {I : pm_II} {J : pm_JJ} {r : Int32} {I2 : pm_II} {J2 : pm_JJ} (hk : 1 ≤ k) (hF : F_Ro_tell u x1 x2 I J = some (r, I2, J2)) (hQ : Q (some (.int r)) (hp I2 J2 (pm_RT pa pb ga))) : Px k 176 m_Ro_tell 0 [.ref 19, .int x1, .int x2] [] (hp I J (pm_RT pa pb ga)) Q := by
  obtain ⟨k, rfl⟩ : ∃ j, k = j + 1 := ⟨k - 1, by omega⟩
  unfold F_Ro_tell at hF
  refine bk_Ro_tell_0 ?_
  refine ⟨fun z => ?_, fun z => ?_⟩
  · rw [if_pos z] at hF
    exact ret_q (Q := fun a b c => Q (some (.int a)) (hp b c (pm_RT pa pb ga))) hF hQ
  · rw [if_neg z] at hF
    refine ⟨fun z => ?_, fun z => ?_⟩
    · rw [if_pos z] at hF
      exact ret_q (Q := fun a b c => Q (some (.int a)) (hp b c (pm_RT pa pb ga))) hF hQ
    · rw [if_neg z] at hF
      refine ⟨fun z => ?_, fun z => ?_⟩
      · rw [if_pos z] at hF
        exact ret_q (Q := fun a b c => Q (some (.int a)) (hp b c (pm_RT pa pb ga))) hF hQ
      · rw [if_neg z] at hF
        refine ⟨fun z => ?_, fun z => ?_⟩
        · rw [if_pos z] at hF
          refine ⟨fun z => ?_, fun z => ?_⟩
          · rw [if_pos z] at hF
            obtain ⟨g, hF⟩ := gd_e hF
            refine ⟨vq_in g, ?_⟩
            exact ret_q (Q := fun a b c => Q (some (.int a)) (hp b c (pm_RT pa pb ga))) hF hQ
          · rw [if_neg z] at hF
            obtain ⟨r34, I34, J34, hC34, hF⟩ := bd_e hF
            refine fx_Ro_lostOf (by omega) hC34 ⟨rfl, ?_⟩
            refine bk_Ro_tell_37 ?_
            exact ret_q (Q := fun a b c => Q (some (.int a)) (hp b c (pm_RT pa pb ga))) hF hQ
        · rw [if_neg z] at hF
          exact ret_q (Q := fun a b c => Q (some (.int a)) (hp b c (pm_RT pa pb ga))) hF hQ
def F_Fo_halvings (u : Nat) (x0 : Int32) (I : pm_II) (J : pm_JJ) : Option (Int32 × pm_II × pm_JJ) :=
  if x0 < 8 then (
    if x0 < 4 then (
      if x0 < 2 then (
        some ((0 : Int32), I, J))
      else (
        some ((1 : Int32), I, J)))
    else (
      some ((2 : Int32), I, J)))
  else (
    some ((3 : Int32), I, J))
theorem fx_Fo_halvings {u k : Nat} {pa pb : Nat} {ga : Nat → Nat} {Q : Option Value → pm_H → Prop} {x0 : Int32} {I : pm_II} {J : pm_JJ} {r : Int32} {I2 : pm_II} {J2 : pm_JJ} (hk : 0 ≤ k) (hF : F_Fo_halvings u x0 I J = some (r, I2, J2)) (hQ : Q (some (.int r)) (hp I2 J2 (pm_RT pa pb ga))) : Px k 176 m_Fo_halvings 0 [.int x0] [] (hp I J (pm_RT pa pb ga)) Q := by
  unfold F_Fo_halvings at hF
  refine bk_Fo_halvings_0 ?_
  refine ⟨fun z => ?_, fun z => ?_⟩
  · rw [if_pos z] at hF
    refine ⟨fun z => ?_, fun z => ?_⟩
    · rw [if_pos z] at hF
      refine ⟨fun z => ?_, fun z => ?_⟩
      · rw [if_pos z] at hF
        exact ret_q (Q := fun a b c => Q (some (.int a)) (hp b c (pm_RT pa pb ga))) hF hQ
      · rw [if_neg z] at hF
        exact ret_q (Q := fun a b c => Q (some (.int a)) (hp b c (pm_RT pa pb ga))) hF hQ
    · rw [if_neg z] at hF
      exact ret_q (Q := fun a b c => Q (some (.int a)) (hp b c (pm_RT pa pb ga))) hF hQ
  · rw [if_neg z] at hF
    exact ret_q (Q := fun a b c => Q (some (.int a)) (hp b c (pm_RT pa pb ga))) hF hQ
def F_Fo_isDown (u : Nat) (x0 : Int32) (I : pm_II) (J : pm_JJ) : Option (Int32 × pm_II × pm_JJ) :=
  if x0 = 116 then (
    some ((1 : Int32), I, J))
  else (
    if ¬ x0 = 98 then (
      some ((0 : Int32), I, J))
    else (
      some ((1 : Int32), I, J)))
theorem fx_Fo_isDown {u k : Nat} {pa pb : Nat} {ga : Nat → Nat} {Q : Option Value → pm_H → Prop} {x0 : Int32} {I : pm_II} {J : pm_JJ} {r : Int32} {I2 : pm_II} {J2 : pm_JJ} (hk : 0 ≤ k) (hF : F_Fo_isDown u x0 I J = some (r, I2, J2)) (hQ : Q (some (.int r)) (hp I2 J2 (pm_RT pa pb ga))) : Px k 176 m_Fo_isDown 0 [.int x0] [] (hp I J (pm_RT pa pb ga)) Q := by
  unfold F_Fo_isDown at hF
  refine bk_Fo_isDown_0 ?_
  refine ⟨fun z => ?_, fun z => ?_⟩
  · rw [if_pos z] at hF
    exact ret_q (Q := fun a b c => Q (some (.int a)) (hp b c (pm_RT pa pb ga))) hF hQ
  · rw [if_neg z] at hF
    refine ⟨fun z => ?_, fun z => ?_⟩
    · rw [if_pos z] at hF
      exact ret_q (Q := fun a b c => Q (some (.int a)) (hp b c (pm_RT pa pb ga))) hF hQ
    · rw [if_neg z] at hF
      exact ret_q (Q := fun a b c => Q (some (.int a)) (hp b c (pm_RT pa pb ga))) hF hQ
def F_Fo_readFolds_83 (u : Nat) (K9 : Int32 → Int32 → Int32 → Int32 → Int32 → pm_II → pm_JJ → Option (Int32 × pm_II × pm_JJ)) (x2 : Int32) (x3 : Int32) (x4 : Int32) (x5 : Int32) (x6 : Int32) (x7 : Int32) (I : pm_II) (J : pm_JJ) : Option (Int32 × pm_II × pm_JJ) :=
  bd (F_Ta_takes u x7 I J) fun r86 I86 J86 =>
  cond (vq x6 6) (
  K9 x2 x3 x4 x5 (x6 + Int32.ofInt 1) (pm_up I86 30 ((x6 : Int32).toNatClampNeg) x7) J86) none
def F_Fo_readFolds_75 (u : Nat) (K9 : Int32 → Int32 → Int32 → Int32 → Int32 → pm_II → pm_JJ → Option (Int32 × pm_II × pm_JJ)) (x2 : Int32) (x3 : Int32) (x4 : Int32) (x5 : Int32) (x6 : Int32) (x7 : Int32) (I : pm_II) (J : pm_JJ) : Option (Int32 × pm_II × pm_JJ) :=
  bd (F_Ta_place u I J) fun r77 I77 J77 =>
  bd (F_Ta_blame u r77 I77 J77) fun _ I80 J80 =>
  F_Fo_readFolds_83 u K9 x2 x3 x4 x5 x6 x7 I80 J80
def F_Fo_readFolds_56 (u : Nat) (K9 : Int32 → Int32 → Int32 → Int32 → Int32 → pm_II → pm_JJ → Option (Int32 × pm_II × pm_JJ)) (x2 : Int32) (x3 : Int32) (x4 : Int32) (x5 : Int32) (x6 : Int32) (x7 : Int32) (I : pm_II) (J : pm_JJ) : Option (Int32 × pm_II × pm_JJ) :=
  bd (F_Fo_isDown u x7 I J) fun r58 I58 J58 =>
  if r58 = 0 then (
    F_Fo_readFolds_75 u K9 x2 x3 x4 x5 x6 x7 I58 J58)
  else (
    if x4 ≤ 0 then (
      F_Fo_readFolds_75 u K9 x2 x3 x4 x5 x6 x7 I58 J58)
    else (
      F_Fo_readFolds_83 u K9 x2 x3 (x4 + Int32.ofInt (-1)) x5 x6 x7 I58 J58))
def F_Fo_readFolds_105 (u : Nat) (x6 : Int32) (I : pm_II) (J : pm_JJ) : Option (Int32 × pm_II × pm_JJ) :=
  some (x6, I, J)
def F_Fo_readFolds_9 (u : Nat) : Nat → Int32 → Int32 → Int32 → Int32 → Int32 → pm_II → pm_JJ → Option (Int32 × pm_II × pm_JJ)
  | 0, _, _, _, _, _, _, _ => none
  | n + 1, x2, x3, x4, x5, x6, I, J =>
    if 6 ≤ x6 then (
      F_Fo_readFolds_105 u x6 I J)
    else (
      if (x2 + x3) ≤ x6 then (
        F_Fo_readFolds_105 u x6 I J)
      else (
        bd (F_Ta_isRight u I J) fun r25 I25 J25 =>
        if r25 = 0 then (
          F_Fo_readFolds_105 u x6 I25 J25)
        else (
          bd (F_Ta_next u I25 J25) fun r32 I32 J32 =>
          bd (F_Fo_isAcross u r32 I32 J32) fun r39 I39 J39 =>
          if r39 = 0 then (
            F_Fo_readFolds_56 u (F_Fo_readFolds_9 u n) x2 x3 x4 x5 x6 r32 I39 J39)
          else (
            if x5 ≤ 0 then (
              F_Fo_readFolds_56 u (F_Fo_readFolds_9 u n) x2 x3 x4 x5 x6 r32 I39 J39)
            else (
              F_Fo_readFolds_83 u (F_Fo_readFolds_9 u n) x2 x3 x4 (x5 + Int32.ofInt (-1)) x6 r32 I39 J39)))))
def F_Fo_readFolds (u : Nat) (x2 : Int32) (x3 : Int32) (I : pm_II) (J : pm_JJ) : Option (Int32 × pm_II × pm_JJ) :=
  F_Fo_readFolds_9 u u x2 x3 x2 x3 (0 : Int32) I J
theorem fx_Fo_readFolds_83 {u k : Nat} {pa pb : Nat} {ga : Nat → Nat} {Q : Option Value → pm_H → Prop} {K9 : Int32 → Int32 → Int32 → Int32 → Int32 → pm_II → pm_JJ → Option (Int32 × pm_II × pm_JJ)} {x2 : Int32} {x3 : Int32} {x4 : Int32} {x5 : Int32} {x6 : Int32} {x7 : Int32} {I : pm_II} {J : pm_JJ} {r : Int32} {I2 : pm_II} {J2 : pm_JJ} (hk : 2 ≤ k) (hK9 : ∀ (x2 : Int32) (x3 : Int32) (x4 : Int32) (x5 : Int32) (x6 : Int32) (I : pm_II) (J : pm_JJ) (r : Int32) (I2 : pm_II) (J2 : pm_JJ), K9 x2 x3 x4 x5 x6 I J = some (r, I2, J2) → Q (some (.int r)) (hp I2 J2 (pm_RT pa pb ga)) → Px k 176 m_Fo_readFolds 9 [.ref 29, .ref 17, .int x2, .int x3, .int x4, .int x5, .int x6, .null] [] (hp I J (pm_RT pa pb ga)) Q) (hF : F_Fo_readFolds_83 u K9 x2 x3 x4 x5 x6 x7 I J = some (r, I2, J2)) (hQ : Q (some (.int r)) (hp I2 J2 (pm_RT pa pb ga))) : Px k 176 m_Fo_readFolds 83 [.ref 29, .ref 17, .int x2, .int x3, .int x4, .int x5, .int x6, .int x7] [] (hp I J (pm_RT pa pb ga)) Q := by
  obtain ⟨k, rfl⟩ : ∃ j, k = j + 1 := ⟨k - 1, by omega⟩
  unfold F_Fo_readFolds_83 at hF
  refine bk_Fo_readFolds_83 ?_
  obtain ⟨r86, I86, J86, hC86, hF⟩ := bd_e hF
  refine fx_Ta_takes (by omega) hC86 ⟨rfl, ?_⟩
  refine bk_Fo_readFolds_89 ?_
  obtain ⟨g, hF⟩ := gd_e hF
  refine ⟨vq_in g, ?_⟩
  exact Px_wk (hK9 _ _ _ _ _ _ _ _ _ _ hF hQ) ⟨Or.inl rfl, Or.inl rfl, Or.inl rfl, Or.inl rfl, Or.inl rfl, Or.inl rfl, Or.inl rfl, Or.inr ⟨rfl, rfl⟩, trivial⟩
theorem fx_Fo_readFolds_75 {u k : Nat} {pa pb : Nat} {ga : Nat → Nat} {Q : Option Value → pm_H → Prop} {K9 : Int32 → Int32 → Int32 → Int32 → Int32 → pm_II → pm_JJ → Option (Int32 × pm_II × pm_JJ)} {x2 : Int32} {x3 : Int32} {x4 : Int32} {x5 : Int32} {x6 : Int32} {x7 : Int32} {I : pm_II} {J : pm_JJ} {r : Int32} {I2 : pm_II} {J2 : pm_JJ} (hk : 2 ≤ k) (hK9 : ∀ (x2 : Int32) (x3 : Int32) (x4 : Int32) (x5 : Int32) (x6 : Int32) (I : pm_II) (J : pm_JJ) (r : Int32) (I2 : pm_II) (J2 : pm_JJ), K9 x2 x3 x4 x5 x6 I J = some (r, I2, J2) → Q (some (.int r)) (hp I2 J2 (pm_RT pa pb ga)) → Px k 176 m_Fo_readFolds 9 [.ref 29, .ref 17, .int x2, .int x3, .int x4, .int x5, .int x6, .null] [] (hp I J (pm_RT pa pb ga)) Q) (hF : F_Fo_readFolds_75 u K9 x2 x3 x4 x5 x6 x7 I J = some (r, I2, J2)) (hQ : Q (some (.int r)) (hp I2 J2 (pm_RT pa pb ga))) : Px k 176 m_Fo_readFolds 75 [.ref 29, .ref 17, .int x2, .int x3, .int x4, .int x5, .int x6, .int x7] [] (hp I J (pm_RT pa pb ga)) Q := by
  obtain ⟨k, rfl⟩ : ∃ j, k = j + 1 := ⟨k - 1, by omega⟩
  unfold F_Fo_readFolds_75 at hF
  refine bk_Fo_readFolds_75 ?_
  obtain ⟨r77, I77, J77, hC77, hF⟩ := bd_e hF
  refine fx_Ta_place (by omega) hC77 ⟨rfl, ?_⟩
  refine bk_Fo_readFolds_80 ?_
  obtain ⟨r80, I80, J80, hC80, hF⟩ := bd_e hF
  refine fx_Ta_blame (by omega) hC80 ⟨rfl, ?_⟩
  exact fx_Fo_readFolds_83 hk hK9 hF hQ
theorem fx_Fo_readFolds_56 {u k : Nat} {pa pb : Nat} {ga : Nat → Nat} {Q : Option Value → pm_H → Prop} {K9 : Int32 → Int32 → Int32 → Int32 → Int32 → pm_II → pm_JJ → Option (Int32 × pm_II × pm_JJ)} {x2 : Int32} {x3 : Int32} {x4 : Int32} {x5 : Int32} {x6 : Int32} {x7 : Int32} {I : pm_II} {J : pm_JJ} {r : Int32} {I2 : pm_II} {J2 : pm_JJ} (hk : 2 ≤ k) (hK9 : ∀ (x2 : Int32) (x3 : Int32) (x4 : Int32) (x5 : Int32) (x6 : Int32) (I : pm_II) (J : pm_JJ) (r : Int32) (I2 : pm_II) (J2 : pm_JJ), K9 x2 x3 x4 x5 x6 I J = some (r, I2, J2) → Q (some (.int r)) (hp I2 J2 (pm_RT pa pb ga)) → Px k 176 m_Fo_readFolds 9 [.ref 29, .ref 17, .int x2, .int x3, .int x4, .int x5, .int x6, .null] [] (hp I J (pm_RT pa pb ga)) Q) (hF : F_Fo_readFolds_56 u K9 x2 x3 x4 x5 x6 x7 I J = some (r, I2, J2)) (hQ : Q (some (.int r)) (hp I2 J2 (pm_RT pa pb ga))) : Px k 176 m_Fo_readFolds 56 [.ref 29, .ref 17, .int x2, .int x3, .int x4, .int x5, .int x6, .int x7] [] (hp I J (pm_RT pa pb ga)) Q := by
  obtain ⟨k, rfl⟩ : ∃ j, k = j + 1 := ⟨k - 1, by omega⟩
  unfold F_Fo_readFolds_56 at hF
  refine bk_Fo_readFolds_56 ?_
  obtain ⟨r58, I58, J58, hC58, hF⟩ := bd_e hF
  refine fx_Fo_isDown (by omega) hC58 ⟨rfl, ?_⟩
  refine bk_Fo_readFolds_61 ?_
  refine ⟨fun z => ?_, fun z => ?_⟩
  · rw [if_pos z] at hF
    exact fx_Fo_readFolds_75 hk hK9 hF hQ
  · rw [if_neg z] at hF
    refine ⟨fun z => ?_, fun z => ?_⟩
    · rw [if_pos z] at hF
      exact fx_Fo_readFolds_75 hk hK9 hF hQ
    · rw [if_neg z] at hF
      exact fx_Fo_readFolds_83 hk hK9 hF hQ
theorem fx_Fo_readFolds_105 {u k : Nat} {pa pb : Nat} {ga : Nat → Nat} {Q : Option Value → pm_H → Prop} {x2 : Int32} {x3 : Int32} {x4 : Int32} {x5 : Int32} {x6 : Int32} {I : pm_II} {J : pm_JJ} {r : Int32} {I2 : pm_II} {J2 : pm_JJ} (hk : 2 ≤ k) (hF : F_Fo_readFolds_105 u x6 I J = some (r, I2, J2)) (hQ : Q (some (.int r)) (hp I2 J2 (pm_RT pa pb ga))) : Px k 176 m_Fo_readFolds 105 [.ref 29, .ref 17, .int x2, .int x3, .int x4, .int x5, .int x6, .null] [] (hp I J (pm_RT pa pb ga)) Q := by
  obtain ⟨k, rfl⟩ : ∃ j, k = j + 1 := ⟨k - 1, by omega⟩
  unfold F_Fo_readFolds_105 at hF
  refine bk_Fo_readFolds_105 ?_
  exact ret_q (Q := fun a b c => Q (some (.int a)) (hp b c (pm_RT pa pb ga))) hF hQ
theorem fx_Fo_readFolds_9 {u k : Nat} {pa pb : Nat} {ga : Nat → Nat} {Q : Option Value → pm_H → Prop} (hk : 2 ≤ k) : ∀ (n : Nat), ∀ (x2 : Int32) (x3 : Int32) (x4 : Int32) (x5 : Int32) (x6 : Int32) (I : pm_II) (J : pm_JJ) (r : Int32) (I2 : pm_II) (J2 : pm_JJ), F_Fo_readFolds_9 u n x2 x3 x4 x5 x6 I J = some (r, I2, J2) → Q (some (.int r)) (hp I2 J2 (pm_RT pa pb ga)) → Px k 176 m_Fo_readFolds 9 [.ref 29, .ref 17, .int x2, .int x3, .int x4, .int x5, .int x6, .null] [] (hp I J (pm_RT pa pb ga)) Q := by
  obtain ⟨k, rfl⟩ : ∃ j, k = j + 1 := ⟨k - 1, by omega⟩
  intro n
  induction n with
  | zero => intro x2 x3 x4 x5 x6 I J r I2 J2  hF; cases hF
  | succ n ih =>
    intro x2 x3 x4 x5 x6 I J r I2 J2  hF hQ
    rw [F_Fo_readFolds_9] at hF
    refine bk_Fo_readFolds_9 ?_
    refine ⟨fun z => ?_, fun z => ?_⟩
    · rw [if_pos z] at hF
      exact fx_Fo_readFolds_105 hk hF hQ
    · rw [if_neg z] at hF
      refine ⟨fun z => ?_, fun z => ?_⟩
      · rw [if_pos z] at hF
        exact fx_Fo_readFolds_105 hk hF hQ
      · rw [if_neg z] at hF
        obtain ⟨r25, I25, J25, hC25, hF⟩ := bd_e hF
        refine fx_Ta_isRight (by omega) hC25 ⟨rfl, ?_⟩
        refine bk_Fo_readFolds_28 ?_
        refine ⟨fun z => ?_, fun z => ?_⟩
        · rw [if_pos z] at hF
          exact fx_Fo_readFolds_105 hk hF hQ
        · rw [if_neg z] at hF
          obtain ⟨r32, I32, J32, hC32, hF⟩ := bd_e hF
          refine fx_Ta_next (by omega) hC32 ⟨rfl, ?_⟩
          refine bk_Fo_readFolds_35 ?_
          obtain ⟨r39, I39, J39, hC39, hF⟩ := bd_e hF
          refine fx_Fo_isAcross (by omega) hC39 ⟨rfl, ?_⟩
          refine bk_Fo_readFolds_42 ?_
          refine ⟨fun z => ?_, fun z => ?_⟩
          · rw [if_pos z] at hF
            exact fx_Fo_readFolds_56 hk ih hF hQ
          · rw [if_neg z] at hF
            refine ⟨fun z => ?_, fun z => ?_⟩
            · rw [if_pos z] at hF
              exact fx_Fo_readFolds_56 hk ih hF hQ
            · rw [if_neg z] at hF
              exact fx_Fo_readFolds_83 hk ih hF hQ
theorem fx_Fo_readFolds {u k : Nat} {pa pb : Nat} {ga : Nat → Nat} {Q : Option Value → pm_H → Prop} {x2 : Int32} {x3 : Int32} {I : pm_II} {J : pm_JJ} {r : Int32} {I2 : pm_II} {J2 : pm_JJ} (hk : 2 ≤ k) (hF : F_Fo_readFolds u x2 x3 I J = some (r, I2, J2)) (hQ : Q (some (.int r)) (hp I2 J2 (pm_RT pa pb ga))) : Px k 176 m_Fo_readFolds 0 [.ref 29, .ref 17, .int x2, .int x3, .null, .null, .null, .null] [] (hp I J (pm_RT pa pb ga)) Q := by
  obtain ⟨k, rfl⟩ : ∃ j, k = j + 1 := ⟨k - 1, by omega⟩
  unfold F_Fo_readFolds at hF
  refine bk_Fo_readFolds_0 ?_
  exact fx_Fo_readFolds_9 hk u _ _ _ _ _ _ _ _ _ _ hF hQ
def F_Fo_readSide_33 (u : Nat) (x2 : Int32) (I : pm_II) (J : pm_JJ) : Option (Int32 × pm_II × pm_JJ) :=
  some (x2, I, J)
def F_Fo_readSide (u : Nat) (I : pm_II) (J : pm_JJ) : Option (Int32 × pm_II × pm_JJ) :=
  bd (F_Ta_readNextNumber u (1 : Int32) (8 : Int32) I J) fun r4 I4 J4 =>
  if r4 = 1 then (
    F_Fo_readSide_33 u r4 I4 J4)
  else (
    if r4 = 2 then (
      F_Fo_readSide_33 u r4 I4 J4)
    else (
      if r4 = 4 then (
        F_Fo_readSide_33 u r4 I4 J4)
      else (
        if r4 = 8 then (
          F_Fo_readSide_33 u r4 I4 J4)
        else (
          bd (F_Ta_blameToken u I4 J4) fun _ I30 J30 =>
          F_Fo_readSide_33 u r4 I30 J30))))
theorem fx_Fo_readSide_33 {u k : Nat} {pa pb : Nat} {ga : Nat → Nat} {Q : Option Value → pm_H → Prop} {x2 : Int32} {I : pm_II} {J : pm_JJ} {r : Int32} {I2 : pm_II} {J2 : pm_JJ} (hk : 4 ≤ k) (hF : F_Fo_readSide_33 u x2 I J = some (r, I2, J2)) (hQ : Q (some (.int r)) (hp I2 J2 (pm_RT pa pb ga))) : Px k 176 m_Fo_readSide 33 [.ref 29, .ref 17, .int x2] [] (hp I J (pm_RT pa pb ga)) Q := by
  obtain ⟨k, rfl⟩ : ∃ j, k = j + 1 := ⟨k - 1, by omega⟩
  unfold F_Fo_readSide_33 at hF
  refine bk_Fo_readSide_33 ?_
  exact ret_q (Q := fun a b c => Q (some (.int a)) (hp b c (pm_RT pa pb ga))) hF hQ
theorem fx_Fo_readSide {u k : Nat} {pa pb : Nat} {ga : Nat → Nat} {Q : Option Value → pm_H → Prop} {I : pm_II} {J : pm_JJ} {r : Int32} {I2 : pm_II} {J2 : pm_JJ} (hk : 4 ≤ k) (hF : F_Fo_readSide u  I J = some (r, I2, J2)) (hQ : Q (some (.int r)) (hp I2 J2 (pm_RT pa pb ga))) : Px k 176 m_Fo_readSide 0 [.ref 29, .ref 17, .null] [] (hp I J (pm_RT pa pb ga)) Q := by
  obtain ⟨k, rfl⟩ : ∃ j, k = j + 1 := ⟨k - 1, by omega⟩
  unfold F_Fo_readSide at hF
  refine bk_Fo_readSide_0 ?_
  obtain ⟨r4, I4, J4, hC4, hF⟩ := bd_e hF
  refine fx_Ta_readNextNumber (by omega) hC4 ⟨rfl, ?_⟩
  refine bk_Fo_readSide_7 ?_
  refine ⟨fun z => ?_, fun z => ?_⟩
  · rw [if_pos z] at hF
    exact fx_Fo_readSide_33 hk hF hQ
  · rw [if_neg z] at hF
    refine ⟨fun z => ?_, fun z => ?_⟩
    · rw [if_pos z] at hF
      exact fx_Fo_readSide_33 hk hF hQ
    · rw [if_neg z] at hF
      refine ⟨fun z => ?_, fun z => ?_⟩
      · rw [if_pos z] at hF
        exact fx_Fo_readSide_33 hk hF hQ
      · rw [if_neg z] at hF
        refine ⟨fun z => ?_, fun z => ?_⟩
        · rw [if_pos z] at hF
          exact fx_Fo_readSide_33 hk hF hQ
        · rw [if_neg z] at hF
          obtain ⟨r30, I30, J30, hC30, hF⟩ := bd_e hF
          refine fx_Ta_blameToken (by omega) hC30 ⟨rfl, ?_⟩
          exact fx_Fo_readSide_33 hk hF hQ
def F_Fo_takeText (u : Nat) (I : pm_II) (J : pm_JJ) : Option (Int32 × pm_II × pm_JJ) :=
  bd (F_Ta_readKeyword u 5 I J) fun _ I3 J3 =>
  bd (F_Fo_readSide u I3 J3) fun r8 I8 J8 =>
  bd (F_Fo_readSide u I8 J8) fun r14 I14 J14 =>
  bd (F_Ta_expect u (10 : Int32) I14 J14) fun _ I21 J21 =>
  bd (F_Ta_readKeyword u 6 I21 J21) fun _ I27 J27 =>
  bd (F_Ta_expect u (32 : Int32) I27 J27) fun _ I33 J33 =>
  bd (F_Fo_halvings u r8 I33 J33) fun r39 I39 J39 =>
  bd (F_Fo_halvings u r14 I39 J39) fun r43 I43 J43 =>
  bd (F_Fo_readFolds u r39 r43 I43 J43) fun r46 I46 J46 =>
  bd (F_Ta_expect u (10 : Int32) I46 J46) fun _ I54 J54 =>
  bd (F_Ta_finish u I54 J54) fun _ I58 J58 =>
  bd (F_Ta_isRight u I58 J58) fun r62 I62 J62 =>
  if ¬ r62 = 0 then (
    bd (F_Fo_foldSheet u r8 r14 r46 I62 J62) fun _ I75 J75 =>
    bd (F_Fo_leaves u I75 J75) fun r79 I79 J79 =>
    some (r79, I79, J79))
  else (
    some (((-1) : Int32), I62, J62))
theorem fx_Fo_takeText {u k : Nat} {pa pb : Nat} {ga : Nat → Nat} {Q : Option Value → pm_H → Prop} {I : pm_II} {J : pm_JJ} {r : Int32} {I2 : pm_II} {J2 : pm_JJ} (hk : 6 ≤ k) (hF : F_Fo_takeText u  I J = some (r, I2, J2)) (hQ : Q (some (.int r)) (hp I2 J2 (pm_RT pa pb ga))) : Px k 176 m_Fo_takeText 0 [.ref 29, .ref 17, .null, .null, .null] [] (hp I J (pm_RT pa pb ga)) Q := by
  obtain ⟨k, rfl⟩ : ∃ j, k = j + 1 := ⟨k - 1, by omega⟩
  unfold F_Fo_takeText at hF
  refine bk_Fo_takeText_0 ?_
  obtain ⟨r3, I3, J3, hC3, hF⟩ := bd_e hF
  refine fx_Ta_readKeyword (by omega) ⟨by decide, by decide⟩ hC3 ⟨rfl, ?_⟩
  refine bk_Fo_takeText_6 ?_
  obtain ⟨r8, I8, J8, hC8, hF⟩ := bd_e hF
  refine fx_Fo_readSide (by omega) hC8 ⟨rfl, ?_⟩
  refine bk_Fo_takeText_11 ?_
  obtain ⟨r14, I14, J14, hC14, hF⟩ := bd_e hF
  refine fx_Fo_readSide (by omega) hC14 ⟨rfl, ?_⟩
  refine bk_Fo_takeText_17 ?_
  obtain ⟨r21, I21, J21, hC21, hF⟩ := bd_e hF
  refine fx_Ta_expect (by omega) hC21 ⟨rfl, ?_⟩
  refine bk_Fo_takeText_24 ?_
  obtain ⟨r27, I27, J27, hC27, hF⟩ := bd_e hF
  refine fx_Ta_readKeyword (by omega) ⟨by decide, by decide⟩ hC27 ⟨rfl, ?_⟩
  refine bk_Fo_takeText_30 ?_
  obtain ⟨r33, I33, J33, hC33, hF⟩ := bd_e hF
  refine fx_Ta_expect (by omega) hC33 ⟨rfl, ?_⟩
  refine bk_Fo_takeText_36 ?_
  obtain ⟨r39, I39, J39, hC39, hF⟩ := bd_e hF
  refine fx_Fo_halvings (by omega) hC39 ⟨rfl, ?_⟩
  refine bk_Fo_takeText_42 ?_
  obtain ⟨r43, I43, J43, hC43, hF⟩ := bd_e hF
  refine fx_Fo_halvings (by omega) hC43 ⟨rfl, ?_⟩
  refine bk_Fo_takeText_46 ?_
  obtain ⟨r46, I46, J46, hC46, hF⟩ := bd_e hF
  refine fx_Fo_readFolds (by omega) hC46 ⟨rfl, ?_⟩
  refine bk_Fo_takeText_49 ?_
  obtain ⟨r54, I54, J54, hC54, hF⟩ := bd_e hF
  refine fx_Ta_expect (by omega) hC54 ⟨rfl, ?_⟩
  refine bk_Fo_takeText_57 ?_
  obtain ⟨r58, I58, J58, hC58, hF⟩ := bd_e hF
  refine fx_Ta_finish (by omega) hC58 ⟨rfl, ?_⟩
  refine bk_Fo_takeText_61 ?_
  obtain ⟨r62, I62, J62, hC62, hF⟩ := bd_e hF
  refine fx_Ta_isRight (by omega) hC62 ⟨rfl, ?_⟩
  refine bk_Fo_takeText_65 ?_
  refine ⟨fun z => ?_, fun z => ?_⟩
  · rw [if_pos z] at hF
    obtain ⟨r75, I75, J75, hC75, hF⟩ := bd_e hF
    refine fx_Fo_foldSheet (by omega) hC75 ⟨rfl, ?_⟩
    refine bk_Fo_takeText_78 ?_
    obtain ⟨r79, I79, J79, hC79, hF⟩ := bd_e hF
    refine fx_Fo_leaves (by omega) hC79 ⟨rfl, ?_⟩
    refine bk_Fo_takeText_82 ?_
    exact ret_q (Q := fun a b c => Q (some (.int a)) (hp b c (pm_RT pa pb ga))) hF hQ
  · rw [if_neg z] at hF
    exact ret_q (Q := fun a b c => Q (some (.int a)) (hp b c (pm_RT pa pb ga))) hF hQ
def F_Fo_bind (u : Nat) (x1 : Int32) (x2 : Int32) (x3 : Int32) (I : pm_II) (J : pm_JJ) : Option (Int32 × pm_II × pm_JJ) :=
  if x1 < 1 then (
    some (((-1) : Int32), I, J))
  else (
    if 8 < x1 then (
      some (((-1) : Int32), I, J))
    else (
      if x2 < 0 then (
        some (((-1) : Int32), I, J))
      else (
        if x2 ≤ 1 then (
          if x3 < 1 then (
            some (((-1) : Int32), I, J))
          else (
            if x3 ≤ 99 then (
              bd (F_Fo_leaves u (pm_up (pm_up (pm_up I 29 11 x1) 29 12 x2) 29 13 x3) J) fun r55 I55 J55 =>
              some (((x1 * r55) * (2 : Int32)), I55, J55))
            else (
              some (((-1) : Int32), I, J))))
        else (
          some (((-1) : Int32), I, J)))))
theorem fx_Fo_bind {u k : Nat} {pa pb : Nat} {ga : Nat → Nat} {Q : Option Value → pm_H → Prop} {x1 : Int32} {x2 : Int32} {x3 : Int32} {I : pm_II} {J : pm_JJ} {r : Int32} {I2 : pm_II} {J2 : pm_JJ} (hk : 1 ≤ k) (hF : F_Fo_bind u x1 x2 x3 I J = some (r, I2, J2)) (hQ : Q (some (.int r)) (hp I2 J2 (pm_RT pa pb ga))) : Px k 176 m_Fo_bind 0 [.ref 29, .int x1, .int x2, .int x3] [] (hp I J (pm_RT pa pb ga)) Q := by
  obtain ⟨k, rfl⟩ : ∃ j, k = j + 1 := ⟨k - 1, by omega⟩
  unfold F_Fo_bind at hF
  refine bk_Fo_bind_0 ?_
  refine ⟨fun z => ?_, fun z => ?_⟩
  · rw [if_pos z] at hF
    exact ret_q (Q := fun a b c => Q (some (.int a)) (hp b c (pm_RT pa pb ga))) hF hQ
  · rw [if_neg z] at hF
    refine ⟨fun z => ?_, fun z => ?_⟩
    · rw [if_pos z] at hF
      exact ret_q (Q := fun a b c => Q (some (.int a)) (hp b c (pm_RT pa pb ga))) hF hQ
    · rw [if_neg z] at hF
      refine ⟨fun z => ?_, fun z => ?_⟩
      · rw [if_pos z] at hF
        exact ret_q (Q := fun a b c => Q (some (.int a)) (hp b c (pm_RT pa pb ga))) hF hQ
      · rw [if_neg z] at hF
        refine ⟨fun z => ?_, fun z => ?_⟩
        · rw [if_pos z] at hF
          refine ⟨fun z => ?_, fun z => ?_⟩
          · rw [if_pos z] at hF
            exact ret_q (Q := fun a b c => Q (some (.int a)) (hp b c (pm_RT pa pb ga))) hF hQ
          · rw [if_neg z] at hF
            refine ⟨fun z => ?_, fun z => ?_⟩
            · rw [if_pos z] at hF
              obtain ⟨r55, I55, J55, hC55, hF⟩ := bd_e hF
              refine fx_Fo_leaves (by omega) hC55 ⟨rfl, ?_⟩
              refine bk_Fo_bind_58 ?_
              exact ret_q (Q := fun a b c => Q (some (.int a)) (hp b c (pm_RT pa pb ga))) hF hQ
            · rw [if_neg z] at hF
              exact ret_q (Q := fun a b c => Q (some (.int a)) (hp b c (pm_RT pa pb ga))) hF hQ
        · rw [if_neg z] at hF
          exact ret_q (Q := fun a b c => Q (some (.int a)) (hp b c (pm_RT pa pb ga))) hF hQ
def F_Fo_hasSide (u : Nat) (x1 : Int32) (x2 : Int32) (I : pm_II) (J : pm_JJ) : Option (Int32 × pm_II × pm_JJ) :=
  if x1 < 0 then (
    some ((0 : Int32), I, J))
  else (
    if (I 29 11) ≤ x1 then (
      some ((0 : Int32), I, J))
    else (
      if x2 < 0 then (
        some ((0 : Int32), I, J))
      else (
        if 1 < x2 then (
          some ((0 : Int32), I, J))
        else (
          some ((1 : Int32), I, J)))))
theorem fx_Fo_hasSide {u k : Nat} {pa pb : Nat} {ga : Nat → Nat} {Q : Option Value → pm_H → Prop} {x1 : Int32} {x2 : Int32} {I : pm_II} {J : pm_JJ} {r : Int32} {I2 : pm_II} {J2 : pm_JJ} (hk : 0 ≤ k) (hF : F_Fo_hasSide u x1 x2 I J = some (r, I2, J2)) (hQ : Q (some (.int r)) (hp I2 J2 (pm_RT pa pb ga))) : Px k 176 m_Fo_hasSide 0 [.ref 29, .int x1, .int x2] [] (hp I J (pm_RT pa pb ga)) Q := by
  unfold F_Fo_hasSide at hF
  refine bk_Fo_hasSide_0 ?_
  refine ⟨fun z => ?_, fun z => ?_⟩
  · rw [if_pos z] at hF
    exact ret_q (Q := fun a b c => Q (some (.int a)) (hp b c (pm_RT pa pb ga))) hF hQ
  · rw [if_neg z] at hF
    refine ⟨fun z => ?_, fun z => ?_⟩
    · rw [if_pos z] at hF
      exact ret_q (Q := fun a b c => Q (some (.int a)) (hp b c (pm_RT pa pb ga))) hF hQ
    · rw [if_neg z] at hF
      refine ⟨fun z => ?_, fun z => ?_⟩
      · rw [if_pos z] at hF
        exact ret_q (Q := fun a b c => Q (some (.int a)) (hp b c (pm_RT pa pb ga))) hF hQ
      · rw [if_neg z] at hF
        refine ⟨fun z => ?_, fun z => ?_⟩
        · rw [if_pos z] at hF
          exact ret_q (Q := fun a b c => Q (some (.int a)) (hp b c (pm_RT pa pb ga))) hF hQ
        · rw [if_neg z] at hF
          exact ret_q (Q := fun a b c => Q (some (.int a)) (hp b c (pm_RT pa pb ga))) hF hQ
def F_Fo_isPanel (u : Nat) (x1 : Int32) (x2 : Int32) (I : pm_II) (J : pm_JJ) : Option (Int32 × pm_II × pm_JJ) :=
  if x1 < 0 then (
    some ((0 : Int32), I, J))
  else (
    if (I 29 6) ≤ x1 then (
      some ((0 : Int32), I, J))
    else (
      if x2 < 0 then (
        some ((0 : Int32), I, J))
      else (
        if (I 29 7) ≤ x2 then (
          some ((0 : Int32), I, J))
        else (
          some ((1 : Int32), I, J)))))
theorem fx_Fo_isPanel {u k : Nat} {pa pb : Nat} {ga : Nat → Nat} {Q : Option Value → pm_H → Prop} {x1 : Int32} {x2 : Int32} {I : pm_II} {J : pm_JJ} {r : Int32} {I2 : pm_II} {J2 : pm_JJ} (hk : 0 ≤ k) (hF : F_Fo_isPanel u x1 x2 I J = some (r, I2, J2)) (hQ : Q (some (.int r)) (hp I2 J2 (pm_RT pa pb ga))) : Px k 176 m_Fo_isPanel 0 [.ref 29, .int x1, .int x2] [] (hp I J (pm_RT pa pb ga)) Q := by
  unfold F_Fo_isPanel at hF
  refine bk_Fo_isPanel_0 ?_
  refine ⟨fun z => ?_, fun z => ?_⟩
  · rw [if_pos z] at hF
    exact ret_q (Q := fun a b c => Q (some (.int a)) (hp b c (pm_RT pa pb ga))) hF hQ
  · rw [if_neg z] at hF
    refine ⟨fun z => ?_, fun z => ?_⟩
    · rw [if_pos z] at hF
      exact ret_q (Q := fun a b c => Q (some (.int a)) (hp b c (pm_RT pa pb ga))) hF hQ
    · rw [if_neg z] at hF
      refine ⟨fun z => ?_, fun z => ?_⟩
      · rw [if_pos z] at hF
        exact ret_q (Q := fun a b c => Q (some (.int a)) (hp b c (pm_RT pa pb ga))) hF hQ
      · rw [if_neg z] at hF
        refine ⟨fun z => ?_, fun z => ?_⟩
        · rw [if_pos z] at hF
          exact ret_q (Q := fun a b c => Q (some (.int a)) (hp b c (pm_RT pa pb ga))) hF hQ
        · rw [if_neg z] at hF
          exact ret_q (Q := fun a b c => Q (some (.int a)) (hp b c (pm_RT pa pb ga))) hF hQ
def F_Fo_hasPanel (u : Nat) (x1 : Int32) (x2 : Int32) (x3 : Int32) (x4 : Int32) (I : pm_II) (J : pm_JJ) : Option (Int32 × pm_II × pm_JJ) :=
  bd (F_Fo_hasSide u x1 x2 I J) fun r3 I3 J3 =>
  if r3 = 0 then (
    some ((0 : Int32), I3, J3))
  else (
    bd (F_Fo_isPanel u x3 x4 I3 J3) fun r13 I13 J13 =>
    if r13 = 0 then (
      some ((0 : Int32), I13, J13))
    else (
      some ((1 : Int32), I13, J13)))
theorem fx_Fo_hasPanel {u k : Nat} {pa pb : Nat} {ga : Nat → Nat} {Q : Option Value → pm_H → Prop} {x1 : Int32} {x2 : Int32} {x3 : Int32} {x4 : Int32} {I : pm_II} {J : pm_JJ} {r : Int32} {I2 : pm_II} {J2 : pm_JJ} (hk : 1 ≤ k) (hF : F_Fo_hasPanel u x1 x2 x3 x4 I J = some (r, I2, J2)) (hQ : Q (some (.int r)) (hp I2 J2 (pm_RT pa pb ga))) : Px k 176 m_Fo_hasPanel 0 [.ref 29, .int x1, .int x2, .int x3, .int x4] [] (hp I J (pm_RT pa pb ga)) Q := by
  obtain ⟨k, rfl⟩ : ∃ j, k = j + 1 := ⟨k - 1, by omega⟩
  unfold F_Fo_hasPanel at hF
  refine bk_Fo_hasPanel_0 ?_
  obtain ⟨r3, I3, J3, hC3, hF⟩ := bd_e hF
  refine fx_Fo_hasSide (by omega) hC3 ⟨rfl, ?_⟩
  refine bk_Fo_hasPanel_6 ?_
  refine ⟨fun z => ?_, fun z => ?_⟩
  · rw [if_pos z] at hF
    exact ret_q (Q := fun a b c => Q (some (.int a)) (hp b c (pm_RT pa pb ga))) hF hQ
  · rw [if_neg z] at hF
    obtain ⟨r13, I13, J13, hC13, hF⟩ := bd_e hF
    refine fx_Fo_isPanel (by omega) hC13 ⟨rfl, ?_⟩
    refine bk_Fo_hasPanel_16 ?_
    refine ⟨fun z => ?_, fun z => ?_⟩
    · rw [if_pos z] at hF
      exact ret_q (Q := fun a b c => Q (some (.int a)) (hp b c (pm_RT pa pb ga))) hF hQ
    · rw [if_neg z] at hF
      exact ret_q (Q := fun a b c => Q (some (.int a)) (hp b c (pm_RT pa pb ga))) hF hQ
def F_Fo_isUpsideDown (u : Nat) (x1 : Int32) (x2 : Int32) (I : pm_II) (J : pm_JJ) : Option (Int32 × pm_II × pm_JJ) :=
  bd (F_Fo_isPanel u x1 x2 I J) fun r3 I3 J3 =>
  if r3 = 0 then (
    some ((0 : Int32), I3, J3))
  else (
    cond (vq ((x1 * (I3 29 7)) + x2) 64) (
    if ¬ (I3 35 ((((x1 * (I3 29 7)) + x2) : Int32).toNatClampNeg)) = 1 then (
      some ((0 : Int32), I3, J3))
    else (
      some ((1 : Int32), I3, J3))) none)
theorem fx_Fo_isUpsideDown {u k : Nat} {pa pb : Nat} {ga : Nat → Nat} {Q : Option Value → pm_H → Prop} {x1 : Int32} {x2 : Int32} {I : pm_II} {J : pm_JJ} {r : Int32} {I2 : pm_II} {J2 : pm_JJ} (hk : 1 ≤ k) (hF : F_Fo_isUpsideDown u x1 x2 I J = some (r, I2, J2)) (hQ : Q (some (.int r)) (hp I2 J2 (pm_RT pa pb ga))) : Px k 176 m_Fo_isUpsideDown 0 [.ref 29, .int x1, .int x2] [] (hp I J (pm_RT pa pb ga)) Q := by
  obtain ⟨k, rfl⟩ : ∃ j, k = j + 1 := ⟨k - 1, by omega⟩
  unfold F_Fo_isUpsideDown at hF
  refine bk_Fo_isUpsideDown_0 ?_
  obtain ⟨r3, I3, J3, hC3, hF⟩ := bd_e hF
  refine fx_Fo_isPanel (by omega) hC3 ⟨rfl, ?_⟩
  refine bk_Fo_isUpsideDown_6 ?_
  refine ⟨fun z => ?_, fun z => ?_⟩
  · rw [if_pos z] at hF
    exact ret_q (Q := fun a b c => Q (some (.int a)) (hp b c (pm_RT pa pb ga))) hF hQ
  · rw [if_neg z] at hF
    obtain ⟨g, hF⟩ := gd_e hF
    refine ⟨vq_in g, ?_⟩
    refine ⟨fun z => ?_, fun z => ?_⟩
    · rw [if_pos z] at hF
      exact ret_q (Q := fun a b c => Q (some (.int a)) (hp b c (pm_RT pa pb ga))) hF hQ
    · rw [if_neg z] at hF
      exact ret_q (Q := fun a b c => Q (some (.int a)) (hp b c (pm_RT pa pb ga))) hF hQ
def F_Fo_placeOf (u : Nat) (x1 : Int32) (x2 : Int32) (I : pm_II) (J : pm_JJ) : Option (Int32 × pm_II × pm_JJ) :=
  if ¬ (I 29 12) = 0 then (
    bd (F_Fo_leaves u I J) fun r17 I17 J17 =>
    if (r17 / 2) ≤ x2 then (
      bd (F_Fo_leaves u I17 J17) fun r39 I39 J39 =>
      bd (F_Fo_leaves u I39 J39) fun r47 I47 J47 =>
      some ((((((I17 29 11) * r39) - ((x1 + (1 : Int32)) * (r47 - (r17 / 2)))) + x2) - (r17 / 2)), I47, J47))
    else (
      some (((x1 * (r17 / 2)) + x2), I17, J17)))
  else (
    bd (F_Fo_leaves u I J) fun r9 I9 J9 =>
    some (((x1 * r9) + x2), I9, J9))
theorem fx_Fo_placeOf {u k : Nat} {pa pb : Nat} {ga : Nat → Nat} {Q : Option Value → pm_H → Prop} {x1 : Int32} {x2 : Int32} {I : pm_II} {J : pm_JJ} {r : Int32} {I2 : pm_II} {J2 : pm_JJ} (hk : 1 ≤ k) (hF : F_Fo_placeOf u x1 x2 I J = some (r, I2, J2)) (hQ : Q (some (.int r)) (hp I2 J2 (pm_RT pa pb ga))) : Px k 176 m_Fo_placeOf 0 [.ref 29, .int x1, .int x2, .null] [] (hp I J (pm_RT pa pb ga)) Q := by
  obtain ⟨k, rfl⟩ : ∃ j, k = j + 1 := ⟨k - 1, by omega⟩
  unfold F_Fo_placeOf at hF
  refine bk_Fo_placeOf_0 ?_
  refine ⟨fun z => ?_, fun z => ?_⟩
  · rw [if_pos z] at hF
    obtain ⟨r17, I17, J17, hC17, hF⟩ := bd_e hF
    refine fx_Fo_leaves (by omega) hC17 ⟨rfl, ?_⟩
    refine bk_Fo_placeOf_20 ?_
    refine ⟨fun z => ?_, fun z => ?_⟩
    · rw [if_pos z] at hF
      obtain ⟨r39, I39, J39, hC39, hF⟩ := bd_e hF
      refine fx_Fo_leaves (by omega) hC39 ⟨rfl, ?_⟩
      refine bk_Fo_placeOf_42 ?_
      obtain ⟨r47, I47, J47, hC47, hF⟩ := bd_e hF
      refine fx_Fo_leaves (by omega) hC47 ⟨rfl, ?_⟩
      refine bk_Fo_placeOf_50 ?_
      exact ret_q (Q := fun a b c => Q (some (.int a)) (hp b c (pm_RT pa pb ga))) hF hQ
    · rw [if_neg z] at hF
      exact ret_q (Q := fun a b c => Q (some (.int a)) (hp b c (pm_RT pa pb ga))) hF hQ
  · rw [if_neg z] at hF
    obtain ⟨r9, I9, J9, hC9, hF⟩ := bd_e hF
    refine fx_Fo_leaves (by omega) hC9 ⟨rfl, ?_⟩
    refine bk_Fo_placeOf_12 ?_
    exact ret_q (Q := fun a b c => Q (some (.int a)) (hp b c (pm_RT pa pb ga))) hF hQ
def F_Fo_pageOn (u : Nat) (x1 : Int32) (x2 : Int32) (x3 : Int32) (x4 : Int32) (I : pm_II) (J : pm_JJ) : Option (Int32 × pm_II × pm_JJ) :=
  bd (F_Fo_hasPanel u x1 x2 x3 x4 I J) fun r6 I6 J6 =>
  if ¬ r6 = 0 then (
    cond (vq ((x3 * (I6 29 7)) + x4) 64) (
    bd (F_Fo_placeOf u x1 (I6 33 ((((x3 * (I6 29 7)) + x4) : Int32).toNatClampNeg)) I6 J6) fun r34 I34 J34 =>
    cond (vq ((x3 * (I6 29 7)) + x4) 64) (
    some (((r34 * (2 : Int32)) + (x2 ^^^ (I34 34 ((((x3 * (I6 29 7)) + x4) : Int32).toNatClampNeg)))), I34, J34)) none) none)
  else (
    some (((-1) : Int32), I6, J6))
theorem fx_Fo_pageOn {u k : Nat} {pa pb : Nat} {ga : Nat → Nat} {Q : Option Value → pm_H → Prop} {x1 : Int32} {x2 : Int32} {x3 : Int32} {x4 : Int32} {I : pm_II} {J : pm_JJ} {r : Int32} {I2 : pm_II} {J2 : pm_JJ} (hk : 2 ≤ k) (hF : F_Fo_pageOn u x1 x2 x3 x4 I J = some (r, I2, J2)) (hQ : Q (some (.int r)) (hp I2 J2 (pm_RT pa pb ga))) : Px k 176 m_Fo_pageOn 0 [.ref 29, .int x1, .int x2, .int x3, .int x4, .null] [] (hp I J (pm_RT pa pb ga)) Q := by
  obtain ⟨k, rfl⟩ : ∃ j, k = j + 1 := ⟨k - 1, by omega⟩
  unfold F_Fo_pageOn at hF
  refine bk_Fo_pageOn_0 ?_
  obtain ⟨r6, I6, J6, hC6, hF⟩ := bd_e hF
  refine fx_Fo_hasPanel (by omega) hC6 ⟨rfl, ?_⟩
  refine bk_Fo_pageOn_9 ?_
  refine ⟨fun z => ?_, fun z => ?_⟩
  · rw [if_pos z] at hF
    obtain ⟨g, hF⟩ := gd_e hF
    refine ⟨vq_in g, ?_⟩
    obtain ⟨r34, I34, J34, hC34, hF⟩ := bd_e hF
    refine fx_Fo_placeOf (by omega) hC34 ⟨rfl, ?_⟩
    refine bk_Fo_pageOn_37 ?_
    obtain ⟨g, hF⟩ := gd_e hF
    refine ⟨vq_in g, ?_⟩
    exact ret_q (Q := fun a b c => Q (some (.int a)) (hp b c (pm_RT pa pb ga))) hF hQ
  · rw [if_neg z] at hF
    exact ret_q (Q := fun a b c => Q (some (.int a)) (hp b c (pm_RT pa pb ga))) hF hQ
def F_Fo_tellPanel (u : Nat) (x1 : Int32) (x2 : Int32) (x3 : Int32) (x4 : Int32) (I : pm_II) (J : pm_JJ) : Option (Int32 × pm_II × pm_JJ) :=
  if x2 < 0 then (
    some (((-1) : Int32), I, J))
  else (
    if 64 ≤ x2 then (
      some (((-1) : Int32), I, J))
    else (
      if 1 ≤ (I 29 7) then (
        if x4 = nI 0 then (
          some (x1, I, J))
        else         if x4 = nI 1 then (
          cond (vq x2 64) (
          some ((x3 ^^^ (I 34 ((x2 : Int32).toNatClampNeg))), I, J)) none)
        else         if x4 = nI 2 then (
          if ¬ (I 29 7) = 0 then (
          some ((x2 / (I 29 7)), I, J)) else none)
        else         if x4 = nI 3 then (
          if ¬ (I 29 7) = 0 then (
          some ((x2 - x2 / (I 29 7) * (I 29 7)), I, J)) else none)
        else (
          some (((-1) : Int32), I, J)))
      else (
        some (((-1) : Int32), I, J))))
theorem fx_Fo_tellPanel {u k : Nat} {pa pb : Nat} {ga : Nat → Nat} {Q : Option Value → pm_H → Prop} {x1 : Int32} {x2 : Int32} {x3 : Int32} {x4 : Int32} {I : pm_II} {J : pm_JJ} {r : Int32} {I2 : pm_II} {J2 : pm_JJ} (hk : 0 ≤ k) (hF : F_Fo_tellPanel u x1 x2 x3 x4 I J = some (r, I2, J2)) (hQ : Q (some (.int r)) (hp I2 J2 (pm_RT pa pb ga))) : Px k 176 m_Fo_tellPanel 0 [.ref 29, .int x1, .int x2, .int x3, .int x4] [] (hp I J (pm_RT pa pb ga)) Q := by
  unfold F_Fo_tellPanel at hF
  refine bk_Fo_tellPanel_0 ?_
  refine ⟨fun z => ?_, fun z => ?_⟩
  · rw [if_pos z] at hF
    exact ret_q (Q := fun a b c => Q (some (.int a)) (hp b c (pm_RT pa pb ga))) hF hQ
  · rw [if_neg z] at hF
    refine ⟨fun z => ?_, fun z => ?_⟩
    · rw [if_pos z] at hF
      exact ret_q (Q := fun a b c => Q (some (.int a)) (hp b c (pm_RT pa pb ga))) hF hQ
    · rw [if_neg z] at hF
      refine ⟨fun z => ?_, fun z => ?_⟩
      · rw [if_pos z] at hF
        refine ⟨fun z => ?_, fun z => ?_, fun z => ?_, fun z => ?_, fun z => ?_⟩
        · rw [if_pos z] at hF
          exact ret_q (Q := fun a b c => Q (some (.int a)) (hp b c (pm_RT pa pb ga))) hF hQ
        · rw [if_neg (by rw [z]; decide), if_pos z] at hF
          obtain ⟨g, hF⟩ := gd_e hF
          refine ⟨vq_in g, ?_⟩
          exact ret_q (Q := fun a b c => Q (some (.int a)) (hp b c (pm_RT pa pb ga))) hF hQ
        · rw [if_neg (by rw [z]; decide), if_neg (by rw [z]; decide), if_pos z] at hF
          obtain ⟨g, hF⟩ := ge_e hF
          refine ⟨g, ?_⟩
          exact ret_q (Q := fun a b c => Q (some (.int a)) (hp b c (pm_RT pa pb ga))) hF hQ
        · rw [if_neg (by rw [z]; decide), if_neg (by rw [z]; decide), if_neg (by rw [z]; decide), if_pos z] at hF
          obtain ⟨g, hF⟩ := ge_e hF
          refine ⟨g, ?_⟩
          exact ret_q (Q := fun a b c => Q (some (.int a)) (hp b c (pm_RT pa pb ga))) hF hQ
        · rw [if_neg (sw_ne z (by decide) (by decide)), if_neg (sw_ne z (by decide) (by decide)), if_neg (sw_ne z (by decide) (by decide)), if_neg (sw_ne z (by decide) (by decide))] at hF
          exact ret_q (Q := fun a b c => Q (some (.int a)) (hp b c (pm_RT pa pb ga))) hF hQ
      · rw [if_neg z] at hF
        exact ret_q (Q := fun a b c => Q (some (.int a)) (hp b c (pm_RT pa pb ga))) hF hQ
def F_Fo_find_127 (u : Nat) (K62 : Int32 → Int32 → Int32 → Int32 → pm_II → pm_JJ → Option (Int32 × pm_II × pm_JJ)) (x1 : Int32) (x2 : Int32) (x4 : Int32) (x5 : Int32) (I : pm_II) (J : pm_JJ) : Option (Int32 × pm_II × pm_JJ) :=
  K62 x1 x2 x4 (x5 + Int32.ofInt 1) I J
def F_Fo_find_74 (u : Nat) (K62 : Int32 → Int32 → Int32 → Int32 → pm_II → pm_JJ → Option (Int32 × pm_II × pm_JJ)) : Nat → Int32 → Int32 → Int32 → Int32 → Int32 → pm_II → pm_JJ → Option (Int32 × pm_II × pm_JJ)
  | 0, _, _, _, _, _, _, _ => none
  | n + 1, x1, x2, x4, x5, x6, I, J =>
    bd (F_Fo_leaves u I J) fun r77 I77 J77 =>
    if r77 ≤ x6 then (
      F_Fo_find_127 u K62 x1 x2 x4 x5 I77 J77)
    else (
      if 64 ≤ x6 then (
        F_Fo_find_127 u K62 x1 x2 x4 x5 I77 J77)
      else (
        bd (F_Fo_placeOf u x5 x6 I77 J77) fun r95 I95 J95 =>
        if ¬ r95 = x4 then (
          F_Fo_find_74 u K62 n x1 x2 x4 x5 (x6 + Int32.ofInt 1) I95 J95)
        else (
          cond (vq x6 64) (
          bd (F_Fo_tellPanel u x5 (I95 31 ((x6 : Int32).toNatClampNeg)) (x1 - x1 / 2 * 2) x2 I95 J95) fun r117 I117 J117 =>
          some (r117, I117, J117)) none)))
def F_Fo_find_62 (u : Nat) : Nat → Int32 → Int32 → Int32 → Int32 → pm_II → pm_JJ → Option (Int32 × pm_II × pm_JJ)
  | 0, _, _, _, _, _, _ => none
  | n + 1, x1, x2, x4, x5, I, J =>
    if (I 29 11) ≤ x5 then (
      some (((-1) : Int32), I, J))
    else (
      F_Fo_find_74 u (F_Fo_find_62 u n) u x1 x2 x4 x5 (0 : Int32) I J)
def F_Fo_find (u : Nat) (x1 : Int32) (x2 : Int32) (I : pm_II) (J : pm_JJ) : Option (Int32 × pm_II × pm_JJ) :=
  bd (F_Fo_leaves u I J) fun r5 I5 J5 =>
  if x1 < 0 then (
    some (((-1) : Int32), I5, J5))
  else (
    if (((I 29 11) * r5) * (2 : Int32)) ≤ x1 then (
      some (((-1) : Int32), I5, J5))
    else (
      if x2 < 0 then (
        some (((-1) : Int32), I5, J5))
      else (
        if x2 ≤ 4 then (
          if ¬ x2 = 4 then (
            F_Fo_find_62 u u x1 x2 (x1 / 2) (0 : Int32) I5 J5)
          else (
            bd (F_Jm_min_II u (x1 / 2) ((((I 29 11) * r5) - (1 : Int32)) - (x1 / 2)) I5 J5) fun r54 I54 J54 =>
            some (((I5 29 13) * r54), I54, J54)))
        else (
          some (((-1) : Int32), I5, J5)))))
theorem fx_Fo_find_127 {u k : Nat} {pa pb : Nat} {ga : Nat → Nat} {Q : Option Value → pm_H → Prop} {K62 : Int32 → Int32 → Int32 → Int32 → pm_II → pm_JJ → Option (Int32 × pm_II × pm_JJ)} {x1 : Int32} {x2 : Int32} {x3 : Int32} {x4 : Int32} {x5 : Int32} {x6 : Int32} {I : pm_II} {J : pm_JJ} {r : Int32} {I2 : pm_II} {J2 : pm_JJ} (hk : 2 ≤ k) (hK62 : ∀ (x1 : Int32) (x2 : Int32) (x3 : Int32) (x4 : Int32) (x5 : Int32) (I : pm_II) (J : pm_JJ) (r : Int32) (I2 : pm_II) (J2 : pm_JJ), K62 x1 x2 x4 x5 I J = some (r, I2, J2) → Q (some (.int r)) (hp I2 J2 (pm_RT pa pb ga)) → Px k 176 m_Fo_find 62 [.ref 29, .int x1, .int x2, .int x3, .int x4, .int x5, .null] [] (hp I J (pm_RT pa pb ga)) Q) (hF : F_Fo_find_127 u K62 x1 x2 x4 x5 I J = some (r, I2, J2)) (hQ : Q (some (.int r)) (hp I2 J2 (pm_RT pa pb ga))) : Px k 176 m_Fo_find 127 [.ref 29, .int x1, .int x2, .int x3, .int x4, .int x5, .int x6] [] (hp I J (pm_RT pa pb ga)) Q := by
  obtain ⟨k, rfl⟩ : ∃ j, k = j + 1 := ⟨k - 1, by omega⟩
  unfold F_Fo_find_127 at hF
  refine bk_Fo_find_127 ?_
  exact Px_wk (hK62 _ _ _ _ _ _ _ _ _ _ hF hQ) ⟨Or.inl rfl, Or.inl rfl, Or.inl rfl, Or.inl rfl, Or.inl rfl, Or.inl rfl, Or.inr ⟨rfl, rfl⟩, trivial⟩
theorem fx_Fo_find_74 {u k : Nat} {pa pb : Nat} {ga : Nat → Nat} {Q : Option Value → pm_H → Prop} {K62 : Int32 → Int32 → Int32 → Int32 → pm_II → pm_JJ → Option (Int32 × pm_II × pm_JJ)} (hk : 2 ≤ k) (hK62 : ∀ (x1 : Int32) (x2 : Int32) (x3 : Int32) (x4 : Int32) (x5 : Int32) (I : pm_II) (J : pm_JJ) (r : Int32) (I2 : pm_II) (J2 : pm_JJ), K62 x1 x2 x4 x5 I J = some (r, I2, J2) → Q (some (.int r)) (hp I2 J2 (pm_RT pa pb ga)) → Px k 176 m_Fo_find 62 [.ref 29, .int x1, .int x2, .int x3, .int x4, .int x5, .null] [] (hp I J (pm_RT pa pb ga)) Q) : ∀ (n : Nat), ∀ (x1 : Int32) (x2 : Int32) (x3 : Int32) (x4 : Int32) (x5 : Int32) (x6 : Int32) (I : pm_II) (J : pm_JJ) (r : Int32) (I2 : pm_II) (J2 : pm_JJ), F_Fo_find_74 u K62 n x1 x2 x4 x5 x6 I J = some (r, I2, J2) → Q (some (.int r)) (hp I2 J2 (pm_RT pa pb ga)) → Px k 176 m_Fo_find 74 [.ref 29, .int x1, .int x2, .int x3, .int x4, .int x5, .int x6] [] (hp I J (pm_RT pa pb ga)) Q := by
  obtain ⟨k, rfl⟩ : ∃ j, k = j + 1 := ⟨k - 1, by omega⟩
  intro n
  induction n with
  | zero => intro x1 x2 x3 x4 x5 x6 I J r I2 J2  hF; cases hF
  | succ n ih =>
    intro x1 x2 x3 x4 x5 x6 I J r I2 J2  hF hQ
    rw [F_Fo_find_74] at hF
    refine bk_Fo_find_74 ?_
    obtain ⟨r77, I77, J77, hC77, hF⟩ := bd_e hF
    refine fx_Fo_leaves (by omega) hC77 ⟨rfl, ?_⟩
    refine bk_Fo_find_80 ?_
    refine ⟨fun z => ?_, fun z => ?_⟩
    · rw [if_pos z] at hF
      exact fx_Fo_find_127 hk hK62 hF hQ
    · rw [if_neg z] at hF
      refine ⟨fun z => ?_, fun z => ?_⟩
      · rw [if_pos z] at hF
        exact fx_Fo_find_127 hk hK62 hF hQ
      · rw [if_neg z] at hF
        obtain ⟨r95, I95, J95, hC95, hF⟩ := bd_e hF
        refine fx_Fo_placeOf (by omega) hC95 ⟨rfl, ?_⟩
        refine bk_Fo_find_98 ?_
        refine ⟨fun z => ?_, fun z => ?_⟩
        · rw [if_pos z] at hF
          exact ih _ _ _ _ _ _ _ _ _ _ _ hF hQ
        · rw [if_neg z] at hF
          obtain ⟨g, hF⟩ := gd_e hF
          refine ⟨vq_in g, ?_⟩
          obtain ⟨r117, I117, J117, hC117, hF⟩ := bd_e hF
          refine fx_Fo_tellPanel (by omega) hC117 ⟨rfl, ?_⟩
          refine bk_Fo_find_120 ?_
          exact ret_q (Q := fun a b c => Q (some (.int a)) (hp b c (pm_RT pa pb ga))) hF hQ
theorem fx_Fo_find_62 {u k : Nat} {pa pb : Nat} {ga : Nat → Nat} {Q : Option Value → pm_H → Prop} (hk : 2 ≤ k) : ∀ (n : Nat), ∀ (x1 : Int32) (x2 : Int32) (x3 : Int32) (x4 : Int32) (x5 : Int32) (I : pm_II) (J : pm_JJ) (r : Int32) (I2 : pm_II) (J2 : pm_JJ), F_Fo_find_62 u n x1 x2 x4 x5 I J = some (r, I2, J2) → Q (some (.int r)) (hp I2 J2 (pm_RT pa pb ga)) → Px k 176 m_Fo_find 62 [.ref 29, .int x1, .int x2, .int x3, .int x4, .int x5, .null] [] (hp I J (pm_RT pa pb ga)) Q := by
  obtain ⟨k, rfl⟩ : ∃ j, k = j + 1 := ⟨k - 1, by omega⟩
  intro n
  induction n with
  | zero => intro x1 x2 x3 x4 x5 I J r I2 J2  hF; cases hF
  | succ n ih =>
    intro x1 x2 x3 x4 x5 I J r I2 J2  hF hQ
    rw [F_Fo_find_62] at hF
    refine bk_Fo_find_62 ?_
    refine ⟨fun z => ?_, fun z => ?_⟩
    · rw [if_pos z] at hF
      exact ret_q (Q := fun a b c => Q (some (.int a)) (hp b c (pm_RT pa pb ga))) hF hQ
    · rw [if_neg z] at hF
      exact fx_Fo_find_74 hk ih u _ _ _ _ _ _ _ _ _ _ _ hF hQ
theorem fx_Fo_find {u k : Nat} {pa pb : Nat} {ga : Nat → Nat} {Q : Option Value → pm_H → Prop} {x1 : Int32} {x2 : Int32} {I : pm_II} {J : pm_JJ} {r : Int32} {I2 : pm_II} {J2 : pm_JJ} (hk : 2 ≤ k) (hF : F_Fo_find u x1 x2 I J = some (r, I2, J2)) (hQ : Q (some (.int r)) (hp I2 J2 (pm_RT pa pb ga))) : Px k 176 m_Fo_find 0 [.ref 29, .int x1, .int x2, .null, .null, .null, .null] [] (hp I J (pm_RT pa pb ga)) Q := by
  obtain ⟨k, rfl⟩ : ∃ j, k = j + 1 := ⟨k - 1, by omega⟩
  unfold F_Fo_find at hF
  refine bk_Fo_find_0 ?_
  obtain ⟨r5, I5, J5, hC5, hF⟩ := bd_e hF
  refine fx_Fo_leaves (by omega) hC5 ⟨rfl, ?_⟩
  refine bk_Fo_find_8 ?_
  refine ⟨fun z => ?_, fun z => ?_⟩
  · rw [if_pos z] at hF
    exact ret_q (Q := fun a b c => Q (some (.int a)) (hp b c (pm_RT pa pb ga))) hF hQ
  · rw [if_neg z] at hF
    refine ⟨fun z => ?_, fun z => ?_⟩
    · rw [if_pos z] at hF
      exact ret_q (Q := fun a b c => Q (some (.int a)) (hp b c (pm_RT pa pb ga))) hF hQ
    · rw [if_neg z] at hF
      refine ⟨fun z => ?_, fun z => ?_⟩
      · rw [if_pos z] at hF
        exact ret_q (Q := fun a b c => Q (some (.int a)) (hp b c (pm_RT pa pb ga))) hF hQ
      · rw [if_neg z] at hF
        refine ⟨fun z => ?_, fun z => ?_⟩
        · rw [if_pos z] at hF
          refine ⟨fun z => ?_, fun z => ?_⟩
          · rw [if_pos z] at hF
            exact fx_Fo_find_62 hk u _ _ _ _ _ _ _ _ _ _ hF hQ
          · rw [if_neg z] at hF
            obtain ⟨r54, I54, J54, hC54, hF⟩ := bd_e hF
            refine fx_Jm_min_II (by omega) hC54 ⟨rfl, ?_⟩
            refine bk_Fo_find_57 ?_
            exact ret_q (Q := fun a b c => Q (some (.int a)) (hp b c (pm_RT pa pb ga))) hF hQ
        · rw [if_neg z] at hF
          exact ret_q (Q := fun a b c => Q (some (.int a)) (hp b c (pm_RT pa pb ga))) hF hQ
def F_Fo_columns (u : Nat) (I : pm_II) (J : pm_JJ) : Option (Int32 × pm_II × pm_JJ) :=
  some ((I 29 7), I, J)
theorem fx_Fo_columns {u k : Nat} {pa pb : Nat} {ga : Nat → Nat} {Q : Option Value → pm_H → Prop} {I : pm_II} {J : pm_JJ} {r : Int32} {I2 : pm_II} {J2 : pm_JJ} (hk : 0 ≤ k) (hF : F_Fo_columns u  I J = some (r, I2, J2)) (hQ : Q (some (.int r)) (hp I2 J2 (pm_RT pa pb ga))) : Px k 176 m_Fo_columns 0 [.ref 29] [] (hp I J (pm_RT pa pb ga)) Q := by
  unfold F_Fo_columns at hF
  refine bk_Fo_columns_0 ?_
  exact ret_q (Q := fun a b c => Q (some (.int a)) (hp b c (pm_RT pa pb ga))) hF hQ
def F_Fo_rows (u : Nat) (I : pm_II) (J : pm_JJ) : Option (Int32 × pm_II × pm_JJ) :=
  some ((I 29 6), I, J)
theorem fx_Fo_rows {u k : Nat} {pa pb : Nat} {ga : Nat → Nat} {Q : Option Value → pm_H → Prop} {I : pm_II} {J : pm_JJ} {r : Int32} {I2 : pm_II} {J2 : pm_JJ} (hk : 0 ≤ k) (hF : F_Fo_rows u  I J = some (r, I2, J2)) (hQ : Q (some (.int r)) (hp I2 J2 (pm_RT pa pb ga))) : Px k 176 m_Fo_rows 0 [.ref 29] [] (hp I J (pm_RT pa pb ga)) Q := by
  unfold F_Fo_rows at hF
  refine bk_Fo_rows_0 ?_
  exact ret_q (Q := fun a b c => Q (some (.int a)) (hp b c (pm_RT pa pb ga))) hF hQ
def F_Fo_sheets (u : Nat) (I : pm_II) (J : pm_JJ) : Option (Int32 × pm_II × pm_JJ) :=
  some ((I 29 11), I, J)
theorem fx_Fo_sheets {u k : Nat} {pa pb : Nat} {ga : Nat → Nat} {Q : Option Value → pm_H → Prop} {I : pm_II} {J : pm_JJ} {r : Int32} {I2 : pm_II} {J2 : pm_JJ} (hk : 0 ≤ k) (hF : F_Fo_sheets u  I J = some (r, I2, J2)) (hQ : Q (some (.int r)) (hp I2 J2 (pm_RT pa pb ga))) : Px k 176 m_Fo_sheets 0 [.ref 29] [] (hp I J (pm_RT pa pb ga)) Q := by
  unfold F_Fo_sheets at hF
  refine bk_Fo_sheets_0 ?_
  exact ret_q (Q := fun a b c => Q (some (.int a)) (hp b c (pm_RT pa pb ga))) hF hQ
def F_Ro_inPlan (u : Nat) (I : pm_II) (J : pm_JJ) : Option (Int32 × pm_II × pm_JJ) :=
  some ((I 19 12), I, J)
theorem fx_Ro_inPlan {u k : Nat} {pa pb : Nat} {ga : Nat → Nat} {Q : Option Value → pm_H → Prop} {I : pm_II} {J : pm_JJ} {r : Int32} {I2 : pm_II} {J2 : pm_JJ} (hk : 0 ≤ k) (hF : F_Ro_inPlan u  I J = some (r, I2, J2)) (hQ : Q (some (.int r)) (hp I2 J2 (pm_RT pa pb ga))) : Px k 176 m_Ro_inPlan 0 [.ref 19] [] (hp I J (pm_RT pa pb ga)) Q := by
  unfold F_Ro_inPlan at hF
  refine bk_Ro_inPlan_0 ?_
  exact ret_q (Q := fun a b c => Q (some (.int a)) (hp b c (pm_RT pa pb ga))) hF hQ
def F_Ro_lostInAll_4 (u : Nat) : Nat → Int32 → Int32 → pm_II → pm_JJ → Option (Int32 × pm_II × pm_JJ)
  | 0, _, _, _, _ => none
  | n + 1, x1, x2, I, J =>
    if (I 19 12) ≤ x2 then (
      some (x1, I, J))
    else (
      bd (F_Ro_lostOf u x2 I J) fun r15 I15 J15 =>
      F_Ro_lostInAll_4 u n (x1 + r15) (x2 + Int32.ofInt 1) I15 J15)
def F_Ro_lostInAll (u : Nat) (I : pm_II) (J : pm_JJ) : Option (Int32 × pm_II × pm_JJ) :=
  F_Ro_lostInAll_4 u u (0 : Int32) (0 : Int32) I J
theorem fx_Ro_lostInAll_4 {u k : Nat} {pa pb : Nat} {ga : Nat → Nat} {Q : Option Value → pm_H → Prop} (hk : 1 ≤ k) : ∀ (n : Nat), ∀ (x1 : Int32) (x2 : Int32) (I : pm_II) (J : pm_JJ) (r : Int32) (I2 : pm_II) (J2 : pm_JJ), F_Ro_lostInAll_4 u n x1 x2 I J = some (r, I2, J2) → Q (some (.int r)) (hp I2 J2 (pm_RT pa pb ga)) → Px k 176 m_Ro_lostInAll 4 [.ref 19, .int x1, .int x2] [] (hp I J (pm_RT pa pb ga)) Q := by
  obtain ⟨k, rfl⟩ : ∃ j, k = j + 1 := ⟨k - 1, by omega⟩
  intro n
  induction n with
  | zero => intro x1 x2 I J r I2 J2  hF; cases hF
  | succ n ih =>
    intro x1 x2 I J r I2 J2  hF hQ
    rw [F_Ro_lostInAll_4] at hF
    refine bk_Ro_lostInAll_4 ?_
    refine ⟨fun z => ?_, fun z => ?_⟩
    · rw [if_pos z] at hF
      exact ret_q (Q := fun a b c => Q (some (.int a)) (hp b c (pm_RT pa pb ga))) hF hQ
    · rw [if_neg z] at hF
      obtain ⟨r15, I15, J15, hC15, hF⟩ := bd_e hF
      refine fx_Ro_lostOf (by omega) hC15 ⟨rfl, ?_⟩
      refine bk_Ro_lostInAll_18 ?_
      exact ih _ _ _ _ _ _ _ hF hQ
theorem fx_Ro_lostInAll {u k : Nat} {pa pb : Nat} {ga : Nat → Nat} {Q : Option Value → pm_H → Prop} {I : pm_II} {J : pm_JJ} {r : Int32} {I2 : pm_II} {J2 : pm_JJ} (hk : 1 ≤ k) (hF : F_Ro_lostInAll u  I J = some (r, I2, J2)) (hQ : Q (some (.int r)) (hp I2 J2 (pm_RT pa pb ga))) : Px k 176 m_Ro_lostInAll 0 [.ref 19, .null, .null] [] (hp I J (pm_RT pa pb ga)) Q := by
  obtain ⟨k, rfl⟩ : ∃ j, k = j + 1 := ⟨k - 1, by omega⟩
  unfold F_Ro_lostInAll at hF
  refine bk_Ro_lostInAll_0 ?_
  exact fx_Ro_lostInAll_4 hk u _ _ _ _ _ _ _ hF hQ
