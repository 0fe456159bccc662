def F_Pl_paint_62 (u : Nat) (K7 : Int32 → Int32 → Int32 → Int32 → Int32 → pm_II → pm_JJ → Option (Unit × pm_II × pm_JJ)) (x1 : Int32) (x3 : Int32) (x4 : Int32) (x5 : Int32) (x6 : Int32) (I : pm_II) (J : pm_JJ) : Option (Unit × pm_II × pm_JJ) :=
  K7 x1 x3 x4 x5 (x6 + Int32.ofInt 1) I J
def F_Pl_paint_28 (u : Nat) (K7 : Int32 → Int32 → Int32 → Int32 → Int32 → pm_II → pm_JJ → Option (Unit × pm_II × pm_JJ)) : Nat → Int32 → Int32 → Int32 → Int32 → Int32 → Int32 → pm_II → pm_JJ → Option (Unit × pm_II × pm_JJ)
  | 0, _, _, _, _, _, _, _, _ => none
  | n + 1, x1, x3, x4, x5, x6, x7, I, J =>
    if x3 < x7 then (
      F_Pl_paint_62 u K7 x1 x3 x4 x5 x6 I J)
    else (
      if 8 ≤ x7 then (
        F_Pl_paint_62 u K7 x1 x3 x4 x5 x6 I J)
      else (
        cond (vq ((x6 * (8 : Int32)) + x7) 64) (
        F_Pl_paint_28 u K7 n x1 x3 x4 x5 x6 (x7 + Int32.ofInt 1) (pm_up I 38 ((((x6 * (8 : Int32)) + x7) : Int32).toNatClampNeg) x5) J) none))
def F_Pl_paint_68 (u : Nat) (I : pm_II) (J : pm_JJ) : Option (Unit × pm_II × pm_JJ) :=
  some ((), I, J)
def F_Pl_paint_7 (u : Nat) : Nat → Int32 → Int32 → Int32 → Int32 → Int32 → pm_II → pm_JJ → Option (Unit × pm_II × pm_JJ)
  | 0, _, _, _, _, _, _, _ => none
  | n + 1, x1, x3, x4, x5, x6, I, J =>
    if x4 < x6 then (
      F_Pl_paint_68 u I J)
    else (
      if 8 ≤ x6 then (
        F_Pl_paint_68 u I J)
      else (
        bd (F_Jm_max u (0 : Int32) x1 I J) fun r23 I23 J23 =>
        F_Pl_paint_28 u (F_Pl_paint_7 u n) u x1 x3 x4 x5 x6 r23 I23 J23))
def F_Pl_paint (u : Nat) (x1 : Int32) (x2 : Int32) (x3 : Int32) (x4 : Int32) (x5 : Int32) (I : pm_II) (J : pm_JJ) : Option (Unit × pm_II × pm_JJ) :=
  bd (F_Jm_max u (0 : Int32) x2 I J) fun r2 I2 J2 =>
  F_Pl_paint_7 u u x1 x3 x4 x5 r2 I2 J2
theorem fx_Pl_paint_62 {u k : Nat} {pa pb : Nat} {ga : Nat → Nat} {Q : Option Value → pm_H → Prop} {K7 : Int32 → Int32 → Int32 → Int32 → Int32 → pm_II → pm_JJ → Option (Unit × pm_II × pm_JJ)} {x1 : Int32} {x2 : Int32} {x3 : Int32} {x4 : Int32} {x5 : Int32} {x6 : Int32} {x7 : Int32} {I : pm_II} {J : pm_JJ} {r : Unit} {I2 : pm_II} {J2 : pm_JJ} (hk : 1 ≤ k) (hK7 : ∀ (x1 : Int32) (x2 : Int32) (x3 : Int32) (x4 : Int32) (x5 : Int32) (x6 : Int32) (I : pm_II) (J : pm_JJ) (r : Unit) (I2 : pm_II) (J2 : pm_JJ), K7 x1 x3 x4 x5 x6 I J = some (r, I2, J2) → Q none (hp I2 J2 (pm_RT pa pb ga)) → Px k 176 m_Pl_paint 7 [.ref 36, .int x1, .int x2, .int x3, .int x4, .int x5, .int x6, .null] [] (hp I J (pm_RT pa pb ga)) Q) (hF : F_Pl_paint_62 u K7 x1 x3 x4 x5 x6 I J = some (r, I2, J2)) (hQ : Q none (hp I2 J2 (pm_RT pa pb ga))) : Px k 176 m_Pl_paint 62 [.ref 36, .int x1, .int x2, .int x3, .int x4, .int x5, .int x6, .int x7] [] (hp I J (pm_RT pa pb ga)) Q := by
  obtain ⟨k, rfl⟩ : ∃ j, k = j + 1 := ⟨k - 1, by omega⟩
  unfold F_Pl_paint_62 at hF
  refine bk_Pl_paint_62 ?_
  exact Px_wk (hK7 _ _ _ _ _ _ _ _ _ _ _ hF hQ) ⟨Or.inl rfl, Or.inl rfl, Or.inl rfl, Or.inl rfl, Or.inl rfl, Or.inl rfl, Or.inl rfl, Or.inr ⟨rfl, rfl⟩, trivial⟩
theorem fx_Pl_paint_28 {u k : Nat} {pa pb : Nat} {ga : Nat → Nat} {Q : Option Value → pm_H → Prop} {K7 : Int32 → Int32 → Int32 → Int32 → Int32 → pm_II → pm_JJ → Option (Unit × pm_II × pm_JJ)} (hk : 1 ≤ k) (hK7 : ∀ (x1 : Int32) (x2 : Int32) (x3 : Int32) (x4 : Int32) (x5 : Int32) (x6 : Int32) (I : pm_II) (J : pm_JJ) (r : Unit) (I2 : pm_II) (J2 : pm_JJ), K7 x1 x3 x4 x5 x6 I J = some (r, I2, J2) → Q none (hp I2 J2 (pm_RT pa pb ga)) → Px k 176 m_Pl_paint 7 [.ref 36, .int x1, .int x2, .int x3, .int x4, .int x5, .int x6, .null] [] (hp I J (pm_RT pa pb ga)) Q) : ∀ (n : Nat), ∀ (x1 : Int32) (x2 : Int32) (x3 : Int32) (x4 : Int32) (x5 : Int32) (x6 : Int32) (x7 : Int32) (I : pm_II) (J : pm_JJ) (r : Unit) (I2 : pm_II) (J2 : pm_JJ), F_Pl_paint_28 u K7 n x1 x3 x4 x5 x6 x7 I J = some (r, I2, J2) → Q none (hp I2 J2 (pm_RT pa pb ga)) → Px k 176 m_Pl_paint 28 [.ref 36, .int x1, .int x2, .int x3, .int x4, .int x5, .int x6, .int x7] [] (hp I J (pm_RT pa pb ga)) Q := by
  obtain ⟨k, rfl⟩ : ∃ j, k = j + 1 := ⟨k - 1, by omega⟩
  intro n
  induction n with
  | zero => intro x1 x2 x3 x4 x5 x6 x7 I J r I2 J2  hF; cases hF
  | succ n ih =>
    intro x1 x2 x3 x4 x5 x6 x7 I J r I2 J2  hF hQ
    rw [F_Pl_paint_28] at hF
    refine bk_Pl_paint_28 ?_
    refine ⟨fun z => ?_, fun z => ?_⟩
    · rw [if_pos z] at hF
      exact fx_Pl_paint_62 hk hK7 hF hQ
    · rw [if_neg z] at hF
      refine ⟨fun z => ?_, fun z => ?_⟩
      · rw [if_pos z] at hF
        exact fx_Pl_paint_62 hk hK7 hF hQ
      · rw [if_neg z] at hF
        obtain ⟨g, hF⟩ := gd_e hF
        refine ⟨vq_in g, ?_⟩
        exact ih _ _ _ _ _ _ _ _ _ _ _ _ hF hQ
theorem fx_Pl_paint_68 {u k : Nat} {pa pb : Nat} {ga : Nat → Nat} {Q : Option Value → pm_H → Prop} {x1 : Int32} {x2 : Int32} {x3 : Int32} {x4 : Int32} {x5 : Int32} {x6 : Int32} {I : pm_II} {J : pm_JJ} {r : Unit} {I2 : pm_II} {J2 : pm_JJ} (hk : 1 ≤ k) (hF : F_Pl_paint_68 u  I J = some (r, I2, J2)) (hQ : Q none (hp I2 J2 (pm_RT pa pb ga))) : Px k 176 m_Pl_paint 68 [.ref 36, .int x1, .int x2, .int x3, .int x4, .int x5, .int x6, .null] [] (hp I J (pm_RT pa pb ga)) Q := by
  obtain ⟨k, rfl⟩ : ∃ j, k = j + 1 := ⟨k - 1, by omega⟩
  unfold F_Pl_paint_68 at hF
  refine bk_Pl_paint_68 ?_
  exact ret_q (Q := fun a b c => Q none (hp b c (pm_RT pa pb ga))) hF hQ
theorem fx_Pl_paint_7 {u k : Nat} {pa pb : Nat} {ga : Nat → Nat} {Q : Option Value → pm_H → Prop} (hk : 1 ≤ k) : ∀ (n : Nat), ∀ (x1 : Int32) (x2 : Int32) (x3 : Int32) (x4 : Int32) (x5 : Int32) (x6 : Int32) (I : pm_II) (J : pm_JJ) (r : Unit) (I2 : pm_II) (J2 : pm_JJ), F_Pl_paint_7 u n x1 x3 x4 x5 x6 I J = some (r, I2, J2) → Q none (hp I2 J2 (pm_RT pa pb ga)) → Px k 176 m_Pl_paint 7 [.ref 36, .int x1, .int x2, .int x3, .int x4, .int x5, .int x6, .null] [] (hp I J (pm_RT pa pb ga)) Q := by
  obtain ⟨k, rfl⟩ : ∃ j, k = j + 1 := ⟨k - 1, by omega⟩
  intro n
  induction n with
  | zero => intro x1 x2 x3 x4 x5 x6 I J r I2 J2  hF; cases hF
  | succ n ih =>
    intro x1 x2 x3 x4 x5 x6 I J r I2 J2  hF hQ
    rw [F_Pl_paint_7] at hF
    refine bk_Pl_paint_7 ?_
    refine ⟨fun z => ?_, fun z => ?_⟩
    · rw [if_pos z] at hF
      exact fx_Pl_paint_68 hk hF hQ
    · rw [if_neg z] at hF
      refine ⟨fun z => ?_, fun z => ?_⟩
      · rw [if_pos z] at hF
        exact fx_Pl_paint_68 hk hF hQ
      · rw [if_neg z] at hF
        obtain ⟨r23, I23, J23, hC23, hF⟩ := bd_e hF
        refine fx_Jm_max (by omega) hC23 ⟨rfl, ?_⟩
        refine bk_Pl_paint_26 ?_
        exact fx_Pl_paint_28 hk ih u _ _ _ _ _ _ _ _ _ _ _ _ hF hQ
theorem fx_Pl_paint {u k : Nat} {pa pb : Nat} {ga : Nat → Nat} {Q : Option Value → pm_H → Prop} {x1 : Int32} {x2 : Int32} {x3 : Int32} {x4 : Int32} {x5 : Int32} {I : pm_II} {J : pm_JJ} {r : Unit} {I2 : pm_II} {J2 : pm_JJ} (hk : 1 ≤ k) (hF : F_Pl_paint u x1 x2 x3 x4 x5 I J = some (r, I2, J2)) (hQ : Q none (hp I2 J2 (pm_RT pa pb ga))) : Px k 176 m_Pl_paint 0 [.ref 36, .int x1, .int x2, .int x3, .int x4, .int x5, .null, .null] [] (hp I J (pm_RT pa pb ga)) Q := by
  obtain ⟨k, rfl⟩ : ∃ j, k = j + 1 := ⟨k - 1, by omega⟩
  unfold F_Pl_paint at hF
  refine bk_Pl_paint_0 ?_
  obtain ⟨r2, I2, J2, hC2, hF⟩ := bd_e hF
  refine fx_Jm_max (by omega) hC2 ⟨rfl, ?_⟩
  refine bk_Pl_paint_5 ?_
  exact fx_Pl_paint_7 hk u _ _ _ _ _ _ _ _ _ _ _ hF hQ
def F_Pl_readBox_70 (u : Nat) (I : pm_II) (J : pm_JJ) : Option (Unit × pm_II × pm_JJ) :=
  some ((), I, J)
def F_Pl_readBox (u : Nat) (I : pm_II) (J : pm_JJ) : Option (Unit × pm_II × pm_JJ) :=
  bd (F_Ta_readNextNumber u (0 : Int32) (7 : Int32) I J) fun r4 I4 J4 =>
  bd (F_Ta_readNextNumber u (0 : Int32) (7 : Int32) I4 J4) fun r12 I12 J12 =>
  bd (F_Ta_readNextNumber u (1 : Int32) (8 : Int32) I12 J12) fun r20 I20 J20 =>
  bd (F_Ta_readNextNumber u (1 : Int32) (8 : Int32) I20 J20) fun r29 I29 J29 =>
  bd (F_Ta_readNextNumber u (0 : Int32) (16 : Int32) I29 J29) fun r38 I38 J38 =>
  bd (F_Ta_isRight u I38 J38) fun r44 I44 J44 =>
  if r44 = 0 then (
    F_Pl_readBox_70 u I44 J44)
  else (
    bd (F_Pl_paint u r4 r12 ((r4 + r20) - (1 : Int32)) ((r12 + r29) - (1 : Int32)) r38 I44 J44) fun _ I67 J67 =>
    F_Pl_readBox_70 u I67 J67)
theorem fx_Pl_readBox_70 {u k : Nat} {pa pb : Nat} {ga : Nat → Nat} {Q : Option Value → pm_H → Prop} {x2 : Int32} {x3 : Int32} {x4 : Int32} {x5 : Int32} {x6 : Int32} {I : pm_II} {J : pm_JJ} {r : Unit} {I2 : pm_II} {J2 : pm_JJ} (hk : 4 ≤ k) (hF : F_Pl_readBox_70 u  I J = some (r, I2, J2)) (hQ : Q none (hp I2 J2 (pm_RT pa pb ga))) : Px k 176 m_Pl_readBox 70 [.ref 36, .ref 17, .int x2, .int x3, .int x4, .int x5, .int x6] [] (hp I J (pm_RT pa pb ga)) Q := by
  obtain ⟨k, rfl⟩ : ∃ j, k = j + 1 := ⟨k - 1, by omega⟩
  unfold F_Pl_readBox_70 at hF
  refine bk_Pl_readBox_70 ?_
  exact ret_q (Q := fun a b c => Q none (hp b c (pm_RT pa pb ga))) hF hQ
theorem fx_Pl_readBox {u k : Nat} {pa pb : Nat} {ga : Nat → Nat} {Q : Option Value → pm_H → Prop} {I : pm_II} {J : pm_JJ} {r : Unit} {I2 : pm_II} {J2 : pm_JJ} (hk : 4 ≤ k) (hF : F_Pl_readBox u  I J = some (r, I2, J2)) (hQ : Q none (hp I2 J2 (pm_RT pa pb ga))) : Px k 176 m_Pl_readBox 0 [.ref 36, .ref 17, .null, .null, .null, .null, .null] [] (hp I J (pm_RT pa pb ga)) Q := by
  obtain ⟨k, rfl⟩ : ∃ j, k = j + 1 := ⟨k - 1, by omega⟩
  unfold F_Pl_readBox at hF
  refine bk_Pl_readBox_0 ?_
  obtain ⟨r4, I4, J4, hC4, hF⟩ := bd_e hF
  refine fx_Ta_readNextNumber (by omega) hC4 ⟨rfl, ?_⟩
  refine bk_Pl_readBox_7 ?_
  obtain ⟨r12, I12, J12, hC12, hF⟩ := bd_e hF
  refine fx_Ta_readNextNumber (by omega) hC12 ⟨rfl, ?_⟩
  refine bk_Pl_readBox_15 ?_
  obtain ⟨r20, I20, J20, hC20, hF⟩ := bd_e hF
  refine fx_Ta_readNextNumber (by omega) hC20 ⟨rfl, ?_⟩
  refine bk_Pl_readBox_23 ?_
  obtain ⟨r29, I29, J29, hC29, hF⟩ := bd_e hF
  refine fx_Ta_readNextNumber (by omega) hC29 ⟨rfl, ?_⟩
  refine bk_Pl_readBox_32 ?_
  obtain ⟨r38, I38, J38, hC38, hF⟩ := bd_e hF
  refine fx_Ta_readNextNumber (by omega) hC38 ⟨rfl, ?_⟩
  refine bk_Pl_readBox_41 ?_
  obtain ⟨r44, I44, J44, hC44, hF⟩ := bd_e hF
  refine fx_Ta_isRight (by omega) hC44 ⟨rfl, ?_⟩
  refine bk_Pl_readBox_47 ?_
  refine ⟨fun z => ?_, fun z => ?_⟩
  · rw [if_pos z] at hF
    exact fx_Pl_readBox_70 hk hF hQ
  · rw [if_neg z] at hF
    obtain ⟨r67, I67, J67, hC67, hF⟩ := bd_e hF
    refine fx_Pl_paint (by omega) hC67 ⟨rfl, ?_⟩
    exact fx_Pl_readBox_70 hk hF hQ
def F_Pl_readStroke_96 (u : Nat) (I : pm_II) (J : pm_JJ) : Option (Unit × pm_II × pm_JJ) :=
  some ((), I, J)
def F_Pl_readStroke_50 (u : Nat) (x2 : Int32) (x3 : Int32) (x4 : Int32) (x5 : Int32) (I : pm_II) (J : pm_JJ) : Option (Unit × pm_II × pm_JJ) :=
  bd (F_Ta_readNextNumber u (0 : Int32) (16 : Int32) I J) fun r54 I54 J54 =>
  bd (F_Ta_isRight u I54 J54) fun r60 I60 J60 =>
  if r60 = 0 then (
    F_Pl_readStroke_96 u I60 J60)
  else (
    bd (F_Jm_min_II u x2 x4 I60 J60) fun r70 I70 J70 =>
    bd (F_Jm_min_II u x3 x5 I70 J70) fun r76 I76 J76 =>
    bd (F_Jm_max u x2 x4 I76 J76) fun r82 I82 J82 =>
    bd (F_Jm_max u x3 x5 I82 J82) fun r88 I88 J88 =>
    bd (F_Pl_paint u r70 r76 r82 r88 r54 I88 J88) fun _ I93 J93 =>
    F_Pl_readStroke_96 u I93 J93)
def F_Pl_readStroke (u : Nat) (I : pm_II) (J : pm_JJ) : Option (Unit × pm_II × pm_JJ) :=
  bd (F_Ta_readNextNumber u (0 : Int32) (7 : Int32) I J) fun r4 I4 J4 =>
  bd (F_Ta_readNextNumber u (0 : Int32) (7 : Int32) I4 J4) fun r12 I12 J12 =>
  bd (F_Ta_readNextNumber u (0 : Int32) (7 : Int32) I12 J12) fun r20 I20 J20 =>
  bd (F_Ta_readNextNumber u (0 : Int32) (7 : Int32) I20 J20) fun r29 I29 J29 =>
  if r4 = r20 then (
    F_Pl_readStroke_50 u r4 r12 r20 r29 I29 J29)
  else (
    if r12 = r29 then (
      F_Pl_readStroke_50 u r4 r12 r20 r29 I29 J29)
    else (
      bd (F_Ta_blameToken u I29 J29) fun _ I47 J47 =>
      F_Pl_readStroke_50 u r4 r12 r20 r29 I47 J47))
theorem fx_Pl_readStroke_96 {u k : Nat} {pa pb : Nat} {ga : Nat → Nat} {Q : Option Value → pm_H → Prop} {x2 : Int32} {x3 : Int32} {x4 : Int32} {x5 : Int32} {x6 : Int32} {I : pm_II} {J : pm_JJ} {r : Unit} {I2 : pm_II} {J2 : pm_JJ} (hk : 4 ≤ k) (hF : F_Pl_readStroke_96 u  I J = some (r, I2, J2)) (hQ : Q none (hp I2 J2 (pm_RT pa pb ga))) : Px k 176 m_Pl_readStroke 96 [.ref 36, .ref 17, .int x2, .int x3, .int x4, .int x5, .int x6] [] (hp I J (pm_RT pa pb ga)) Q := by
  obtain ⟨k, rfl⟩ : ∃ j, k = j + 1 := ⟨k - 1, by omega⟩
  unfold F_Pl_readStroke_96 at hF
  refine bk_Pl_readStroke_96 ?_
  exact ret_q (Q := fun a b c => Q none (hp b c (pm_RT pa pb ga))) hF hQ
theorem fx_Pl_readStroke_50 {u k : Nat} {pa pb : Nat} {ga : Nat → Nat} {Q : Option Value → pm_H → Prop} {x2 : Int32} {x3 : Int32} {x4 : Int32} {x5 : Int32} {I : pm_II} {J : pm_JJ} {r : Unit} {I2 : pm_II} {J2 : pm_JJ} (hk : 4 ≤ k) (hF : F_Pl_readStroke_50 u x2 x3 x4 x5 I J = some (r, I2, J2)) (hQ : Q none (hp I2 J2 (pm_RT pa pb ga))) : Px k 176 m_Pl_readStroke 50 [.ref 36, .ref 17, .int x2, .int x3, .int x4, .int x5, .null] [] (hp I J (pm_RT pa pb ga)) Q := by
  obtain ⟨k, rfl⟩ : ∃ j, k = j + 1 := ⟨k - 1, by omega⟩
  unfold F_Pl_readStroke_50 at hF
  refine bk_Pl_readStroke_50 ?_
  obtain ⟨r54, I54, J54, hC54, hF⟩ := bd_e hF
  refine fx_Ta_readNextNumber (by omega) hC54 ⟨rfl, ?_⟩
  refine bk_Pl_readStroke_57 ?_
  obtain ⟨r60, I60, J60, hC60, hF⟩ := bd_e hF
  refine fx_Ta_isRight (by omega) hC60 ⟨rfl, ?_⟩
  refine bk_Pl_readStroke_63 ?_
  refine ⟨fun z => ?_, fun z => ?_⟩
  · rw [if_pos z] at hF
    exact fx_Pl_readStroke_96 hk hF hQ
  · rw [if_neg z] at hF
    obtain ⟨r70, I70, J70, hC70, hF⟩ := bd_e hF
    refine fx_Jm_min_II (by omega) hC70 ⟨rfl, ?_⟩
    refine bk_Pl_readStroke_73 ?_
    obtain ⟨r76, I76, J76, hC76, hF⟩ := bd_e hF
    refine fx_Jm_min_II (by omega) hC76 ⟨rfl, ?_⟩
    refine bk_Pl_readStroke_79 ?_
    obtain ⟨r82, I82, J82, hC82, hF⟩ := bd_e hF
    refine fx_Jm_max (by omega) hC82 ⟨rfl, ?_⟩
    refine bk_Pl_readStroke_85 ?_
    obtain ⟨r88, I88, J88, hC88, hF⟩ := bd_e hF
    refine fx_Jm_max (by omega) hC88 ⟨rfl, ?_⟩
    refine bk_Pl_readStroke_91 ?_
    obtain ⟨r93, I93, J93, hC93, hF⟩ := bd_e hF
    refine fx_Pl_paint (by omega) hC93 ⟨rfl, ?_⟩
    exact fx_Pl_readStroke_96 hk hF hQ
theorem fx_Pl_readStroke {u k : Nat} {pa pb : Nat} {ga : Nat → Nat} {Q : Option Value → pm_H → Prop} {I : pm_II} {J : pm_JJ} {r : Unit} {I2 : pm_II} {J2 : pm_JJ} (hk : 4 ≤ k) (hF : F_Pl_readStroke u  I J = some (r, I2, J2)) (hQ : Q none (hp I2 J2 (pm_RT pa pb ga))) : Px k 176 m_Pl_readStroke 0 [.ref 36, .ref 17, .null, .null, .null, .null, .null] [] (hp I J (pm_RT pa pb ga)) Q := by
  obtain ⟨k, rfl⟩ : ∃ j, k = j + 1 := ⟨k - 1, by omega⟩
  unfold F_Pl_readStroke at hF
  refine bk_Pl_readStroke_0 ?_
  obtain ⟨r4, I4, J4, hC4, hF⟩ := bd_e hF
  refine fx_Ta_readNextNumber (by omega) hC4 ⟨rfl, ?_⟩
  refine bk_Pl_readStroke_7 ?_
  obtain ⟨r12, I12, J12, hC12, hF⟩ := bd_e hF
  refine fx_Ta_readNextNumber (by omega) hC12 ⟨rfl, ?_⟩
  refine bk_Pl_readStroke_15 ?_
  obtain ⟨r20, I20, J20, hC20, hF⟩ := bd_e hF
  refine fx_Ta_readNextNumber (by omega) hC20 ⟨rfl, ?_⟩
  refine bk_Pl_readStroke_23 ?_
  obtain ⟨r29, I29, J29, hC29, hF⟩ := bd_e hF
  refine fx_Ta_readNextNumber (by omega) hC29 ⟨rfl, ?_⟩
  refine bk_Pl_readStroke_32 ?_
  refine ⟨fun z => ?_, fun z => ?_⟩
  · rw [if_pos z] at hF
    exact fx_Pl_readStroke_50 hk hF hQ
  · rw [if_neg z] at hF
    refine ⟨fun z => ?_, fun z => ?_⟩
    · rw [if_pos z] at hF
      exact fx_Pl_readStroke_50 hk hF hQ
    · rw [if_neg z] at hF
      obtain ⟨r47, I47, J47, hC47, hF⟩ := bd_e hF
      refine fx_Ta_blameToken (by omega) hC47 ⟨rfl, ?_⟩
      exact fx_Pl_readStroke_50 hk hF hQ
def F_Pl_readLine_25 (u : Nat) (I : pm_II) (J : pm_JJ) : Option (Unit × pm_II × pm_JJ) :=
  bd (F_Ta_expect u (10 : Int32) I J) fun _ I28 J28 =>
  some ((), I28, J28)
def F_Pl_readLine (u : Nat) (I : pm_II) (J : pm_JJ) : Option (Unit × pm_II × pm_JJ) :=
  bd (F_Ta_readEither u 7 8 I J) fun r5 I5 J5 =>
  if ¬ r5 = 1 then (
    bd (F_Pl_readBox u I5 J5) fun _ I22 J22 =>
    F_Pl_readLine_25 u I22 J22)
  else (
    bd (F_Pl_readStroke u I5 J5) fun _ I14 J14 =>
    F_Pl_readLine_25 u I14 J14)
theorem fx_Pl_readLine_25 {u k : Nat} {pa pb : Nat} {ga : Nat → Nat} {Q : Option Value → pm_H → Prop} {I : pm_II} {J : pm_JJ} {r : Unit} {I2 : pm_II} {J2 : pm_JJ} (hk : 6 ≤ k) (hF : F_Pl_readLine_25 u  I J = some (r, I2, J2)) (hQ : Q none (hp I2 J2 (pm_RT pa pb ga))) : Px k 176 m_Pl_readLine 25 [.ref 36, .ref 17] [] (hp I J (pm_RT pa pb ga)) Q := by
  obtain ⟨k, rfl⟩ : ∃ j, k = j + 1 := ⟨k - 1, by omega⟩
  unfold F_Pl_readLine_25 at hF
  refine bk_Pl_readLine_25 ?_
  obtain ⟨r28, I28, J28, hC28, hF⟩ := bd_e hF
  refine fx_Ta_expect (by omega) hC28 ⟨rfl, ?_⟩
  refine bk_Pl_readLine_31 ?_
  exact ret_q (Q := fun a b c => Q none (hp b c (pm_RT pa pb ga))) hF hQ
theorem fx_Pl_readLine {u k : Nat} {pa pb : Nat} {ga : Nat → Nat} {Q : Option Value → pm_H → Prop} {I : pm_II} {J : pm_JJ} {r : Unit} {I2 : pm_II} {J2 : pm_JJ} (hk : 6 ≤ k) (hF : F_Pl_readLine u  I J = some (r, I2, J2)) (hQ : Q none (hp I2 J2 (pm_RT pa pb ga))) : Px k 176 m_Pl_readLine 0 [.ref 36, .ref 17] [] (hp I J (pm_RT pa pb ga)) Q := by
  obtain ⟨k, rfl⟩ : ∃ j, k = j + 1 := ⟨k - 1, by omega⟩
  unfold F_Pl_readLine at hF
  refine bk_Pl_readLine_0 ?_
  obtain ⟨r5, I5, J5, hC5, hF⟩ := bd_e hF
  refine fx_Ta_readEither (by omega) ⟨by decide, by decide⟩ ⟨by decide, by decide⟩ hC5 ⟨rfl, ?_⟩
  refine bk_Pl_readLine_8 ?_
  refine ⟨fun z => ?_, fun z => ?_⟩
  · rw [if_pos z] at hF
    obtain ⟨r22, I22, J22, hC22, hF⟩ := bd_e hF
    refine fx_Pl_readBox (by omega) hC22 ⟨rfl, ?_⟩
    exact fx_Pl_readLine_25 hk hF hQ
  · rw [if_neg z] at hF
    obtain ⟨r14, I14, J14, hC14, hF⟩ := bd_e hF
    refine fx_Pl_readStroke (by omega) hC14 ⟨rfl, ?_⟩
    refine bk_Pl_readLine_17 ?_
    exact fx_Pl_readLine_25 hk hF hQ
def F_Pl_takeText_73 (u : Nat) : Nat → Int32 → Int32 → Int32 → pm_II → pm_JJ → Option (Int32 × pm_II × pm_JJ)
  | 0, _, _, _, _, _ => none
  | n + 1, x2, x4, x5, I, J =>
    if 64 ≤ x5 then (
      some (x4, I, J))
    else (
      cond (vq x5 64) (
      cond (vq ((x2 * (64 : Int32)) + x5) 2048) (
      cond (vq x5 64) (
      F_Pl_takeText_73 u n x2 (x4 + (I 38 ((x5 : Int32).toNatClampNeg))) (x5 + Int32.ofInt 1) (pm_up I 37 ((((x2 * (64 : Int32)) + x5) : Int32).toNatClampNeg) (I 38 ((x5 : Int32).toNatClampNeg))) J) none) none) none)
def F_Pl_takeText_44 (u : Nat) (x2 : Int32) (I : pm_II) (J : pm_JJ) : Option (Int32 × pm_II × pm_JJ) :=
  bd (F_Ta_finish u I J) fun _ I45 J45 =>
  bd (F_Ta_isRight u I45 J45) fun r49 I49 J49 =>
  if r49 = 0 then (
    some (((-1) : Int32), I49, J49))
  else (
    if x2 < 0 then (
      some (((-1) : Int32), I49, J49))
    else (
      if x2 < 32 then (
        F_Pl_takeText_73 u u x2 (0 : Int32) (0 : Int32) I49 J49)
      else (
        some (((-1) : Int32), I49, J49))))
def F_Pl_takeText_23 (u : Nat) : Nat → Int32 → Int32 → pm_II → pm_JJ → Option (Int32 × pm_II × pm_JJ)
  | 0, _, _, _, _ => none
  | n + 1, x2, x3, I, J =>
    bd (F_Pl_readLine u I J) fun _ I25 J25 =>
    if 40 ≤ (x3 + Int32.ofInt 1) then (
      F_Pl_takeText_44 u x2 I25 J25)
    else (
      bd (F_Ta_hasMore u I25 J25) fun r38 I38 J38 =>
      if ¬ r38 = 0 then (
        F_Pl_takeText_23 u n x2 (x3 + Int32.ofInt 1) I38 J38)
      else (
        F_Pl_takeText_44 u x2 I38 J38))
def F_Pl_takeText_2 (u : Nat) : Nat → Int32 → Int32 → pm_II → pm_JJ → Option (Int32 × pm_II × pm_JJ)
  | 0, _, _, _, _ => none
  | n + 1, x2, x3, I, J =>
    if 64 ≤ x3 then (
      F_Pl_takeText_23 u u x2 (0 : Int32) I J)
    else (
      cond (vq x3 64) (
      F_Pl_takeText_2 u n x2 (x3 + Int32.ofInt 1) (pm_up I 38 ((x3 : Int32).toNatClampNeg) 0) J) none)
def F_Pl_takeText (u : Nat) (x2 : Int32) (I : pm_II) (J : pm_JJ) : Option (Int32 × pm_II × pm_JJ) :=
  F_Pl_takeText_2 u u x2 (0 : Int32) I J
theorem fx_Pl_takeText_73 {u k : Nat} {pa pb : Nat} {ga : Nat → Nat} {Q : Option Value → pm_H → Prop} (hk : 7 ≤ k) : ∀ (n : Nat), ∀ (x2 : Int32) (x3 : Int32) (x4 : Int32) (x5 : Int32) (I : pm_II) (J : pm_JJ) (r : Int32) (I2 : pm_II) (J2 : pm_JJ), F_Pl_takeText_73 u n x2 x4 x5 I J = some (r, I2, J2) → Q (some (.int r)) (hp I2 J2 (pm_RT pa pb ga)) → Px k 176 m_Pl_takeText 73 [.ref 36, .ref 17, .int x2, .int x3, .int x4, .int x5] [] (hp I J (pm_RT pa pb ga)) Q := by
  obtain ⟨k, rfl⟩ : ∃ j, k = j + 1 := ⟨k - 1, by omega⟩
  intro n
  induction n with
  | zero => intro x2 x3 x4 x5 I J r I2 J2  hF; cases hF
  | succ n ih =>
    intro x2 x3 x4 x5 I J r I2 J2  hF hQ
    rw [F_Pl_takeText_73] at hF
    refine bk_Pl_takeText_73 ?_
    refine ⟨fun z => ?_, fun z => ?_⟩
    · rw [if_pos z] at hF
      exact ret_q (Q := fun a b c => Q (some (.int a)) (hp b c (pm_RT pa pb ga))) hF hQ
    · rw [if_neg z] at hF
      obtain ⟨g, hF⟩ := gd_e hF
      refine ⟨vq_in g, ?_⟩
      obtain ⟨g, hF⟩ := gd_e hF
      refine ⟨vq_in g, ?_⟩
      obtain ⟨g, hF⟩ := gd_e hF
      refine ⟨vq_in g, ?_⟩
      exact ih _ _ _ _ _ _ _ _ _ hF hQ
theorem fx_Pl_takeText_44 {u k : Nat} {pa pb : Nat} {ga : Nat → Nat} {Q : Option Value → pm_H → Prop} {x2 : Int32} {x3 : Int32} {I : pm_II} {J : pm_JJ} {r : Int32} {I2 : pm_II} {J2 : pm_JJ} (hk : 7 ≤ k) (hF : F_Pl_takeText_44 u x2 I J = some (r, I2, J2)) (hQ : Q (some (.int r)) (hp I2 J2 (pm_RT pa pb ga))) : Px k 176 m_Pl_takeText 44 [.ref 36, .ref 17, .int x2, .int x3, .null, .null] [] (hp I J (pm_RT pa pb ga)) Q := by
  obtain ⟨k, rfl⟩ : ∃ j, k = j + 1 := ⟨k - 1, by omega⟩
  unfold F_Pl_takeText_44 at hF
  refine bk_Pl_takeText_44 ?_
  obtain ⟨r45, I45, J45, hC45, hF⟩ := bd_e hF
  refine fx_Ta_finish (by omega) hC45 ⟨rfl, ?_⟩
  refine bk_Pl_takeText_48 ?_
  obtain ⟨r49, I49, J49, hC49, hF⟩ := bd_e hF
  refine fx_Ta_isRight (by omega) hC49 ⟨rfl, ?_⟩
  refine bk_Pl_takeText_52 ?_
  refine ⟨fun z => ?_, fun z => ?_⟩
  · rw [if_pos z] at hF
    exact ret_q (Q := fun a b c => Q (some (.int a)) (hp b c (pm_RT pa pb ga))) hF hQ
  · rw [if_neg z] at hF
    refine ⟨fun z => ?_, fun z => ?_⟩
    · rw [if_pos z] at hF
      exact ret_q (Q := fun a b c => Q (some (.int a)) (hp b c (pm_RT pa pb ga))) hF hQ
    · rw [if_neg z] at hF
      refine ⟨fun z => ?_, fun z => ?_⟩
      · rw [if_pos z] at hF
        exact fx_Pl_takeText_73 hk u _ _ _ _ _ _ _ _ _ hF hQ
      · rw [if_neg z] at hF
        exact ret_q (Q := fun a b c => Q (some (.int a)) (hp b c (pm_RT pa pb ga))) hF hQ
theorem fx_Pl_takeText_23 {u k : Nat} {pa pb : Nat} {ga : Nat → Nat} {Q : Option Value → pm_H → Prop} (hk : 7 ≤ k) : ∀ (n : Nat), ∀ (x2 : Int32) (x3 : Int32) (I : pm_II) (J : pm_JJ) (r : Int32) (I2 : pm_II) (J2 : pm_JJ), F_Pl_takeText_23 u n x2 x3 I J = some (r, I2, J2) → Q (some (.int r)) (hp I2 J2 (pm_RT pa pb ga)) → Px k 176 m_Pl_takeText 23 [.ref 36, .ref 17, .int x2, .int x3, .null, .null] [] (hp I J (pm_RT pa pb ga)) Q := by
  obtain ⟨k, rfl⟩ : ∃ j, k = j + 1 := ⟨k - 1, by omega⟩
  intro n
  induction n with
  | zero => intro x2 x3 I J r I2 J2  hF; cases hF
  | succ n ih =>
    intro x2 x3 I J r I2 J2  hF hQ
    rw [F_Pl_takeText_23] at hF
    refine bk_Pl_takeText_23 ?_
    obtain ⟨r25, I25, J25, hC25, hF⟩ := bd_e hF
    refine fx_Pl_readLine (by omega) hC25 ⟨rfl, ?_⟩
    refine bk_Pl_takeText_28 ?_
    refine ⟨fun z => ?_, fun z => ?_⟩
    · rw [if_pos z] at hF
      exact fx_Pl_takeText_44 hk hF hQ
    · rw [if_neg z] at hF
      obtain ⟨r38, I38, J38, hC38, hF⟩ := bd_e hF
      refine fx_Ta_hasMore (by omega) hC38 ⟨rfl, ?_⟩
      refine bk_Pl_takeText_41 ?_
      refine ⟨fun z => ?_, fun z => ?_⟩
      · rw [if_pos z] at hF
        exact ih _ _ _ _ _ _ _ hF hQ
      · rw [if_neg z] at hF
        exact fx_Pl_takeText_44 hk hF hQ
theorem fx_Pl_takeText_2 {u k : Nat} {pa pb : Nat} {ga : Nat → Nat} {Q : Option Value → pm_H → Prop} (hk : 7 ≤ k) : ∀ (n : Nat), ∀ (x2 : Int32) (x3 : Int32) (I : pm_II) (J : pm_JJ) (r : Int32) (I2 : pm_II) (J2 : pm_JJ), F_Pl_takeText_2 u n x2 x3 I J = some (r, I2, J2) → Q (some (.int r)) (hp I2 J2 (pm_RT pa pb ga)) → Px k 176 m_Pl_takeText 2 [.ref 36, .ref 17, .int x2, .int x3, .null, .null] [] (hp I J (pm_RT pa pb ga)) Q := by
  obtain ⟨k, rfl⟩ : ∃ j, k = j + 1 := ⟨k - 1, by omega⟩
  intro n
  induction n with
  | zero => intro x2 x3 I J r I2 J2  hF; cases hF
  | succ n ih =>
    intro x2 x3 I J r I2 J2  hF hQ
    rw [F_Pl_takeText_2] at hF
    refine bk_Pl_takeText_2 ?_
    refine ⟨fun z => ?_, fun z => ?_⟩
    · rw [if_pos z] at hF
      exact fx_Pl_takeText_23 hk u _ _ _ _ _ _ _ hF hQ
    · rw [if_neg z] at hF
      obtain ⟨g, hF⟩ := gd_e hF
      refine ⟨vq_in g, ?_⟩
      exact ih _ _ _ _ _ _ _ hF hQ
theorem fx_Pl_takeText {u k : Nat} {pa pb : Nat} {ga : Nat → Nat} {Q : Option Value → pm_H → Prop} {x2 : Int32} {I : pm_II} {J : pm_JJ} {r : Int32} {I2 : pm_II} {J2 : pm_JJ} (hk : 7 ≤ k) (hF : F_Pl_takeText u x2 I J = some (r, I2, J2)) (hQ : Q (some (.int r)) (hp I2 J2 (pm_RT pa pb ga))) : Px k 176 m_Pl_takeText 0 [.ref 36, .ref 17, .int x2, .null, .null, .null] [] (hp I J (pm_RT pa pb ga)) Q := by
  obtain ⟨k, rfl⟩ : ∃ j, k = j + 1 := ⟨k - 1, by omega⟩
  unfold F_Pl_takeText at hF
  refine bk_Pl_takeText_0 ?_
  exact fx_Pl_takeText_2 hk u _ _ _ _ _ _ _ hF hQ
def F_Pl_inked_57 (u : Nat) (x1 : Int32) (x3 : Int32) (x4 : Int32) (s0 : Int32) (I : pm_II) (J : pm_JJ) : Option (Int32 × pm_II × pm_JJ) :=
  cond (vq ((x1 * (64 : Int32)) + s0) 2048) (
  cond (vq (((x4 - x4 / 4 * 4) * (4 : Int32)) + (x3 - x3 / 4 * 4)) 16) (
  if (I 37 ((((x1 * (64 : Int32)) + s0) : Int32).toNatClampNeg)) ≤ (pm_con 1 ((((x4 - x4 / 4 * 4) * (4 : Int32)) + (x3 - x3 / 4 * 4)) : Int32).toNatClampNeg) then (
    some ((0 : Int32), I, J))
  else (
    some ((1 : Int32), I, J))) none) none
def F_Pl_inked (u : Nat) (x1 : Int32) (x2 : Int32) (x3 : Int32) (x4 : Int32) (I : pm_II) (J : pm_JJ) : Option (Int32 × pm_II × pm_JJ) :=
  if x1 < 0 then (
    some ((0 : Int32), I, J))
  else (
    if 32 ≤ x1 then (
      some ((0 : Int32), I, J))
    else (
      if x3 < 0 then (
        some ((0 : Int32), I, J))
      else (
        if 8 ≤ x3 then (
          some ((0 : Int32), I, J))
        else (
          if x4 < 0 then (
            some ((0 : Int32), I, J))
          else (
            if x4 < 8 then (
              if x2 = 0 then (
                F_Pl_inked_57 u x1 x3 x4 ((x4 * (8 : Int32)) + x3) I J)
              else (
                F_Pl_inked_57 u x1 x3 x4 ((63 : Int32) - ((x4 * (8 : Int32)) + x3)) I J))
            else (
              some ((0 : Int32), I, J)))))))
theorem fx_Pl_inked_57 {u k : Nat} {pa pb : Nat} {ga : Nat → Nat} {Q : Option Value → pm_H → Prop} {x1 : Int32} {x2 : Int32} {x3 : Int32} {x4 : Int32} {x5 : Int32} {s0 : Int32} {I : pm_II} {J : pm_JJ} {r : Int32} {I2 : pm_II} {J2 : pm_JJ} (hk : 0 ≤ k) (hF : F_Pl_inked_57 u x1 x3 x4 s0 I J = some (r, I2, J2)) (hQ : Q (some (.int r)) (hp I2 J2 (pm_RT pa pb ga))) : Px k 176 m_Pl_inked 57 [.ref 36, .int x1, .int x2, .int x3, .int x4, .int x5, .null] [.int s0] (hp I J (pm_RT pa pb ga)) Q := by
  unfold F_Pl_inked_57 at hF
  refine bk_Pl_inked_57 ?_
  obtain ⟨g, hF⟩ := gd_e hF
  refine ⟨vq_in g, ?_⟩
  obtain ⟨g, hF⟩ := gd_e hF
  refine ⟨vq_in g, ?_⟩
  refine ⟨fun z => ?_, fun z => ?_⟩
  · rw [if_pos z] at hF
    exact ret_q (Q := fun a b c => Q (some (.int a)) (hp b c (pm_RT pa pb ga))) hF hQ
  · rw [if_neg z] at hF
    exact ret_q (Q := fun a b c => Q (some (.int a)) (hp b c (pm_RT pa pb ga))) hF hQ
theorem fx_Pl_inked {u k : Nat} {pa pb : Nat} {ga : Nat → Nat} {Q : Option Value → pm_H → Prop} {x1 : Int32} {x2 : Int32} {x3 : Int32} {x4 : Int32} {I : pm_II} {J : pm_JJ} {r : Int32} {I2 : pm_II} {J2 : pm_JJ} (hk : 0 ≤ k) (hF : F_Pl_inked u x1 x2 x3 x4 I J = some (r, I2, J2)) (hQ : Q (some (.int r)) (hp I2 J2 (pm_RT pa pb ga))) : Px k 176 m_Pl_inked 0 [.ref 36, .int x1, .int x2, .int x3, .int x4, .null, .null] [] (hp I J (pm_RT pa pb ga)) Q := by
  unfold F_Pl_inked at hF
  refine bk_Pl_inked_0 ?_
  refine ⟨fun z => ?_, fun z => ?_⟩
  · rw [if_pos z] at hF
    exact ret_q (Q := fun a b c => Q (some (.int a)) (hp b c (pm_RT pa pb ga))) hF hQ
  · rw [if_neg z] at hF
    refine ⟨fun z => ?_, fun z => ?_⟩
    · rw [if_pos z] at hF
      exact ret_q (Q := fun a b c => Q (some (.int a)) (hp b c (pm_RT pa pb ga))) hF hQ
    · rw [if_neg z] at hF
      refine ⟨fun z => ?_, fun z => ?_⟩
      · rw [if_pos z] at hF
        exact ret_q (Q := fun a b c => Q (some (.int a)) (hp b c (pm_RT pa pb ga))) hF hQ
      · rw [if_neg z] at hF
        refine ⟨fun z => ?_, fun z => ?_⟩
        · rw [if_pos z] at hF
          exact ret_q (Q := fun a b c => Q (some (.int a)) (hp b c (pm_RT pa pb ga))) hF hQ
        · rw [if_neg z] at hF
          refine ⟨fun z => ?_, fun z => ?_⟩
          · rw [if_pos z] at hF
            exact ret_q (Q := fun a b c => Q (some (.int a)) (hp b c (pm_RT pa pb ga))) hF hQ
          · rw [if_neg z] at hF
            refine ⟨fun z => ?_, fun z => ?_⟩
            · rw [if_pos z] at hF
              refine ⟨fun z => ?_, fun z => ?_⟩
              · rw [if_pos z] at hF
                exact fx_Pl_inked_57 hk hF hQ
              · rw [if_neg z] at hF
                exact fx_Pl_inked_57 hk hF hQ
            · rw [if_neg z] at hF
              exact ret_q (Q := fun a b c => Q (some (.int a)) (hp b c (pm_RT pa pb ga))) hF hQ
def F_Pl_panelColumn (u : Nat) (x1 : Int32) (x2 : Int32) (I : pm_II) (J : pm_JJ) : Option (Int32 × pm_II × pm_JJ) :=
  if ¬ x1 = 1 then (
    some (x2, I, J))
  else (
    bd (F_Fo_columns u I J) fun r6 I6 J6 =>
    some (((r6 - (1 : Int32)) - x2), I6, J6))
theorem fx_Pl_panelColumn {u k : Nat} {pa pb : Nat} {ga : Nat → Nat} {Q : Option Value → pm_H → Prop} {x1 : Int32} {x2 : Int32} {I : pm_II} {J : pm_JJ} {r : Int32} {I2 : pm_II} {J2 : pm_JJ} (hk : 1 ≤ k) (hF : F_Pl_panelColumn u x1 x2 I J = some (r, I2, J2)) (hQ : Q (some (.int r)) (hp I2 J2 (pm_RT pa pb ga))) : Px k 176 m_Pl_panelColumn 0 [.ref 29, .int x1, .int x2] [] (hp I J (pm_RT pa pb ga)) Q := by
  obtain ⟨k, rfl⟩ : ∃ j, k = j + 1 := ⟨k - 1, by omega⟩
  unfold F_Pl_panelColumn at hF
  refine bk_Pl_panelColumn_0 ?_
  refine ⟨fun z => ?_, fun z => ?_⟩
  · rw [if_pos z] at hF
    exact ret_q (Q := fun a b c => Q (some (.int a)) (hp b c (pm_RT pa pb ga))) hF hQ
  · rw [if_neg z] at hF
    obtain ⟨r6, I6, J6, hC6, hF⟩ := bd_e hF
    refine fx_Fo_columns (by omega) hC6 ⟨rfl, ?_⟩
    refine bk_Pl_panelColumn_9 ?_
    exact ret_q (Q := fun a b c => Q (some (.int a)) (hp b c (pm_RT pa pb ga))) hF hQ
def F_Pl_pointAt (u : Nat) (x2 : Int32) (x3 : Int32) (x4 : Int32) (x5 : Int32) (I : pm_II) (J : pm_JJ) : Option (Int32 × pm_II × pm_JJ) :=
  if x4 < 0 then (
    some (((-1) : Int32), I, J))
  else (
    if x5 < 0 then (
      some (((-1) : Int32), I, J))
    else (
      bd (F_Fo_columns u I J) fun r16 I16 J16 =>
      if r16 ≤ (x4 / 8) then (
        some (((-1) : Int32), I16, J16))
      else (
        bd (F_Fo_rows u I16 J16) fun r28 I28 J28 =>
        if r28 ≤ (x5 / 8) then (
          some (((-1) : Int32), I28, J28))
        else (
          bd (F_Fo_hasSide u x2 x3 I28 J28) fun r37 I37 J37 =>
          if ¬ r37 = 0 then (
            bd (F_Pl_panelColumn u x3 (x4 / 8) I37 J37) fun r59 I59 J59 =>
            bd (F_Fo_pageOn u x2 x3 (x5 / 8) r59 I59 J59) fun r71 I71 J71 =>
            bd (F_Fo_isUpsideDown u (x5 / 8) r59 I71 J71) fun r84 I84 J84 =>
            bd (F_Pl_inked u r71 r84 (x4 - x4 / 8 * 8) (x5 - x5 / 8 * 8) I84 J84) fun r97 I97 J97 =>
            if r97 = 0 then (
              some ((0 : Int32), I97, J97))
            else (
              some ((1 : Int32), I97, J97)))
          else (
            some (((-1) : Int32), I37, J37))))))
theorem fx_Pl_pointAt {u k : Nat} {pa pb : Nat} {ga : Nat → Nat} {Q : Option Value → pm_H → Prop} {x2 : Int32} {x3 : Int32} {x4 : Int32} {x5 : Int32} {I : pm_II} {J : pm_JJ} {r : Int32} {I2 : pm_II} {J2 : pm_JJ} (hk : 3 ≤ k) (hF : F_Pl_pointAt u x2 x3 x4 x5 I J = some (r, I2, J2)) (hQ : Q (some (.int r)) (hp I2 J2 (pm_RT pa pb ga))) : Px k 176 m_Pl_pointAt 0 [.ref 36, .ref 29, .int x2, .int x3, .int x4, .int x5, .null, .null, .null] [] (hp I J (pm_RT pa pb ga)) Q := by
  obtain ⟨k, rfl⟩ : ∃ j, k = j + 1 := ⟨k - 1, by omega⟩
  unfold F_Pl_pointAt at hF
  refine bk_Pl_pointAt_0 ?_
  refine ⟨fun z => ?_, fun z => ?_⟩
  · rw [if_pos z] at hF
    exact ret_q (Q := fun a b c => Q (some (.int a)) (hp b c (pm_RT pa pb ga))) hF hQ
  · rw [if_neg z] at hF
    refine ⟨fun z => ?_, fun z => ?_⟩
    · rw [if_pos z] at hF
      exact ret_q (Q := fun a b c => Q (some (.int a)) (hp b c (pm_RT pa pb ga))) hF hQ
    · rw [if_neg z] at hF
      obtain ⟨r16, I16, J16, hC16, hF⟩ := bd_e hF
      refine fx_Fo_columns (by omega) hC16 ⟨rfl, ?_⟩
      refine bk_Pl_pointAt_19 ?_
      refine ⟨fun z => ?_, fun z => ?_⟩
      · rw [if_pos z] at hF
        exact ret_q (Q := fun a b c => Q (some (.int a)) (hp b c (pm_RT pa pb ga))) hF hQ
      · rw [if_neg z] at hF
        obtain ⟨r28, I28, J28, hC28, hF⟩ := bd_e hF
        refine fx_Fo_rows (by omega) hC28 ⟨rfl, ?_⟩
        refine bk_Pl_pointAt_31 ?_
        refine ⟨fun z => ?_, fun z => ?_⟩
        · rw [if_pos z] at hF
          exact ret_q (Q := fun a b c => Q (some (.int a)) (hp b c (pm_RT pa pb ga))) hF hQ
        · rw [if_neg z] at hF
          obtain ⟨r37, I37, J37, hC37, hF⟩ := bd_e hF
          refine fx_Fo_hasSide (by omega) hC37 ⟨rfl, ?_⟩
          refine bk_Pl_pointAt_40 ?_
          refine ⟨fun z => ?_, fun z => ?_⟩
          · rw [if_pos z] at hF
            obtain ⟨r59, I59, J59, hC59, hF⟩ := bd_e hF
            refine fx_Pl_panelColumn (by omega) hC59 ⟨rfl, ?_⟩
            refine bk_Pl_pointAt_62 ?_
            obtain ⟨r71, I71, J71, hC71, hF⟩ := bd_e hF
            refine fx_Fo_pageOn (by omega) hC71 ⟨rfl, ?_⟩
            refine bk_Pl_pointAt_74 ?_
            obtain ⟨r84, I84, J84, hC84, hF⟩ := bd_e hF
            refine fx_Fo_isUpsideDown (by omega) hC84 ⟨rfl, ?_⟩
            refine bk_Pl_pointAt_87 ?_
            obtain ⟨r97, I97, J97, hC97, hF⟩ := bd_e hF
            refine fx_Pl_inked (by omega) hC97 ⟨rfl, ?_⟩
            refine bk_Pl_pointAt_100 ?_
            refine ⟨fun z => ?_, fun z => ?_⟩
            · rw [if_pos z] at hF
              exact ret_q (Q := fun a b c => Q (some (.int a)) (hp b c (pm_RT pa pb ga))) hF hQ
            · rw [if_neg z] at hF
              exact ret_q (Q := fun a b c => Q (some (.int a)) (hp b c (pm_RT pa pb ga))) hF hQ
          · rw [if_neg z] at hF
            exact ret_q (Q := fun a b c => Q (some (.int a)) (hp b c (pm_RT pa pb ga))) hF hQ
def F_Pl_inkedOf_46 (u : Nat) (x3 : Int32) (I : pm_II) (J : pm_JJ) : Option (Int32 × pm_II × pm_JJ) :=
  some (x3, I, J)
def F_Pl_inkedOf_5 (u : Nat) : Nat → Int32 → Int32 → Int32 → Int32 → pm_II → pm_JJ → Option (Int32 × pm_II × pm_JJ)
  | 0, _, _, _, _, _, _ => none
  | n + 1, x1, x2, x3, x4, I, J =>
    if 64 ≤ x4 then (
      F_Pl_inkedOf_46 u x3 I J)
    else (
      if 32 ≤ x1 then (
        F_Pl_inkedOf_46 u x3 I J)
      else (
        bd (F_Pl_inked u x1 x2 (x4 - x4 / 8 * 8) (x4 / 8) I J) fun r31 I31 J31 =>
        if r31 = 0 then (
          F_Pl_inkedOf_5 u n x1 x2 x3 (x4 + Int32.ofInt 1) I31 J31)
        else (
          F_Pl_inkedOf_5 u n x1 x2 (x3 + Int32.ofInt 1) (x4 + Int32.ofInt 1) I31 J31)))
def F_Pl_inkedOf (u : Nat) (x1 : Int32) (x2 : Int32) (I : pm_II) (J : pm_JJ) : Option (Int32 × pm_II × pm_JJ) :=
  F_Pl_inkedOf_5 u u x1 x2 (0 : Int32) (0 : Int32) I J
theorem fx_Pl_inkedOf_46 {u k : Nat} {pa pb : Nat} {ga : Nat → Nat} {Q : Option Value → pm_H → Prop} {x1 : Int32} {x2 : Int32} {x3 : Int32} {x4 : Int32} {I : pm_II} {J : pm_JJ} {r : Int32} {I2 : pm_II} {J2 : pm_JJ} (hk : 1 ≤ k) (hF : F_Pl_inkedOf_46 u x3 I J = some (r, I2, J2)) (hQ : Q (some (.int r)) (hp I2 J2 (pm_RT pa pb ga))) : Px k 176 m_Pl_inkedOf 46 [.ref 36, .int x1, .int x2, .int x3, .int x4] [] (hp I J (pm_RT pa pb ga)) Q := by
  obtain ⟨k, rfl⟩ : ∃ j, k = j + 1 := ⟨k - 1, by omega⟩
  unfold F_Pl_inkedOf_46 at hF
  refine bk_Pl_inkedOf_46 ?_
  exact ret_q (Q := fun a b c => Q (some (.int a)) (hp b c (pm_RT pa pb ga))) hF hQ
theorem fx_Pl_inkedOf_5 {u k : Nat} {pa pb : Nat} {ga : Nat → Nat} {Q : Option Value → pm_H → Prop} (hk : 1 ≤ k) : ∀ (n : Nat), ∀ (x1 : Int32) (x2 : Int32) (x3 : Int32) (x4 : Int32) (I : pm_II) (J : pm_JJ) (r : Int32) (I2 : pm_II) (J2 : pm_JJ), F_Pl_inkedOf_5 u n x1 x2 x3 x4 I J = some (r, I2, J2) → Q (some (.int r)) (hp I2 J2 (pm_RT pa pb ga)) → Px k 176 m_Pl_inkedOf 5 [.ref 36, .int x1, .int x2, .int x3, .int x4] [] (hp I J (pm_RT pa pb ga)) Q := by
  obtain ⟨k, rfl⟩ : ∃ j, k = j + 1 := ⟨k - 1, by omega⟩
  intro n
  induction n with
  | zero => intro x1 x2 x3 x4 I J r I2 J2  hF; cases hF
  | succ n ih =>
    intro x1 x2 x3 x4 I J r I2 J2  hF hQ
    rw [F_Pl_inkedOf_5] at hF
    refine bk_Pl_inkedOf_5 ?_
    refine ⟨fun z => ?_, fun z => ?_⟩
    · rw [if_pos z] at hF
      exact fx_Pl_inkedOf_46 hk hF hQ
    · rw [if_neg z] at hF
      refine ⟨fun z => ?_, fun z => ?_⟩
      · rw [if_pos z] at hF
        exact fx_Pl_inkedOf_46 hk hF hQ
      · rw [if_neg z] at hF
        obtain ⟨r31, I31, J31, hC31, hF⟩ := bd_e hF
        refine fx_Pl_inked (by omega) hC31 ⟨rfl, ?_⟩
        refine bk_Pl_inkedOf_34 ?_
        refine ⟨fun z => ?_, fun z => ?_⟩
        · rw [if_pos z] at hF
          exact ih _ _ _ _ _ _ _ _ _ hF hQ
        · rw [if_neg z] at hF
          exact ih _ _ _ _ _ _ _ _ _ hF hQ
theorem fx_Pl_inkedOf {u k : Nat} {pa pb : Nat} {ga : Nat → Nat} {Q : Option Value → pm_H → Prop} {x1 : Int32} {x2 : Int32} {I : pm_II} {J : pm_JJ} {r : Int32} {I2 : pm_II} {J2 : pm_JJ} (hk : 1 ≤ k) (hF : F_Pl_inkedOf u x1 x2 I J = some (r, I2, J2)) (hQ : Q (some (.int r)) (hp I2 J2 (pm_RT pa pb ga))) : Px k 176 m_Pl_inkedOf 0 [.ref 36, .int x1, .int x2, .null, .null] [] (hp I J (pm_RT pa pb ga)) Q := by
  obtain ⟨k, rfl⟩ : ∃ j, k = j + 1 := ⟨k - 1, by omega⟩
  unfold F_Pl_inkedOf at hF
  refine bk_Pl_inkedOf_0 ?_
  exact fx_Pl_inkedOf_5 hk u _ _ _ _ _ _ _ _ _ hF hQ
def F_Pl_coverageOf_15 (u : Nat) : Nat → Int32 → Int32 → Int32 → Int32 → Int32 → pm_II → pm_JJ → Option (Int32 × pm_II × pm_JJ)
  | 0, _, _, _, _, _, _, _ => none
  | n + 1, x2, x3, x5, x6, x7, I, J =>
    bd (F_Fo_rows u I J) fun r18 I18 J18 =>
    if r18 ≤ x7 then (
      some (x6, I18, J18))
    else (
      bd (F_Fo_pageOn u x2 x3 x7 x5 I18 J18) fun r34 I34 J34 =>
      bd (F_Fo_isUpsideDown u x7 x5 I34 J34) fun r42 I42 J42 =>
      bd (F_Pl_inkedOf u r34 r42 I42 J42) fun r45 I45 J45 =>
      F_Pl_coverageOf_15 u n x2 x3 x5 (x6 + r45) (x7 + Int32.ofInt 1) I45 J45)
def F_Pl_coverageOf (u : Nat) (x2 : Int32) (x3 : Int32) (x4 : Int32) (I : pm_II) (J : pm_JJ) : Option (Int32 × pm_II × pm_JJ) :=
  bd (F_Pl_panelColumn u x3 x4 I J) fun r4 I4 J4 =>
  F_Pl_coverageOf_15 u u x2 x3 r4 (0 : Int32) (0 : Int32) I4 J4
theorem fx_Pl_coverageOf_15 {u k : Nat} {pa pb : Nat} {ga : Nat → Nat} {Q : Option Value → pm_H → Prop} (hk : 3 ≤ k) : ∀ (n : Nat), ∀ (x2 : Int32) (x3 : Int32) (x4 : Int32) (x5 : Int32) (x6 : Int32) (x7 : Int32) (I : pm_II) (J : pm_JJ) (r : Int32) (I2 : pm_II) (J2 : pm_JJ), F_Pl_coverageOf_15 u n x2 x3 x5 x6 x7 I J = some (r, I2, J2) → Q (some (.int r)) (hp I2 J2 (pm_RT pa pb ga)) → Px k 176 m_Pl_coverageOf 15 [.ref 36, .ref 29, .int x2, .int x3, .int x4, .int x5, .int x6, .int x7] [] (hp I J (pm_RT pa pb ga)) Q := by
  obtain ⟨k, rfl⟩ : ∃ j, k = j + 1 := ⟨k - 1, by omega⟩
  intro n
  induction n with
  | zero => intro x2 x3 x4 x5 x6 x7 I J r I2 J2  hF; cases hF
  | succ n ih =>
    intro x2 x3 x4 x5 x6 x7 I J r I2 J2  hF hQ
    rw [F_Pl_coverageOf_15] at hF
    refine bk_Pl_coverageOf_15 ?_
    obtain ⟨r18, I18, J18, hC18, hF⟩ := bd_e hF
    refine fx_Fo_rows (by omega) hC18 ⟨rfl, ?_⟩
    refine bk_Pl_coverageOf_21 ?_
    refine ⟨fun z => ?_, fun z => ?_⟩
    · rw [if_pos z] at hF
      exact ret_q (Q := fun a b c => Q (some (.int a)) (hp b c (pm_RT pa pb ga))) hF hQ
    · rw [if_neg z] at hF
      obtain ⟨r34, I34, J34, hC34, hF⟩ := bd_e hF
      refine fx_Fo_pageOn (by omega) hC34 ⟨rfl, ?_⟩
      refine bk_Pl_coverageOf_37 ?_
      obtain ⟨r42, I42, J42, hC42, hF⟩ := bd_e hF
      refine fx_Fo_isUpsideDown (by omega) hC42 ⟨rfl, ?_⟩
      refine bk_Pl_coverageOf_45 ?_
      obtain ⟨r45, I45, J45, hC45, hF⟩ := bd_e hF
      refine fx_Pl_inkedOf (by omega) hC45 ⟨rfl, ?_⟩
      refine bk_Pl_coverageOf_48 ?_
      exact ih _ _ _ _ _ _ _ _ _ _ _ hF hQ
theorem fx_Pl_coverageOf {u k : Nat} {pa pb : Nat} {ga : Nat → Nat} {Q : Option Value → pm_H → Prop} {x2 : Int32} {x3 : Int32} {x4 : Int32} {I : pm_II} {J : pm_JJ} {r : Int32} {I2 : pm_II} {J2 : pm_JJ} (hk : 3 ≤ k) (hF : F_Pl_coverageOf u x2 x3 x4 I J = some (r, I2, J2)) (hQ : Q (some (.int r)) (hp I2 J2 (pm_RT pa pb ga))) : Px k 176 m_Pl_coverageOf 0 [.ref 36, .ref 29, .int x2, .int x3, .int x4, .null, .null, .null] [] (hp I J (pm_RT pa pb ga)) Q := by
  obtain ⟨k, rfl⟩ : ∃ j, k = j + 1 := ⟨k - 1, by omega⟩
  unfold F_Pl_coverageOf at hF
  refine bk_Pl_coverageOf_0 ?_
  obtain ⟨r4, I4, J4, hC4, hF⟩ := bd_e hF
  refine fx_Pl_panelColumn (by omega) hC4 ⟨rfl, ?_⟩
  refine bk_Pl_coverageOf_7 ?_
  exact fx_Pl_coverageOf_15 hk u _ _ _ _ _ _ _ _ _ _ _ hF hQ
def F_Pr_clear_22 (u : Nat) : Nat → Int32 → pm_II → pm_JJ → Option (Unit × pm_II × pm_JJ)
  | 0, _, _, _ => none
  | n + 1, x2, I, J =>
    if (Int32.ofNat 126) ≤ x2 then (
      some ((), I, J))
    else (
      cond (vq x2 126) (
      F_Pr_clear_22 u n (x2 + Int32.ofInt 1) (pm_up I 47 ((x2 : Int32).toNatClampNeg) 0) J) none)
def F_Pr_clear (u : Nat) (x1 : Int32) (I : pm_II) (J : pm_JJ) : Option (Unit × pm_II × pm_JJ) :=
  bd (F_Jm_min_II u x1 (8 : Int32) I J) fun r4 I4 J4 =>
  F_Pr_clear_22 u u (0 : Int32) (pm_up (pm_up (pm_up I4 39 8 r4) 39 12 0) 39 13 0) J4
theorem fx_Pr_clear_22 {u k : Nat} {pa pb : Nat} {ga : Nat → Nat} {Q : Option Value → pm_H → Prop} (hk : 1 ≤ k) : ∀ (n : Nat), ∀ (x1 : Int32) (x2 : Int32) (I : pm_II) (J : pm_JJ) (r : Unit) (I2 : pm_II) (J2 : pm_JJ), F_Pr_clear_22 u n x2 I J = some (r, I2, J2) → Q none (hp I2 J2 (pm_RT pa pb ga)) → Px k 176 m_Pr_clear 22 [.ref 39, .int x1, .int x2] [] (hp I J (pm_RT pa pb ga)) Q := by
  obtain ⟨k, rfl⟩ : ∃ j, k = j + 1 := ⟨k - 1, by omega⟩
  intro n
  induction n with
  | zero => intro x1 x2 I J r I2 J2  hF; cases hF
  | succ n ih =>
    intro x1 x2 I J r I2 J2  hF hQ
    rw [F_Pr_clear_22] at hF
    refine bk_Pr_clear_22 ?_
    refine ⟨fun z => ?_, fun z => ?_⟩
    · rw [if_pos z] at hF
      exact ret_q (Q := fun a b c => Q none (hp b c (pm_RT pa pb ga))) hF hQ
    · rw [if_neg z] at hF
      obtain ⟨g, hF⟩ := gd_e hF
      refine ⟨vq_in g, ?_⟩
      exact ih _ _ _ _ _ _ _ hF hQ
theorem fx_Pr_clear {u k : Nat} {pa pb : Nat} {ga : Nat → Nat} {Q : Option Value → pm_H → Prop} {x1 : Int32} {I : pm_II} {J : pm_JJ} {r : Unit} {I2 : pm_II} {J2 : pm_JJ} (hk : 1 ≤ k) (hF : F_Pr_clear u x1 I J = some (r, I2, J2)) (hQ : Q none (hp I2 J2 (pm_RT pa pb ga))) : Px k 176 m_Pr_clear 0 [.ref 39, .int x1, .null] [] (hp I J (pm_RT pa pb ga)) Q := by
  obtain ⟨k, rfl⟩ : ∃ j, k = j + 1 := ⟨k - 1, by omega⟩
  unfold F_Pr_clear at hF
  refine bk_Pr_clear_0 ?_
  obtain ⟨r4, I4, J4, hC4, hF⟩ := bd_e hF
  refine fx_Jm_min_II (by omega) hC4 ⟨rfl, ?_⟩
  refine bk_Pr_clear_7 ?_
  exact fx_Pr_clear_22 hk u _ _ _ _ _ _ _ hF hQ
def F_Pr_cleanFilms (u : Nat) (x1 : Int32) (I : pm_II) (J : pm_JJ) : Option (Unit × pm_II × pm_JJ) :=
  cond (vq x1 9) (
  cond (vq x1 9) (
  cond (vq x1 9) (
  cond (vq x1 9) (
  some ((), (pm_up (pm_up (pm_up (pm_up I 43 ((x1 : Int32).toNatClampNeg) 0) 44 ((x1 : Int32).toNatClampNeg) 0) 45 ((x1 : Int32).toNatClampNeg) 0) 46 ((x1 : Int32).toNatClampNeg) 0), J)) none) none) none) none
theorem fx_Pr_cleanFilms {u k : Nat} {pa pb : Nat} {ga : Nat → Nat} {Q : Option Value → pm_H → Prop} {x1 : Int32} {I : pm_II} {J : pm_JJ} {r : Unit} {I2 : pm_II} {J2 : pm_JJ} (hk : 0 ≤ k) (hF : F_Pr_cleanFilms u x1 I J = some (r, I2, J2)) (hQ : Q none (hp I2 J2 (pm_RT pa pb ga))) : Px k 176 m_Pr_cleanFilms 0 [.ref 39, .int x1] [] (hp I J (pm_RT pa pb ga)) Q := by
  unfold F_Pr_cleanFilms at hF
  refine bk_Pr_cleanFilms_0 ?_
  obtain ⟨g, hF⟩ := gd_e hF
  refine ⟨vq_in g, ?_⟩
  obtain ⟨g, hF⟩ := gd_e hF
  refine ⟨vq_in g, ?_⟩
  obtain ⟨g, hF⟩ := gd_e hF
  refine ⟨vq_in g, ?_⟩
  obtain ⟨g, hF⟩ := gd_e hF
  refine ⟨vq_in g, ?_⟩
  exact ret_q (Q := fun a b c => Q none (hp b c (pm_RT pa pb ga))) hF hQ
def F_Pr_cover_35 (u : Nat) (I : pm_II) (J : pm_JJ) : Option (Unit × pm_II × pm_JJ) :=
  some ((), I, J)
def F_Pr_cover (u : Nat) (x1 : Int32) (x2 : Int32) (x3 : Int32) (I : pm_II) (J : pm_JJ) : Option (Unit × pm_II × pm_JJ) :=
  if x1 < 0 then (
    F_Pr_cover_35 u I J)
  else (
    if 8 ≤ x1 then (
      F_Pr_cover_35 u I J)
    else (
      if x3 ≤ 0 then (
        F_Pr_cover_35 u I J)
      else (
        cond (vq x1 9) (
        if ¬ x3 = 0 then (
        cond (vq x1 9) (
        bd (F_Pr_cleanFilms u x1 (pm_up (pm_up I 41 ((x1 : Int32).toNatClampNeg) x2) 42 ((x1 : Int32).toNatClampNeg) (x2 / x3)) J) fun _ I32 J32 =>
        F_Pr_cover_35 u I32 J32) none) else none) none)))
theorem fx_Pr_cover_35 {u k : Nat} {pa pb : Nat} {ga : Nat → Nat} {Q : Option Value → pm_H → Prop} {x1 : Int32} {x2 : Int32} {x3 : Int32} {I : pm_II} {J : pm_JJ} {r : Unit} {I2 : pm_II} {J2 : pm_JJ} (hk : 1 ≤ k) (hF : F_Pr_cover_35 u  I J = some (r, I2, J2)) (hQ : Q none (hp I2 J2 (pm_RT pa pb ga))) : Px k 176 m_Pr_cover 35 [.ref 39, .int x1, .int x2, .int x3] [] (hp I J (pm_RT pa pb ga)) Q := by
  obtain ⟨k, rfl⟩ : ∃ j, k = j + 1 := ⟨k - 1, by omega⟩
  unfold F_Pr_cover_35 at hF
  refine bk_Pr_cover_35 ?_
  exact ret_q (Q := fun a b c => Q none (hp b c (pm_RT pa pb ga))) hF hQ
theorem fx_Pr_cover {u k : Nat} {pa pb : Nat} {ga : Nat → Nat} {Q : Option Value → pm_H → Prop} {x1 : Int32} {x2 : Int32} {x3 : Int32} {I : pm_II} {J : pm_JJ} {r : Unit} {I2 : pm_II} {J2 : pm_JJ} (hk : 1 ≤ k) (hF : F_Pr_cover u x1 x2 x3 I J = some (r, I2, J2)) (hQ : Q none (hp I2 J2 (pm_RT pa pb ga))) : Px k 176 m_Pr_cover 0 [.ref 39, .int x1, .int x2, .int x3] [] (hp I J (pm_RT pa pb ga)) Q := by
  obtain ⟨k, rfl⟩ : ∃ j, k = j + 1 := ⟨k - 1, by omega⟩
  unfold F_Pr_cover at hF
  refine bk_Pr_cover_0 ?_
  refine ⟨fun z => ?_, fun z => ?_⟩
  · rw [if_pos z] at hF
    exact fx_Pr_cover_35 hk hF hQ
  · rw [if_neg z] at hF
    refine ⟨fun z => ?_, fun z => ?_⟩
    · rw [if_pos z] at hF
      exact fx_Pr_cover_35 hk hF hQ
    · rw [if_neg z] at hF
      refine ⟨fun z => ?_, fun z => ?_⟩
      · rw [if_pos z] at hF
        exact fx_Pr_cover_35 hk hF hQ
      · rw [if_neg z] at hF
        obtain ⟨g, hF⟩ := gd_e hF
        refine ⟨vq_in g, ?_⟩
        obtain ⟨g, hF⟩ := ge_e hF
        refine ⟨g, ?_⟩
        obtain ⟨g, hF⟩ := gd_e hF
        refine ⟨vq_in g, ?_⟩
        obtain ⟨r32, I32, J32, hC32, hF⟩ := bd_e hF
        refine fx_Pr_cleanFilms (by omega) hC32 ⟨rfl, ?_⟩
        exact fx_Pr_cover_35 hk hF hQ
def F_Pr_turnKey (u : Nat) (x1 : Int32) (x2 : Int32) (I : pm_II) (J : pm_JJ) : Option (Int32 × pm_II × pm_JJ) :=
  if x1 < 0 then (
    some (((-1) : Int32), I, J))
  else (
    if 8 ≤ x1 then (
      some (((-1) : Int32), I, J))
    else (
      if x2 < 0 then (
        some (((-1) : Int32), I, J))
      else (
        if x2 ≤ 255 then (
          cond (vq x1 9) (
          cond (vq x1 9) (
          some ((I 40 ((x1 : Int32).toNatClampNeg)), (pm_up I 40 ((x1 : Int32).toNatClampNeg) x2), J)) none) none)
        else (
          some (((-1) : Int32), I, J)))))
theorem fx_Pr_turnKey {u k : Nat} {pa pb : Nat} {ga : Nat → Nat} {Q : Option Value → pm_H → Prop} {x1 : Int32} {x2 : Int32} {I : pm_II} {J : pm_JJ} {r : Int32} {I2 : pm_II} {J2 : pm_JJ} (hk : 0 ≤ k) (hF : F_Pr_turnKey u x1 x2 I J = some (r, I2, J2)) (hQ : Q (some (.int r)) (hp I2 J2 (pm_RT pa pb ga))) : Px k 176 m_Pr_turnKey 0 [.ref 39, .int x1, .int x2, .null] [] (hp I J (pm_RT pa pb ga)) Q := by
  unfold F_Pr_turnKey at hF
  refine bk_Pr_turnKey_0 ?_
  refine ⟨fun z => ?_, fun z => ?_⟩
  · rw [if_pos z] at hF
    exact ret_q (Q := fun a b c => Q (some (.int a)) (hp b c (pm_RT pa pb ga))) hF hQ
  · rw [if_neg z] at hF
    refine ⟨fun z => ?_, fun z => ?_⟩
    · rw [if_pos z] at hF
      exact ret_q (Q := fun a b c => Q (some (.int a)) (hp b c (pm_RT pa pb ga))) hF hQ
    · rw [if_neg z] at hF
      refine ⟨fun z => ?_, fun z => ?_⟩
      · rw [if_pos z] at hF
        exact ret_q (Q := fun a b c => Q (some (.int a)) (hp b c (pm_RT pa pb ga))) hF hQ
      · rw [if_neg z] at hF
        refine ⟨fun z => ?_, fun z => ?_⟩
        · rw [if_pos z] at hF
          obtain ⟨g, hF⟩ := gd_e hF
          refine ⟨vq_in g, ?_⟩
          obtain ⟨g, hF⟩ := gd_e hF
          refine ⟨vq_in g, ?_⟩
          exact ret_q (Q := fun a b c => Q (some (.int a)) (hp b c (pm_RT pa pb ga))) hF hQ
        · rw [if_neg z] at hF
          exact ret_q (Q := fun a b c => Q (some (.int a)) (hp b c (pm_RT pa pb ga))) hF hQ
def F_Pr_aimAt (u : Nat) (x1 : Int32) (x2 : Int32) (x3 : Int32) (I : pm_II) (J : pm_JJ) : Option (Int32 × pm_II × pm_JJ) :=
  if x1 < 0 then (
    some (((-1) : Int32), I, J))
  else (
    if 4000 < x1 then (
      some (((-1) : Int32), I, J))
    else (
      if x2 < 0 then (
        some (((-1) : Int32), I, J))
      else (
        if x2 ≤ 400 then (
          if x3 < 0 then (
            some (((-1) : Int32), I, J))
          else (
            if x3 ≤ 99 then (
              some ((1 : Int32), (pm_up (pm_up (pm_up I 39 9 x1) 39 10 x2) 39 11 x3), J))
            else (
              some (((-1) : Int32), I, J))))
        else (
          some (((-1) : Int32), I, J)))))
theorem fx_Pr_aimAt {u k : Nat} {pa pb : Nat} {ga : Nat → Nat} {Q : Option Value → pm_H → Prop} {x1 : Int32} {x2 : Int32} {x3 : Int32} {I : pm_II} {J : pm_JJ} {r : Int32} {I2 : pm_II} {J2 : pm_JJ} (hk : 0 ≤ k) (hF : F_Pr_aimAt u x1 x2 x3 I J = some (r, I2, J2)) (hQ : Q (some (.int r)) (hp I2 J2 (pm_RT pa pb ga))) : Px k 176 m_Pr_aimAt 0 [.ref 39, .int x1, .int x2, .int x3] [] (hp I J (pm_RT pa pb ga)) Q := by
  unfold F_Pr_aimAt at hF
  refine bk_Pr_aimAt_0 ?_
  refine ⟨fun z => ?_, fun z => ?_⟩
  · rw [if_pos z] at hF
    exact ret_q (Q := fun a b c => Q (some (.int a)) (hp b c (pm_RT pa pb ga))) hF hQ
  · rw [if_neg z] at hF
    refine ⟨fun z => ?_, fun z => ?_⟩
    · rw [if_pos z] at hF
      exact ret_q (Q := fun a b c => Q (some (.int a)) (hp b c (pm_RT pa pb ga))) hF hQ
    · rw [if_neg z] at hF
      refine ⟨fun z => ?_, fun z => ?_⟩
      · rw [if_pos z] at hF
        exact ret_q (Q := fun a b c => Q (some (.int a)) (hp b c (pm_RT pa pb ga))) hF hQ
      · rw [if_neg z] at hF
        refine ⟨fun z => ?_, fun z => ?_⟩
        · rw [if_pos z] at hF
          refine ⟨fun z => ?_, fun z => ?_⟩
          · rw [if_pos z] at hF
            exact ret_q (Q := fun a b c => Q (some (.int a)) (hp b c (pm_RT pa pb ga))) hF hQ
          · rw [if_neg z] at hF
            refine ⟨fun z => ?_, fun z => ?_⟩
            · rw [if_pos z] at hF
              exact ret_q (Q := fun a b c => Q (some (.int a)) (hp b c (pm_RT pa pb ga))) hF hQ
            · rw [if_neg z] at hF
              exact ret_q (Q := fun a b c => Q (some (.int a)) (hp b c (pm_RT pa pb ga))) hF hQ
        · rw [if_neg z] at hF
          exact ret_q (Q := fun a b c => Q (some (.int a)) (hp b c (pm_RT pa pb ga))) hF hQ
def F_Pr_ink (u : Nat) (x1 : Int32) (I : pm_II) (J : pm_JJ) : Option (Unit × pm_II × pm_JJ) :=
  cond (vq x1 9) (
  cond (vq x1 9) (
  cond (vq x1 9) (
  cond (vq x1 9) (
  cond (vq x1 9) (
  bd (F_Jm_floorDiv_II u (((pm_up I 43 ((x1 : Int32).toNatClampNeg) ((I 43 ((x1 : Int32).toNatClampNeg)) + ((16 : Int32) * (I 40 ((x1 : Int32).toNatClampNeg))))) 43 ((x1 : Int32).toNatClampNeg)) - (I 44 ((x1 : Int32).toNatClampNeg))) (3 : Int32) (pm_up I 43 ((x1 : Int32).toNatClampNeg) ((I 43 ((x1 : Int32).toNatClampNeg)) + ((16 : Int32) * (I 40 ((x1 : Int32).toNatClampNeg))))) J) fun r32 I32 J32 =>
  cond (vq x1 9) (
  cond (vq x1 9) (
  cond (vq x1 9) (
  cond (vq x1 9) (
  cond (vq x1 9) (
  cond (vq x1 9) (
  bd (F_Jm_floorDiv_II u (((pm_up (pm_up I32 43 ((x1 : Int32).toNatClampNeg) ((I32 43 ((x1 : Int32).toNatClampNeg)) - r32)) 44 ((x1 : Int32).toNatClampNeg) ((I32 44 ((x1 : Int32).toNatClampNeg)) + r32)) 44 ((x1 : Int32).toNatClampNeg)) * (I32 42 ((x1 : Int32).toNatClampNeg))) (512 : Int32) (pm_up (pm_up I32 43 ((x1 : Int32).toNatClampNeg) ((I32 43 ((x1 : Int32).toNatClampNeg)) - r32)) 44 ((x1 : Int32).toNatClampNeg) ((I32 44 ((x1 : Int32).toNatClampNeg)) + r32)) J32) fun r77 I77 J77 =>
  cond (vq x1 9) (
  cond (vq x1 9) (
  cond (vq x1 9) (
  cond (vq x1 9) (
  cond (vq x1 9) (
  cond (vq x1 9) (
  cond (vq x1 9) (
  some ((), (pm_up (pm_up (pm_up I77 45 ((x1 : Int32).toNatClampNeg) r77) 44 ((x1 : Int32).toNatClampNeg) ((I77 44 ((x1 : Int32).toNatClampNeg)) - ((pm_up I77 45 ((x1 : Int32).toNatClampNeg) r77) 45 ((x1 : Int32).toNatClampNeg)))) 46 ((x1 : Int32).toNatClampNeg) ((I77 46 ((x1 : Int32).toNatClampNeg)) + ((pm_up I77 45 ((x1 : Int32).toNatClampNeg) r77) 45 ((x1 : Int32).toNatClampNeg)))), J77)) none) none) none) none) none) none) none) none) none) none) none) none) none) none) none) none) none) none
theorem fx_Pr_ink {u k : Nat} {pa pb : Nat} {ga : Nat → Nat} {Q : Option Value → pm_H → Prop} {x1 : Int32} {I : pm_II} {J : pm_JJ} {r : Unit} {I2 : pm_II} {J2 : pm_JJ} (hk : 1 ≤ k) (hF : F_Pr_ink u x1 I J = some (r, I2, J2)) (hQ : Q none (hp I2 J2 (pm_RT pa pb ga))) : Px k 176 m_Pr_ink 0 [.ref 39, .int x1, .null] [] (hp I J (pm_RT pa pb ga)) Q := by
  obtain ⟨k, rfl⟩ : ∃ j, k = j + 1 := ⟨k - 1, by omega⟩
  unfold F_Pr_ink at hF
  refine bk_Pr_ink_0 ?_
  obtain ⟨g, hF⟩ := gd_e hF
  refine ⟨vq_in g, ?_⟩
  obtain ⟨g, hF⟩ := gd_e hF
  refine ⟨vq_in g, ?_⟩
  obtain ⟨g, hF⟩ := gd_e hF
  refine ⟨vq_in g, ?_⟩
  obtain ⟨g, hF⟩ := gd_e hF
  refine ⟨vq_in g, ?_⟩
  obtain ⟨g, hF⟩ := gd_e hF
  refine ⟨vq_in g, ?_⟩
  obtain ⟨r32, I32, J32, hC32, hF⟩ := bd_e hF
  refine fx_Jm_floorDiv_II (by omega) hC32 ⟨rfl, ?_⟩
  refine bk_Pr_ink_35 ?_
  obtain ⟨g, hF⟩ := gd_e hF
  refine ⟨vq_in g, ?_⟩
  obtain ⟨g, hF⟩ := gd_e hF
  refine ⟨vq_in g, ?_⟩
  obtain ⟨g, hF⟩ := gd_e hF
  refine ⟨vq_in g, ?_⟩
  obtain ⟨g, hF⟩ := gd_e hF
  refine ⟨vq_in g, ?_⟩
  obtain ⟨g, hF⟩ := gd_e hF
  refine ⟨vq_in g, ?_⟩
  obtain ⟨g, hF⟩ := gd_e hF
  refine ⟨vq_in g, ?_⟩
  obtain ⟨r77, I77, J77, hC77, hF⟩ := bd_e hF
  refine fx_Jm_floorDiv_II (by omega) hC77 ⟨rfl, ?_⟩
  refine bk_Pr_ink_80 ?_
  obtain ⟨g, hF⟩ := gd_e hF
  refine ⟨vq_in g, ?_⟩
  obtain ⟨g, hF⟩ := gd_e hF
  refine ⟨vq_in g, ?_⟩
  obtain ⟨g, hF⟩ := gd_e hF
  refine ⟨vq_in g, ?_⟩
  obtain ⟨g, hF⟩ := gd_e hF
  refine ⟨vq_in g, ?_⟩
  obtain ⟨g, hF⟩ := gd_e hF
  refine ⟨vq_in g, ?_⟩
  obtain ⟨g, hF⟩ := gd_e hF
  refine ⟨vq_in g, ?_⟩
  obtain ⟨g, hF⟩ := gd_e hF
  refine ⟨vq_in g, ?_⟩
  exact ret_q (Q := fun a b c => Q none (hp b c (pm_RT pa pb ga))) hF hQ
def F_Pr_trialDensity_16 (u : Nat) : Nat → Int32 → pm_II → pm_JJ → Option (Int32 × pm_II × pm_JJ)
  | 0, _, _, _ => none
  | n + 1, x2, I, J =>
    if 40 ≤ x2 then (
      some ((I 45 8), I, J))
    else (
      bd (F_Pr_ink u (8 : Int32) I J) fun _ I25 J25 =>
      F_Pr_trialDensity_16 u n (x2 + Int32.ofInt 1) I25 J25)
def F_Pr_trialDensity (u : Nat) (x1 : Int32) (I : pm_II) (J : pm_JJ) : Option (Int32 × pm_II × pm_JJ) :=
  bd (F_Pr_cleanFilms u (8 : Int32) (pm_up I 40 8 x1) J) fun _ I11 J11 =>
  F_Pr_trialDensity_16 u u (0 : Int32) I11 J11
theorem fx_Pr_trialDensity_16 {u k : Nat} {pa pb : Nat} {ga : Nat → Nat} {Q : Option Value → pm_H → Prop} (hk : 2 ≤ k) : ∀ (n : Nat), ∀ (x1 : Int32) (x2 : Int32) (I : pm_II) (J : pm_JJ) (r : Int32) (I2 : pm_II) (J2 : pm_JJ), F_Pr_trialDensity_16 u n x2 I J = some (r, I2, J2) → Q (some (.int r)) (hp I2 J2 (pm_RT pa pb ga)) → Px k 176 m_Pr_trialDensity 16 [.ref 39, .int x1, .int x2] [] (hp I J (pm_RT pa pb ga)) Q := by
  obtain ⟨k, rfl⟩ : ∃ j, k = j + 1 := ⟨k - 1, by omega⟩
  intro n
  induction n with
  | zero => intro x1 x2 I J r I2 J2  hF; cases hF
  | succ n ih =>
    intro x1 x2 I J r I2 J2  hF hQ
    rw [F_Pr_trialDensity_16] at hF
    refine bk_Pr_trialDensity_16 ?_
    refine ⟨fun z => ?_, fun z => ?_⟩
    · rw [if_pos z] at hF
      exact ret_q (Q := fun a b c => Q (some (.int a)) (hp b c (pm_RT pa pb ga))) hF hQ
    · rw [if_neg z] at hF
      obtain ⟨r25, I25, J25, hC25, hF⟩ := bd_e hF
      refine fx_Pr_ink (by omega) hC25 ⟨rfl, ?_⟩
      refine bk_Pr_trialDensity_28 ?_
      exact ih _ _ _ _ _ _ _ hF hQ
theorem fx_Pr_trialDensity {u k : Nat} {pa pb : Nat} {ga : Nat → Nat} {Q : Option Value → pm_H → Prop} {x1 : Int32} {I : pm_II} {J : pm_JJ} {r : Int32} {I2 : pm_II} {J2 : pm_JJ} (hk : 2 ≤ k) (hF : F_Pr_trialDensity u x1 I J = some (r, I2, J2)) (hQ : Q (some (.int r)) (hp I2 J2 (pm_RT pa pb ga))) : Px k 176 m_Pr_trialDensity 0 [.ref 39, .int x1, .null] [] (hp I J (pm_RT pa pb ga)) Q := by
  obtain ⟨k, rfl⟩ : ∃ j, k = j + 1 := ⟨k - 1, by omega⟩
  unfold F_Pr_trialDensity at hF
  refine bk_Pr_trialDensity_0 ?_
  obtain ⟨r11, I11, J11, hC11, hF⟩ := bd_e hF
  refine fx_Pr_cleanFilms (by omega) hC11 ⟨rfl, ?_⟩
  refine bk_Pr_trialDensity_14 ?_
  exact fx_Pr_trialDensity_16 hk u _ _ _ _ _ _ _ hF hQ
def F_Pr_settledKey_96 (u : Nat) (x2 : Int32) (I : pm_II) (J : pm_JJ) : Option (Int32 × pm_II × pm_JJ) :=
  some (x2, I, J)
def F_Pr_settledKey_47 (u : Nat) : Nat → Int32 → Int32 → Int32 → pm_II → pm_JJ → Option (Int32 × pm_II × pm_JJ)
  | 0, _, _, _, _, _ => none
  | n + 1, x2, x3, x4, I, J =>
    if 8 ≤ x4 then (
      F_Pr_settledKey_96 u x2 I J)
    else (
      if x3 ≤ x2 then (
        F_Pr_settledKey_96 u x2 I J)
      else (
        bd (F_Pr_trialDensity u ((x2 + x3) / 2) I J) fun r69 I69 J69 =>
        if r69 < (I69 39 9) then (
          F_Pr_settledKey_47 u n (((x2 + x3) / 2) + (1 : Int32)) x3 (x4 + Int32.ofInt 1) I69 J69)
        else (
          F_Pr_settledKey_47 u n x2 ((x2 + x3) / 2) (x4 + Int32.ofInt 1) I69 J69)))
def F_Pr_settledKey (u : Nat) (x1 : Int32) (I : pm_II) (J : pm_JJ) : Option (Int32 × pm_II × pm_JJ) :=
  if x1 < 0 then (
    some (((-1) : Int32), I, J))
  else (
    if x1 < (I 39 8) then (
      cond (vq x1 9) (
      if ¬ (I 41 ((x1 : Int32).toNatClampNeg)) = 0 then (
        cond (vq x1 9) (
        F_Pr_settledKey_47 u u (0 : Int32) (255 : Int32) (0 : Int32) (pm_up I 42 8 (I 42 ((x1 : Int32).toNatClampNeg))) J) none)
      else (
        some ((0 : Int32), I, J))) none)
    else (
      some (((-1) : Int32), I, J)))
theorem fx_Pr_settledKey_96 {u k : Nat} {pa pb : Nat} {ga : Nat → Nat} {Q : Option Value → pm_H → Prop} {x1 : Int32} {x2 : Int32} {x3 : Int32} {x4 : Int32} {I : pm_II} {J : pm_JJ} {r : Int32} {I2 : pm_II} {J2 : pm_JJ} (hk : 3 ≤ k) (hF : F_Pr_settledKey_96 u x2 I J = some (r, I2, J2)) (hQ : Q (some (.int r)) (hp I2 J2 (pm_RT pa pb ga))) : Px k 176 m_Pr_settledKey 96 [.ref 39, .int x1, .int x2, .int x3, .int x4, .null] [] (hp I J (pm_RT pa pb ga)) Q := by
  obtain ⟨k, rfl⟩ : ∃ j, k = j + 1 := ⟨k - 1, by omega⟩
  unfold F_Pr_settledKey_96 at hF
  refine bk_Pr_settledKey_96 ?_
  exact ret_q (Q := fun a b c => Q (some (.int a)) (hp b c (pm_RT pa pb ga))) hF hQ
theorem fx_Pr_settledKey_47 {u k : Nat} {pa pb : Nat} {ga : Nat → Nat} {Q : Option Value → pm_H → Prop} (hk : 3 ≤ k) : ∀ (n : Nat), ∀ (x1 : Int32) (x2 : Int32) (x3 : Int32) (x4 : Int32) (I : pm_II) (J : pm_JJ) (r : Int32) (I2 : pm_II) (J2 : pm_JJ), F_Pr_settledKey_47 u n x2 x3 x4 I J = some (r, I2, J2) → Q (some (.int r)) (hp I2 J2 (pm_RT pa pb ga)) → Px k 176 m_Pr_settledKey 47 [.ref 39, .int x1, .int x2, .int x3, .int x4, .null] [] (hp I J (pm_RT pa pb ga)) Q := by
  obtain ⟨k, rfl⟩ : ∃ j, k = j + 1 := ⟨k - 1, by omega⟩
  intro n
  induction n with
  | zero => intro x1 x2 x3 x4 I J r I2 J2  hF; cases hF
  | succ n ih =>
    intro x1 x2 x3 x4 I J r I2 J2  hF hQ
    rw [F_Pr_settledKey_47] at hF
    refine bk_Pr_settledKey_47 ?_
    refine ⟨fun z => ?_, fun z => ?_⟩
    · rw [if_pos z] at hF
      exact fx_Pr_settledKey_96 hk hF hQ
    · rw [if_neg z] at hF
      refine ⟨fun z => ?_, fun z => ?_⟩
      · rw [if_pos z] at hF
        exact fx_Pr_settledKey_96 hk hF hQ
      · rw [if_neg z] at hF
        obtain ⟨r69, I69, J69, hC69, hF⟩ := bd_e hF
        refine fx_Pr_trialDensity (by omega) hC69 ⟨rfl, ?_⟩
        refine bk_Pr_settledKey_72 ?_
        refine ⟨fun z => ?_, fun z => ?_⟩
        · rw [if_pos z] at hF
          exact Px_wk (ih _ _ _ _ _ _ _ _ _ hF hQ) ⟨Or.inl rfl, Or.inl rfl, Or.inl rfl, Or.inl rfl, Or.inl rfl, Or.inr ⟨rfl, rfl⟩, trivial⟩
        · rw [if_neg z] at hF
          exact Px_wk (ih _ _ _ _ _ _ _ _ _ hF hQ) ⟨Or.inl rfl, Or.inl rfl, Or.inl rfl, Or.inl rfl, Or.inl rfl, Or.inr ⟨rfl, rfl⟩, trivial⟩
theorem fx_Pr_settledKey {u k : Nat} {pa pb : Nat} {ga : Nat → Nat} {Q : Option Value → pm_H → Prop} {x1 : Int32} {I : pm_II} {J : pm_JJ} {r : Int32} {I2 : pm_II} {J2 : pm_JJ} (hk : 3 ≤ k) (hF : F_Pr_settledKey u x1 I J = some (r, I2, J2)) (hQ : Q (some (.int r)) (hp I2 J2 (pm_RT pa pb ga))) : Px k 176 m_Pr_settledKey 0 [.ref 39, .int x1, .null, .null, .null, .null] [] (hp I J (pm_RT pa pb ga)) Q := by
  obtain ⟨k, rfl⟩ : ∃ j, k = j + 1 := ⟨k - 1, by omega⟩
  unfold F_Pr_settledKey at hF
  refine bk_Pr_settledKey_0 ?_
  refine ⟨fun z => ?_, fun z => ?_⟩
  · rw [if_pos z] at hF
    exact ret_q (Q := fun a b c => Q (some (.int a)) (hp b c (pm_RT pa pb ga))) hF hQ
  · rw [if_neg z] at hF
    refine ⟨fun z => ?_, fun z => ?_⟩
    · rw [if_pos z] at hF
      obtain ⟨g, hF⟩ := gd_e hF
      refine ⟨vq_in g, ?_⟩
      refine ⟨fun z => ?_, fun z => ?_⟩
      · rw [if_pos z] at hF
        obtain ⟨g, hF⟩ := gd_e hF
        refine ⟨vq_in g, ?_⟩
        exact fx_Pr_settledKey_47 hk u _ _ _ _ _ _ _ _ _ hF hQ
      · rw [if_neg z] at hF
        exact ret_q (Q := fun a b c => Q (some (.int a)) (hp b c (pm_RT pa pb ga))) hF hQ
    · rw [if_neg z] at hF
      exact ret_q (Q := fun a b c => Q (some (.int a)) (hp b c (pm_RT pa pb ga))) hF hQ
def F_Pr_noteGood (u : Nat) (x1 : Int32) (I : pm_II) (J : pm_JJ) : Option (Unit × pm_II × pm_JJ) :=
  if x1 < 0 then (
    some ((), I, J))
  else (
    if 4000 < x1 then (
      some ((), I, J))
    else (
      cond (vq (x1 / 32) 126) (
      cond (vq (x1 / 32) 126) (
      some ((), (pm_up I 47 (((x1 / 32) : Int32).toNatClampNeg) ((I 47 (((x1 / 32) : Int32).toNatClampNeg)) ||| ((1 : Int32) <<< ((x1 - x1 / 32 * 32) &&& 31)))), J)) none) none))
theorem fx_Pr_noteGood {u k : Nat} {pa pb : Nat} {ga : Nat → Nat} {Q : Option Value → pm_H → Prop} {x1 : Int32} {I : pm_II} {J : pm_JJ} {r : Unit} {I2 : pm_II} {J2 : pm_JJ} (hk : 0 ≤ k) (hF : F_Pr_noteGood u x1 I J = some (r, I2, J2)) (hQ : Q none (hp I2 J2 (pm_RT pa pb ga))) : Px k 176 m_Pr_noteGood 0 [.ref 39, .int x1] [] (hp I J (pm_RT pa pb ga)) Q := by
  unfold F_Pr_noteGood at hF
  refine bk_Pr_noteGood_0 ?_
  refine ⟨fun z => ?_, fun z => ?_⟩
  · rw [if_pos z] at hF
    exact ret_q (Q := fun a b c => Q none (hp b c (pm_RT pa pb ga))) hF hQ
  · rw [if_neg z] at hF
    refine ⟨fun z => ?_, fun z => ?_⟩
    · rw [if_pos z] at hF
      exact ret_q (Q := fun a b c => Q none (hp b c (pm_RT pa pb ga))) hF hQ
    · rw [if_neg z] at hF
      obtain ⟨g, hF⟩ := gd_e hF
      refine ⟨vq_in g, ?_⟩
      obtain ⟨g, hF⟩ := gd_e hF
      refine ⟨vq_in g, ?_⟩
      exact ret_q (Q := fun a b c => Q none (hp b c (pm_RT pa pb ga))) hF hQ
def F_Pr_printSheet_108 (u : Nat) (I : pm_II) (J : pm_JJ) : Option (Unit × pm_II × pm_JJ) :=
  some ((), I, J)
def F_Pr_printSheet_86 (u : Nat) (x1 : Int32) (I : pm_II) (J : pm_JJ) : Option (Unit × pm_II × pm_JJ) :=
  if x1 = 0 then (
    F_Pr_printSheet_108 u I J)
  else (
    bd (F_Pr_noteGood u (I 39 12) (pm_up I 39 13 ((I 39 13) + (1 : Int32))) J) fun _ I105 J105 =>
    F_Pr_printSheet_108 u I105 J105)
def F_Pr_printSheet_4 (u : Nat) : Nat → Int32 → Int32 → pm_II → pm_JJ → Option (Unit × pm_II × pm_JJ)
  | 0, _, _, _, _ => none
  | n + 1, x1, x2, I, J =>
    if (I 39 8) ≤ x2 then (
      if (I 39 11) ≤ 0 then (
        F_Pr_printSheet_86 u x1 (pm_up I 39 12 ((I 39 12) + (1 : Int32))) J)
      else (
        if ¬ (I 39 11) = 0 then (
        if ¬ (((I 39 12) + (1 : Int32)) - ((I 39 12) + (1 : Int32)) / (I 39 11) * (I 39 11)) = 0 then (
          F_Pr_printSheet_86 u x1 (pm_up I 39 12 ((I 39 12) + (1 : Int32))) J)
        else (
          F_Pr_printSheet_86 u (0 : Int32) (pm_up I 39 12 ((I 39 12) + (1 : Int32))) J)) else none))
    else (
      bd (F_Pr_ink u x2 I J) fun _ I14 J14 =>
      cond (vq x2 9) (
      if (I14 41 ((x2 : Int32).toNatClampNeg)) = 0 then (
        F_Pr_printSheet_4 u n x1 (x2 + Int32.ofInt 1) I14 J14)
      else (
        cond (vq x2 9) (
        bd (F_Jm_abs_I u ((I14 45 ((x2 : Int32).toNatClampNeg)) - (I14 39 9)) I14 J14) fun r37 I37 J37 =>
        if r37 ≤ (I37 39 10) then (
          F_Pr_printSheet_4 u n x1 (x2 + Int32.ofInt 1) I37 J37)
        else (
          F_Pr_printSheet_4 u n (0 : Int32) (x2 + Int32.ofInt 1) I37 J37)) none)) none)
def F_Pr_printSheet (u : Nat) (I : pm_II) (J : pm_JJ) : Option (Unit × pm_II × pm_JJ) :=
  F_Pr_printSheet_4 u u (1 : Int32) (0 : Int32) I J
theorem fx_Pr_printSheet_108 {u k : Nat} {pa pb : Nat} {ga : Nat → Nat} {Q : Option Value → pm_H → Prop} {x1 : Int32} {x2 : Int32} {I : pm_II} {J : pm_JJ} {r : Unit} {I2 : pm_II} {J2 : pm_JJ} (hk : 2 ≤ k) (hF : F_Pr_printSheet_108 u  I J = some (r, I2, J2)) (hQ : Q none (hp I2 J2 (pm_RT pa pb ga))) : Px k 176 m_Pr_printSheet 108 [.ref 39, .int x1, .int x2] [] (hp I J (pm_RT pa pb ga)) Q := by
  obtain ⟨k, rfl⟩ : ∃ j, k = j + 1 := ⟨k - 1, by omega⟩
  unfold F_Pr_printSheet_108 at hF
  refine bk_Pr_printSheet_108 ?_
  exact ret_q (Q := fun a b c => Q none (hp b c (pm_RT pa pb ga))) hF hQ
theorem fx_Pr_printSheet_86 {u k : Nat} {pa pb : Nat} {ga : Nat → Nat} {Q : Option Value → pm_H → Prop} {x1 : Int32} {x2 : Int32} {I : pm_II} {J : pm_JJ} {r : Unit} {I2 : pm_II} {J2 : pm_JJ} (hk : 2 ≤ k) (hF : F_Pr_printSheet_86 u x1 I J = some (r, I2, J2)) (hQ : Q none (hp I2 J2 (pm_RT pa pb ga))) : Px k 176 m_Pr_printSheet 86 [.ref 39, .int x1, .int x2] [] (hp I J (pm_RT pa pb ga)) Q := by
  obtain ⟨k, rfl⟩ : ∃ j, k = j + 1 := ⟨k - 1, by omega⟩
  unfold F_Pr_printSheet_86 at hF
  refine bk_Pr_printSheet_86 ?_
  refine ⟨fun z => ?_, fun z => ?_⟩
  · rw [if_pos z] at hF
    exact fx_Pr_printSheet_108 hk hF hQ
  · rw [if_neg z] at hF
    obtain ⟨r105, I105, J105, hC105, hF⟩ := bd_e hF
    refine fx_Pr_noteGood (by omega) hC105 ⟨rfl, ?_⟩
    exact fx_Pr_printSheet_108 hk hF hQ
theorem fx_Pr_printSheet_4 {u k : Nat} {pa pb : Nat} {ga : Nat → Nat} {Q : Option Value → pm_H → Prop} (hk : 2 ≤ k) : ∀ (n : Nat), ∀ (x1 : Int32) (x2 : Int32) (I : pm_II) (J : pm_JJ) (r : Unit) (I2 : pm_II) (J2 : pm_JJ), F_Pr_printSheet_4 u n x1 x2 I J = some (r, I2, J2) → Q none (hp I2 J2 (pm_RT pa pb ga)) → Px k 176 m_Pr_printSheet 4 [.ref 39, .int x1, .int x2] [] (hp I J (pm_RT pa pb ga)) Q := by
  obtain ⟨k, rfl⟩ : ∃ j, k = j + 1 := ⟨k - 1, by omega⟩
  intro n
  induction n with
  | zero => intro x1 x2 I J r I2 J2  hF; cases hF
  | succ n ih =>
    intro x1 x2 I J r I2 J2  hF hQ
    rw [F_Pr_printSheet_4] at hF
    refine bk_Pr_printSheet_4 ?_
    refine ⟨fun z => ?_, fun z => ?_⟩
    · rw [if_pos z] at hF
      refine ⟨fun z => ?_, fun z => ?_⟩
      · rw [if_pos z] at hF
        exact fx_Pr_printSheet_86 hk hF hQ
      · rw [if_neg z] at hF
        obtain ⟨g, hF⟩ := ge_e hF
        refine ⟨g, ?_⟩
        refine ⟨fun z => ?_, fun z => ?_⟩
        · rw [if_pos z] at hF
          exact fx_Pr_printSheet_86 hk hF hQ
        · rw [if_neg z] at hF
          exact fx_Pr_printSheet_86 hk hF hQ
    · rw [if_neg z] at hF
      obtain ⟨r14, I14, J14, hC14, hF⟩ := bd_e hF
      refine fx_Pr_ink (by omega) hC14 ⟨rfl, ?_⟩
      refine bk_Pr_printSheet_17 ?_
      obtain ⟨g, hF⟩ := gd_e hF
      refine ⟨vq_in g, ?_⟩
      refine ⟨fun z => ?_, fun z => ?_⟩
      · rw [if_pos z] at hF
        exact ih _ _ _ _ _ _ _ hF hQ
      · rw [if_neg z] at hF
        obtain ⟨g, hF⟩ := gd_e hF
        refine ⟨vq_in g, ?_⟩
        obtain ⟨r37, I37, J37, hC37, hF⟩ := bd_e hF
        refine fx_Jm_abs_I (by omega) hC37 ⟨rfl, ?_⟩
        refine bk_Pr_printSheet_40 ?_
        refine ⟨fun z => ?_, fun z => ?_⟩
        · rw [if_pos z] at hF
          exact ih _ _ _ _ _ _ _ hF hQ
        · rw [if_neg z] at hF
          exact ih _ _ _ _ _ _ _ hF hQ
theorem fx_Pr_printSheet {u k : Nat} {pa pb : Nat} {ga : Nat → Nat} {Q : Option Value → pm_H → Prop} {I : pm_II} {J : pm_JJ} {r : Unit} {I2 : pm_II} {J2 : pm_JJ} (hk : 2 ≤ k) (hF : F_Pr_printSheet u  I J = some (r, I2, J2)) (hQ : Q none (hp I2 J2 (pm_RT pa pb ga))) : Px k 176 m_Pr_printSheet 0 [.ref 39, .null, .null] [] (hp I J (pm_RT pa pb ga)) Q := by
  obtain ⟨k, rfl⟩ : ∃ j, k = j + 1 := ⟨k - 1, by omega⟩
  unfold F_Pr_printSheet at hF
  refine bk_Pr_printSheet_0 ?_
  exact fx_Pr_printSheet_4 hk u _ _ _ _ _ _ _ hF hQ
def F_Pr_printMany_45 (u : Nat) : Nat → Int32 → Int32 → Int32 → pm_II → pm_JJ → Option (Int32 × pm_II × pm_JJ)
  | 0, _, _, _, _, _ => none
  | n + 1, x1, x2, x3, I, J =>
    if x1 ≤ x3 then (
      some (((I 39 13) - x2), I, J))
    else (
      bd (F_Pr_printSheet u I J) fun _ I51 J51 =>
      F_Pr_printMany_45 u n x1 x2 (x3 + Int32.ofInt 1) I51 J51)
def F_Pr_printMany (u : Nat) (x1 : Int32) (I : pm_II) (J : pm_JJ) : Option (Int32 × pm_II × pm_JJ) :=
  if x1 < 0 then (
    some (((-1) : Int32), I, J))
  else (
    if x1 ≤ 500 then (
      if ¬ (I 39 8) = 0 then (
        if ((I 39 12) + x1) ≤ 4000 then (
          F_Pr_printMany_45 u u x1 (I 39 13) (0 : Int32) I J)
        else (
          some (((-4) : Int32), I, J)))
      else (
        some (((-3) : Int32), I, J)))
    else (
      some (((-1) : Int32), I, J)))
theorem fx_Pr_printMany_45 {u k : Nat} {pa pb : Nat} {ga : Nat → Nat} {Q : Option Value → pm_H → Prop} (hk : 3 ≤ k) : ∀ (n : Nat), ∀ (x1 : Int32) (x2 : Int32) (x3 : Int32) (I : pm_II) (J : pm_JJ) (r : Int32) (I2 : pm_II) (J2 : pm_JJ), F_Pr_printMany_45 u n x1 x2 x3 I J = some (r, I2, J2) → Q (some (.int r)) (hp I2 J2 (pm_RT pa pb ga)) → Px k 176 m_Pr_printMany 45 [.ref 39, .int x1, .int x2, .int x3] [] (hp I J (pm_RT pa pb ga)) Q := by
  obtain ⟨k, rfl⟩ : ∃ j, k = j + 1 := ⟨k - 1, by omega⟩
  intro n
  induction n with
  | zero => intro x1 x2 x3 I J r I2 J2  hF; cases hF
  | succ n ih =>
    intro x1 x2 x3 I J r I2 J2  hF hQ
    rw [F_Pr_printMany_45] at hF
    refine bk_Pr_printMany_45 ?_
    refine ⟨fun z => ?_, fun z => ?_⟩
    · rw [if_pos z] at hF
      exact ret_q (Q := fun a b c => Q (some (.int a)) (hp b c (pm_RT pa pb ga))) hF hQ
    · rw [if_neg z] at hF
      obtain ⟨r51, I51, J51, hC51, hF⟩ := bd_e hF
      refine fx_Pr_printSheet (by omega) hC51 ⟨rfl, ?_⟩
      refine bk_Pr_printMany_54 ?_
      exact ih _ _ _ _ _ _ _ _ hF hQ
theorem fx_Pr_printMany {u k : Nat} {pa pb : Nat} {ga : Nat → Nat} {Q : Option Value → pm_H → Prop} {x1 : Int32} {I : pm_II} {J : pm_JJ} {r : Int32} {I2 : pm_II} {J2 : pm_JJ} (hk : 3 ≤ k) (hF : F_Pr_printMany u x1 I J = some (r, I2, J2)) (hQ : Q (some (.int r)) (hp I2 J2 (pm_RT pa pb ga))) : Px k 176 m_Pr_printMany 0 [.ref 39, .int x1, .null, .null] [] (hp I J (pm_RT pa pb ga)) Q := by
  obtain ⟨k, rfl⟩ : ∃ j, k = j + 1 := ⟨k - 1, by omega⟩
  unfold F_Pr_printMany at hF
  refine bk_Pr_printMany_0 ?_
  refine ⟨fun z => ?_, fun z => ?_⟩
  · rw [if_pos z] at hF
    exact ret_q (Q := fun a b c => Q (some (.int a)) (hp b c (pm_RT pa pb ga))) hF hQ
  · rw [if_neg z] at hF
    refine ⟨fun z => ?_, fun z => ?_⟩
    · rw [if_pos z] at hF
      refine ⟨fun z => ?_, fun z => ?_⟩
      · rw [if_pos z] at hF
        refine ⟨fun z => ?_, fun z => ?_⟩
        · rw [if_pos z] at hF
          exact fx_Pr_printMany_45 hk u _ _ _ _ _ _ _ _ hF hQ
        · rw [if_neg z] at hF
          exact ret_q (Q := fun a b c => Q (some (.int a)) (hp b c (pm_RT pa pb ga))) hF hQ
      · rw [if_neg z] at hF
        exact ret_q (Q := fun a b c => Q (some (.int a)) (hp b c (pm_RT pa pb ga))) hF hQ
    · rw [if_neg z] at hF
      exact ret_q (Q := fun a b c => Q (some (.int a)) (hp b c (pm_RT pa pb ga))) hF hQ
def F_Pr_printTill_68 (u : Nat) (x3 : Int32) (I : pm_II) (J : pm_JJ) : Option (Int32 × pm_II × pm_JJ) :=
  some (x3, I, J)
def F_Pr_printTill_31 (u : Nat) : Nat → Int32 → Int32 → Int32 → pm_II → pm_JJ → Option (Int32 × pm_II × pm_JJ)
  | 0, _, _, _, _, _ => none
  | n + 1, x1, x2, x3, I, J =>
    if 500 ≤ x3 then (
      F_Pr_printTill_68 u x3 I J)
    else (
      if 4000 ≤ (I 39 12) then (
        F_Pr_printTill_68 u x3 I J)
      else (
        if x1 ≤ ((I 39 13) - x2) then (
          F_Pr_printTill_68 u x3 I J)
        else (
          bd (F_Pr_printSheet u I J) fun _ I59 J59 =>
          F_Pr_printTill_31 u n x1 x2 (x3 + Int32.ofInt 1) I59 J59)))
def F_Pr_printTill (u : Nat) (x1 : Int32) (I : pm_II) (J : pm_JJ) : Option (Int32 × pm_II × pm_JJ) :=
  if x1 < 1 then (
    some (((-1) : Int32), I, J))
  else (
    if x1 ≤ 200 then (
      if ¬ (I 39 8) = 0 then (
        F_Pr_printTill_31 u u x1 (I 39 13) (0 : Int32) I J)
      else (
        some (((-3) : Int32), I, J)))
    else (
      some (((-1) : Int32), I, J)))
theorem fx_Pr_printTill_68 {u k : Nat} {pa pb : Nat} {ga : Nat → Nat} {Q : Option Value → pm_H → Prop} {x1 : Int32} {x2 : Int32} {x3 : Int32} {I : pm_II} {J : pm_JJ} {r : Int32} {I2 : pm_II} {J2 : pm_JJ} (hk : 3 ≤ k) (hF : F_Pr_printTill_68 u x3 I J = some (r, I2, J2)) (hQ : Q (some (.int r)) (hp I2 J2 (pm_RT pa pb ga))) : Px k 176 m_Pr_printTill 68 [.ref 39, .int x1, .int x2, .int x3] [] (hp I J (pm_RT pa pb ga)) Q := by
  obtain ⟨k, rfl⟩ : ∃ j, k = j + 1 := ⟨k - 1, by omega⟩
  unfold F_Pr_printTill_68 at hF
  refine bk_Pr_printTill_68 ?_
  exact ret_q (Q := fun a b c => Q (some (.int a)) (hp b c (pm_RT pa pb ga))) hF hQ
theorem fx_Pr_printTill_31 {u k : Nat} {pa pb : Nat} {ga : Nat → Nat} {Q : Option Value → pm_H → Prop} (hk : 3 ≤ k) : ∀ (n : Nat), ∀ (x1 : Int32) (x2 : Int32) (x3 : Int32) (I : pm_II) (J : pm_JJ) (r : Int32) (I2 : pm_II) (J2 : pm_JJ), F_Pr_printTill_31 u n x1 x2 x3 I J = some (r, I2, J2) → Q (some (.int r)) (hp I2 J2 (pm_RT pa pb ga)) → Px k 176 m_Pr_printTill 31 [.ref 39, .int x1, .int x2, .int x3] [] (hp I J (pm_RT pa pb ga)) Q := by
  obtain ⟨k, rfl⟩ : ∃ j, k = j + 1 := ⟨k - 1, by omega⟩
  intro n
  induction n with
  | zero => intro x1 x2 x3 I J r I2 J2  hF; cases hF
  | succ n ih =>
    intro x1 x2 x3 I J r I2 J2  hF hQ
    rw [F_Pr_printTill_31] at hF
    refine bk_Pr_printTill_31 ?_
    refine ⟨fun z => ?_, fun z => ?_⟩
    · rw [if_pos z] at hF
      exact fx_Pr_printTill_68 hk hF hQ
    · rw [if_neg z] at hF
      refine ⟨fun z => ?_, fun z => ?_⟩
      · rw [if_pos z] at hF
        exact fx_Pr_printTill_68 hk hF hQ
      · rw [if_neg z] at hF
        refine ⟨fun z => ?_, fun z => ?_⟩
        · rw [if_pos z] at hF
          exact fx_Pr_printTill_68 hk hF hQ
        · rw [if_neg z] at hF
          obtain ⟨r59, I59, J59, hC59, hF⟩ := bd_e hF
          refine fx_Pr_printSheet (by omega) hC59 ⟨rfl, ?_⟩
          refine bk_Pr_printTill_62 ?_
          exact ih _ _ _ _ _ _ _ _ hF hQ
theorem fx_Pr_printTill {u k : Nat} {pa pb : Nat} {ga : Nat → Nat} {Q : Option Value → pm_H → Prop} {x1 : Int32} {I : pm_II} {J : pm_JJ} {r : Int32} {I2 : pm_II} {J2 : pm_JJ} (hk : 3 ≤ k) (hF : F_Pr_printTill u x1 I J = some (r, I2, J2)) (hQ : Q (some (.int r)) (hp I2 J2 (pm_RT pa pb ga))) : Px k 176 m_Pr_printTill 0 [.ref 39, .int x1, .null, .null] [] (hp I J (pm_RT pa pb ga)) Q := by
  obtain ⟨k, rfl⟩ : ∃ j, k = j + 1 := ⟨k - 1, by omega⟩
  unfold F_Pr_printTill at hF
  refine bk_Pr_printTill_0 ?_
  refine ⟨fun z => ?_, fun z => ?_⟩
  · rw [if_pos z] at hF
    exact ret_q (Q := fun a b c => Q (some (.int a)) (hp b c (pm_RT pa pb ga))) hF hQ
  · rw [if_neg z] at hF
    refine ⟨fun z => ?_, fun z => ?_⟩
    · rw [if_pos z] at hF
      refine ⟨fun z => ?_, fun z => ?_⟩
      · rw [if_pos z] at hF
        exact fx_Pr_printTill_31 hk u _ _ _ _ _ _ _ _ hF hQ
      · rw [if_neg z] at hF
        exact ret_q (Q := fun a b c => Q (some (.int a)) (hp b c (pm_RT pa pb ga))) hF hQ
    · rw [if_neg z] at hF
      exact ret_q (Q := fun a b c => Q (some (.int a)) (hp b c (pm_RT pa pb ga))) hF hQ
def F_Pr_tellZone (u : Nat) (x1 : Int32) (x2 : Int32) (I : pm_II) (J : pm_JJ) : Option (Int32 × pm_II × pm_JJ) :=
  if x1 < 0 then (
    some (((-1) : Int32), I, J))
  else (
    if x1 < (I 39 8) then (
      if x2 = nI 0 then (
        cond (vq x1 9) (
        some ((I 41 ((x1 : Int32).toNatClampNeg)), I, J)) none)
      else       if x2 = nI 1 then (
        cond (vq x1 9) (
        some ((I 43 ((x1 : Int32).toNatClampNeg)), I, J)) none)
      else       if x2 = nI 2 then (
        cond (vq x1 9) (
        some ((I 44 ((x1 : Int32).toNatClampNeg)), I, J)) none)
      else       if x2 = nI 3 then (
        cond (vq x1 9) (
        some ((I 45 ((x1 : Int32).toNatClampNeg)), I, J)) none)
      else       if x2 = nI 4 then (
        cond (vq x1 9) (
        some ((I 46 ((x1 : Int32).toNatClampNeg)), I, J)) none)
      else       if x2 = nI 5 then (
        cond (vq x1 9) (
        some ((I 40 ((x1 : Int32).toNatClampNeg)), I, J)) none)
      else (
        some (((-1) : Int32), I, J)))
    else (
      some (((-1) : Int32), I, J)))
theorem fx_Pr_tellZone {u k : Nat} {pa pb : Nat} {ga : Nat → Nat} {Q : Option Value → pm_H → Prop} {x1 : Int32} {x2 : Int32} {I : pm_II} {J : pm_JJ} {r : Int32} {I2 : pm_II} {J2 : pm_JJ} (hk : 0 ≤ k) (hF : F_Pr_tellZone u x1 x2 I J = some (r, I2, J2)) (hQ : Q (some (.int r)) (hp I2 J2 (pm_RT pa pb ga))) : Px k 176 m_Pr_tellZone 0 [.ref 39, .int x1, .int x2] [] (hp I J (pm_RT pa pb ga)) Q := by
  unfold F_Pr_tellZone at hF
  refine bk_Pr_tellZone_0 ?_
  refine ⟨fun z => ?_, fun z => ?_⟩
  · rw [if_pos z] at hF
    exact ret_q (Q := fun a b c => Q (some (.int a)) (hp b c (pm_RT pa pb ga))) hF hQ
  · rw [if_neg z] at hF
    refine ⟨fun z => ?_, fun z => ?_⟩
    · rw [if_pos z] at hF
      refine ⟨fun z => ?_, fun z => ?_, fun z => ?_, fun z => ?_, fun z => ?_, fun z => ?_, fun z => ?_⟩
      · rw [if_pos z] at hF
        obtain ⟨g, hF⟩ := gd_e hF
        refine ⟨vq_in g, ?_⟩
        exact ret_q (Q := fun a b c => Q (some (.int a)) (hp b c (pm_RT pa pb ga))) hF hQ
      · rw [if_neg (by rw [z]; decide), if_pos z] at hF
        obtain ⟨g, hF⟩ := gd_e hF
        refine ⟨vq_in g, ?_⟩
        exact ret_q (Q := fun a b c => Q (some (.int a)) (hp b c (pm_RT pa pb ga))) hF hQ
      · rw [if_neg (by rw [z]; decide), if_neg (by rw [z]; decide), if_pos z] at hF
        obtain ⟨g, hF⟩ := gd_e hF
        refine ⟨vq_in g, ?_⟩
        exact ret_q (Q := fun a b c => Q (some (.int a)) (hp b c (pm_RT pa pb ga))) hF hQ
      · rw [if_neg (by rw [z]; decide), if_neg (by rw [z]; decide), if_neg (by rw [z]; decide), if_pos z] at hF
        obtain ⟨g, hF⟩ := gd_e hF
        refine ⟨vq_in g, ?_⟩
        exact ret_q (Q := fun a b c => Q (some (.int a)) (hp b c (pm_RT pa pb ga))) hF hQ
      · rw [if_neg (by rw [z]; decide), if_neg (by rw [z]; decide), if_neg (by rw [z]; decide), if_neg (by rw [z]; decide), if_pos z] at hF
        obtain ⟨g, hF⟩ := gd_e hF
        refine ⟨vq_in g, ?_⟩
        exact ret_q (Q := fun a b c => Q (some (.int a)) (hp b c (pm_RT pa pb ga))) hF hQ
      · rw [if_neg (by rw [z]; decide), if_neg (by rw [z]; decide), if_neg (by rw [z]; decide), if_neg (by rw [z]; decide), if_neg (by rw [z]; decide), if_pos z] at hF
        obtain ⟨g, hF⟩ := gd_e hF
        refine ⟨vq_in g, ?_⟩
        exact ret_q (Q := fun a b c => Q (some (.int a)) (hp b c (pm_RT pa pb ga))) hF hQ
      · rw [if_neg (sw_ne z (by decide) (by decide)), if_neg (sw_ne z (by decide) (by decide)), if_neg (sw_ne z (by decide) (by decide)), if_neg (sw_ne z (by decide) (by decide)), if_neg (sw_ne z (by decide) (by decide)), if_neg (sw_ne z (by decide) (by decide))] at hF
        exact ret_q (Q := fun a b c => Q (some (.int a)) (hp b c (pm_RT pa pb ga))) hF hQ
    · rw [if_neg z] at hF
      exact ret_q (Q := fun a b c => Q (some (.int a)) (hp b c (pm_RT pa pb ga))) hF hQ
def F_Pr_numberOf_71 (u : Nat) : Nat → Int32 → Int32 → Int32 → pm_II → pm_JJ → Option (Int32 × pm_II × pm_JJ)
  | 0, _, _, _, _, _ => none
  | n + 1, x2, x4, x5, I, J =>
    if x2 ≤ x5 then (
      some (x4, I, J))
    else (
      cond (vq x5 126) (
      bd (F_Ji_bitCount u (I 47 ((x5 : Int32).toNatClampNeg)) I J) fun r86 I86 J86 =>
      F_Pr_numberOf_71 u n x2 (x4 + r86) (x5 + Int32.ofInt 1) I86 J86) none)
def F_Pr_numberOf (u : Nat) (x1 : Int32) (I : pm_II) (J : pm_JJ) : Option (Int32 × pm_II × pm_JJ) :=
  if x1 < 1 then (
    some (((-1) : Int32), I, J))
  else (
    if (I 39 12) < x1 then (
      some (((-1) : Int32), I, J))
    else (
      if x1 ≤ 4000 then (
        cond (vq (x1 / 32) 126) (
        if ¬ ((((I 47 (((x1 / 32) : Int32).toNatClampNeg))).toUInt32 >>> (((x1 - x1 / 32 * 32)).toUInt32 &&& Int32.toUInt32 31)).toInt32 &&& (1 : Int32)) = 0 then (
          cond (vq (x1 / 32) 126) (
          bd (F_Ji_bitCount u ((I 47 (((x1 / 32) : Int32).toNatClampNeg)) &&& ((((-1) : Int32)).toUInt32 >>> ((((31 : Int32) - (x1 - x1 / 32 * 32))).toUInt32 &&& Int32.toUInt32 31)).toInt32) I J) fun r63 I63 J63 =>
          F_Pr_numberOf_71 u u (x1 / 32) r63 (0 : Int32) I63 J63) none)
        else (
          some ((0 : Int32), I, J))) none)
      else (
        some (((-1) : Int32), I, J))))
theorem fx_Pr_numberOf_71 {u k : Nat} {pa pb : Nat} {ga : Nat → Nat} {Q : Option Value → pm_H → Prop} (hk : 1 ≤ k) : ∀ (n : Nat), ∀ (x1 : Int32) (x2 : Int32) (x3 : Int32) (x4 : Int32) (x5 : Int32) (I : pm_II) (J : pm_JJ) (r : Int32) (I2 : pm_II) (J2 : pm_JJ), F_Pr_numberOf_71 u n x2 x4 x5 I J = some (r, I2, J2) → Q (some (.int r)) (hp I2 J2 (pm_RT pa pb ga)) → Px k 176 m_Pr_numberOf 71 [.ref 39, .int x1, .int x2, .int x3, .int x4, .int x5] [] (hp I J (pm_RT pa pb ga)) Q := by
  obtain ⟨k, rfl⟩ : ∃ j, k = j + 1 := ⟨k - 1, by omega⟩
  intro n
  induction n with
  | zero => intro x1 x2 x3 x4 x5 I J r I2 J2  hF; cases hF
  | succ n ih =>
    intro x1 x2 x3 x4 x5 I J r I2 J2  hF hQ
    rw [F_Pr_numberOf_71] at hF
    refine bk_Pr_numberOf_71 ?_
    refine ⟨fun z => ?_, fun z => ?_⟩
    · rw [if_pos z] at hF
      exact ret_q (Q := fun a b c => Q (some (.int a)) (hp b c (pm_RT pa pb ga))) hF hQ
    · rw [if_neg z] at hF
      obtain ⟨g, hF⟩ := gd_e hF
      refine ⟨vq_in g, ?_⟩
      obtain ⟨r86, I86, J86, hC86, hF⟩ := bd_e hF
      refine fx_Ji_bitCount (by omega) hC86 ⟨rfl, ?_⟩
      refine bk_Pr_numberOf_89 ?_
      exact ih _ _ _ _ _ _ _ _ _ _ hF hQ
theorem fx_Pr_numberOf {u k : Nat} {pa pb : Nat} {ga : Nat → Nat} {Q : Option Value → pm_H → Prop} {x1 : Int32} {I : pm_II} {J : pm_JJ} {r : Int32} {I2 : pm_II} {J2 : pm_JJ} (hk : 1 ≤ k) (hF : F_Pr_numberOf u x1 I J = some (r, I2, J2)) (hQ : Q (some (.int r)) (hp I2 J2 (pm_RT pa pb ga))) : Px k 176 m_Pr_numberOf 0 [.ref 39, .int x1, .null, .null, .null, .null] [] (hp I J (pm_RT pa pb ga)) Q := by
  obtain ⟨k, rfl⟩ : ∃ j, k = j + 1 := ⟨k - 1, by omega⟩
  unfold F_Pr_numberOf at hF
  refine bk_Pr_numberOf_0 ?_
  refine ⟨fun z => ?_, fun z => ?_⟩
  · rw [if_pos z] at hF
    exact ret_q (Q := fun a b c => Q (some (.int a)) (hp b c (pm_RT pa pb ga))) hF hQ
  · rw [if_neg z] at hF
    refine ⟨fun z => ?_, fun z => ?_⟩
    · rw [if_pos z] at hF
      exact ret_q (Q := fun a b c => Q (some (.int a)) (hp b c (pm_RT pa pb ga))) hF hQ
    · rw [if_neg z] at hF
      refine ⟨fun z => ?_, fun z => ?_⟩
      · rw [if_pos z] at hF
        obtain ⟨g, hF⟩ := gd_e hF
        refine ⟨vq_in g, ?_⟩
        refine ⟨fun z => ?_, fun z => ?_⟩
        · rw [if_pos z] at hF
          obtain ⟨g, hF⟩ := gd_e hF
          refine ⟨vq_in g, ?_⟩
          obtain ⟨r63, I63, J63, hC63, hF⟩ := bd_e hF
          refine fx_Ji_bitCount (by omega) hC63 ⟨rfl, ?_⟩
          refine bk_Pr_numberOf_66 ?_
          exact fx_Pr_numberOf_71 hk u _ _ _ _ _ _ _ _ _ _ hF hQ
        · rw [if_neg z] at hF
          exact ret_q (Q := fun a b c => Q (some (.int a)) (hp b c (pm_RT pa pb ga))) hF hQ
      · rw [if_neg z] at hF
        exact ret_q (Q := fun a b c => Q (some (.int a)) (hp b c (pm_RT pa pb ga))) hF hQ
def F_Pr_sheetsGood (u : Nat) (I : pm_II) (J : pm_JJ) : Option (Int32 × pm_II × pm_JJ) :=
  some ((I 39 13), I, J)
theorem fx_Pr_sheetsGood {u k : Nat} {pa pb : Nat} {ga : Nat → Nat} {Q : Option Value → pm_H → Prop} {I : pm_II} {J : pm_JJ} {r : Int32} {I2 : pm_II} {J2 : pm_JJ} (hk : 0 ≤ k) (hF : F_Pr_sheetsGood u  I J = some (r, I2, J2)) (hQ : Q (some (.int r)) (hp I2 J2 (pm_RT pa pb ga))) : Px k 176 m_Pr_sheetsGood 0 [.ref 39] [] (hp I J (pm_RT pa pb ga)) Q := by
  unfold F_Pr_sheetsGood at hF
  refine bk_Pr_sheetsGood_0 ?_
  exact ret_q (Q := fun a b c => Q (some (.int a)) (hp b c (pm_RT pa pb ga))) hF hQ
def F_Pr_sheetsPrinted (u : Nat) (I : pm_II) (J : pm_JJ) : Option (Int32 × pm_II × pm_JJ) :=
  some ((I 39 12), I, J)
theorem fx_Pr_sheetsPrinted {u k : Nat} {pa pb : Nat} {ga : Nat → Nat} {Q : Option Value → pm_H → Prop} {I : pm_II} {J : pm_JJ} {r : Int32} {I2 : pm_II} {J2 : pm_JJ} (hk : 0 ≤ k) (hF : F_Pr_sheetsPrinted u  I J = some (r, I2, J2)) (hQ : Q (some (.int r)) (hp I2 J2 (pm_RT pa pb ga))) : Px k 176 m_Pr_sheetsPrinted 0 [.ref 39] [] (hp I J (pm_RT pa pb ga)) Q := by
  unfold F_Pr_sheetsPrinted at hF
  refine bk_Pr_sheetsPrinted_0 ?_
  exact ret_q (Q := fun a b c => Q (some (.int a)) (hp b c (pm_RT pa pb ga))) hF hQ
