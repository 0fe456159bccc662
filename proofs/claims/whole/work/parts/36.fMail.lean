def F_Bu_outdate (u : Nat) (I : pm_II) (J : pm_JJ) : Option (Unit × pm_II × pm_JJ) :=
  some ((), (pm_up I 95 8 1), J)
theorem fx_Bu_outdate {u k : Nat} {pa pb : Nat} {ga : Nat → Nat} {Q : Option Value → pm_H → Prop} {I : pm_II} {J : pm_JJ} {r : Unit} {I2 : pm_II} {J2 : pm_JJ} (hk : 0 ≤ k) (hF : F_Bu_outdate u  I J = some (r, I2, J2)) (hQ : Q none (hp I2 J2 (pm_RT pa pb ga))) : Px k 176 m_Bu_outdate 0 [.ref 95] [] (hp I J (pm_RT pa pb ga)) Q := by
  unfold F_Bu_outdate at hF
  refine bk_Bu_outdate_0 ?_
  exact ret_q (Q := fun a b c => Q none (hp b c (pm_RT pa pb ga))) hF hQ
def F_Ma_has (u : Nat) (x1 : Int32) (I : pm_II) (J : pm_JJ) : Option (Int32 × pm_II × pm_JJ) :=
  if x1 < 0 then (
    some ((0 : Int32), I, J))
  else (
    if (I 89 6) ≤ x1 then (
      some ((0 : Int32), I, J))
    else (
      if 120 ≤ x1 then (
        some ((0 : Int32), I, J))
      else (
        some ((1 : Int32), I, J))))
theorem fx_Ma_has {u k : Nat} {pa pb : Nat} {ga : Nat → Nat} {Q : Option Value → pm_H → Prop} {x1 : Int32} {I : pm_II} {J : pm_JJ} {r : Int32} {I2 : pm_II} {J2 : pm_JJ} (hk : 0 ≤ k) (hF : F_Ma_has u x1 I J = some (r, I2, J2)) (hQ : Q (some (.int r)) (hp I2 J2 (pm_RT pa pb ga))) : Px k 176 m_Ma_has 0 [.ref 89, .int x1] [] (hp I J (pm_RT pa pb ga)) Q := by
  unfold F_Ma_has at hF
  refine bk_Ma_has_0 ?_
  refine ⟨fun z => ?_, fun z => ?_⟩
  · rw [if_pos z] at hF
    exact ret_q (Q := fun a b c => Q (some (.int a)) (hp b c (pm_RT pa pb ga))) hF hQ
  · rw [if_neg z] at hF
    refine ⟨fun z => ?_, fun z => ?_⟩
    · rw [if_pos z] at hF
      exact ret_q (Q := fun a b c => Q (some (.int a)) (hp b c (pm_RT pa pb ga))) hF hQ
    · rw [if_neg z] at hF
      refine ⟨fun z => ?_, fun z => ?_⟩
      · rw [if_pos z] at hF
        exact ret_q (Q := fun a b c => Q (some (.int a)) (hp b c (pm_RT pa pb ga))) hF hQ
      · rw [if_neg z] at hF
        exact ret_q (Q := fun a b c => Q (some (.int a)) (hp b c (pm_RT pa pb ga))) hF hQ
def F_Ma_isAhead (u : Nat) (x1 : Int32) (x2 : Int32) (y3 : Int64) (I : pm_II) (J : pm_JJ) : Option (Int32 × pm_II × pm_JJ) :=
  cond (vq x1 120) (
  if (I 90 ((x1 : Int32).toNatClampNeg)) < x2 then (
    some ((1 : Int32), I, J))
  else (
    cond (vq x1 120) (
    if ¬ (I 90 ((x1 : Int32).toNatClampNeg)) = x2 then (
      some ((0 : Int32), I, J))
    else (
      cond (vq x1 120) (
      if 0 ≤ (lg_cmp (J 91 ((x1 : Int32).toNatClampNeg)) y3) then (
        some ((0 : Int32), I, J))
      else (
        some ((1 : Int32), I, J))) none)) none)) none
theorem fx_Ma_isAhead {u k : Nat} {pa pb : Nat} {ga : Nat → Nat} {Q : Option Value → pm_H → Prop} {x1 : Int32} {x2 : Int32} {y3 : Int64} {I : pm_II} {J : pm_JJ} {r : Int32} {I2 : pm_II} {J2 : pm_JJ} (hk : 0 ≤ k) (hF : F_Ma_isAhead u x1 x2 y3 I J = some (r, I2, J2)) (hQ : Q (some (.int r)) (hp I2 J2 (pm_RT pa pb ga))) : Px k 176 m_Ma_isAhead 0 [.ref 89, .int x1, .int x2, .long y3, .null] [] (hp I J (pm_RT pa pb ga)) Q := by
  unfold F_Ma_isAhead at hF
  refine bk_Ma_isAhead_0 ?_
  obtain ⟨g, hF⟩ := gd_e hF
  refine ⟨vq_in g, ?_⟩
  refine ⟨fun z => ?_, fun z => ?_⟩
  · rw [if_pos z] at hF
    exact ret_q (Q := fun a b c => Q (some (.int a)) (hp b c (pm_RT pa pb ga))) hF hQ
  · rw [if_neg z] at hF
    obtain ⟨g, hF⟩ := gd_e hF
    refine ⟨vq_in g, ?_⟩
    refine ⟨fun z => ?_, fun z => ?_⟩
    · rw [if_pos z] at hF
      exact ret_q (Q := fun a b c => Q (some (.int a)) (hp b c (pm_RT pa pb ga))) hF hQ
    · rw [if_neg z] at hF
      obtain ⟨g, hF⟩ := gd_e hF
      refine ⟨vq_in g, ?_⟩
      refine ⟨fun z => ?_, fun z => ?_⟩
      · rw [if_pos z] at hF
        exact ret_q (Q := fun a b c => Q (some (.int a)) (hp b c (pm_RT pa pb ga))) hF hQ
      · rw [if_neg z] at hF
        exact ret_q (Q := fun a b c => Q (some (.int a)) (hp b c (pm_RT pa pb ga))) hF hQ
def F_Ma_placeFor_36 (u : Nat) (x4 : Int32) (I : pm_II) (J : pm_JJ) : Option (Int32 × pm_II × pm_JJ) :=
  some (x4, I, J)
def F_Ma_placeFor_3 (u : Nat) : Nat → Int32 → Int64 → Int32 → pm_II → pm_JJ → Option (Int32 × pm_II × pm_JJ)
  | 0, _, _, _, _, _ => none
  | n + 1, x1, y2, x4, I, J =>
    if (I 89 6) ≤ x4 then (
      F_Ma_placeFor_36 u x4 I J)
    else (
      if 120 ≤ x4 then (
        F_Ma_placeFor_36 u x4 I J)
      else (
        bd (F_Ma_isAhead u x4 x1 y2 I J) fun r24 I24 J24 =>
        if r24 = 0 then (
          F_Ma_placeFor_36 u x4 I24 J24)
        else (
          F_Ma_placeFor_3 u n x1 y2 (x4 + Int32.ofInt 1) I24 J24)))
def F_Ma_placeFor (u : Nat) (x1 : Int32) (y2 : Int64) (I : pm_II) (J : pm_JJ) : Option (Int32 × pm_II × pm_JJ) :=
  F_Ma_placeFor_3 u u x1 y2 (0 : Int32) I J
theorem fx_Ma_placeFor_36 {u k : Nat} {pa pb : Nat} {ga : Nat → Nat} {Q : Option Value → pm_H → Prop} {x1 : Int32} {y2 : Int64} {x4 : Int32} {I : pm_II} {J : pm_JJ} {r : Int32} {I2 : pm_II} {J2 : pm_JJ} (hk : 1 ≤ k) (hF : F_Ma_placeFor_36 u x4 I J = some (r, I2, J2)) (hQ : Q (some (.int r)) (hp I2 J2 (pm_RT pa pb ga))) : Px k 176 m_Ma_placeFor 36 [.ref 89, .int x1, .long y2, .null, .int x4] [] (hp I J (pm_RT pa pb ga)) Q := by
  obtain ⟨k, rfl⟩ : ∃ j, k = j + 1 := ⟨k - 1, by omega⟩
  unfold F_Ma_placeFor_36 at hF
  refine bk_Ma_placeFor_36 ?_
  exact ret_q (Q := fun a b c => Q (some (.int a)) (hp b c (pm_RT pa pb ga))) hF hQ
theorem fx_Ma_placeFor_3 {u k : Nat} {pa pb : Nat} {ga : Nat → Nat} {Q : Option Value → pm_H → Prop} (hk : 1 ≤ k) : ∀ (n : Nat), ∀ (x1 : Int32) (y2 : Int64) (x4 : Int32) (I : pm_II) (J : pm_JJ) (r : Int32) (I2 : pm_II) (J2 : pm_JJ), F_Ma_placeFor_3 u n x1 y2 x4 I J = some (r, I2, J2) → Q (some (.int r)) (hp I2 J2 (pm_RT pa pb ga)) → Px k 176 m_Ma_placeFor 3 [.ref 89, .int x1, .long y2, .null, .int x4] [] (hp I J (pm_RT pa pb ga)) Q := by
  obtain ⟨k, rfl⟩ : ∃ j, k = j + 1 := ⟨k - 1, by omega⟩
  intro n
  induction n with
  | zero => intro x1 y2 x4 I J r I2 J2  hF; cases hF
  | succ n ih =>
    intro x1 y2 x4 I J r I2 J2  hF hQ
    rw [F_Ma_placeFor_3] at hF
    refine bk_Ma_placeFor_3 ?_
    refine ⟨fun z => ?_, fun z => ?_⟩
    · rw [if_pos z] at hF
      exact fx_Ma_placeFor_36 hk hF hQ
    · rw [if_neg z] at hF
      refine ⟨fun z => ?_, fun z => ?_⟩
      · rw [if_pos z] at hF
        exact fx_Ma_placeFor_36 hk hF hQ
      · rw [if_neg z] at hF
        obtain ⟨r24, I24, J24, hC24, hF⟩ := bd_e hF
        refine fx_Ma_isAhead (by omega) hC24 ⟨rfl, ?_⟩
        refine bk_Ma_placeFor_27 ?_
        refine ⟨fun z => ?_, fun z => ?_⟩
        · rw [if_pos z] at hF
          exact fx_Ma_placeFor_36 hk hF hQ
        · rw [if_neg z] at hF
          exact ih _ _ _ _ _ _ _ _ hF hQ
theorem fx_Ma_placeFor {u k : Nat} {pa pb : Nat} {ga : Nat → Nat} {Q : Option Value → pm_H → Prop} {x1 : Int32} {y2 : Int64} {I : pm_II} {J : pm_JJ} {r : Int32} {I2 : pm_II} {J2 : pm_JJ} (hk : 1 ≤ k) (hF : F_Ma_placeFor u x1 y2 I J = some (r, I2, J2)) (hQ : Q (some (.int r)) (hp I2 J2 (pm_RT pa pb ga))) : Px k 176 m_Ma_placeFor 0 [.ref 89, .int x1, .long y2, .null, .null] [] (hp I J (pm_RT pa pb ga)) Q := by
  obtain ⟨k, rfl⟩ : ∃ j, k = j + 1 := ⟨k - 1, by omega⟩
  unfold F_Ma_placeFor at hF
  refine bk_Ma_placeFor_0 ?_
  exact fx_Ma_placeFor_3 hk u _ _ _ _ _ _ _ _ hF hQ
def F_Ma_isThere (u : Nat) (x1 : Int32) (y2 : Int64) (I : pm_II) (J : pm_JJ) : Option (Int32 × pm_II × pm_JJ) :=
  bd (F_Ma_placeFor u x1 y2 I J) fun r3 I3 J3 =>
  bd (F_Ma_has u r3 I3 J3) fun r11 I11 J11 =>
  if r11 = 0 then (
    some ((0 : Int32), I11, J11))
  else (
    cond (vq r3 120) (
    if ¬ (I11 90 ((r3 : Int32).toNatClampNeg)) = x1 then (
      some ((0 : Int32), I11, J11))
    else (
      cond (vq r3 120) (
      if ¬ (lg_cmp (J11 91 ((r3 : Int32).toNatClampNeg)) y2) = 0 then (
        some ((0 : Int32), I11, J11))
      else (
        some ((1 : Int32), I11, J11))) none)) none)
theorem fx_Ma_isThere {u k : Nat} {pa pb : Nat} {ga : Nat → Nat} {Q : Option Value → pm_H → Prop} {x1 : Int32} {y2 : Int64} {I : pm_II} {J : pm_JJ} {r : Int32} {I2 : pm_II} {J2 : pm_JJ} (hk : 2 ≤ k) (hF : F_Ma_isThere u x1 y2 I J = some (r, I2, J2)) (hQ : Q (some (.int r)) (hp I2 J2 (pm_RT pa pb ga))) : Px k 176 m_Ma_isThere 0 [.ref 89, .int x1, .long y2, .null, .null] [] (hp I J (pm_RT pa pb ga)) Q := by
  obtain ⟨k, rfl⟩ : ∃ j, k = j + 1 := ⟨k - 1, by omega⟩
  unfold F_Ma_isThere at hF
  refine bk_Ma_isThere_0 ?_
  obtain ⟨r3, I3, J3, hC3, hF⟩ := bd_e hF
  refine fx_Ma_placeFor (by omega) hC3 ⟨rfl, ?_⟩
  refine bk_Ma_isThere_6 ?_
  obtain ⟨r11, I11, J11, hC11, hF⟩ := bd_e hF
  refine fx_Ma_has (by omega) hC11 ⟨rfl, ?_⟩
  refine bk_Ma_isThere_14 ?_
  refine ⟨fun z => ?_, fun z => ?_⟩
  · rw [if_pos z] at hF
    exact ret_q (Q := fun a b c => Q (some (.int a)) (hp b c (pm_RT pa pb ga))) hF hQ
  · rw [if_neg z] at hF
    obtain ⟨g, hF⟩ := gd_e hF
    refine ⟨vq_in g, ?_⟩
    refine ⟨fun z => ?_, fun z => ?_⟩
    · rw [if_pos z] at hF
      exact ret_q (Q := fun a b c => Q (some (.int a)) (hp b c (pm_RT pa pb ga))) hF hQ
    · rw [if_neg z] at hF
      obtain ⟨g, hF⟩ := gd_e hF
      refine ⟨vq_in g, ?_⟩
      refine ⟨fun z => ?_, fun z => ?_⟩
      · rw [if_pos z] at hF
        exact ret_q (Q := fun a b c => Q (some (.int a)) (hp b c (pm_RT pa pb ga))) hF hQ
      · rw [if_neg z] at hF
        exact ret_q (Q := fun a b c => Q (some (.int a)) (hp b c (pm_RT pa pb ga))) hF hQ
def F_Ma_insert_33 (u : Nat) : Nat → Int32 → Int64 → Int32 → Int32 → pm_II → pm_JJ → Option (Unit × pm_II × pm_JJ)
  | 0, _, _, _, _, _, _ => none
  | n + 1, x1, y2, x4, x5, I, J =>
    if x5 ≤ x4 then (
      cond (vq x4 120) (
      cond (vq x4 120) (
      cond (vq x4 120) (
      some ((), (pm_up (pm_up (pm_up (pm_up I 90 ((x4 : Int32).toNatClampNeg) x1) 92 ((x4 : Int32).toNatClampNeg) (I 89 7)) 89 7 ((I 89 7) + (1 : Int32))) 89 6 ((I 89 6) + (1 : Int32))), (pm_up J 91 ((x4 : Int32).toNatClampNeg) y2))) none) none) none)
    else (
      cond (vq (x5 - (1 : Int32)) 120) (
      cond (vq x5 120) (
      cond (vq (x5 - (1 : Int32)) 120) (
      cond (vq x5 120) (
      cond (vq (x5 - (1 : Int32)) 120) (
      cond (vq x5 120) (
      F_Ma_insert_33 u n x1 y2 x4 (x5 + Int32.ofInt (-1)) (pm_up (pm_up I 90 ((x5 : Int32).toNatClampNeg) (I 90 (((x5 - (1 : Int32)) : Int32).toNatClampNeg))) 92 ((x5 : Int32).toNatClampNeg) (I 92 (((x5 - (1 : Int32)) : Int32).toNatClampNeg))) (pm_up J 91 ((x5 : Int32).toNatClampNeg) (J 91 (((x5 - (1 : Int32)) : Int32).toNatClampNeg)))) none) none) none) none) none) none)
def F_Ma_insert (u : Nat) (x1 : Int32) (y2 : Int64) (I : pm_II) (J : pm_JJ) : Option (Unit × pm_II × pm_JJ) :=
  if 120 ≤ (I 89 6) then (
    some ((), I, J))
  else (
    bd (F_Ma_isThere u x1 y2 I J) fun r12 I12 J12 =>
    if r12 = 0 then (
      bd (F_Ma_placeFor u x1 y2 I12 J12) fun r22 I22 J22 =>
      F_Ma_insert_33 u u x1 y2 r22 (I22 89 6) I22 J22)
    else (
      some ((), I12, J12)))
theorem fx_Ma_insert_33 {u k : Nat} {pa pb : Nat} {ga : Nat → Nat} {Q : Option Value → pm_H → Prop} (hk : 3 ≤ k) : ∀ (n : Nat), ∀ (x1 : Int32) (y2 : Int64) (x4 : Int32) (x5 : Int32) (I : pm_II) (J : pm_JJ) (r : Unit) (I2 : pm_II) (J2 : pm_JJ), F_Ma_insert_33 u n x1 y2 x4 x5 I J = some (r, I2, J2) → Q none (hp I2 J2 (pm_RT pa pb ga)) → Px k 176 m_Ma_insert 33 [.ref 89, .int x1, .long y2, .null, .int x4, .int x5] [] (hp I J (pm_RT pa pb ga)) Q := by
  obtain ⟨k, rfl⟩ : ∃ j, k = j + 1 := ⟨k - 1, by omega⟩
  intro n
  induction n with
  | zero => intro x1 y2 x4 x5 I J r I2 J2  hF; cases hF
  | succ n ih =>
    intro x1 y2 x4 x5 I J r I2 J2  hF hQ
    rw [F_Ma_insert_33] at hF
    refine bk_Ma_insert_33 ?_
    refine ⟨fun z => ?_, fun z => ?_⟩
    · rw [if_pos z] at hF
      obtain ⟨g, hF⟩ := gd_e hF
      refine ⟨vq_in g, ?_⟩
      obtain ⟨g, hF⟩ := gd_e hF
      refine ⟨vq_in g, ?_⟩
      obtain ⟨g, hF⟩ := gd_e hF
      refine ⟨vq_in g, ?_⟩
      exact ret_q (Q := fun a b c => Q none (hp b c (pm_RT pa pb ga))) hF hQ
    · rw [if_neg z] at hF
      obtain ⟨g, hF⟩ := gd_e hF
      refine ⟨vq_in g, ?_⟩
      obtain ⟨g, hF⟩ := gd_e hF
      refine ⟨vq_in g, ?_⟩
      obtain ⟨g, hF⟩ := gd_e hF
      refine ⟨vq_in g, ?_⟩
      obtain ⟨g, hF⟩ := gd_e hF
      refine ⟨vq_in g, ?_⟩
      obtain ⟨g, hF⟩ := gd_e hF
      refine ⟨vq_in g, ?_⟩
      obtain ⟨g, hF⟩ := gd_e hF
      refine ⟨vq_in g, ?_⟩
      exact ih _ _ _ _ _ _ _ _ _ hF hQ
theorem fx_Ma_insert {u k : Nat} {pa pb : Nat} {ga : Nat → Nat} {Q : Option Value → pm_H → Prop} {x1 : Int32} {y2 : Int64} {I : pm_II} {J : pm_JJ} {r : Unit} {I2 : pm_II} {J2 : pm_JJ} (hk : 3 ≤ k) (hF : F_Ma_insert u x1 y2 I J = some (r, I2, J2)) (hQ : Q none (hp I2 J2 (pm_RT pa pb ga))) : Px k 176 m_Ma_insert 0 [.ref 89, .int x1, .long y2, .null, .null, .null] [] (hp I J (pm_RT pa pb ga)) Q := by
  obtain ⟨k, rfl⟩ : ∃ j, k = j + 1 := ⟨k - 1, by omega⟩
  unfold F_Ma_insert at hF
  refine bk_Ma_insert_0 ?_
  refine ⟨fun z => ?_, fun z => ?_⟩
  · rw [if_pos z] at hF
    exact ret_q (Q := fun a b c => Q none (hp b c (pm_RT pa pb ga))) hF hQ
  · rw [if_neg z] at hF
    obtain ⟨r12, I12, J12, hC12, hF⟩ := bd_e hF
    refine fx_Ma_isThere (by omega) hC12 ⟨rfl, ?_⟩
    refine bk_Ma_insert_15 ?_
    refine ⟨fun z => ?_, fun z => ?_⟩
    · rw [if_pos z] at hF
      obtain ⟨r22, I22, J22, hC22, hF⟩ := bd_e hF
      refine fx_Ma_placeFor (by omega) hC22 ⟨rfl, ?_⟩
      refine bk_Ma_insert_25 ?_
      exact fx_Ma_insert_33 hk u _ _ _ _ _ _ _ _ _ hF hQ
    · rw [if_neg z] at hF
      exact ret_q (Q := fun a b c => Q none (hp b c (pm_RT pa pb ga))) hF hQ
def F_Ma_standsAhead_2 (u : Nat) : Nat → Int32 → Int32 → pm_II → pm_JJ → Option (Int32 × pm_II × pm_JJ)
  | 0, _, _, _, _ => none
  | n + 1, x1, x2, I, J =>
    if x1 ≤ x2 then (
      some ((0 : Int32), I, J))
    else (
      cond (vq x2 40) (
      cond (vq x1 40) (
      if ¬ (I 93 ((x2 : Int32).toNatClampNeg)) = (I 93 ((x1 : Int32).toNatClampNeg)) then (
        F_Ma_standsAhead_2 u n x1 (x2 + Int32.ofInt 1) I J)
      else (
        cond (vq x2 40) (
        cond (vq x1 40) (
        if ¬ (lg_cmp (J 94 ((x2 : Int32).toNatClampNeg)) (J 94 ((x1 : Int32).toNatClampNeg))) = 0 then (
          F_Ma_standsAhead_2 u n x1 (x2 + Int32.ofInt 1) I J)
        else (
          some ((1 : Int32), I, J))) none) none)) none) none)
def F_Ma_standsAhead (u : Nat) (x1 : Int32) (I : pm_II) (J : pm_JJ) : Option (Int32 × pm_II × pm_JJ) :=
  F_Ma_standsAhead_2 u u x1 (0 : Int32) I J
theorem fx_Ma_standsAhead_2 {u k : Nat} {pa pb : Nat} {ga : Nat → Nat} {Q : Option Value → pm_H → Prop} (hk : 0 ≤ k) : ∀ (n : Nat), ∀ (x1 : Int32) (x2 : Int32) (I : pm_II) (J : pm_JJ) (r : Int32) (I2 : pm_II) (J2 : pm_JJ), F_Ma_standsAhead_2 u n x1 x2 I J = some (r, I2, J2) → Q (some (.int r)) (hp I2 J2 (pm_RT pa pb ga)) → Px k 176 m_Ma_standsAhead 2 [.ref 89, .int x1, .int x2] [] (hp I J (pm_RT pa pb ga)) Q := by
  intro n
  induction n with
  | zero => intro x1 x2 I J r I2 J2  hF; cases hF
  | succ n ih =>
    intro x1 x2 I J r I2 J2  hF hQ
    rw [F_Ma_standsAhead_2] at hF
    refine bk_Ma_standsAhead_2 ?_
    refine ⟨fun z => ?_, fun z => ?_⟩
    · rw [if_pos z] at hF
      exact ret_q (Q := fun a b c => Q (some (.int a)) (hp b c (pm_RT pa pb ga))) hF hQ
    · rw [if_neg z] at hF
      obtain ⟨g, hF⟩ := gd_e hF
      refine ⟨vq_in g, ?_⟩
      obtain ⟨g, hF⟩ := gd_e hF
      refine ⟨vq_in g, ?_⟩
      refine ⟨fun z => ?_, fun z => ?_⟩
      · rw [if_pos z] at hF
        exact ih _ _ _ _ _ _ _ hF hQ
      · rw [if_neg z] at hF
        obtain ⟨g, hF⟩ := gd_e hF
        refine ⟨vq_in g, ?_⟩
        obtain ⟨g, hF⟩ := gd_e hF
        refine ⟨vq_in g, ?_⟩
        refine ⟨fun z => ?_, fun z => ?_⟩
        · rw [if_pos z] at hF
          exact ih _ _ _ _ _ _ _ hF hQ
        · rw [if_neg z] at hF
          exact ret_q (Q := fun a b c => Q (some (.int a)) (hp b c (pm_RT pa pb ga))) hF hQ
theorem fx_Ma_standsAhead {u k : Nat} {pa pb : Nat} {ga : Nat → Nat} {Q : Option Value → pm_H → Prop} {x1 : Int32} {I : pm_II} {J : pm_JJ} {r : Int32} {I2 : pm_II} {J2 : pm_JJ} (hk : 0 ≤ k) (hF : F_Ma_standsAhead u x1 I J = some (r, I2, J2)) (hQ : Q (some (.int r)) (hp I2 J2 (pm_RT pa pb ga))) : Px k 176 m_Ma_standsAhead 0 [.ref 89, .int x1, .null] [] (hp I J (pm_RT pa pb ga)) Q := by
  unfold F_Ma_standsAhead at hF
  refine bk_Ma_standsAhead_0 ?_
  exact fx_Ma_standsAhead_2 hk u _ _ _ _ _ _ _ hF hQ
def F_Ma_newcomers_54 (u : Nat) (x1 : Int32) (I : pm_II) (J : pm_JJ) : Option (Int32 × pm_II × pm_JJ) :=
  some (x1, I, J)
def F_Ma_newcomers_4 (u : Nat) : Nat → Int32 → Int32 → pm_II → pm_JJ → Option (Int32 × pm_II × pm_JJ)
  | 0, _, _, _, _ => none
  | n + 1, x1, x2, I, J =>
    if (I 89 5) ≤ x2 then (
      F_Ma_newcomers_54 u x1 I J)
    else (
      if 40 ≤ x2 then (
        F_Ma_newcomers_54 u x1 I J)
      else (
        cond (vq x2 40) (
        cond (vq x2 40) (
        bd (F_Ma_isThere u (I 93 ((x2 : Int32).toNatClampNeg)) (J 94 ((x2 : Int32).toNatClampNeg)) I J) fun r31 I31 J31 =>
        if ¬ r31 = 0 then (
          F_Ma_newcomers_4 u n x1 (x2 + Int32.ofInt 1) I31 J31)
        else (
          bd (F_Ma_standsAhead u x2 I31 J31) fun r39 I39 J39 =>
          if ¬ r39 = 0 then (
            F_Ma_newcomers_4 u n x1 (x2 + Int32.ofInt 1) I39 J39)
          else (
            F_Ma_newcomers_4 u n (x1 + Int32.ofInt 1) (x2 + Int32.ofInt 1) I39 J39))) none) none))
def F_Ma_newcomers (u : Nat) (I : pm_II) (J : pm_JJ) : Option (Int32 × pm_II × pm_JJ) :=
  F_Ma_newcomers_4 u u (0 : Int32) (0 : Int32) I J
theorem fx_Ma_newcomers_54 {u k : Nat} {pa pb : Nat} {ga : Nat → Nat} {Q : Option Value → pm_H → Prop} {x1 : Int32} {x2 : Int32} {I : pm_II} {J : pm_JJ} {r : Int32} {I2 : pm_II} {J2 : pm_JJ} (hk : 3 ≤ k) (hF : F_Ma_newcomers_54 u x1 I J = some (r, I2, J2)) (hQ : Q (some (.int r)) (hp I2 J2 (pm_RT pa pb ga))) : Px k 176 m_Ma_newcomers 54 [.ref 89, .int x1, .int x2] [] (hp I J (pm_RT pa pb ga)) Q := by
  obtain ⟨k, rfl⟩ : ∃ j, k = j + 1 := ⟨k - 1, by omega⟩
  unfold F_Ma_newcomers_54 at hF
  refine bk_Ma_newcomers_54 ?_
  exact ret_q (Q := fun a b c => Q (some (.int a)) (hp b c (pm_RT pa pb ga))) hF hQ
theorem fx_Ma_newcomers_4 {u k : Nat} {pa pb : Nat} {ga : Nat → Nat} {Q : Option Value → pm_H → Prop} (hk : 3 ≤ k) : ∀ (n : Nat), ∀ (x1 : Int32) (x2 : Int32) (I : pm_II) (J : pm_JJ) (r : Int32) (I2 : pm_II) (J2 : pm_JJ), F_Ma_newcomers_4 u n x1 x2 I J = some (r, I2, J2) → Q (some (.int r)) (hp I2 J2 (pm_RT pa pb ga)) → Px k 176 m_Ma_newcomers 4 [.ref 89, .int x1, .int x2] [] (hp I J (pm_RT pa pb ga)) Q := by
  obtain ⟨k, rfl⟩ : ∃ j, k = j + 1 := ⟨k - 1, by omega⟩
  intro n
  induction n with
  | zero => intro x1 x2 I J r I2 J2  hF; cases hF
  | succ n ih =>
    intro x1 x2 I J r I2 J2  hF hQ
    rw [F_Ma_newcomers_4] at hF
    refine bk_Ma_newcomers_4 ?_
    refine ⟨fun z => ?_, fun z => ?_⟩
    · rw [if_pos z] at hF
      exact fx_Ma_newcomers_54 hk hF hQ
    · rw [if_neg z] at hF
      refine ⟨fun z => ?_, fun z => ?_⟩
      · rw [if_pos z] at hF
        exact fx_Ma_newcomers_54 hk hF hQ
      · rw [if_neg z] at hF
        obtain ⟨g, hF⟩ := gd_e hF
        refine ⟨vq_in g, ?_⟩
        obtain ⟨g, hF⟩ := gd_e hF
        refine ⟨vq_in g, ?_⟩
        obtain ⟨r31, I31, J31, hC31, hF⟩ := bd_e hF
        refine fx_Ma_isThere (by omega) hC31 ⟨rfl, ?_⟩
        refine bk_Ma_newcomers_34 ?_
        refine ⟨fun z => ?_, fun z => ?_⟩
        · rw [if_pos z] at hF
          exact ih _ _ _ _ _ _ _ hF hQ
        · rw [if_neg z] at hF
          obtain ⟨r39, I39, J39, hC39, hF⟩ := bd_e hF
          refine fx_Ma_standsAhead (by omega) hC39 ⟨rfl, ?_⟩
          refine bk_Ma_newcomers_42 ?_
          refine ⟨fun z => ?_, fun z => ?_⟩
          · rw [if_pos z] at hF
            exact ih _ _ _ _ _ _ _ hF hQ
          · rw [if_neg z] at hF
            exact ih _ _ _ _ _ _ _ hF hQ
theorem fx_Ma_newcomers {u k : Nat} {pa pb : Nat} {ga : Nat → Nat} {Q : Option Value → pm_H → Prop} {I : pm_II} {J : pm_JJ} {r : Int32} {I2 : pm_II} {J2 : pm_JJ} (hk : 3 ≤ k) (hF : F_Ma_newcomers u  I J = some (r, I2, J2)) (hQ : Q (some (.int r)) (hp I2 J2 (pm_RT pa pb ga))) : Px k 176 m_Ma_newcomers 0 [.ref 89, .null, .null] [] (hp I J (pm_RT pa pb ga)) Q := by
  obtain ⟨k, rfl⟩ : ∃ j, k = j + 1 := ⟨k - 1, by omega⟩
  unfold F_Ma_newcomers at hF
  refine bk_Ma_newcomers_0 ?_
  exact fx_Ma_newcomers_4 hk u _ _ _ _ _ _ _ hF hQ
def F_Ma_readCode_34 (u : Nat) (K4 : Int32 → Int32 → pm_II → pm_JJ → Option (Int32 × pm_II × pm_JJ)) (x1 : Int32) (x2 : Int32) (x3 : Int32) (I : pm_II) (J : pm_JJ) : Option (Int32 × pm_II × pm_JJ) :=
  bd (F_Ta_takes u x3 I J) fun r36 I36 J36 =>
  K4 (((x1 * (10 : Int32)) + x3) - (48 : Int32)) (x2 + Int32.ofInt 1) I36 J36
def F_Ma_readCode_26 (u : Nat) (K4 : Int32 → Int32 → pm_II → pm_JJ → Option (Int32 × pm_II × pm_JJ)) (x1 : Int32) (x2 : Int32) (x3 : Int32) (I : pm_II) (J : pm_JJ) : Option (Int32 × pm_II × pm_JJ) :=
  bd (F_Ta_place u I J) fun r28 I28 J28 =>
  bd (F_Ta_blame u r28 I28 J28) fun _ I31 J31 =>
  F_Ma_readCode_34 u K4 x1 x2 x3 I31 J31
def F_Ma_readCode_4 (u : Nat) : Nat → Int32 → Int32 → pm_II → pm_JJ → Option (Int32 × pm_II × pm_JJ)
  | 0, _, _, _, _ => none
  | n + 1, x1, x2, I, J =>
    if 5 ≤ x2 then (
      some (x1, I, J))
    else (
      bd (F_Ta_next u I J) fun r10 I10 J10 =>
      if r10 < 48 then (
        F_Ma_readCode_26 u (F_Ma_readCode_4 u n) x1 x2 r10 I10 J10)
      else (
        if r10 ≤ 57 then (
          F_Ma_readCode_34 u (F_Ma_readCode_4 u n) x1 x2 r10 I10 J10)
        else (
          F_Ma_readCode_26 u (F_Ma_readCode_4 u n) x1 x2 r10 I10 J10)))
def F_Ma_readCode (u : Nat) (I : pm_II) (J : pm_JJ) : Option (Int32 × pm_II × pm_JJ) :=
  F_Ma_readCode_4 u u (0 : Int32) (0 : Int32) I J
theorem fx_Ma_readCode_34 {u k : Nat} {pa pb : Nat} {ga : Nat → Nat} {Q : Option Value → pm_H → Prop} {K4 : Int32 → Int32 → pm_II → pm_JJ → Option (Int32 × pm_II × pm_JJ)} {x1 : Int32} {x2 : Int32} {x3 : Int32} {I : pm_II} {J : pm_JJ} {r : Int32} {I2 : pm_II} {J2 : pm_JJ} (hk : 2 ≤ k) (hK4 : ∀ (x1 : Int32) (x2 : Int32) (I : pm_II) (J : pm_JJ) (r : Int32) (I2 : pm_II) (J2 : pm_JJ), K4 x1 x2 I J = some (r, I2, J2) → Q (some (.int r)) (hp I2 J2 (pm_RT pa pb ga)) → Px k 176 m_Ma_readCode 4 [.ref 17, .int x1, .int x2, .null] [] (hp I J (pm_RT pa pb ga)) Q) (hF : F_Ma_readCode_34 u K4 x1 x2 x3 I J = some (r, I2, J2)) (hQ : Q (some (.int r)) (hp I2 J2 (pm_RT pa pb ga))) : Px k 176 m_Ma_readCode 34 [.ref 17, .int x1, .int x2, .int x3] [] (hp I J (pm_RT pa pb ga)) Q := by
  obtain ⟨k, rfl⟩ : ∃ j, k = j + 1 := ⟨k - 1, by omega⟩
  unfold F_Ma_readCode_34 at hF
  refine bk_Ma_readCode_34 ?_
  obtain ⟨r36, I36, J36, hC36, hF⟩ := bd_e hF
  refine fx_Ta_takes (by omega) hC36 ⟨rfl, ?_⟩
  refine bk_Ma_readCode_39 ?_
  exact Px_wk (hK4 _ _ _ _ _ _ _ hF hQ) ⟨Or.inl rfl, Or.inl rfl, Or.inl rfl, Or.inr ⟨rfl, rfl⟩, trivial⟩
theorem fx_Ma_readCode_26 {u k : Nat} {pa pb : Nat} {ga : Nat → Nat} {Q : Option Value → pm_H → Prop} {K4 : Int32 → Int32 → pm_II → pm_JJ → Option (Int32 × pm_II × pm_JJ)} {x1 : Int32} {x2 : Int32} {x3 : Int32} {I : pm_II} {J : pm_JJ} {r : Int32} {I2 : pm_II} {J2 : pm_JJ} (hk : 2 ≤ k) (hK4 : ∀ (x1 : Int32) (x2 : Int32) (I : pm_II) (J : pm_JJ) (r : Int32) (I2 : pm_II) (J2 : pm_JJ), K4 x1 x2 I J = some (r, I2, J2) → Q (some (.int r)) (hp I2 J2 (pm_RT pa pb ga)) → Px k 176 m_Ma_readCode 4 [.ref 17, .int x1, .int x2, .null] [] (hp I J (pm_RT pa pb ga)) Q) (hF : F_Ma_readCode_26 u K4 x1 x2 x3 I J = some (r, I2, J2)) (hQ : Q (some (.int r)) (hp I2 J2 (pm_RT pa pb ga))) : Px k 176 m_Ma_readCode 26 [.ref 17, .int x1, .int x2, .int x3] [] (hp I J (pm_RT pa pb ga)) Q := by
  obtain ⟨k, rfl⟩ : ∃ j, k = j + 1 := ⟨k - 1, by omega⟩
  unfold F_Ma_readCode_26 at hF
  refine bk_Ma_readCode_26 ?_
  obtain ⟨r28, I28, J28, hC28, hF⟩ := bd_e hF
  refine fx_Ta_place (by omega) hC28 ⟨rfl, ?_⟩
  refine bk_Ma_readCode_31 ?_
  obtain ⟨r31, I31, J31, hC31, hF⟩ := bd_e hF
  refine fx_Ta_blame (by omega) hC31 ⟨rfl, ?_⟩
  exact fx_Ma_readCode_34 hk hK4 hF hQ
theorem fx_Ma_readCode_4 {u k : Nat} {pa pb : Nat} {ga : Nat → Nat} {Q : Option Value → pm_H → Prop} (hk : 2 ≤ k) : ∀ (n : Nat), ∀ (x1 : Int32) (x2 : Int32) (I : pm_II) (J : pm_JJ) (r : Int32) (I2 : pm_II) (J2 : pm_JJ), F_Ma_readCode_4 u n x1 x2 I J = some (r, I2, J2) → Q (some (.int r)) (hp I2 J2 (pm_RT pa pb ga)) → Px k 176 m_Ma_readCode 4 [.ref 17, .int x1, .int x2, .null] [] (hp I J (pm_RT pa pb ga)) Q := by
  obtain ⟨k, rfl⟩ : ∃ j, k = j + 1 := ⟨k - 1, by omega⟩
  intro n
  induction n with
  | zero => intro x1 x2 I J r I2 J2  hF; cases hF
  | succ n ih =>
    intro x1 x2 I J r I2 J2  hF hQ
    rw [F_Ma_readCode_4] at hF
    refine bk_Ma_readCode_4 ?_
    refine ⟨fun z => ?_, fun z => ?_⟩
    · rw [if_pos z] at hF
      exact ret_q (Q := fun a b c => Q (some (.int a)) (hp b c (pm_RT pa pb ga))) hF hQ
    · rw [if_neg z] at hF
      obtain ⟨r10, I10, J10, hC10, hF⟩ := bd_e hF
      refine fx_Ta_next (by omega) hC10 ⟨rfl, ?_⟩
      refine bk_Ma_readCode_13 ?_
      refine ⟨fun z => ?_, fun z => ?_⟩
      · rw [if_pos z] at hF
        exact fx_Ma_readCode_26 hk ih hF hQ
      · rw [if_neg z] at hF
        refine ⟨fun z => ?_, fun z => ?_⟩
        · rw [if_pos z] at hF
          exact fx_Ma_readCode_34 hk ih hF hQ
        · rw [if_neg z] at hF
          exact fx_Ma_readCode_26 hk ih hF hQ
theorem fx_Ma_readCode {u k : Nat} {pa pb : Nat} {ga : Nat → Nat} {Q : Option Value → pm_H → Prop} {I : pm_II} {J : pm_JJ} {r : Int32} {I2 : pm_II} {J2 : pm_JJ} (hk : 2 ≤ k) (hF : F_Ma_readCode u  I J = some (r, I2, J2)) (hQ : Q (some (.int r)) (hp I2 J2 (pm_RT pa pb ga))) : Px k 176 m_Ma_readCode 0 [.ref 17, .null, .null, .null] [] (hp I J (pm_RT pa pb ga)) Q := by
  obtain ⟨k, rfl⟩ : ∃ j, k = j + 1 := ⟨k - 1, by omega⟩
  unfold F_Ma_readCode at hF
  refine bk_Ma_readCode_0 ?_
  exact fx_Ma_readCode_4 hk u _ _ _ _ _ _ _ hF hQ
def F_Ma_readName_20 (u : Nat) : Nat → Int32 → Int32 → Int64 → Int32 → pm_II → pm_JJ → Option (Int64 × pm_II × pm_JJ)
  | 0, _, _, _, _, _, _ => none
  | n + 1, x1, x2, y3, x5, I, J =>
    if 8 ≤ x5 then (
      some (y3, I, J))
    else (
      if x1 ≤ x5 then (
        F_Ma_readName_20 u n x1 x2 ((y3 <<< ((8 : Int32).toInt64 &&& 63)) ||| (0 : Int32).toInt64) (x5 + Int32.ofInt 1) I J)
      else (
        bd (F_Ta_byteAt u (x2 + x5) I J) fun r42 I42 J42 =>
        F_Ma_readName_20 u n x1 x2 ((y3 <<< ((8 : Int32).toInt64 &&& 63)) ||| (r42 : Int32).toInt64) (x5 + Int32.ofInt 1) I42 J42))
def F_Ma_readName (u : Nat) (I : pm_II) (J : pm_JJ) : Option (Int64 × pm_II × pm_JJ) :=
  bd (F_Ta_readLetters u (8 : Int32) (1 : Int32) I J) fun r4 I4 J4 =>
  bd (F_Ta_place u I4 J4) fun r9 I9 J9 =>
  F_Ma_readName_20 u u r4 (r9 - r4) (Int64.ofNat 0) (0 : Int32) I9 J9
theorem fx_Ma_readName_20 {u k : Nat} {pa pb : Nat} {ga : Nat → Nat} {Q : Option Value → pm_H → Prop} (hk : 2 ≤ k) : ∀ (n : Nat), ∀ (x1 : Int32) (x2 : Int32) (y3 : Int64) (x5 : Int32) (I : pm_II) (J : pm_JJ) (r : Int64) (I2 : pm_II) (J2 : pm_JJ), F_Ma_readName_20 u n x1 x2 y3 x5 I J = some (r, I2, J2) → Q (some (.long r)) (hp I2 J2 (pm_RT pa pb ga)) → Px k 176 m_Ma_readName 20 [.ref 17, .int x1, .int x2, .long y3, .null, .int x5] [] (hp I J (pm_RT pa pb ga)) Q := by
  obtain ⟨k, rfl⟩ : ∃ j, k = j + 1 := ⟨k - 1, by omega⟩
  intro n
  induction n with
  | zero => intro x1 x2 y3 x5 I J r I2 J2  hF; cases hF
  | succ n ih =>
    intro x1 x2 y3 x5 I J r I2 J2  hF hQ
    rw [F_Ma_readName_20] at hF
    refine bk_Ma_readName_20 ?_
    refine ⟨fun z => ?_, fun z => ?_⟩
    · rw [if_pos z] at hF
      exact ret_q (Q := fun a b c => Q (some (.long a)) (hp b c (pm_RT pa pb ga))) hF hQ
    · rw [if_neg z] at hF
      refine ⟨fun z => ?_, fun z => ?_⟩
      · rw [if_pos z] at hF
        exact ih _ _ _ _ _ _ _ _ _ hF hQ
      · rw [if_neg z] at hF
        obtain ⟨r42, I42, J42, hC42, hF⟩ := bd_e hF
        refine fx_Ta_byteAt (by omega) hC42 ⟨rfl, ?_⟩
        refine bk_Ma_readName_45 ?_
        exact ih _ _ _ _ _ _ _ _ _ hF hQ
theorem fx_Ma_readName {u k : Nat} {pa pb : Nat} {ga : Nat → Nat} {Q : Option Value → pm_H → Prop} {I : pm_II} {J : pm_JJ} {r : Int64} {I2 : pm_II} {J2 : pm_JJ} (hk : 2 ≤ k) (hF : F_Ma_readName u  I J = some (r, I2, J2)) (hQ : Q (some (.long r)) (hp I2 J2 (pm_RT pa pb ga))) : Px k 176 m_Ma_readName 0 [.ref 17, .null, .null, .null, .null, .null] [] (hp I J (pm_RT pa pb ga)) Q := by
  obtain ⟨k, rfl⟩ : ∃ j, k = j + 1 := ⟨k - 1, by omega⟩
  unfold F_Ma_readName at hF
  refine bk_Ma_readName_0 ?_
  obtain ⟨r4, I4, J4, hC4, hF⟩ := bd_e hF
  refine fx_Ta_readLetters (by omega) hC4 ⟨rfl, ?_⟩
  refine bk_Ma_readName_7 ?_
  obtain ⟨r9, I9, J9, hC9, hF⟩ := bd_e hF
  refine fx_Ta_place (by omega) hC9 ⟨rfl, ?_⟩
  refine bk_Ma_readName_12 ?_
  exact fx_Ma_readName_20 hk u _ _ _ _ _ _ _ _ _ hF hQ
def F_Ma_takeText_101 (u : Nat) : Nat → Int32 → pm_II → pm_JJ → Option (Int32 × pm_II × pm_JJ)
  | 0, _, _, _ => none
  | n + 1, x2, I, J =>
    if (I 89 5) ≤ x2 then (
      some ((I 89 6), I, J))
    else (
      cond (vq x2 40) (
      cond (vq x2 40) (
      bd (F_Ma_insert u (I 93 ((x2 : Int32).toNatClampNeg)) (J 94 ((x2 : Int32).toNatClampNeg)) I J) fun _ I122 J122 =>
      F_Ma_takeText_101 u n (x2 + Int32.ofInt 1) I122 J122) none) none)
def F_Ma_takeText_69 (u : Nat) (I : pm_II) (J : pm_JJ) : Option (Int32 × pm_II × pm_JJ) :=
  bd (F_Ta_finish u I J) fun _ I70 J70 =>
  bd (F_Ta_isRight u I70 J70) fun r74 I74 J74 =>
  if ¬ r74 = 0 then (
    bd (F_Ma_newcomers u I74 J74) fun r87 I87 J87 =>
    if ((I74 89 6) + r87) ≤ 120 then (
      F_Ma_takeText_101 u u (0 : Int32) I87 J87)
    else (
      some (((-4) : Int32), I87, J87)))
  else (
    some (((-1) : Int32), I74, J74))
def F_Ma_takeText_5 (u : Nat) : Nat → pm_II → pm_JJ → Option (Int32 × pm_II × pm_JJ)
  | 0, _, _ => none
  | n + 1, I, J =>
    bd (F_Ma_readCode u I J) fun r14 I14 J14 =>
    cond (vq (I 89 5) 40) (
    bd (F_Ta_expect u (32 : Int32) (pm_up I14 93 (((I 89 5) : Int32).toNatClampNeg) r14) J14) fun _ I21 J21 =>
    bd (F_Ma_readName u I21 J21) fun r33 I33 J33 =>
    cond (vq (I21 89 5) 40) (
    bd (F_Ta_expect u (10 : Int32) I33 (pm_up J33 94 (((I21 89 5) : Int32).toNatClampNeg) r33)) fun _ I40 J40 =>
    if 40 ≤ ((I40 89 5) + (1 : Int32)) then (
      F_Ma_takeText_69 u (pm_up I40 89 5 ((I40 89 5) + (1 : Int32))) J40)
    else (
      bd (F_Ta_hasMore u (pm_up I40 89 5 ((I40 89 5) + (1 : Int32))) J40) fun r63 I63 J63 =>
      if ¬ r63 = 0 then (
        F_Ma_takeText_5 u n I63 J63)
      else (
        F_Ma_takeText_69 u I63 J63))) none) none
def F_Ma_takeText (u : Nat) (I : pm_II) (J : pm_JJ) : Option (Int32 × pm_II × pm_JJ) :=
  F_Ma_takeText_5 u u (pm_up I 89 5 0) J
theorem fx_Ma_takeText_101 {u k : Nat} {pa pb : Nat} {ga : Nat → Nat} {Q : Option Value → pm_H → Prop} (hk : 4 ≤ k) : ∀ (n : Nat), ∀ (x2 : Int32) (I : pm_II) (J : pm_JJ) (r : Int32) (I2 : pm_II) (J2 : pm_JJ), F_Ma_takeText_101 u n x2 I J = some (r, I2, J2) → Q (some (.int r)) (hp I2 J2 (pm_RT pa pb ga)) → Px k 176 m_Ma_takeText 101 [.ref 89, .ref 17, .int x2] [] (hp I J (pm_RT pa pb ga)) Q := by
  obtain ⟨k, rfl⟩ : ∃ j, k = j + 1 := ⟨k - 1, by omega⟩
  intro n
  induction n with
  | zero => intro x2 I J r I2 J2  hF; cases hF
  | succ n ih =>
    intro x2 I J r I2 J2  hF hQ
    rw [F_Ma_takeText_101] at hF
    refine bk_Ma_takeText_101 ?_
    refine ⟨fun z => ?_, fun z => ?_⟩
    · rw [if_pos z] at hF
      exact ret_q (Q := fun a b c => Q (some (.int a)) (hp b c (pm_RT pa pb ga))) hF hQ
    · rw [if_neg z] at hF
      obtain ⟨g, hF⟩ := gd_e hF
      refine ⟨vq_in g, ?_⟩
      obtain ⟨g, hF⟩ := gd_e hF
      refine ⟨vq_in g, ?_⟩
      obtain ⟨r122, I122, J122, hC122, hF⟩ := bd_e hF
      refine fx_Ma_insert (by omega) hC122 ⟨rfl, ?_⟩
      refine bk_Ma_takeText_125 ?_
      exact ih _ _ _ _ _ _ hF hQ
theorem fx_Ma_takeText_69 {u k : Nat} {pa pb : Nat} {ga : Nat → Nat} {Q : Option Value → pm_H → Prop} {I : pm_II} {J : pm_JJ} {r : Int32} {I2 : pm_II} {J2 : pm_JJ} (hk : 4 ≤ k) (hF : F_Ma_takeText_69 u  I J = some (r, I2, J2)) (hQ : Q (some (.int r)) (hp I2 J2 (pm_RT pa pb ga))) : Px k 176 m_Ma_takeText 69 [.ref 89, .ref 17, .null] [] (hp I J (pm_RT pa pb ga)) Q := by
  obtain ⟨k, rfl⟩ : ∃ j, k = j + 1 := ⟨k - 1, by omega⟩
  unfold F_Ma_takeText_69 at hF
  refine bk_Ma_takeText_69 ?_
  obtain ⟨r70, I70, J70, hC70, hF⟩ := bd_e hF
  refine fx_Ta_finish (by omega) hC70 ⟨rfl, ?_⟩
  refine bk_Ma_takeText_73 ?_
  obtain ⟨r74, I74, J74, hC74, hF⟩ := bd_e hF
  refine fx_Ta_isRight (by omega) hC74 ⟨rfl, ?_⟩
  refine bk_Ma_takeText_77 ?_
  refine ⟨fun z => ?_, fun z => ?_⟩
  · rw [if_pos z] at hF
    obtain ⟨r87, I87, J87, hC87, hF⟩ := bd_e hF
    refine fx_Ma_newcomers (by omega) hC87 ⟨rfl, ?_⟩
    refine bk_Ma_takeText_90 ?_
    refine ⟨fun z => ?_, fun z => ?_⟩
    · rw [if_pos z] at hF
      exact fx_Ma_takeText_101 hk u _ _ _ _ _ _ hF hQ
    · rw [if_neg z] at hF
      exact ret_q (Q := fun a b c => Q (some (.int a)) (hp b c (pm_RT pa pb ga))) hF hQ
  · rw [if_neg z] at hF
    exact ret_q (Q := fun a b c => Q (some (.int a)) (hp b c (pm_RT pa pb ga))) hF hQ
theorem fx_Ma_takeText_5 {u k : Nat} {pa pb : Nat} {ga : Nat → Nat} {Q : Option Value → pm_H → Prop} (hk : 4 ≤ k) : ∀ (n : Nat), ∀  (I : pm_II) (J : pm_JJ) (r : Int32) (I2 : pm_II) (J2 : pm_JJ), F_Ma_takeText_5 u n I J = some (r, I2, J2) → Q (some (.int r)) (hp I2 J2 (pm_RT pa pb ga)) → Px k 176 m_Ma_takeText 5 [.ref 89, .ref 17, .null] [] (hp I J (pm_RT pa pb ga)) Q := by
  obtain ⟨k, rfl⟩ : ∃ j, k = j + 1 := ⟨k - 1, by omega⟩
  intro n
  induction n with
  | zero => intro  I J r I2 J2  hF; cases hF
  | succ n ih =>
    intro  I J r I2 J2  hF hQ
    rw [F_Ma_takeText_5] at hF
    refine bk_Ma_takeText_5 ?_
    obtain ⟨r14, I14, J14, hC14, hF⟩ := bd_e hF
    refine fx_Ma_readCode (by omega) hC14 ⟨rfl, ?_⟩
    refine bk_Ma_takeText_17 ?_
    obtain ⟨g, hF⟩ := gd_e hF
    refine ⟨vq_in g, ?_⟩
    obtain ⟨r21, I21, J21, hC21, hF⟩ := bd_e hF
    refine fx_Ta_expect (by omega) hC21 ⟨rfl, ?_⟩
    refine bk_Ma_takeText_24 ?_
    obtain ⟨r33, I33, J33, hC33, hF⟩ := bd_e hF
    refine fx_Ma_readName (by omega) hC33 ⟨rfl, ?_⟩
    refine bk_Ma_takeText_36 ?_
    obtain ⟨g, hF⟩ := gd_e hF
    refine ⟨vq_in g, ?_⟩
    obtain ⟨r40, I40, J40, hC40, hF⟩ := bd_e hF
    refine fx_Ta_expect (by omega) hC40 ⟨rfl, ?_⟩
    refine bk_Ma_takeText_43 ?_
    refine ⟨fun z => ?_, fun z => ?_⟩
    · rw [if_pos z] at hF
      exact fx_Ma_takeText_69 hk hF hQ
    · rw [if_neg z] at hF
      obtain ⟨r63, I63, J63, hC63, hF⟩ := bd_e hF
      refine fx_Ta_hasMore (by omega) hC63 ⟨rfl, ?_⟩
      refine bk_Ma_takeText_66 ?_
      refine ⟨fun z => ?_, fun z => ?_⟩
      · rw [if_pos z] at hF
        exact ih _ _ _ _ _ hF hQ
      · rw [if_neg z] at hF
        exact fx_Ma_takeText_69 hk hF hQ
theorem fx_Ma_takeText {u k : Nat} {pa pb : Nat} {ga : Nat → Nat} {Q : Option Value → pm_H → Prop} {I : pm_II} {J : pm_JJ} {r : Int32} {I2 : pm_II} {J2 : pm_JJ} (hk : 4 ≤ k) (hF : F_Ma_takeText u  I J = some (r, I2, J2)) (hQ : Q (some (.int r)) (hp I2 J2 (pm_RT pa pb ga))) : Px k 176 m_Ma_takeText 0 [.ref 89, .ref 17, .null] [] (hp I J (pm_RT pa pb ga)) Q := by
  obtain ⟨k, rfl⟩ : ∃ j, k = j + 1 := ⟨k - 1, by omega⟩
  unfold F_Ma_takeText at hF
  refine bk_Ma_takeText_0 ?_
  exact fx_Ma_takeText_5 hk u _ _ _ _ _ hF hQ
def F_Bu_makeBundle_85 (u : Nat) (I : pm_II) (J : pm_JJ) : Option (Unit × pm_II × pm_JJ) :=
  some ((), (pm_up I 95 7 ((I 95 7) + (1 : Int32))), J)
def F_Bu_makeBundle_48 (u : Nat) : Nat → Int32 → Int32 → Int32 → pm_II → pm_JJ → Option (Unit × pm_II × pm_JJ)
  | 0, _, _, _, _, _ => none
  | n + 1, x1, x2, x4, I, J =>
    if (x1 + x2) ≤ x4 then (
      F_Bu_makeBundle_85 u I J)
    else (
      if 120 ≤ x4 then (
        F_Bu_makeBundle_85 u I J)
      else (
        cond (vq x4 120) (
        cond (vq (I 97 ((x4 : Int32).toNatClampNeg)) 120) (
        F_Bu_makeBundle_48 u n x1 x2 (x4 + Int32.ofInt 1) (pm_up I 96 (((I 97 ((x4 : Int32).toNatClampNeg)) : Int32).toNatClampNeg) (I 95 7)) J) none) none))
def F_Bu_makeBundle (u : Nat) (x1 : Int32) (x2 : Int32) (x3 : Int32) (I : pm_II) (J : pm_JJ) : Option (Unit × pm_II × pm_JJ) :=
  if (I 95 7) < 120 then (
    cond (vq (I 95 7) 120) (
    cond (vq (I 95 7) 120) (
    cond (vq x1 120) (
    cond (vq (I 95 7) 120) (
    F_Bu_makeBundle_48 u u x1 x2 x1 (pm_up (pm_up (pm_up I 98 (((I 95 7) : Int32).toNatClampNeg) x3) 99 (((I 95 7) : Int32).toNatClampNeg) x2) 100 (((I 95 7) : Int32).toNatClampNeg) (I 97 ((x1 : Int32).toNatClampNeg))) J) none) none) none) none)
  else (
    some ((), I, J))
theorem fx_Bu_makeBundle_85 {u k : Nat} {pa pb : Nat} {ga : Nat → Nat} {Q : Option Value → pm_H → Prop} {x1 : Int32} {x2 : Int32} {x3 : Int32} {x4 : Int32} {I : pm_II} {J : pm_JJ} {r : Unit} {I2 : pm_II} {J2 : pm_JJ} (hk : 0 ≤ k) (hF : F_Bu_makeBundle_85 u  I J = some (r, I2, J2)) (hQ : Q none (hp I2 J2 (pm_RT pa pb ga))) : Px k 176 m_Bu_makeBundle 85 [.ref 95, .int x1, .int x2, .int x3, .int x4] [] (hp I J (pm_RT pa pb ga)) Q := by
  unfold F_Bu_makeBundle_85 at hF
  refine bk_Bu_makeBundle_85 ?_
  exact ret_q (Q := fun a b c => Q none (hp b c (pm_RT pa pb ga))) hF hQ
theorem fx_Bu_makeBundle_48 {u k : Nat} {pa pb : Nat} {ga : Nat → Nat} {Q : Option Value → pm_H → Prop} (hk : 0 ≤ k) : ∀ (n : Nat), ∀ (x1 : Int32) (x2 : Int32) (x3 : Int32) (x4 : Int32) (I : pm_II) (J : pm_JJ) (r : Unit) (I2 : pm_II) (J2 : pm_JJ), F_Bu_makeBundle_48 u n x1 x2 x4 I J = some (r, I2, J2) → Q none (hp I2 J2 (pm_RT pa pb ga)) → Px k 176 m_Bu_makeBundle 48 [.ref 95, .int x1, .int x2, .int x3, .int x4] [] (hp I J (pm_RT pa pb ga)) Q := by
  intro n
  induction n with
  | zero => intro x1 x2 x3 x4 I J r I2 J2  hF; cases hF
  | succ n ih =>
    intro x1 x2 x3 x4 I J r I2 J2  hF hQ
    rw [F_Bu_makeBundle_48] at hF
    refine bk_Bu_makeBundle_48 ?_
    refine ⟨fun z => ?_, fun z => ?_⟩
    · rw [if_pos z] at hF
      exact fx_Bu_makeBundle_85 hk hF hQ
    · rw [if_neg z] at hF
      refine ⟨fun z => ?_, fun z => ?_⟩
      · rw [if_pos z] at hF
        exact fx_Bu_makeBundle_85 hk hF hQ
      · rw [if_neg z] at hF
        obtain ⟨g, hF⟩ := gd_e hF
        refine ⟨vq_in g, ?_⟩
        obtain ⟨g, hF⟩ := gd_e hF
        refine ⟨vq_in g, ?_⟩
        exact ih _ _ _ _ _ _ _ _ _ hF hQ
theorem fx_Bu_makeBundle {u k : Nat} {pa pb : Nat} {ga : Nat → Nat} {Q : Option Value → pm_H → Prop} {x1 : Int32} {x2 : Int32} {x3 : Int32} {I : pm_II} {J : pm_JJ} {r : Unit} {I2 : pm_II} {J2 : pm_JJ} (hk : 0 ≤ k) (hF : F_Bu_makeBundle u x1 x2 x3 I J = some (r, I2, J2)) (hQ : Q none (hp I2 J2 (pm_RT pa pb ga))) : Px k 176 m_Bu_makeBundle 0 [.ref 95, .int x1, .int x2, .int x3, .null] [] (hp I J (pm_RT pa pb ga)) Q := by
  unfold F_Bu_makeBundle at hF
  refine bk_Bu_makeBundle_0 ?_
  refine ⟨fun z => ?_, fun z => ?_⟩
  · rw [if_pos z] at hF
    obtain ⟨g, hF⟩ := gd_e hF
    refine ⟨vq_in g, ?_⟩
    obtain ⟨g, hF⟩ := gd_e hF
    refine ⟨vq_in g, ?_⟩
    obtain ⟨g, hF⟩ := gd_e hF
    refine ⟨vq_in g, ?_⟩
    obtain ⟨g, hF⟩ := gd_e hF
    refine ⟨vq_in g, ?_⟩
    exact fx_Bu_makeBundle_48 hk u _ _ _ _ _ _ _ _ _ hF hQ
  · rw [if_neg z] at hF
    exact ret_q (Q := fun a b c => Q none (hp b c (pm_RT pa pb ga))) hF hQ
def F_Bu_bundleGroup_60 (u : Nat) (K18 : Int32 → Int32 → Int32 → Int32 → pm_II → pm_JJ → Option (Unit × pm_II × pm_JJ)) (x2 : Int32) (x3 : Int32) (x4 : Int32) (x5 : Int32) (I : pm_II) (J : pm_JJ) : Option (Unit × pm_II × pm_JJ) :=
  K18 x2 x3 x4 (x5 + (I 95 6)) I J
def F_Bu_bundleGroup_72 (u : Nat) (I : pm_II) (J : pm_JJ) : Option (Unit × pm_II × pm_JJ) :=
  some ((), I, J)
def F_Bu_bundleGroup_18 (u : Nat) : Nat → Int32 → Int32 → Int32 → Int32 → pm_II → pm_JJ → Option (Unit × pm_II × pm_JJ)
  | 0, _, _, _, _, _, _ => none
  | n + 1, x2, x3, x4, x5, I, J =>
    if x2 ≤ x5 then (
      F_Bu_bundleGroup_72 u I J)
    else (
      if (I 95 6) ≤ 0 then (
        F_Bu_bundleGroup_72 u I J)
      else (
        bd (F_Jm_min_II u (I 95 6) (x2 - x5) I J) fun r39 I39 J39 =>
        if r39 < x4 then (
          F_Bu_bundleGroup_60 u (F_Bu_bundleGroup_18 u n) x2 x3 x4 x5 I39 J39)
        else (
          bd (F_Bu_makeBundle u x5 r39 x3 I39 J39) fun _ I57 J57 =>
          F_Bu_bundleGroup_60 u (F_Bu_bundleGroup_18 u n) x2 x3 x4 x5 I57 J57)))
def F_Bu_bundleGroup (u : Nat) (x1 : Int32) (x2 : Int32) (x3 : Int32) (I : pm_II) (J : pm_JJ) : Option (Unit × pm_II × pm_JJ) :=
  if ¬ x3 = 2 then (
    F_Bu_bundleGroup_18 u u x2 x3 (I 95 5) x1 I J)
  else (
    F_Bu_bundleGroup_18 u u x2 x3 (1 : Int32) x1 I J)
theorem fx_Bu_bundleGroup_60 {u k : Nat} {pa pb : Nat} {ga : Nat → Nat} {Q : Option Value → pm_H → Prop} {K18 : Int32 → Int32 → Int32 → Int32 → pm_II → pm_JJ → Option (Unit × pm_II × pm_JJ)} {x1 : Int32} {x2 : Int32} {x3 : Int32} {x4 : Int32} {x5 : Int32} {x6 : Int32} {I : pm_II} {J : pm_JJ} {r : Unit} {I2 : pm_II} {J2 : pm_JJ} (hk : 1 ≤ k) (hK18 : ∀ (x1 : Int32) (x2 : Int32) (x3 : Int32) (x4 : Int32) (x5 : Int32) (I : pm_II) (J : pm_JJ) (r : Unit) (I2 : pm_II) (J2 : pm_JJ), K18 x2 x3 x4 x5 I J = some (r, I2, J2) → Q none (hp I2 J2 (pm_RT pa pb ga)) → Px k 176 m_Bu_bundleGroup 18 [.ref 95, .int x1, .int x2, .int x3, .int x4, .int x5, .null] [] (hp I J (pm_RT pa pb ga)) Q) (hF : F_Bu_bundleGroup_60 u K18 x2 x3 x4 x5 I J = some (r, I2, J2)) (hQ : Q none (hp I2 J2 (pm_RT pa pb ga))) : Px k 176 m_Bu_bundleGroup 60 [.ref 95, .int x1, .int x2, .int x3, .int x4, .int x5, .int x6] [] (hp I J (pm_RT pa pb ga)) Q := by
  obtain ⟨k, rfl⟩ : ∃ j, k = j + 1 := ⟨k - 1, by omega⟩
  unfold F_Bu_bundleGroup_60 at hF
  refine bk_Bu_bundleGroup_60 ?_
  exact Px_wk (hK18 _ _ _ _ _ _ _ _ _ _ hF hQ) ⟨Or.inl rfl, Or.inl rfl, Or.inl rfl, Or.inl rfl, Or.inl rfl, Or.inl rfl, Or.inr ⟨rfl, rfl⟩, trivial⟩
theorem fx_Bu_bundleGroup_72 {u k : Nat} {pa pb : Nat} {ga : Nat → Nat} {Q : Option Value → pm_H → Prop} {x1 : Int32} {x2 : Int32} {x3 : Int32} {x4 : Int32} {x5 : Int32} {I : pm_II} {J : pm_JJ} {r : Unit} {I2 : pm_II} {J2 : pm_JJ} (hk : 1 ≤ k) (hF : F_Bu_bundleGroup_72 u  I J = some (r, I2, J2)) (hQ : Q none (hp I2 J2 (pm_RT pa pb ga))) : Px k 176 m_Bu_bundleGroup 72 [.ref 95, .int x1, .int x2, .int x3, .int x4, .int x5, .null] [] (hp I J (pm_RT pa pb ga)) Q := by
  obtain ⟨k, rfl⟩ : ∃ j, k = j + 1 := ⟨k - 1, by omega⟩
  unfold F_Bu_bundleGroup_72 at hF
  refine bk_Bu_bundleGroup_72 ?_
  exact ret_q (Q := fun a b c => Q none (hp b c (pm_RT pa pb ga))) hF hQ
theorem fx_Bu_bundleGroup_18 {u k : Nat} {pa pb : Nat} {ga : Nat → Nat} {Q : Option Value → pm_H → Prop} (hk : 1 ≤ k) : ∀ (n : Nat), ∀ (x1 : Int32) (x2 : Int32) (x3 : Int32) (x4 : Int32) (x5 : Int32) (I : pm_II) (J : pm_JJ) (r : Unit) (I2 : pm_II) (J2 : pm_JJ), F_Bu_bundleGroup_18 u n x2 x3 x4 x5 I J = some (r, I2, J2) → Q none (hp I2 J2 (pm_RT pa pb ga)) → Px k 176 m_Bu_bundleGroup 18 [.ref 95, .int x1, .int x2, .int x3, .int x4, .int x5, .null] [] (hp I J (pm_RT pa pb ga)) Q := by
  obtain ⟨k, rfl⟩ : ∃ j, k = j + 1 := ⟨k - 1, by omega⟩
  intro n
  induction n with
  | zero => intro x1 x2 x3 x4 x5 I J r I2 J2  hF; cases hF
  | succ n ih =>
    intro x1 x2 x3 x4 x5 I J r I2 J2  hF hQ
    rw [F_Bu_bundleGroup_18] at hF
    refine bk_Bu_bundleGroup_18 ?_
    refine ⟨fun z => ?_, fun z => ?_⟩
    · rw [if_pos z] at hF
      exact fx_Bu_bundleGroup_72 hk hF hQ
    · rw [if_neg z] at hF
      refine ⟨fun z => ?_, fun z => ?_⟩
      · rw [if_pos z] at hF
        exact fx_Bu_bundleGroup_72 hk hF hQ
      · rw [if_neg z] at hF
        obtain ⟨r39, I39, J39, hC39, hF⟩ := bd_e hF
        refine fx_Jm_min_II (by omega) hC39 ⟨rfl, ?_⟩
        refine bk_Bu_bundleGroup_42 ?_
        refine ⟨fun z => ?_, fun z => ?_⟩
        · rw [if_pos z] at hF
          exact fx_Bu_bundleGroup_60 hk ih hF hQ
        · rw [if_neg z] at hF
          obtain ⟨r57, I57, J57, hC57, hF⟩ := bd_e hF
          refine fx_Bu_makeBundle (by omega) hC57 ⟨rfl, ?_⟩
          exact fx_Bu_bundleGroup_60 hk ih hF hQ
theorem fx_Bu_bundleGroup {u k : Nat} {pa pb : Nat} {ga : Nat → Nat} {Q : Option Value → pm_H → Prop} {x1 : Int32} {x2 : Int32} {x3 : Int32} {I : pm_II} {J : pm_JJ} {r : Unit} {I2 : pm_II} {J2 : pm_JJ} (hk : 1 ≤ k) (hF : F_Bu_bundleGroup u x1 x2 x3 I J = some (r, I2, J2)) (hQ : Q none (hp I2 J2 (pm_RT pa pb ga))) : Px k 176 m_Bu_bundleGroup 0 [.ref 95, .int x1, .int x2, .int x3, .null, .null, .null] [] (hp I J (pm_RT pa pb ga)) Q := by
  obtain ⟨k, rfl⟩ : ∃ j, k = j + 1 := ⟨k - 1, by omega⟩
  unfold F_Bu_bundleGroup at hF
  refine bk_Bu_bundleGroup_0 ?_
  refine ⟨fun z => ?_, fun z => ?_⟩
  · rw [if_pos z] at hF
    exact fx_Bu_bundleGroup_18 hk u _ _ _ _ _ _ _ _ _ _ hF hQ
  · rw [if_neg z] at hF
    exact fx_Bu_bundleGroup_18 hk u _ _ _ _ _ _ _ _ _ _ hF hQ
def F_Ma_codeOf (u : Nat) (x1 : Int32) (I : pm_II) (J : pm_JJ) : Option (Int32 × pm_II × pm_JJ) :=
  bd (F_Ma_has u x1 I J) fun r2 I2 J2 =>
  if r2 = 0 then (
    some (((-1) : Int32), I2, J2))
  else (
    cond (vq x1 120) (
    some ((I2 90 ((x1 : Int32).toNatClampNeg)), I2, J2)) none)
theorem fx_Ma_codeOf {u k : Nat} {pa pb : Nat} {ga : Nat → Nat} {Q : Option Value → pm_H → Prop} {x1 : Int32} {I : pm_II} {J : pm_JJ} {r : Int32} {I2 : pm_II} {J2 : pm_JJ} (hk : 1 ≤ k) (hF : F_Ma_codeOf u x1 I J = some (r, I2, J2)) (hQ : Q (some (.int r)) (hp I2 J2 (pm_RT pa pb ga))) : Px k 176 m_Ma_codeOf 0 [.ref 89, .int x1] [] (hp I J (pm_RT pa pb ga)) Q := by
  obtain ⟨k, rfl⟩ : ∃ j, k = j + 1 := ⟨k - 1, by omega⟩
  unfold F_Ma_codeOf at hF
  refine bk_Ma_codeOf_0 ?_
  obtain ⟨r2, I2, J2, hC2, hF⟩ := bd_e hF
  refine fx_Ma_has (by omega) hC2 ⟨rfl, ?_⟩
  refine bk_Ma_codeOf_5 ?_
  refine ⟨fun z => ?_, fun z => ?_⟩
  · rw [if_pos z] at hF
    exact ret_q (Q := fun a b c => Q (some (.int a)) (hp b c (pm_RT pa pb ga))) hF hQ
  · rw [if_neg z] at hF
    obtain ⟨g, hF⟩ := gd_e hF
    refine ⟨vq_in g, ?_⟩
    exact ret_q (Q := fun a b c => Q (some (.int a)) (hp b c (pm_RT pa pb ga))) hF hQ
def F_Bu_groupOf (u : Nat) (x1 : Int32) (x2 : Int32) (I : pm_II) (J : pm_JJ) : Option (Int32 × pm_II × pm_JJ) :=
  bd (F_Ma_codeOf u x1 I J) fun r2 I2 J2 =>
  if ¬ x2 = 0 then (
    if ¬ x2 = 2 then (
      some ((r2 / 100), I2, J2))
    else (
      some ((0 : Int32), I2, J2)))
  else (
    some (r2, I2, J2))
theorem fx_Bu_groupOf {u k : Nat} {pa pb : Nat} {ga : Nat → Nat} {Q : Option Value → pm_H → Prop} {x1 : Int32} {x2 : Int32} {I : pm_II} {J : pm_JJ} {r : Int32} {I2 : pm_II} {J2 : pm_JJ} (hk : 2 ≤ k) (hF : F_Bu_groupOf u x1 x2 I J = some (r, I2, J2)) (hQ : Q (some (.int r)) (hp I2 J2 (pm_RT pa pb ga))) : Px k 176 m_Bu_groupOf 0 [.ref 89, .int x1, .int x2, .null] [] (hp I J (pm_RT pa pb ga)) Q := by
  obtain ⟨k, rfl⟩ : ∃ j, k = j + 1 := ⟨k - 1, by omega⟩
  unfold F_Bu_groupOf at hF
  refine bk_Bu_groupOf_0 ?_
  obtain ⟨r2, I2, J2, hC2, hF⟩ := bd_e hF
  refine fx_Ma_codeOf (by omega) hC2 ⟨rfl, ?_⟩
  refine bk_Bu_groupOf_5 ?_
  refine ⟨fun z => ?_, fun z => ?_⟩
  · rw [if_pos z] at hF
    refine ⟨fun z => ?_, fun z => ?_⟩
    · rw [if_pos z] at hF
      exact ret_q (Q := fun a b c => Q (some (.int a)) (hp b c (pm_RT pa pb ga))) hF hQ
    · rw [if_neg z] at hF
      exact ret_q (Q := fun a b c => Q (some (.int a)) (hp b c (pm_RT pa pb ga))) hF hQ
  · rw [if_neg z] at hF
    exact ret_q (Q := fun a b c => Q (some (.int a)) (hp b c (pm_RT pa pb ga))) hF hQ
def F_Ma_howMany (u : Nat) (I : pm_II) (J : pm_JJ) : Option (Int32 × pm_II × pm_JJ) :=
  some ((I 89 6), I, J)
theorem fx_Ma_howMany {u k : Nat} {pa pb : Nat} {ga : Nat → Nat} {Q : Option Value → pm_H → Prop} {I : pm_II} {J : pm_JJ} {r : Int32} {I2 : pm_II} {J2 : pm_JJ} (hk : 0 ≤ k) (hF : F_Ma_howMany u  I J = some (r, I2, J2)) (hQ : Q (some (.int r)) (hp I2 J2 (pm_RT pa pb ga))) : Px k 176 m_Ma_howMany 0 [.ref 89] [] (hp I J (pm_RT pa pb ga)) Q := by
  unfold F_Ma_howMany at hF
  refine bk_Ma_howMany_0 ?_
  exact ret_q (Q := fun a b c => Q (some (.int a)) (hp b c (pm_RT pa pb ga))) hF hQ
def F_Bu_bundleKind_94 (u : Nat) (K55 : Int32 → Int32 → Int32 → Int32 → pm_II → pm_JJ → Option (Unit × pm_II × pm_JJ)) (x2 : Int32) (x3 : Int32) (x4 : Int32) (x5 : Int32) (I : pm_II) (J : pm_JJ) : Option (Unit × pm_II × pm_JJ) :=
  bd (F_Bu_bundleGroup u x4 x5 x2 I J) fun _ I100 J100 =>
  K55 x2 x3 x5 (x5 + Int32.ofInt 1) I100 J100
def F_Bu_bundleKind_55 (u : Nat) : Nat → Int32 → Int32 → Int32 → Int32 → pm_II → pm_JJ → Option (Unit × pm_II × pm_JJ)
  | 0, _, _, _, _, _, _ => none
  | n + 1, x2, x3, x4, x5, I, J =>
    if x3 < x5 then (
      some ((), I, J))
    else (
      if x5 = x3 then (
        F_Bu_bundleKind_94 u (F_Bu_bundleKind_55 u n) x2 x3 x4 x5 I J)
      else (
        cond (vq x5 120) (
        bd (F_Bu_groupOf u (I 97 ((x5 : Int32).toNatClampNeg)) x2 I J) fun r76 I76 J76 =>
        cond (vq x4 120) (
        bd (F_Bu_groupOf u (I76 97 ((x4 : Int32).toNatClampNeg)) x2 I76 J76) fun r88 I88 J88 =>
        if r76 = r88 then (
          F_Bu_bundleKind_55 u n x2 x3 x4 (x5 + Int32.ofInt 1) I88 J88)
        else (
          F_Bu_bundleKind_94 u (F_Bu_bundleKind_55 u n) x2 x3 x4 x5 I88 J88)) none) none))
def F_Bu_bundleKind_49 (u : Nat) (x2 : Int32) (x3 : Int32) (I : pm_II) (J : pm_JJ) : Option (Unit × pm_II × pm_JJ) :=
  F_Bu_bundleKind_55 u u x2 x3 (0 : Int32) (1 : Int32) I J
def F_Bu_bundleKind_5 (u : Nat) : Nat → Int32 → Int32 → Int32 → pm_II → pm_JJ → Option (Unit × pm_II × pm_JJ)
  | 0, _, _, _, _, _ => none
  | n + 1, x2, x3, x4, I, J =>
    bd (F_Ma_howMany u I J) fun r8 I8 J8 =>
    if r8 ≤ x4 then (
      F_Bu_bundleKind_49 u x2 x3 I8 J8)
    else (
      if 120 ≤ x4 then (
        F_Bu_bundleKind_49 u x2 x3 I8 J8)
      else (
        cond (vq x4 120) (
        if ¬ (I8 96 ((x4 : Int32).toNatClampNeg)) = (-1) then (
          F_Bu_bundleKind_5 u n x2 x3 (x4 + Int32.ofInt 1) I8 J8)
        else (
          cond (vq x3 120) (
          F_Bu_bundleKind_5 u n x2 (x3 + Int32.ofInt 1) (x4 + Int32.ofInt 1) (pm_up I8 97 ((x3 : Int32).toNatClampNeg) x4) J8) none)) none))
def F_Bu_bundleKind (u : Nat) (x2 : Int32) (I : pm_II) (J : pm_JJ) : Option (Unit × pm_II × pm_JJ) :=
  F_Bu_bundleKind_5 u u x2 (0 : Int32) (0 : Int32) I J
theorem fx_Bu_bundleKind_94 {u k : Nat} {pa pb : Nat} {ga : Nat → Nat} {Q : Option Value → pm_H → Prop} {K55 : Int32 → Int32 → Int32 → Int32 → pm_II → pm_JJ → Option (Unit × pm_II × pm_JJ)} {x2 : Int32} {x3 : Int32} {x4 : Int32} {x5 : Int32} {I : pm_II} {J : pm_JJ} {r : Unit} {I2 : pm_II} {J2 : pm_JJ} (hk : 3 ≤ k) (hK55 : ∀ (x2 : Int32) (x3 : Int32) (x4 : Int32) (x5 : Int32) (I : pm_II) (J : pm_JJ) (r : Unit) (I2 : pm_II) (J2 : pm_JJ), K55 x2 x3 x4 x5 I J = some (r, I2, J2) → Q none (hp I2 J2 (pm_RT pa pb ga)) → Px k 176 m_Bu_bundleKind 55 [.ref 95, .ref 89, .int x2, .int x3, .int x4, .int x5] [] (hp I J (pm_RT pa pb ga)) Q) (hF : F_Bu_bundleKind_94 u K55 x2 x3 x4 x5 I J = some (r, I2, J2)) (hQ : Q none (hp I2 J2 (pm_RT pa pb ga))) : Px k 176 m_Bu_bundleKind 94 [.ref 95, .ref 89, .int x2, .int x3, .int x4, .int x5] [] (hp I J (pm_RT pa pb ga)) Q := by
  obtain ⟨k, rfl⟩ : ∃ j, k = j + 1 := ⟨k - 1, by omega⟩
  unfold F_Bu_bundleKind_94 at hF
  refine bk_Bu_bundleKind_94 ?_
  obtain ⟨r100, I100, J100, hC100, hF⟩ := bd_e hF
  refine fx_Bu_bundleGroup (by omega) hC100 ⟨rfl, ?_⟩
  refine bk_Bu_bundleKind_103 ?_
  exact hK55 _ _ _ _ _ _ _ _ _ hF hQ
theorem fx_Bu_bundleKind_55 {u k : Nat} {pa pb : Nat} {ga : Nat → Nat} {Q : Option Value → pm_H → Prop} (hk : 3 ≤ k) : ∀ (n : Nat), ∀ (x2 : Int32) (x3 : Int32) (x4 : Int32) (x5 : Int32) (I : pm_II) (J : pm_JJ) (r : Unit) (I2 : pm_II) (J2 : pm_JJ), F_Bu_bundleKind_55 u n x2 x3 x4 x5 I J = some (r, I2, J2) → Q none (hp I2 J2 (pm_RT pa pb ga)) → Px k 176 m_Bu_bundleKind 55 [.ref 95, .ref 89, .int x2, .int x3, .int x4, .int x5] [] (hp I J (pm_RT pa pb ga)) Q := by
  obtain ⟨k, rfl⟩ : ∃ j, k = j + 1 := ⟨k - 1, by omega⟩
  intro n
  induction n with
  | zero => intro x2 x3 x4 x5 I J r I2 J2  hF; cases hF
  | succ n ih =>
    intro x2 x3 x4 x5 I J r I2 J2  hF hQ
    rw [F_Bu_bundleKind_55] at hF
    refine bk_Bu_bundleKind_55 ?_
    refine ⟨fun z => ?_, fun z => ?_⟩
    · rw [if_pos z] at hF
      exact ret_q (Q := fun a b c => Q none (hp b c (pm_RT pa pb ga))) hF hQ
    · rw [if_neg z] at hF
      refine ⟨fun z => ?_, fun z => ?_⟩
      · rw [if_pos z] at hF
        exact fx_Bu_bundleKind_94 hk ih hF hQ
      · rw [if_neg z] at hF
        obtain ⟨g, hF⟩ := gd_e hF
        refine ⟨vq_in g, ?_⟩
        obtain ⟨r76, I76, J76, hC76, hF⟩ := bd_e hF
        refine fx_Bu_groupOf (by omega) hC76 ⟨rfl, ?_⟩
        refine bk_Bu_bundleKind_79 ?_
        obtain ⟨g, hF⟩ := gd_e hF
        refine ⟨vq_in g, ?_⟩
        obtain ⟨r88, I88, J88, hC88, hF⟩ := bd_e hF
        refine fx_Bu_groupOf (by omega) hC88 ⟨rfl, ?_⟩
        refine bk_Bu_bundleKind_91 ?_
        refine ⟨fun z => ?_, fun z => ?_⟩
        · rw [if_pos z] at hF
          exact ih _ _ _ _ _ _ _ _ _ hF hQ
        · rw [if_neg z] at hF
          exact fx_Bu_bundleKind_94 hk ih hF hQ
theorem fx_Bu_bundleKind_49 {u k : Nat} {pa pb : Nat} {ga : Nat → Nat} {Q : Option Value → pm_H → Prop} {x2 : Int32} {x3 : Int32} {x4 : Int32} {I : pm_II} {J : pm_JJ} {r : Unit} {I2 : pm_II} {J2 : pm_JJ} (hk : 3 ≤ k) (hF : F_Bu_bundleKind_49 u x2 x3 I J = some (r, I2, J2)) (hQ : Q none (hp I2 J2 (pm_RT pa pb ga))) : Px k 176 m_Bu_bundleKind 49 [.ref 95, .ref 89, .int x2, .int x3, .int x4, .null] [] (hp I J (pm_RT pa pb ga)) Q := by
  obtain ⟨k, rfl⟩ : ∃ j, k = j + 1 := ⟨k - 1, by omega⟩
  unfold F_Bu_bundleKind_49 at hF
  refine bk_Bu_bundleKind_49 ?_
  exact fx_Bu_bundleKind_55 hk u _ _ _ _ _ _ _ _ _ hF hQ
theorem fx_Bu_bundleKind_5 {u k : Nat} {pa pb : Nat} {ga : Nat → Nat} {Q : Option Value → pm_H → Prop} (hk : 3 ≤ k) : ∀ (n : Nat), ∀ (x2 : Int32) (x3 : Int32) (x4 : Int32) (I : pm_II) (J : pm_JJ) (r : Unit) (I2 : pm_II) (J2 : pm_JJ), F_Bu_bundleKind_5 u n x2 x3 x4 I J = some (r, I2, J2) → Q none (hp I2 J2 (pm_RT pa pb ga)) → Px k 176 m_Bu_bundleKind 5 [.ref 95, .ref 89, .int x2, .int x3, .int x4, .null] [] (hp I J (pm_RT pa pb ga)) Q := by
  obtain ⟨k, rfl⟩ : ∃ j, k = j + 1 := ⟨k - 1, by omega⟩
  intro n
  induction n with
  | zero => intro x2 x3 x4 I J r I2 J2  hF; cases hF
  | succ n ih =>
    intro x2 x3 x4 I J r I2 J2  hF hQ
    rw [F_Bu_bundleKind_5] at hF
    refine bk_Bu_bundleKind_5 ?_
    obtain ⟨r8, I8, J8, hC8, hF⟩ := bd_e hF
    refine fx_Ma_howMany (by omega) hC8 ⟨rfl, ?_⟩
    refine bk_Bu_bundleKind_11 ?_
    refine ⟨fun z => ?_, fun z => ?_⟩
    · rw [if_pos z] at hF
      exact fx_Bu_bundleKind_49 hk hF hQ
    · rw [if_neg z] at hF
      refine ⟨fun z => ?_, fun z => ?_⟩
      · rw [if_pos z] at hF
        exact fx_Bu_bundleKind_49 hk hF hQ
      · rw [if_neg z] at hF
        obtain ⟨g, hF⟩ := gd_e hF
        refine ⟨vq_in g, ?_⟩
        refine ⟨fun z => ?_, fun z => ?_⟩
        · rw [if_pos z] at hF
          exact ih _ _ _ _ _ _ _ _ hF hQ
        · rw [if_neg z] at hF
          obtain ⟨g, hF⟩ := gd_e hF
          refine ⟨vq_in g, ?_⟩
          exact ih _ _ _ _ _ _ _ _ hF hQ
theorem fx_Bu_bundleKind {u k : Nat} {pa pb : Nat} {ga : Nat → Nat} {Q : Option Value → pm_H → Prop} {x2 : Int32} {I : pm_II} {J : pm_JJ} {r : Unit} {I2 : pm_II} {J2 : pm_JJ} (hk : 3 ≤ k) (hF : F_Bu_bundleKind u x2 I J = some (r, I2, J2)) (hQ : Q none (hp I2 J2 (pm_RT pa pb ga))) : Px k 176 m_Bu_bundleKind 0 [.ref 95, .ref 89, .int x2, .null, .null, .null] [] (hp I J (pm_RT pa pb ga)) Q := by
  obtain ⟨k, rfl⟩ : ∃ j, k = j + 1 := ⟨k - 1, by omega⟩
  unfold F_Bu_bundleKind at hF
  refine bk_Bu_bundleKind_0 ?_
  exact fx_Bu_bundleKind_5 hk u _ _ _ _ _ _ _ _ hF hQ
def F_Bu_refresh_41 (u : Nat) : Nat → Int32 → pm_II → pm_JJ → Option (Unit × pm_II × pm_JJ)
  | 0, _, _, _ => none
  | n + 1, x2, I, J =>
    if 2 < x2 then (
      some ((), I, J))
    else (
      bd (F_Bu_bundleKind u x2 I J) fun _ I49 J49 =>
      F_Bu_refresh_41 u n (x2 + Int32.ofInt 1) I49 J49)
def F_Bu_refresh_20 (u : Nat) : Nat → Int32 → pm_II → pm_JJ → Option (Unit × pm_II × pm_JJ)
  | 0, _, _, _ => none
  | n + 1, x2, I, J =>
    if 120 ≤ x2 then (
      F_Bu_refresh_41 u u (0 : Int32) I J)
    else (
      cond (vq x2 120) (
      F_Bu_refresh_20 u n (x2 + Int32.ofInt 1) (pm_up I 96 ((x2 : Int32).toNatClampNeg) (-1)) J) none)
def F_Bu_refresh (u : Nat) (I : pm_II) (J : pm_JJ) : Option (Unit × pm_II × pm_JJ) :=
  if ¬ (I 95 8) = 0 then (
    F_Bu_refresh_20 u u (0 : Int32) (pm_up (pm_up I 95 8 0) 95 7 0) J)
  else (
    some ((), I, J))
theorem fx_Bu_refresh_41 {u k : Nat} {pa pb : Nat} {ga : Nat → Nat} {Q : Option Value → pm_H → Prop} (hk : 4 ≤ k) : ∀ (n : Nat), ∀ (x2 : Int32) (I : pm_II) (J : pm_JJ) (r : Unit) (I2 : pm_II) (J2 : pm_JJ), F_Bu_refresh_41 u n x2 I J = some (r, I2, J2) → Q none (hp I2 J2 (pm_RT pa pb ga)) → Px k 176 m_Bu_refresh 41 [.ref 95, .ref 89, .int x2] [] (hp I J (pm_RT pa pb ga)) Q := by
  obtain ⟨k, rfl⟩ : ∃ j, k = j + 1 := ⟨k - 1, by omega⟩
  intro n
  induction n with
  | zero => intro x2 I J r I2 J2  hF; cases hF
  | succ n ih =>
    intro x2 I J r I2 J2  hF hQ
    rw [F_Bu_refresh_41] at hF
    refine bk_Bu_refresh_41 ?_
    refine ⟨fun z => ?_, fun z => ?_⟩
    · rw [if_pos z] at hF
      exact ret_q (Q := fun a b c => Q none (hp b c (pm_RT pa pb ga))) hF hQ
    · rw [if_neg z] at hF
      obtain ⟨r49, I49, J49, hC49, hF⟩ := bd_e hF
      refine fx_Bu_bundleKind (by omega) hC49 ⟨rfl, ?_⟩
      refine bk_Bu_refresh_52 ?_
      exact ih _ _ _ _ _ _ hF hQ
theorem fx_Bu_refresh_20 {u k : Nat} {pa pb : Nat} {ga : Nat → Nat} {Q : Option Value → pm_H → Prop} (hk : 4 ≤ k) : ∀ (n : Nat), ∀ (x2 : Int32) (I : pm_II) (J : pm_JJ) (r : Unit) (I2 : pm_II) (J2 : pm_JJ), F_Bu_refresh_20 u n x2 I J = some (r, I2, J2) → Q none (hp I2 J2 (pm_RT pa pb ga)) → Px k 176 m_Bu_refresh 20 [.ref 95, .ref 89, .int x2] [] (hp I J (pm_RT pa pb ga)) Q := by
  obtain ⟨k, rfl⟩ : ∃ j, k = j + 1 := ⟨k - 1, by omega⟩
  intro n
  induction n with
  | zero => intro x2 I J r I2 J2  hF; cases hF
  | succ n ih =>
    intro x2 I J r I2 J2  hF hQ
    rw [F_Bu_refresh_20] at hF
    refine bk_Bu_refresh_20 ?_
    refine ⟨fun z => ?_, fun z => ?_⟩
    · rw [if_pos z] at hF
      exact fx_Bu_refresh_41 hk u _ _ _ _ _ _ hF hQ
    · rw [if_neg z] at hF
      obtain ⟨g, hF⟩ := gd_e hF
      refine ⟨vq_in g, ?_⟩
      exact ih _ _ _ _ _ _ hF hQ
theorem fx_Bu_refresh {u k : Nat} {pa pb : Nat} {ga : Nat → Nat} {Q : Option Value → pm_H → Prop} {I : pm_II} {J : pm_JJ} {r : Unit} {I2 : pm_II} {J2 : pm_JJ} (hk : 4 ≤ k) (hF : F_Bu_refresh u  I J = some (r, I2, J2)) (hQ : Q none (hp I2 J2 (pm_RT pa pb ga))) : Px k 176 m_Bu_refresh 0 [.ref 95, .ref 89, .null] [] (hp I J (pm_RT pa pb ga)) Q := by
  obtain ⟨k, rfl⟩ : ∃ j, k = j + 1 := ⟨k - 1, by omega⟩
  unfold F_Bu_refresh at hF
  refine bk_Bu_refresh_0 ?_
  refine ⟨fun z => ?_, fun z => ?_⟩
  · rw [if_pos z] at hF
    exact fx_Bu_refresh_20 hk u _ _ _ _ _ _ hF hQ
  · rw [if_neg z] at hF
    exact ret_q (Q := fun a b c => Q none (hp b c (pm_RT pa pb ga))) hF hQ
def F_Bu_howMany (u : Nat) (I : pm_II) (J : pm_JJ) : Option (Int32 × pm_II × pm_JJ) :=
  bd (F_Bu_refresh u I J) fun _ I2 J2 =>
  some ((I2 95 7), I2, J2)
theorem fx_Bu_howMany {u k : Nat} {pa pb : Nat} {ga : Nat → Nat} {Q : Option Value → pm_H → Prop} {I : pm_II} {J : pm_JJ} {r : Int32} {I2 : pm_II} {J2 : pm_JJ} (hk : 5 ≤ k) (hF : F_Bu_howMany u  I J = some (r, I2, J2)) (hQ : Q (some (.int r)) (hp I2 J2 (pm_RT pa pb ga))) : Px k 176 m_Bu_howMany 0 [.ref 95, .ref 89] [] (hp I J (pm_RT pa pb ga)) Q := by
  obtain ⟨k, rfl⟩ : ∃ j, k = j + 1 := ⟨k - 1, by omega⟩
  unfold F_Bu_howMany at hF
  refine bk_Bu_howMany_0 ?_
  obtain ⟨r2, I2, J2, hC2, hF⟩ := bd_e hF
  refine fx_Bu_refresh (by omega) hC2 ⟨rfl, ?_⟩
  refine bk_Bu_howMany_5 ?_
  exact ret_q (Q := fun a b c => Q (some (.int a)) (hp b c (pm_RT pa pb ga))) hF hQ
def F_Bu_limit (u : Nat) (x1 : Int32) (x2 : Int32) (I : pm_II) (J : pm_JJ) : Option (Unit × pm_II × pm_JJ) :=
  some ((), (pm_up (pm_up (pm_up I 95 5 x1) 95 6 x2) 95 8 1), J)
theorem fx_Bu_limit {u k : Nat} {pa pb : Nat} {ga : Nat → Nat} {Q : Option Value → pm_H → Prop} {x1 : Int32} {x2 : Int32} {I : pm_II} {J : pm_JJ} {r : Unit} {I2 : pm_II} {J2 : pm_JJ} (hk : 0 ≤ k) (hF : F_Bu_limit u x1 x2 I J = some (r, I2, J2)) (hQ : Q none (hp I2 J2 (pm_RT pa pb ga))) : Px k 176 m_Bu_limit 0 [.ref 95, .int x1, .int x2] [] (hp I J (pm_RT pa pb ga)) Q := by
  unfold F_Bu_limit at hF
  refine bk_Bu_limit_0 ?_
  exact ret_q (Q := fun a b c => Q none (hp b c (pm_RT pa pb ga))) hF hQ
def F_Bu_bundleOf (u : Nat) (x2 : Int32) (I : pm_II) (J : pm_JJ) : Option (Int32 × pm_II × pm_JJ) :=
  bd (F_Bu_refresh u I J) fun _ I2 J2 =>
  bd (F_Ma_has u x2 I2 J2) fun r7 I7 J7 =>
  if r7 = 0 then (
    some (((-1) : Int32), I7, J7))
  else (
    cond (vq x2 120) (
    some ((I7 96 ((x2 : Int32).toNatClampNeg)), I7, J7)) none)
theorem fx_Bu_bundleOf {u k : Nat} {pa pb : Nat} {ga : Nat → Nat} {Q : Option Value → pm_H → Prop} {x2 : Int32} {I : pm_II} {J : pm_JJ} {r : Int32} {I2 : pm_II} {J2 : pm_JJ} (hk : 5 ≤ k) (hF : F_Bu_bundleOf u x2 I J = some (r, I2, J2)) (hQ : Q (some (.int r)) (hp I2 J2 (pm_RT pa pb ga))) : Px k 176 m_Bu_bundleOf 0 [.ref 95, .ref 89, .int x2] [] (hp I J (pm_RT pa pb ga)) Q := by
  obtain ⟨k, rfl⟩ : ∃ j, k = j + 1 := ⟨k - 1, by omega⟩
  unfold F_Bu_bundleOf at hF
  refine bk_Bu_bundleOf_0 ?_
  obtain ⟨r2, I2, J2, hC2, hF⟩ := bd_e hF
  refine fx_Bu_refresh (by omega) hC2 ⟨rfl, ?_⟩
  refine bk_Bu_bundleOf_5 ?_
  obtain ⟨r7, I7, J7, hC7, hF⟩ := bd_e hF
  refine fx_Ma_has (by omega) hC7 ⟨rfl, ?_⟩
  refine bk_Bu_bundleOf_10 ?_
  refine ⟨fun z => ?_, fun z => ?_⟩
  · rw [if_pos z] at hF
    exact ret_q (Q := fun a b c => Q (some (.int a)) (hp b c (pm_RT pa pb ga))) hF hQ
  · rw [if_neg z] at hF
    obtain ⟨g, hF⟩ := gd_e hF
    refine ⟨vq_in g, ?_⟩
    exact ret_q (Q := fun a b c => Q (some (.int a)) (hp b c (pm_RT pa pb ga))) hF hQ
def F_Ma_byteOf (u : Nat) (x1 : Int32) (x2 : Int32) (I : pm_II) (J : pm_JJ) : Option (Int32 × pm_II × pm_JJ) :=
  cond (vq x1 120) (
  some ((((((J 91 ((x1 : Int32).toNatClampNeg))).toUInt64 >>> ((((8 : Int32) * ((7 : Int32) - x2)) : Int32).toInt64.toUInt64 &&& Int64.toUInt64 63)).toInt64 : Int64).toInt32 &&& (255 : Int32)), I, J)) none
theorem fx_Ma_byteOf {u k : Nat} {pa pb : Nat} {ga : Nat → Nat} {Q : Option Value → pm_H → Prop} {x1 : Int32} {x2 : Int32} {I : pm_II} {J : pm_JJ} {r : Int32} {I2 : pm_II} {J2 : pm_JJ} (hk : 0 ≤ k) (hF : F_Ma_byteOf u x1 x2 I J = some (r, I2, J2)) (hQ : Q (some (.int r)) (hp I2 J2 (pm_RT pa pb ga))) : Px k 176 m_Ma_byteOf 0 [.ref 89, .int x1, .int x2] [] (hp I J (pm_RT pa pb ga)) Q := by
  unfold F_Ma_byteOf at hF
  refine bk_Ma_byteOf_0 ?_
  obtain ⟨g, hF⟩ := gd_e hF
  refine ⟨vq_in g, ?_⟩
  exact ret_q (Q := fun a b c => Q (some (.int a)) (hp b c (pm_RT pa pb ga))) hF hQ
def F_Ma_cameAheadOf_4 (u : Nat) : Nat → Int32 → Int32 → Int32 → pm_II → pm_JJ → Option (Int32 × pm_II × pm_JJ)
  | 0, _, _, _, _, _ => none
  | n + 1, x1, x2, x3, I, J =>
    if (I 89 6) ≤ x3 then (
      some (x2, I, J))
    else (
      cond (vq x3 120) (
      cond (vq x1 120) (
      if (I 92 ((x1 : Int32).toNatClampNeg)) ≤ (I 92 ((x3 : Int32).toNatClampNeg)) then (
        F_Ma_cameAheadOf_4 u n x1 x2 (x3 + Int32.ofInt 1) I J)
      else (
        F_Ma_cameAheadOf_4 u n x1 (x2 + Int32.ofInt 1) (x3 + Int32.ofInt 1) I J)) none) none)
def F_Ma_cameAheadOf (u : Nat) (x1 : Int32) (I : pm_II) (J : pm_JJ) : Option (Int32 × pm_II × pm_JJ) :=
  F_Ma_cameAheadOf_4 u u x1 (0 : Int32) (0 : Int32) I J
theorem fx_Ma_cameAheadOf_4 {u k : Nat} {pa pb : Nat} {ga : Nat → Nat} {Q : Option Value → pm_H → Prop} (hk : 0 ≤ k) : ∀ (n : Nat), ∀ (x1 : Int32) (x2 : Int32) (x3 : Int32) (I : pm_II) (J : pm_JJ) (r : Int32) (I2 : pm_II) (J2 : pm_JJ), F_Ma_cameAheadOf_4 u n x1 x2 x3 I J = some (r, I2, J2) → Q (some (.int r)) (hp I2 J2 (pm_RT pa pb ga)) → Px k 176 m_Ma_cameAheadOf 4 [.ref 89, .int x1, .int x2, .int x3] [] (hp I J (pm_RT pa pb ga)) Q := by
  intro n
  induction n with
  | zero => intro x1 x2 x3 I J r I2 J2  hF; cases hF
  | succ n ih =>
    intro x1 x2 x3 I J r I2 J2  hF hQ
    rw [F_Ma_cameAheadOf_4] at hF
    refine bk_Ma_cameAheadOf_4 ?_
    refine ⟨fun z => ?_, fun z => ?_⟩
    · rw [if_pos z] at hF
      exact ret_q (Q := fun a b c => Q (some (.int a)) (hp b c (pm_RT pa pb ga))) hF hQ
    · rw [if_neg z] at hF
      obtain ⟨g, hF⟩ := gd_e hF
      refine ⟨vq_in g, ?_⟩
      obtain ⟨g, hF⟩ := gd_e hF
      refine ⟨vq_in g, ?_⟩
      refine ⟨fun z => ?_, fun z => ?_⟩
      · rw [if_pos z] at hF
        exact ih _ _ _ _ _ _ _ _ hF hQ
      · rw [if_neg z] at hF
        exact ih _ _ _ _ _ _ _ _ hF hQ
theorem fx_Ma_cameAheadOf {u k : Nat} {pa pb : Nat} {ga : Nat → Nat} {Q : Option Value → pm_H → Prop} {x1 : Int32} {I : pm_II} {J : pm_JJ} {r : Int32} {I2 : pm_II} {J2 : pm_JJ} (hk : 0 ≤ k) (hF : F_Ma_cameAheadOf u x1 I J = some (r, I2, J2)) (hQ : Q (some (.int r)) (hp I2 J2 (pm_RT pa pb ga))) : Px k 176 m_Ma_cameAheadOf 0 [.ref 89, .int x1, .null, .null] [] (hp I J (pm_RT pa pb ga)) Q := by
  unfold F_Ma_cameAheadOf at hF
  refine bk_Ma_cameAheadOf_0 ?_
  exact fx_Ma_cameAheadOf_4 hk u _ _ _ _ _ _ _ _ hF hQ
def F_Ma_lengthOf_23 (u : Nat) (x2 : Int32) (I : pm_II) (J : pm_JJ) : Option (Int32 × pm_II × pm_JJ) :=
  some (x2, I, J)
def F_Ma_lengthOf_2 (u : Nat) : Nat → Int32 → Int32 → pm_II → pm_JJ → Option (Int32 × pm_II × pm_JJ)
  | 0, _, _, _, _ => none
  | n + 1, x1, x2, I, J =>
    if 8 ≤ x2 then (
      F_Ma_lengthOf_23 u x2 I J)
    else (
      bd (F_Ma_byteOf u x1 x2 I J) fun r11 I11 J11 =>
      if r11 = 0 then (
        F_Ma_lengthOf_23 u x2 I11 J11)
      else (
        F_Ma_lengthOf_2 u n x1 (x2 + Int32.ofInt 1) I11 J11))
def F_Ma_lengthOf (u : Nat) (x1 : Int32) (I : pm_II) (J : pm_JJ) : Option (Int32 × pm_II × pm_JJ) :=
  F_Ma_lengthOf_2 u u x1 (0 : Int32) I J
theorem fx_Ma_lengthOf_23 {u k : Nat} {pa pb : Nat} {ga : Nat → Nat} {Q : Option Value → pm_H → Prop} {x1 : Int32} {x2 : Int32} {I : pm_II} {J : pm_JJ} {r : Int32} {I2 : pm_II} {J2 : pm_JJ} (hk : 1 ≤ k) (hF : F_Ma_lengthOf_23 u x2 I J = some (r, I2, J2)) (hQ : Q (some (.int r)) (hp I2 J2 (pm_RT pa pb ga))) : Px k 176 m_Ma_lengthOf 23 [.ref 89, .int x1, .int x2] [] (hp I J (pm_RT pa pb ga)) Q := by
  obtain ⟨k, rfl⟩ : ∃ j, k = j + 1 := ⟨k - 1, by omega⟩
  unfold F_Ma_lengthOf_23 at hF
  refine bk_Ma_lengthOf_23 ?_
  exact ret_q (Q := fun a b c => Q (some (.int a)) (hp b c (pm_RT pa pb ga))) hF hQ
theorem fx_Ma_lengthOf_2 {u k : Nat} {pa pb : Nat} {ga : Nat → Nat} {Q : Option Value → pm_H → Prop} (hk : 1 ≤ k) : ∀ (n : Nat), ∀ (x1 : Int32) (x2 : Int32) (I : pm_II) (J : pm_JJ) (r : Int32) (I2 : pm_II) (J2 : pm_JJ), F_Ma_lengthOf_2 u n x1 x2 I J = some (r, I2, J2) → Q (some (.int r)) (hp I2 J2 (pm_RT pa pb ga)) → Px k 176 m_Ma_lengthOf 2 [.ref 89, .int x1, .int x2] [] (hp I J (pm_RT pa pb ga)) Q := by
  obtain ⟨k, rfl⟩ : ∃ j, k = j + 1 := ⟨k - 1, by omega⟩
  intro n
  induction n with
  | zero => intro x1 x2 I J r I2 J2  hF; cases hF
  | succ n ih =>
    intro x1 x2 I J r I2 J2  hF hQ
    rw [F_Ma_lengthOf_2] at hF
    refine bk_Ma_lengthOf_2 ?_
    refine ⟨fun z => ?_, fun z => ?_⟩
    · rw [if_pos z] at hF
      exact fx_Ma_lengthOf_23 hk hF hQ
    · rw [if_neg z] at hF
      obtain ⟨r11, I11, J11, hC11, hF⟩ := bd_e hF
      refine fx_Ma_byteOf (by omega) hC11 ⟨rfl, ?_⟩
      refine bk_Ma_lengthOf_14 ?_
      refine ⟨fun z => ?_, fun z => ?_⟩
      · rw [if_pos z] at hF
        exact fx_Ma_lengthOf_23 hk hF hQ
      · rw [if_neg z] at hF
        exact ih _ _ _ _ _ _ _ hF hQ
theorem fx_Ma_lengthOf {u k : Nat} {pa pb : Nat} {ga : Nat → Nat} {Q : Option Value → pm_H → Prop} {x1 : Int32} {I : pm_II} {J : pm_JJ} {r : Int32} {I2 : pm_II} {J2 : pm_JJ} (hk : 1 ≤ k) (hF : F_Ma_lengthOf u x1 I J = some (r, I2, J2)) (hQ : Q (some (.int r)) (hp I2 J2 (pm_RT pa pb ga))) : Px k 176 m_Ma_lengthOf 0 [.ref 89, .int x1, .null] [] (hp I J (pm_RT pa pb ga)) Q := by
  obtain ⟨k, rfl⟩ : ∃ j, k = j + 1 := ⟨k - 1, by omega⟩
  unfold F_Ma_lengthOf at hF
  refine bk_Ma_lengthOf_0 ?_
  exact fx_Ma_lengthOf_2 hk u _ _ _ _ _ _ _ hF hQ
def F_Ma_tell_90 (u : Nat) (s0 : Int32) (I : pm_II) (J : pm_JJ) : Option (Int32 × pm_II × pm_JJ) :=
  some (s0, I, J)
def F_Ma_tell (u : Nat) (x1 : Int32) (x2 : Int32) (I : pm_II) (J : pm_JJ) : Option (Int32 × pm_II × pm_JJ) :=
  bd (F_Ma_has u x1 I J) fun r2 I2 J2 =>
  if ¬ r2 = 0 then (
    if x2 = nI 0 then (
      cond (vq x1 120) (
      some ((I2 90 ((x1 : Int32).toNatClampNeg)), I2, J2)) none)
    else     if x2 = nI 1 then (
      bd (F_Ma_lengthOf u x1 I2 J2) fun r49 I49 J49 =>
      some (r49, I49, J49))
    else     if x2 = nI 2 then (
      if x2 < 10 then (
        F_Ma_tell_90 u ((-1) : Int32) I2 J2)
      else (
        bd (F_Ma_lengthOf u x1 I2 J2) fun r71 I71 J71 =>
        if (x2 - (10 : Int32)) < r71 then (
          bd (F_Ma_byteOf u x1 (x2 - (10 : Int32)) I71 J71) fun r87 I87 J87 =>
          F_Ma_tell_90 u r87 I87 J87)
        else (
          F_Ma_tell_90 u ((-1) : Int32) I71 J71)))
    else     if x2 = nI 3 then (
      bd (F_Ma_cameAheadOf u x1 I2 J2) fun r55 I55 J55 =>
      some (r55, I55, J55))
    else (
      if x2 < 10 then (
        F_Ma_tell_90 u ((-1) : Int32) I2 J2)
      else (
        bd (F_Ma_lengthOf u x1 I2 J2) fun r71 I71 J71 =>
        if (x2 - (10 : Int32)) < r71 then (
          bd (F_Ma_byteOf u x1 (x2 - (10 : Int32)) I71 J71) fun r87 I87 J87 =>
          F_Ma_tell_90 u r87 I87 J87)
        else (
          F_Ma_tell_90 u ((-1) : Int32) I71 J71))))
  else (
    some (((-1) : Int32), I2, J2))
theorem fx_Ma_tell_90 {u k : Nat} {pa pb : Nat} {ga : Nat → Nat} {Q : Option Value → pm_H → Prop} {x1 : Int32} {x2 : Int32} {s0 : Int32} {I : pm_II} {J : pm_JJ} {r : Int32} {I2 : pm_II} {J2 : pm_JJ} (hk : 2 ≤ k) (hF : F_Ma_tell_90 u s0 I J = some (r, I2, J2)) (hQ : Q (some (.int r)) (hp I2 J2 (pm_RT pa pb ga))) : Px k 176 m_Ma_tell 90 [.ref 89, .int x1, .int x2] [.int s0] (hp I J (pm_RT pa pb ga)) Q := by
  obtain ⟨k, rfl⟩ : ∃ j, k = j + 1 := ⟨k - 1, by omega⟩
  unfold F_Ma_tell_90 at hF
  refine bk_Ma_tell_90 ?_
  exact ret_q (Q := fun a b c => Q (some (.int a)) (hp b c (pm_RT pa pb ga))) hF hQ
theorem fx_Ma_tell {u k : Nat} {pa pb : Nat} {ga : Nat → Nat} {Q : Option Value → pm_H → Prop} {x1 : Int32} {x2 : Int32} {I : pm_II} {J : pm_JJ} {r : Int32} {I2 : pm_II} {J2 : pm_JJ} (hk : 2 ≤ k) (hF : F_Ma_tell u x1 x2 I J = some (r, I2, J2)) (hQ : Q (some (.int r)) (hp I2 J2 (pm_RT pa pb ga))) : Px k 176 m_Ma_tell 0 [.ref 89, .int x1, .int x2] [] (hp I J (pm_RT pa pb ga)) Q := by
  obtain ⟨k, rfl⟩ : ∃ j, k = j + 1 := ⟨k - 1, by omega⟩
  unfold F_Ma_tell at hF
  refine bk_Ma_tell_0 ?_
  obtain ⟨r2, I2, J2, hC2, hF⟩ := bd_e hF
  refine fx_Ma_has (by omega) hC2 ⟨rfl, ?_⟩
  refine bk_Ma_tell_5 ?_
  refine ⟨fun z => ?_, fun z => ?_⟩
  · rw [if_pos z] at hF
    refine ⟨fun z => ?_, fun z => ?_, fun z => ?_, fun z => ?_, fun z => ?_⟩
    · rw [if_pos z] at hF
      obtain ⟨g, hF⟩ := gd_e hF
      refine ⟨vq_in g, ?_⟩
      exact ret_q (Q := fun a b c => Q (some (.int a)) (hp b c (pm_RT pa pb ga))) hF hQ
    · rw [if_neg (by rw [z]; decide), if_pos z] at hF
      obtain ⟨r49, I49, J49, hC49, hF⟩ := bd_e hF
      refine fx_Ma_lengthOf (by omega) hC49 ⟨rfl, ?_⟩
      refine bk_Ma_tell_52 ?_
      exact ret_q (Q := fun a b c => Q (some (.int a)) (hp b c (pm_RT pa pb ga))) hF hQ
    · rw [if_neg (by rw [z]; decide), if_neg (by rw [z]; decide), if_pos z] at hF
      refine ⟨fun z => ?_, fun z => ?_⟩
      · rw [if_pos z] at hF
        exact fx_Ma_tell_90 hk hF hQ
      · rw [if_neg z] at hF
        obtain ⟨r71, I71, J71, hC71, hF⟩ := bd_e hF
        refine fx_Ma_lengthOf (by omega) hC71 ⟨rfl, ?_⟩
        refine bk_Ma_tell_74 ?_
        refine ⟨fun z => ?_, fun z => ?_⟩
        · rw [if_pos z] at hF
          obtain ⟨r87, I87, J87, hC87, hF⟩ := bd_e hF
          refine fx_Ma_byteOf (by omega) hC87 ⟨rfl, ?_⟩
          exact fx_Ma_tell_90 hk hF hQ
        · rw [if_neg z] at hF
          exact fx_Ma_tell_90 hk hF hQ
    · rw [if_neg (by rw [z]; decide), if_neg (by rw [z]; decide), if_neg (by rw [z]; decide), if_pos z] at hF
      obtain ⟨r55, I55, J55, hC55, hF⟩ := bd_e hF
      refine fx_Ma_cameAheadOf (by omega) hC55 ⟨rfl, ?_⟩
      refine bk_Ma_tell_58 ?_
      exact ret_q (Q := fun a b c => Q (some (.int a)) (hp b c (pm_RT pa pb ga))) hF hQ
    · rw [if_neg (sw_ne z (by decide) (by decide)), if_neg (sw_ne z (by decide) (by decide)), if_neg (sw_ne z (by decide) (by decide)), if_neg (sw_ne z (by decide) (by decide))] at hF
      refine ⟨fun z => ?_, fun z => ?_⟩
      · rw [if_pos z] at hF
        exact fx_Ma_tell_90 hk hF hQ
      · rw [if_neg z] at hF
        obtain ⟨r71, I71, J71, hC71, hF⟩ := bd_e hF
        refine fx_Ma_lengthOf (by omega) hC71 ⟨rfl, ?_⟩
        refine bk_Ma_tell_74 ?_
        refine ⟨fun z => ?_, fun z => ?_⟩
        · rw [if_pos z] at hF
          obtain ⟨r87, I87, J87, hC87, hF⟩ := bd_e hF
          refine fx_Ma_byteOf (by omega) hC87 ⟨rfl, ?_⟩
          exact fx_Ma_tell_90 hk hF hQ
        · rw [if_neg z] at hF
          exact fx_Ma_tell_90 hk hF hQ
  · rw [if_neg z] at hF
    exact ret_q (Q := fun a b c => Q (some (.int a)) (hp b c (pm_RT pa pb ga))) hF hQ
def F_Bu_tell (u : Nat) (x2 : Int32) (x3 : Int32) (I : pm_II) (J : pm_JJ) : Option (Int32 × pm_II × pm_JJ) :=
  bd (F_Bu_refresh u I J) fun _ I2 J2 =>
  if x2 < 0 then (
    some (((-1) : Int32), I2, J2))
  else (
    if (I2 95 7) ≤ x2 then (
      some (((-1) : Int32), I2, J2))
    else (
      if x2 < 120 then (
        if x3 = nI 0 then (
          cond (vq x2 120) (
          some ((I2 98 ((x2 : Int32).toNatClampNeg)), I2, J2)) none)
        else         if x3 = nI 1 then (
          cond (vq x2 120) (
          some ((I2 99 ((x2 : Int32).toNatClampNeg)), I2, J2)) none)
        else         if x3 = nI 2 then (
          cond (vq x2 120) (
          some ((I2 100 ((x2 : Int32).toNatClampNeg)), I2, J2)) none)
        else (
          some (((-1) : Int32), I2, J2)))
      else (
        some (((-1) : Int32), I2, J2))))
theorem fx_Bu_tell {u k : Nat} {pa pb : Nat} {ga : Nat → Nat} {Q : Option Value → pm_H → Prop} {x2 : Int32} {x3 : Int32} {I : pm_II} {J : pm_JJ} {r : Int32} {I2 : pm_II} {J2 : pm_JJ} (hk : 5 ≤ k) (hF : F_Bu_tell u x2 x3 I J = some (r, I2, J2)) (hQ : Q (some (.int r)) (hp I2 J2 (pm_RT pa pb ga))) : Px k 176 m_Bu_tell 0 [.ref 95, .ref 89, .int x2, .int x3] [] (hp I J (pm_RT pa pb ga)) Q := by
  obtain ⟨k, rfl⟩ : ∃ j, k = j + 1 := ⟨k - 1, by omega⟩
  unfold F_Bu_tell at hF
  refine bk_Bu_tell_0 ?_
  obtain ⟨r2, I2, J2, hC2, hF⟩ := bd_e hF
  refine fx_Bu_refresh (by omega) hC2 ⟨rfl, ?_⟩
  refine bk_Bu_tell_5 ?_
  refine ⟨fun z => ?_, fun z => ?_⟩
  · rw [if_pos z] at hF
    exact ret_q (Q := fun a b c => Q (some (.int a)) (hp b c (pm_RT pa pb ga))) hF hQ
  · rw [if_neg z] at hF
    refine ⟨fun z => ?_, fun z => ?_⟩
    · rw [if_pos z] at hF
      exact ret_q (Q := fun a b c => Q (some (.int a)) (hp b c (pm_RT pa pb ga))) hF hQ
    · rw [if_neg z] at hF
      refine ⟨fun z => ?_, fun z => ?_⟩
      · rw [if_pos z] at hF
        refine ⟨fun z => ?_, fun z => ?_, fun z => ?_, fun z => ?_⟩
        · rw [if_pos z] at hF
          obtain ⟨g, hF⟩ := gd_e hF
          refine ⟨vq_in g, ?_⟩
          exact ret_q (Q := fun a b c => Q (some (.int a)) (hp b c (pm_RT pa pb ga))) hF hQ
        · rw [if_neg (by rw [z]; decide), if_pos z] at hF
          obtain ⟨g, hF⟩ := gd_e hF
          refine ⟨vq_in g, ?_⟩
          exact ret_q (Q := fun a b c => Q (some (.int a)) (hp b c (pm_RT pa pb ga))) hF hQ
        · rw [if_neg (by rw [z]; decide), if_neg (by rw [z]; decide), if_pos z] at hF
          obtain ⟨g, hF⟩ := gd_e hF
          refine ⟨vq_in g, ?_⟩
          exact ret_q (Q := fun a b c => Q (some (.int a)) (hp b c (pm_RT pa pb ga))) hF hQ
        · rw [if_neg (sw_ne z (by decide) (by decide)), if_neg (sw_ne z (by decide) (by decide)), if_neg (sw_ne z (by decide) (by decide))] at hF
          exact ret_q (Q := fun a b c => Q (some (.int a)) (hp b c (pm_RT pa pb ga))) hF hQ
      · rw [if_neg z] at hF
        exact ret_q (Q := fun a b c => Q (some (.int a)) (hp b c (pm_RT pa pb ga))) hF hQ
def F_Ma_remove_22 (u : Nat) : Nat → Int32 → pm_II → pm_JJ → Option (Int32 × pm_II × pm_JJ)
  | 0, _, _, _ => none
  | n + 1, x2, I, J =>
    if (I 89 6) ≤ x2 then (
      some ((I 89 6), I, J))
    else (
      cond (vq (x2 + (1 : Int32)) 120) (
      cond (vq x2 120) (
      cond (vq (x2 + (1 : Int32)) 120) (
      cond (vq x2 120) (
      cond (vq (x2 + (1 : Int32)) 120) (
      cond (vq x2 120) (
      F_Ma_remove_22 u n (x2 + Int32.ofInt 1) (pm_up (pm_up I 90 ((x2 : Int32).toNatClampNeg) (I 90 (((x2 + (1 : Int32)) : Int32).toNatClampNeg))) 92 ((x2 : Int32).toNatClampNeg) (I 92 (((x2 + (1 : Int32)) : Int32).toNatClampNeg))) (pm_up J 91 ((x2 : Int32).toNatClampNeg) (J 91 (((x2 + (1 : Int32)) : Int32).toNatClampNeg)))) none) none) none) none) none) none)
def F_Ma_remove (u : Nat) (x1 : Int32) (I : pm_II) (J : pm_JJ) : Option (Int32 × pm_II × pm_JJ) :=
  bd (F_Ma_has u x1 I J) fun r2 I2 J2 =>
  if ¬ r2 = 0 then (
    F_Ma_remove_22 u u x1 (pm_up I2 89 6 ((I2 89 6) - (1 : Int32))) J2)
  else (
    some (((-1) : Int32), I2, J2))
theorem fx_Ma_remove_22 {u k : Nat} {pa pb : Nat} {ga : Nat → Nat} {Q : Option Value → pm_H → Prop} (hk : 1 ≤ k) : ∀ (n : Nat), ∀ (x1 : Int32) (x2 : Int32) (I : pm_II) (J : pm_JJ) (r : Int32) (I2 : pm_II) (J2 : pm_JJ), F_Ma_remove_22 u n x2 I J = some (r, I2, J2) → Q (some (.int r)) (hp I2 J2 (pm_RT pa pb ga)) → Px k 176 m_Ma_remove 22 [.ref 89, .int x1, .int x2] [] (hp I J (pm_RT pa pb ga)) Q := by
  obtain ⟨k, rfl⟩ : ∃ j, k = j + 1 := ⟨k - 1, by omega⟩
  intro n
  induction n with
  | zero => intro x1 x2 I J r I2 J2  hF; cases hF
  | succ n ih =>
    intro x1 x2 I J r I2 J2  hF hQ
    rw [F_Ma_remove_22] at hF
    refine bk_Ma_remove_22 ?_
    refine ⟨fun z => ?_, fun z => ?_⟩
    · rw [if_pos z] at hF
      exact ret_q (Q := fun a b c => Q (some (.int a)) (hp b c (pm_RT pa pb ga))) hF hQ
    · rw [if_neg z] at hF
      obtain ⟨g, hF⟩ := gd_e hF
      refine ⟨vq_in g, ?_⟩
      obtain ⟨g, hF⟩ := gd_e hF
      refine ⟨vq_in g, ?_⟩
      obtain ⟨g, hF⟩ := gd_e hF
      refine ⟨vq_in g, ?_⟩
      obtain ⟨g, hF⟩ := gd_e hF
      refine ⟨vq_in g, ?_⟩
      obtain ⟨g, hF⟩ := gd_e hF
      refine ⟨vq_in g, ?_⟩
      obtain ⟨g, hF⟩ := gd_e hF
      refine ⟨vq_in g, ?_⟩
      exact ih _ _ _ _ _ _ _ hF hQ
theorem fx_Ma_remove {u k : Nat} {pa pb : Nat} {ga : Nat → Nat} {Q : Option Value → pm_H → Prop} {x1 : Int32} {I : pm_II} {J : pm_JJ} {r : Int32} {I2 : pm_II} {J2 : pm_JJ} (hk : 1 ≤ k) (hF : F_Ma_remove u x1 I J = some (r, I2, J2)) (hQ : Q (some (.int r)) (hp I2 J2 (pm_RT pa pb ga))) : Px k 176 m_Ma_remove 0 [.ref 89, .int x1, .null] [] (hp I J (pm_RT pa pb ga)) Q := by
  obtain ⟨k, rfl⟩ : ∃ j, k = j + 1 := ⟨k - 1, by omega⟩
  unfold F_Ma_remove at hF
  refine bk_Ma_remove_0 ?_
  obtain ⟨r2, I2, J2, hC2, hF⟩ := bd_e hF
  refine fx_Ma_has (by omega) hC2 ⟨rfl, ?_⟩
  refine bk_Ma_remove_5 ?_
  refine ⟨fun z => ?_, fun z => ?_⟩
  · rw [if_pos z] at hF
    exact fx_Ma_remove_22 hk u _ _ _ _ _ _ _ hF hQ
  · rw [if_neg z] at hF
    exact ret_q (Q := fun a b c => Q (some (.int a)) (hp b c (pm_RT pa pb ga))) hF hQ
def F_Wo_add (u : Nat) (x1 : Int32) (x2 : Int32) (x3 : Int32) (x4 : Int32) (I : pm_II) (J : pm_JJ) : Option (Int32 × pm_II × pm_JJ) :=
  if x1 < 0 then (
    some (((-1) : Int32), I, J))
  else (
    if 3 < x1 then (
      some (((-1) : Int32), I, J))
    else (
      if x4 < 0 then (
        some (((-1) : Int32), I, J))
      else (
        if x4 ≤ 999 then (
          if x2 < 1 then (
            some (((-1) : Int32), I, J))
          else (
            if 99 < x2 then (
              some (((-1) : Int32), I, J))
            else (
              if x3 < 1 then (
                some (((-1) : Int32), I, J))
              else (
                if x3 ≤ 99 then (
                  if (I 101 8) < 6 then (
                    cond (vq (I 101 8) 6) (
                    cond (vq (I 101 8) 6) (
                    cond (vq (I 101 8) 6) (
                    cond (vq (I 101 8) 6) (
                    some ((((I 101 8) + (1 : Int32)) - (1 : Int32)), (pm_up (pm_up (pm_up (pm_up (pm_up (pm_up I 102 (((I 101 8) : Int32).toNatClampNeg) x1) 103 (((I 101 8) : Int32).toNatClampNeg) x2) 104 (((I 101 8) : Int32).toNatClampNeg) x3) 105 (((I 101 8) : Int32).toNatClampNeg) x4) 101 8 ((I 101 8) + (1 : Int32))) 101 14 1), J)) none) none) none) none)
                  else (
                    some (((-4) : Int32), I, J)))
                else (
                  some (((-1) : Int32), I, J))))))
        else (
          some (((-1) : Int32), I, J)))))
theorem fx_Wo_add {u k : Nat} {pa pb : Nat} {ga : Nat → Nat} {Q : Option Value → pm_H → Prop} {x1 : Int32} {x2 : Int32} {x3 : Int32} {x4 : Int32} {I : pm_II} {J : pm_JJ} {r : Int32} {I2 : pm_II} {J2 : pm_JJ} (hk : 0 ≤ k) (hF : F_Wo_add u x1 x2 x3 x4 I J = some (r, I2, J2)) (hQ : Q (some (.int r)) (hp I2 J2 (pm_RT pa pb ga))) : Px k 176 m_Wo_add 0 [.ref 101, .int x1, .int x2, .int x3, .int x4] [] (hp I J (pm_RT pa pb ga)) Q := by
  unfold F_Wo_add at hF
  refine bk_Wo_add_0 ?_
  refine ⟨fun z => ?_, fun z => ?_⟩
  · rw [if_pos z] at hF
    exact ret_q (Q := fun a b c => Q (some (.int a)) (hp b c (pm_RT pa pb ga))) hF hQ
  · rw [if_neg z] at hF
    refine ⟨fun z => ?_, fun z => ?_⟩
    · rw [if_pos z] at hF
      exact ret_q (Q := fun a b c => Q (some (.int a)) (hp b c (pm_RT pa pb ga))) hF hQ
    · rw [if_neg z] at hF
      refine ⟨fun z => ?_, fun z => ?_⟩
      · rw [if_pos z] at hF
        exact ret_q (Q := fun a b c => Q (some (.int a)) (hp b c (pm_RT pa pb ga))) hF hQ
      · rw [if_neg z] at hF
        refine ⟨fun z => ?_, fun z => ?_⟩
        · rw [if_pos z] at hF
          refine ⟨fun z => ?_, fun z => ?_⟩
          · rw [if_pos z] at hF
            exact ret_q (Q := fun a b c => Q (some (.int a)) (hp b c (pm_RT pa pb ga))) hF hQ
          · rw [if_neg z] at hF
            refine ⟨fun z => ?_, fun z => ?_⟩
            · rw [if_pos z] at hF
              exact ret_q (Q := fun a b c => Q (some (.int a)) (hp b c (pm_RT pa pb ga))) hF hQ
            · rw [if_neg z] at hF
              refine ⟨fun z => ?_, fun z => ?_⟩
              · rw [if_pos z] at hF
                exact ret_q (Q := fun a b c => Q (some (.int a)) (hp b c (pm_RT pa pb ga))) hF hQ
              · rw [if_neg z] at hF
                refine ⟨fun z => ?_, fun z => ?_⟩
                · rw [if_pos z] at hF
                  refine ⟨fun z => ?_, fun z => ?_⟩
                  · rw [if_pos z] at hF
                    obtain ⟨g, hF⟩ := gd_e hF
                    refine ⟨vq_in g, ?_⟩
                    obtain ⟨g, hF⟩ := gd_e hF
                    refine ⟨vq_in g, ?_⟩
                    obtain ⟨g, hF⟩ := gd_e hF
                    refine ⟨vq_in g, ?_⟩
                    obtain ⟨g, hF⟩ := gd_e hF
                    refine ⟨vq_in g, ?_⟩
                    exact ret_q (Q := fun a b c => Q (some (.int a)) (hp b c (pm_RT pa pb ga))) hF hQ
                  · rw [if_neg z] at hF
                    exact ret_q (Q := fun a b c => Q (some (.int a)) (hp b c (pm_RT pa pb ga))) hF hQ
                · rw [if_neg z] at hF
                  exact ret_q (Q := fun a b c => Q (some (.int a)) (hp b c (pm_RT pa pb ga))) hF hQ
        · rw [if_neg z] at hF
          exact ret_q (Q := fun a b c => Q (some (.int a)) (hp b c (pm_RT pa pb ga))) hF hQ
def F_Wo_allow (u : Nat) (x1 : Int32) (x2 : Int32) (I : pm_II) (J : pm_JJ) : Option (Int32 × pm_II × pm_JJ) :=
  if x1 < 0 then (
    some (((-1) : Int32), I, J))
  else (
    if 50 < x1 then (
      some (((-1) : Int32), I, J))
    else (
      if x2 < 0 then (
        some (((-1) : Int32), I, J))
      else (
        if x2 ≤ 50 then (
          some ((1 : Int32), (pm_up (pm_up (pm_up I 101 9 x1) 101 10 x2) 101 14 1), J))
        else (
          some (((-1) : Int32), I, J)))))
theorem fx_Wo_allow {u k : Nat} {pa pb : Nat} {ga : Nat → Nat} {Q : Option Value → pm_H → Prop} {x1 : Int32} {x2 : Int32} {I : pm_II} {J : pm_JJ} {r : Int32} {I2 : pm_II} {J2 : pm_JJ} (hk : 0 ≤ k) (hF : F_Wo_allow u x1 x2 I J = some (r, I2, J2)) (hQ : Q (some (.int r)) (hp I2 J2 (pm_RT pa pb ga))) : Px k 176 m_Wo_allow 0 [.ref 101, .int x1, .int x2] [] (hp I J (pm_RT pa pb ga)) Q := by
  unfold F_Wo_allow at hF
  refine bk_Wo_allow_0 ?_
  refine ⟨fun z => ?_, fun z => ?_⟩
  · rw [if_pos z] at hF
    exact ret_q (Q := fun a b c => Q (some (.int a)) (hp b c (pm_RT pa pb ga))) hF hQ
  · rw [if_neg z] at hF
    refine ⟨fun z => ?_, fun z => ?_⟩
    · rw [if_pos z] at hF
      exact ret_q (Q := fun a b c => Q (some (.int a)) (hp b c (pm_RT pa pb ga))) hF hQ
    · rw [if_neg z] at hF
      refine ⟨fun z => ?_, fun z => ?_⟩
      · rw [if_pos z] at hF
        exact ret_q (Q := fun a b c => Q (some (.int a)) (hp b c (pm_RT pa pb ga))) hF hQ
      · rw [if_neg z] at hF
        refine ⟨fun z => ?_, fun z => ?_⟩
        · rw [if_pos z] at hF
          exact ret_q (Q := fun a b c => Q (some (.int a)) (hp b c (pm_RT pa pb ga))) hF hQ
        · rw [if_neg z] at hF
          exact ret_q (Q := fun a b c => Q (some (.int a)) (hp b c (pm_RT pa pb ga))) hF hQ
def F_Wo_has (u : Nat) (x1 : Int32) (I : pm_II) (J : pm_JJ) : Option (Int32 × pm_II × pm_JJ) :=
  if x1 < 0 then (
    some ((0 : Int32), I, J))
  else (
    if (I 101 8) ≤ x1 then (
      some ((0 : Int32), I, J))
    else (
      if 6 ≤ x1 then (
        some ((0 : Int32), I, J))
      else (
        some ((1 : Int32), I, J))))
theorem fx_Wo_has {u k : Nat} {pa pb : Nat} {ga : Nat → Nat} {Q : Option Value → pm_H → Prop} {x1 : Int32} {I : pm_II} {J : pm_JJ} {r : Int32} {I2 : pm_II} {J2 : pm_JJ} (hk : 0 ≤ k) (hF : F_Wo_has u x1 I J = some (r, I2, J2)) (hQ : Q (some (.int r)) (hp I2 J2 (pm_RT pa pb ga))) : Px k 176 m_Wo_has 0 [.ref 101, .int x1] [] (hp I J (pm_RT pa pb ga)) Q := by
  unfold F_Wo_has at hF
  refine bk_Wo_has_0 ?_
  refine ⟨fun z => ?_, fun z => ?_⟩
  · rw [if_pos z] at hF
    exact ret_q (Q := fun a b c => Q (some (.int a)) (hp b c (pm_RT pa pb ga))) hF hQ
  · rw [if_neg z] at hF
    refine ⟨fun z => ?_, fun z => ?_⟩
    · rw [if_pos z] at hF
      exact ret_q (Q := fun a b c => Q (some (.int a)) (hp b c (pm_RT pa pb ga))) hF hQ
    · rw [if_neg z] at hF
      refine ⟨fun z => ?_, fun z => ?_⟩
      · rw [if_pos z] at hF
        exact ret_q (Q := fun a b c => Q (some (.int a)) (hp b c (pm_RT pa pb ga))) hF hQ
      · rw [if_neg z] at hF
        exact ret_q (Q := fun a b c => Q (some (.int a)) (hp b c (pm_RT pa pb ga))) hF hQ
def F_Wo_remove_22 (u : Nat) : Nat → Int32 → pm_II → pm_JJ → Option (Int32 × pm_II × pm_JJ)
  | 0, _, _, _ => none
  | n + 1, x2, I, J =>
    if (I 101 8) ≤ x2 then (
      some ((I 101 8), (pm_up I 101 14 1), J))
    else (
      cond (vq (x2 + (1 : Int32)) 6) (
      cond (vq x2 6) (
      cond (vq (x2 + (1 : Int32)) 6) (
      cond (vq x2 6) (
      cond (vq (x2 + (1 : Int32)) 6) (
      cond (vq x2 6) (
      cond (vq (x2 + (1 : Int32)) 6) (
      cond (vq x2 6) (
      F_Wo_remove_22 u n (x2 + Int32.ofInt 1) (pm_up (pm_up (pm_up (pm_up I 102 ((x2 : Int32).toNatClampNeg) (I 102 (((x2 + (1 : Int32)) : Int32).toNatClampNeg))) 103 ((x2 : Int32).toNatClampNeg) (I 103 (((x2 + (1 : Int32)) : Int32).toNatClampNeg))) 104 ((x2 : Int32).toNatClampNeg) (I 104 (((x2 + (1 : Int32)) : Int32).toNatClampNeg))) 105 ((x2 : Int32).toNatClampNeg) (I 105 (((x2 + (1 : Int32)) : Int32).toNatClampNeg))) J) none) none) none) none) none) none) none) none)
def F_Wo_remove (u : Nat) (x1 : Int32) (I : pm_II) (J : pm_JJ) : Option (Int32 × pm_II × pm_JJ) :=
  bd (F_Wo_has u x1 I J) fun r2 I2 J2 =>
  if ¬ r2 = 0 then (
    F_Wo_remove_22 u u x1 (pm_up I2 101 8 ((I2 101 8) - (1 : Int32))) J2)
  else (
    some (((-1) : Int32), I2, J2))
theorem fx_Wo_remove_22 {u k : Nat} {pa pb : Nat} {ga : Nat → Nat} {Q : Option Value → pm_H → Prop} (hk : 1 ≤ k) : ∀ (n : Nat), ∀ (x1 : Int32) (x2 : Int32) (I : pm_II) (J : pm_JJ) (r : Int32) (I2 : pm_II) (J2 : pm_JJ), F_Wo_remove_22 u n x2 I J = some (r, I2, J2) → Q (some (.int r)) (hp I2 J2 (pm_RT pa pb ga)) → Px k 176 m_Wo_remove 22 [.ref 101, .int x1, .int x2] [] (hp I J (pm_RT pa pb ga)) Q := by
  obtain ⟨k, rfl⟩ : ∃ j, k = j + 1 := ⟨k - 1, by omega⟩
  intro n
  induction n with
  | zero => intro x1 x2 I J r I2 J2  hF; cases hF
  | succ n ih =>
    intro x1 x2 I J r I2 J2  hF hQ
    rw [F_Wo_remove_22] at hF
    refine bk_Wo_remove_22 ?_
    refine ⟨fun z => ?_, fun z => ?_⟩
    · rw [if_pos z] at hF
      exact ret_q (Q := fun a b c => Q (some (.int a)) (hp b c (pm_RT pa pb ga))) hF hQ
    · rw [if_neg z] at hF
      obtain ⟨g, hF⟩ := gd_e hF
      refine ⟨vq_in g, ?_⟩
      obtain ⟨g, hF⟩ := gd_e hF
      refine ⟨vq_in g, ?_⟩
      obtain ⟨g, hF⟩ := gd_e hF
      refine ⟨vq_in g, ?_⟩
      obtain ⟨g, hF⟩ := gd_e hF
      refine ⟨vq_in g, ?_⟩
      obtain ⟨g, hF⟩ := gd_e hF
      refine ⟨vq_in g, ?_⟩
      obtain ⟨g, hF⟩ := gd_e hF
      refine ⟨vq_in g, ?_⟩
      obtain ⟨g, hF⟩ := gd_e hF
      refine ⟨vq_in g, ?_⟩
      obtain ⟨g, hF⟩ := gd_e hF
      refine ⟨vq_in g, ?_⟩
      exact ih _ _ _ _ _ _ _ hF hQ
theorem fx_Wo_remove {u k : Nat} {pa pb : Nat} {ga : Nat → Nat} {Q : Option Value → pm_H → Prop} {x1 : Int32} {I : pm_II} {J : pm_JJ} {r : Int32} {I2 : pm_II} {J2 : pm_JJ} (hk : 1 ≤ k) (hF : F_Wo_remove u x1 I J = some (r, I2, J2)) (hQ : Q (some (.int r)) (hp I2 J2 (pm_RT pa pb ga))) : Px k 176 m_Wo_remove 0 [.ref 101, .int x1, .null] [] (hp I J (pm_RT pa pb ga)) Q := by
  obtain ⟨k, rfl⟩ : ∃ j, k = j + 1 := ⟨k - 1, by omega⟩
  unfold F_Wo_remove at hF
  refine bk_Wo_remove_0 ?_
  obtain ⟨r2, I2, J2, hC2, hF⟩ := bd_e hF
  refine fx_Wo_has (by omega) hC2 ⟨rfl, ?_⟩
  refine bk_Wo_remove_5 ?_
  refine ⟨fun z => ?_, fun z => ?_⟩
  · rw [if_pos z] at hF
    exact fx_Wo_remove_22 hk u _ _ _ _ _ _ _ hF hQ
  · rw [if_neg z] at hF
    exact ret_q (Q := fun a b c => Q (some (.int a)) (hp b c (pm_RT pa pb ga))) hF hQ
def F_Wo_isChange (u : Nat) (a1 : Nat) (x2 : Int32) (I : pm_II) (J : pm_JJ) : Option (Int32 × pm_II × pm_JJ) :=
  if x2 ≤ 0 then (
    some ((0 : Int32), I, J))
  else (
    if (Int32.ofNat (pm_sh a1).2) ≤ x2 then (
      some ((0 : Int32), I, J))
    else (
      cond (vq x2 6) (
      bd (F_Wo_has u (I a1 ((x2 : Int32).toNatClampNeg)) I J) fun r14 I14 J14 =>
      if r14 = 0 then (
        some ((0 : Int32), I14, J14))
      else (
        cond (vq (x2 - (1 : Int32)) 6) (
        bd (F_Wo_has u (I14 a1 (((x2 - (1 : Int32)) : Int32).toNatClampNeg)) I14 J14) fun r26 I26 J26 =>
        if r26 = 0 then (
          some ((0 : Int32), I26, J26))
        else (
          cond (vq x2 6) (
          cond (vq (I26 a1 ((x2 : Int32).toNatClampNeg)) 6) (
          cond (vq (x2 - (1 : Int32)) 6) (
          cond (vq (I26 a1 (((x2 - (1 : Int32)) : Int32).toNatClampNeg)) 6) (
          if (I26 102 (((I26 a1 ((x2 : Int32).toNatClampNeg)) : Int32).toNatClampNeg)) = (I26 102 (((I26 a1 (((x2 - (1 : Int32)) : Int32).toNatClampNeg)) : Int32).toNatClampNeg)) then (
            some ((0 : Int32), I26, J26))
          else (
            some ((1 : Int32), I26, J26))) none) none) none) none)) none)) none))
theorem fx_Wo_isChange {u k : Nat} {pa pb : Nat} {ga : Nat → Nat} {Q : Option Value → pm_H → Prop} {a1 : Nat} {x2 : Int32} {I : pm_II} {J : pm_JJ} {r : Int32} {I2 : pm_II} {J2 : pm_JJ} (hk : 1 ≤ k) (ha1 : oW a1) (hF : F_Wo_isChange u a1 x2 I J = some (r, I2, J2)) (hQ : Q (some (.int r)) (hp I2 J2 (pm_RT pa pb ga))) : Px k 176 m_Wo_isChange 0 [.ref 101, .ref a1, .int x2] [] (hp I J (pm_RT pa pb ga)) Q := by
  obtain ⟨k, rfl⟩ : ∃ j, k = j + 1 := ⟨k - 1, by omega⟩
  unfold F_Wo_isChange at hF
  refine bk_Wo_isChange_0 ?_
  refine ⟨fun z => ?_, fun z => ?_⟩
  · rw [if_pos z] at hF
    exact ret_q (Q := fun a b c => Q (some (.int a)) (hp b c (pm_RT pa pb ga))) hF hQ
  · rw [if_neg z] at hF
    refine ⟨oW_ob ha1, ?_⟩
    refine ⟨fun z => ?_, fun z => ?_⟩
    · rw [if_pos z] at hF
      exact ret_q (Q := fun a b c => Q (some (.int a)) (hp b c (pm_RT pa pb ga))) hF hQ
    · rw [if_neg z] at hF
      refine ⟨oW_ob ha1, ?_⟩
      obtain ⟨g, hF⟩ := gd_e hF
      refine ⟨(oW_in ha1 g), ?_⟩
      obtain ⟨r14, I14, J14, hC14, hF⟩ := bd_e hF
      refine fx_Wo_has (by omega) hC14 ⟨rfl, ?_⟩
      refine bk_Wo_isChange_17 ?_
      refine ⟨fun z => ?_, fun z => ?_⟩
      · rw [if_pos z] at hF
        exact ret_q (Q := fun a b c => Q (some (.int a)) (hp b c (pm_RT pa pb ga))) hF hQ
      · rw [if_neg z] at hF
        refine ⟨oW_ob ha1, ?_⟩
        obtain ⟨g, hF⟩ := gd_e hF
        refine ⟨(oW_in ha1 g), ?_⟩
        obtain ⟨r26, I26, J26, hC26, hF⟩ := bd_e hF
        refine fx_Wo_has (by omega) hC26 ⟨rfl, ?_⟩
        refine bk_Wo_isChange_29 ?_
        refine ⟨fun z => ?_, fun z => ?_⟩
        · rw [if_pos z] at hF
          exact ret_q (Q := fun a b c => Q (some (.int a)) (hp b c (pm_RT pa pb ga))) hF hQ
        · rw [if_neg z] at hF
          refine ⟨oW_ob ha1, ?_⟩
          obtain ⟨g, hF⟩ := gd_e hF
          refine ⟨(oW_in ha1 g), ?_⟩
          obtain ⟨g, hF⟩ := gd_e hF
          refine ⟨vq_in g, ?_⟩
          refine ⟨oW_ob ha1, ?_⟩
          obtain ⟨g, hF⟩ := gd_e hF
          refine ⟨(oW_in ha1 g), ?_⟩
          obtain ⟨g, hF⟩ := gd_e hF
          refine ⟨vq_in g, ?_⟩
          refine ⟨fun z => ?_, fun z => ?_⟩
          · rw [if_pos z] at hF
            exact ret_q (Q := fun a b c => Q (some (.int a)) (hp b c (pm_RT pa pb ga))) hF hQ
          · rw [if_neg z] at hF
            exact ret_q (Q := fun a b c => Q (some (.int a)) (hp b c (pm_RT pa pb ga))) hF hQ
def F_Wo_changeAhead (u : Nat) (a1 : Nat) (x2 : Int32) (I : pm_II) (J : pm_JJ) : Option (Int32 × pm_II × pm_JJ) :=
  bd (F_Wo_isChange u a1 x2 I J) fun r3 I3 J3 =>
  if r3 = 0 then (
    some ((0 : Int32), I3, J3))
  else (
    some ((I3 101 9), I3, J3))
theorem fx_Wo_changeAhead {u k : Nat} {pa pb : Nat} {ga : Nat → Nat} {Q : Option Value → pm_H → Prop} {a1 : Nat} {x2 : Int32} {I : pm_II} {J : pm_JJ} {r : Int32} {I2 : pm_II} {J2 : pm_JJ} (hk : 2 ≤ k) (ha1 : oW a1) (hF : F_Wo_changeAhead u a1 x2 I J = some (r, I2, J2)) (hQ : Q (some (.int r)) (hp I2 J2 (pm_RT pa pb ga))) : Px k 176 m_Wo_changeAhead 0 [.ref 101, .ref a1, .int x2] [] (hp I J (pm_RT pa pb ga)) Q := by
  obtain ⟨k, rfl⟩ : ∃ j, k = j + 1 := ⟨k - 1, by omega⟩
  unfold F_Wo_changeAhead at hF
  refine bk_Wo_changeAhead_0 ?_
  obtain ⟨r3, I3, J3, hC3, hF⟩ := bd_e hF
  refine fx_Wo_isChange (by omega) ha1 hC3 ⟨rfl, ?_⟩
  refine bk_Wo_changeAhead_6 ?_
  refine ⟨fun z => ?_, fun z => ?_⟩
  · rw [if_pos z] at hF
    exact ret_q (Q := fun a b c => Q (some (.int a)) (hp b c (pm_RT pa pb ga))) hF hQ
  · rw [if_neg z] at hF
    exact ret_q (Q := fun a b c => Q (some (.int a)) (hp b c (pm_RT pa pb ga))) hF hQ
def F_Wo_keepTrial_12 (u : Nat) : Nat → Int32 → pm_II → pm_JJ → Option (Unit × pm_II × pm_JJ)
  | 0, _, _, _ => none
  | n + 1, x3, I, J =>
    if 6 ≤ x3 then (
      some ((), I, J))
    else (
      cond (vq x3 6) (
      cond (vq x3 6) (
      F_Wo_keepTrial_12 u n (x3 + Int32.ofInt 1) (pm_up I 106 ((x3 : Int32).toNatClampNeg) (I 107 ((x3 : Int32).toNatClampNeg))) J) none) none)
def F_Wo_keepTrial (u : Nat) (x1 : Int32) (x2 : Int32) (I : pm_II) (J : pm_JJ) : Option (Unit × pm_II × pm_JJ) :=
  F_Wo_keepTrial_12 u u (0 : Int32) (pm_up (pm_up I 101 11 x2) 101 12 x1) J
theorem fx_Wo_keepTrial_12 {u k : Nat} {pa pb : Nat} {ga : Nat → Nat} {Q : Option Value → pm_H → Prop} (hk : 0 ≤ k) : ∀ (n : Nat), ∀ (x1 : Int32) (x2 : Int32) (x3 : Int32) (I : pm_II) (J : pm_JJ) (r : Unit) (I2 : pm_II) (J2 : pm_JJ), F_Wo_keepTrial_12 u n x3 I J = some (r, I2, J2) → Q none (hp I2 J2 (pm_RT pa pb ga)) → Px k 176 m_Wo_keepTrial 12 [.ref 101, .int x1, .int x2, .int x3] [] (hp I J (pm_RT pa pb ga)) Q := by
  intro n
  induction n with
  | zero => intro x1 x2 x3 I J r I2 J2  hF; cases hF
  | succ n ih =>
    intro x1 x2 x3 I J r I2 J2  hF hQ
    rw [F_Wo_keepTrial_12] at hF
    refine bk_Wo_keepTrial_12 ?_
    refine ⟨fun z => ?_, fun z => ?_⟩
    · rw [if_pos z] at hF
      exact ret_q (Q := fun a b c => Q none (hp b c (pm_RT pa pb ga))) hF hQ
    · rw [if_neg z] at hF
      obtain ⟨g, hF⟩ := gd_e hF
      refine ⟨vq_in g, ?_⟩
      obtain ⟨g, hF⟩ := gd_e hF
      refine ⟨vq_in g, ?_⟩
      exact ih _ _ _ _ _ _ _ _ hF hQ
theorem fx_Wo_keepTrial {u k : Nat} {pa pb : Nat} {ga : Nat → Nat} {Q : Option Value → pm_H → Prop} {x1 : Int32} {x2 : Int32} {I : pm_II} {J : pm_JJ} {r : Unit} {I2 : pm_II} {J2 : pm_JJ} (hk : 0 ≤ k) (hF : F_Wo_keepTrial u x1 x2 I J = some (r, I2, J2)) (hQ : Q none (hp I2 J2 (pm_RT pa pb ga))) : Px k 176 m_Wo_keepTrial 0 [.ref 101, .int x1, .int x2, .null] [] (hp I J (pm_RT pa pb ga)) Q := by
  unfold F_Wo_keepTrial at hF
  refine bk_Wo_keepTrial_0 ?_
  exact fx_Wo_keepTrial_12 hk u _ _ _ _ _ _ _ _ hF hQ
def F_Wo_search_41 (u : Nat) (C : Int32 → Int32 → Int32 → Int32 → pm_II → pm_JJ → Option (Unit × pm_II × pm_JJ)) (x3 : Int32) (x4 : Int32) (I : pm_II) (J : pm_JJ) : Option (Unit × pm_II × pm_JJ) :=
  bd (F_Wo_keepTrial u x3 x4 I J) fun _ I45 J45 =>
  some ((), I45, J45)
def F_Wo_search_186 (u : Nat) (C : Int32 → Int32 → Int32 → Int32 → pm_II → pm_JJ → Option (Unit × pm_II × pm_JJ)) (I : pm_II) (J : pm_JJ) : Option (Unit × pm_II × pm_JJ) :=
  some ((), I, J)
def F_Wo_search_52 (u : Nat) (C : Int32 → Int32 → Int32 → Int32 → pm_II → pm_JJ → Option (Unit × pm_II × pm_JJ)) : Nat → Int32 → Int32 → Int32 → Int32 → Int32 → pm_II → pm_JJ → Option (Unit × pm_II × pm_JJ)
  | 0, _, _, _, _, _, _, _ => none
  | n + 1, x1, x2, x3, x4, x5, I, J =>
    if (I 101 8) ≤ x5 then (
      F_Wo_search_186 u C I J)
    else (
      if 6 ≤ x5 then (
        F_Wo_search_186 u C I J)
      else (
        cond (vq x5 6) (
        if ¬ (I 108 ((x5 : Int32).toNatClampNeg)) = 0 then (
          F_Wo_search_52 u C n x1 x2 x3 x4 (x5 + Int32.ofInt 1) I J)
        else (
          cond (vq x5 6) (
          cond (vq x1 6) (
          bd (F_Wo_changeAhead u 107 x1 (pm_up (pm_up I 108 ((x5 : Int32).toNatClampNeg) 1) 107 ((x1 : Int32).toNatClampNeg) x5) J) fun r101 I101 J101 =>
          cond (vq x5 6) (
          bd (F_Jm_max u (((x2 + r101) + (I101 103 ((x5 : Int32).toNatClampNeg))) + (I101 101 10)) x3 I101 J101) fun r123 I123 J123 =>
          cond (vq x5 6) (
          cond (vq x5 6) (
          cond (vq x5 6) (
          bd (F_Jm_max u (0 : Int32) ((r123 + (I123 104 ((x5 : Int32).toNatClampNeg))) - (I123 105 ((x5 : Int32).toNatClampNeg))) I123 J123) fun r165 I165 J165 =>
          bd (C (x1 + (1 : Int32)) ((x2 + r101) + (I123 103 ((x5 : Int32).toNatClampNeg))) (r123 + (I123 104 ((x5 : Int32).toNatClampNeg))) (x4 + r165) I165 J165) fun _ I169 J169 =>
          cond (vq x5 6) (
          F_Wo_search_52 u C n x1 x2 x3 x4 (x5 + Int32.ofInt 1) (pm_up I169 108 ((x5 : Int32).toNatClampNeg) 0) J169) none) none) none) none) none) none) none)) none))
def F_Wo_search_27 (u : Nat) (C : Int32 → Int32 → Int32 → Int32 → pm_II → pm_JJ → Option (Unit × pm_II × pm_JJ)) (x1 : Int32) (x2 : Int32) (x3 : Int32) (x4 : Int32) (I : pm_II) (J : pm_JJ) : Option (Unit × pm_II × pm_JJ) :=
  if (I 101 8) ≤ x1 then (
    F_Wo_search_41 u C x3 x4 I J)
  else (
    if x1 < 6 then (
      F_Wo_search_52 u C u x1 x2 x3 x4 (0 : Int32) I J)
    else (
      F_Wo_search_41 u C x3 x4 I J))
def F_Wo_search_r (u : Nat) : Nat → Int32 → Int32 → Int32 → Int32 → pm_II → pm_JJ → Option (Unit × pm_II × pm_JJ)
  | 0, _, _, _, _, _, _ => none
  | n + 1, x1, x2, x3, x4, I, J =>
    if (I 101 11) < x4 then (
      some ((), I, J))
    else (
      if ¬ x4 = (I 101 11) then (
        F_Wo_search_27 u (F_Wo_search_r u n) x1 x2 x3 x4 I J)
      else (
        if x3 < (I 101 12) then (
          F_Wo_search_27 u (F_Wo_search_r u n) x1 x2 x3 x4 I J)
        else (
          some ((), I, J))))
def F_Wo_search (u : Nat) (x1 : Int32) (x2 : Int32) (x3 : Int32) (x4 : Int32) (I : pm_II) (J : pm_JJ) : Option (Unit × pm_II × pm_JJ) := F_Wo_search_r u 10 x1 x2 x3 x4 I J
theorem fx_Wo_search_41 {u k : Nat} {pa pb : Nat} {ga : Nat → Nat} {Q : Option Value → pm_H → Prop} {C : Int32 → Int32 → Int32 → Int32 → pm_II → pm_JJ → Option (Unit × pm_II × pm_JJ)} {x1 : Int32} {x2 : Int32} {x3 : Int32} {x4 : Int32} {I : pm_II} {J : pm_JJ} {r : Unit} {I2 : pm_II} {J2 : pm_JJ} (hk : 3 ≤ k) (hCC : ∀ j, k = j + 1 → ∀ (x1 : Int32) (x2 : Int32) (x3 : Int32) (x4 : Int32) (I : pm_II) (J : pm_JJ) (r : Unit) (I2 : pm_II) (J2 : pm_JJ) (Q : Option Value → pm_H → Prop), C x1 x2 x3 x4 I J = some (r, I2, J2) → Q none (hp I2 J2 (pm_RT pa pb ga)) → Px j 176 m_Wo_search 0 [.ref 101, .int x1, .int x2, .int x3, .int x4, .null, .null, .null] [] (hp I J (pm_RT pa pb ga)) Q) (hF : F_Wo_search_41 u C x3 x4 I J = some (r, I2, J2)) (hQ : Q none (hp I2 J2 (pm_RT pa pb ga))) : Px k 176 m_Wo_search 41 [.ref 101, .int x1, .int x2, .int x3, .int x4, .null, .null, .null] [] (hp I J (pm_RT pa pb ga)) Q := by
  obtain ⟨k, rfl⟩ : ∃ j, k = j + 1 := ⟨k - 1, by omega⟩
  have hCC := hCC _ rfl
  unfold F_Wo_search_41 at hF
  refine bk_Wo_search_41 ?_
  obtain ⟨r45, I45, J45, hC45, hF⟩ := bd_e hF
  refine fx_Wo_keepTrial (by omega) hC45 ⟨rfl, ?_⟩
  refine bk_Wo_search_48 ?_
  exact ret_q (Q := fun a b c => Q none (hp b c (pm_RT pa pb ga))) hF hQ
theorem fx_Wo_search_186 {u k : Nat} {pa pb : Nat} {ga : Nat → Nat} {Q : Option Value → pm_H → Prop} {C : Int32 → Int32 → Int32 → Int32 → pm_II → pm_JJ → Option (Unit × pm_II × pm_JJ)} {x1 : Int32} {x2 : Int32} {x3 : Int32} {x4 : Int32} {x5 : Int32} {I : pm_II} {J : pm_JJ} {r : Unit} {I2 : pm_II} {J2 : pm_JJ} (hk : 3 ≤ k) (hCC : ∀ j, k = j + 1 → ∀ (x1 : Int32) (x2 : Int32) (x3 : Int32) (x4 : Int32) (I : pm_II) (J : pm_JJ) (r : Unit) (I2 : pm_II) (J2 : pm_JJ) (Q : Option Value → pm_H → Prop), C x1 x2 x3 x4 I J = some (r, I2, J2) → Q none (hp I2 J2 (pm_RT pa pb ga)) → Px j 176 m_Wo_search 0 [.ref 101, .int x1, .int x2, .int x3, .int x4, .null, .null, .null] [] (hp I J (pm_RT pa pb ga)) Q) (hF : F_Wo_search_186 u C  I J = some (r, I2, J2)) (hQ : Q none (hp I2 J2 (pm_RT pa pb ga))) : Px k 176 m_Wo_search 186 [.ref 101, .int x1, .int x2, .int x3, .int x4, .int x5, .null, .null] [] (hp I J (pm_RT pa pb ga)) Q := by
  obtain ⟨k, rfl⟩ : ∃ j, k = j + 1 := ⟨k - 1, by omega⟩
  have hCC := hCC _ rfl
  unfold F_Wo_search_186 at hF
  refine bk_Wo_search_186 ?_
  exact ret_q (Q := fun a b c => Q none (hp b c (pm_RT pa pb ga))) hF hQ
theorem fx_Wo_search_52 {u k : Nat} {pa pb : Nat} {ga : Nat → Nat} {Q : Option Value → pm_H → Prop} {C : Int32 → Int32 → Int32 → Int32 → pm_II → pm_JJ → Option (Unit × pm_II × pm_JJ)} (hk : 3 ≤ k) (hCC : ∀ j, k = j + 1 → ∀ (x1 : Int32) (x2 : Int32) (x3 : Int32) (x4 : Int32) (I : pm_II) (J : pm_JJ) (r : Unit) (I2 : pm_II) (J2 : pm_JJ) (Q : Option Value → pm_H → Prop), C x1 x2 x3 x4 I J = some (r, I2, J2) → Q none (hp I2 J2 (pm_RT pa pb ga)) → Px j 176 m_Wo_search 0 [.ref 101, .int x1, .int x2, .int x3, .int x4, .null, .null, .null] [] (hp I J (pm_RT pa pb ga)) Q) : ∀ (n : Nat), ∀ (x1 : Int32) (x2 : Int32) (x3 : Int32) (x4 : Int32) (x5 : Int32) (I : pm_II) (J : pm_JJ) (r : Unit) (I2 : pm_II) (J2 : pm_JJ), F_Wo_search_52 u C n x1 x2 x3 x4 x5 I J = some (r, I2, J2) → Q none (hp I2 J2 (pm_RT pa pb ga)) → Px k 176 m_Wo_search 52 [.ref 101, .int x1, .int x2, .int x3, .int x4, .int x5, .null, .null] [] (hp I J (pm_RT pa pb ga)) Q := by
  obtain ⟨k, rfl⟩ : ∃ j, k = j + 1 := ⟨k - 1, by omega⟩
  have hCC := hCC _ rfl
  intro n
  induction n with
  | zero => intro x1 x2 x3 x4 x5 I J r I2 J2  hF; cases hF
  | succ n ih =>
    intro x1 x2 x3 x4 x5 I J r I2 J2  hF hQ
    rw [F_Wo_search_52] at hF
    refine bk_Wo_search_52 ?_
    refine ⟨fun z => ?_, fun z => ?_⟩
    · rw [if_pos z] at hF
      exact fx_Wo_search_186 hk (fun j e => by cases e; exact hCC) hF hQ
    · rw [if_neg z] at hF
      refine ⟨fun z => ?_, fun z => ?_⟩
      · rw [if_pos z] at hF
        exact fx_Wo_search_186 hk (fun j e => by cases e; exact hCC) hF hQ
      · rw [if_neg z] at hF
        obtain ⟨g, hF⟩ := gd_e hF
        refine ⟨vq_in g, ?_⟩
        refine ⟨fun z => ?_, fun z => ?_⟩
        · rw [if_pos z] at hF
          exact ih _ _ _ _ _ _ _ _ _ _ hF hQ
        · rw [if_neg z] at hF
          obtain ⟨g, hF⟩ := gd_e hF
          refine ⟨vq_in g, ?_⟩
          obtain ⟨g, hF⟩ := gd_e hF
          refine ⟨vq_in g, ?_⟩
          obtain ⟨r101, I101, J101, hC101, hF⟩ := bd_e hF
          refine fx_Wo_changeAhead (by omega) (Or.inr rfl) hC101 ⟨rfl, ?_⟩
          refine bk_Wo_search_104 ?_
          obtain ⟨g, hF⟩ := gd_e hF
          refine ⟨vq_in g, ?_⟩
          obtain ⟨r123, I123, J123, hC123, hF⟩ := bd_e hF
          refine fx_Jm_max (by omega) hC123 ⟨rfl, ?_⟩
          refine bk_Wo_search_126 ?_
          obtain ⟨g, hF⟩ := gd_e hF
          refine ⟨vq_in g, ?_⟩
          obtain ⟨g, hF⟩ := gd_e hF
          refine ⟨vq_in g, ?_⟩
          obtain ⟨g, hF⟩ := gd_e hF
          refine ⟨vq_in g, ?_⟩
          obtain ⟨r165, I165, J165, hC165, hF⟩ := bd_e hF
          refine fx_Jm_max (by omega) hC165 ⟨rfl, ?_⟩
          refine bk_Wo_search_168 ?_
          obtain ⟨r169, I169, J169, hC169, hF⟩ := bd_e hF
          refine hCC _ _ _ _ _ _ _ _ _ _ hC169 ⟨rfl, ?_⟩
          refine bk_Wo_search_172 ?_
          obtain ⟨g, hF⟩ := gd_e hF
          refine ⟨vq_in g, ?_⟩
          exact Px_wk (ih _ _ _ _ _ _ _ _ _ _ hF hQ) ⟨Or.inl rfl, Or.inl rfl, Or.inl rfl, Or.inl rfl, Or.inl rfl, Or.inl rfl, Or.inr ⟨rfl, rfl⟩, Or.inr ⟨rfl, rfl⟩, trivial⟩
theorem fx_Wo_search_27 {u k : Nat} {pa pb : Nat} {ga : Nat → Nat} {Q : Option Value → pm_H → Prop} {C : Int32 → Int32 → Int32 → Int32 → pm_II → pm_JJ → Option (Unit × pm_II × pm_JJ)} {x1 : Int32} {x2 : Int32} {x3 : Int32} {x4 : Int32} {I : pm_II} {J : pm_JJ} {r : Unit} {I2 : pm_II} {J2 : pm_JJ} (hk : 3 ≤ k) (hCC : ∀ j, k = j + 1 → ∀ (x1 : Int32) (x2 : Int32) (x3 : Int32) (x4 : Int32) (I : pm_II) (J : pm_JJ) (r : Unit) (I2 : pm_II) (J2 : pm_JJ) (Q : Option Value → pm_H → Prop), C x1 x2 x3 x4 I J = some (r, I2, J2) → Q none (hp I2 J2 (pm_RT pa pb ga)) → Px j 176 m_Wo_search 0 [.ref 101, .int x1, .int x2, .int x3, .int x4, .null, .null, .null] [] (hp I J (pm_RT pa pb ga)) Q) (hF : F_Wo_search_27 u C x1 x2 x3 x4 I J = some (r, I2, J2)) (hQ : Q none (hp I2 J2 (pm_RT pa pb ga))) : Px k 176 m_Wo_search 27 [.ref 101, .int x1, .int x2, .int x3, .int x4, .null, .null, .null] [] (hp I J (pm_RT pa pb ga)) Q := by
  obtain ⟨k, rfl⟩ : ∃ j, k = j + 1 := ⟨k - 1, by omega⟩
  have hCC := hCC _ rfl
  unfold F_Wo_search_27 at hF
  refine bk_Wo_search_27 ?_
  refine ⟨fun z => ?_, fun z => ?_⟩
  · rw [if_pos z] at hF
    exact fx_Wo_search_41 hk (fun j e => by cases e; exact hCC) hF hQ
  · rw [if_neg z] at hF
    refine ⟨fun z => ?_, fun z => ?_⟩
    · rw [if_pos z] at hF
      exact fx_Wo_search_52 hk (fun j e => by cases e; exact hCC) u _ _ _ _ _ _ _ _ _ _ hF hQ
    · rw [if_neg z] at hF
      exact fx_Wo_search_41 hk (fun j e => by cases e; exact hCC) hF hQ
theorem fx_Wo_search_r {u : Nat} {pa pb : Nat} {ga : Nat → Nat} : ∀ (n k : Nat), 3 + n ≤ k → ∀ (x1 : Int32) (x2 : Int32) (x3 : Int32) (x4 : Int32) (I : pm_II) (J : pm_JJ) (r : Unit) (I2 : pm_II) (J2 : pm_JJ) (Q : Option Value → pm_H → Prop), F_Wo_search_r u n x1 x2 x3 x4 I J = some (r, I2, J2) → Q none (hp I2 J2 (pm_RT pa pb ga)) → Px k 176 m_Wo_search 0 [.ref 101, .int x1, .int x2, .int x3, .int x4, .null, .null, .null] [] (hp I J (pm_RT pa pb ga)) Q := by
  intro n
  induction n with
  | zero => intro k hk x1 x2 x3 x4 I J r I2 J2 Q hF; cases hF
  | succ n ih =>
    intro k hk x1 x2 x3 x4 I J r I2 J2 Q hF hQ
    obtain ⟨k, rfl⟩ : ∃ j, k = j + 1 := ⟨k - 1, by omega⟩
    have hCC := ih k (by omega)
    have hk : 3 ≤ k + 1 := by omega
    rw [F_Wo_search_r] at hF
    refine bk_Wo_search_0 ?_
    refine ⟨fun z => ?_, fun z => ?_⟩
    · rw [if_pos z] at hF
      exact ret_q (Q := fun a b c => Q none (hp b c (pm_RT pa pb ga))) hF hQ
    · rw [if_neg z] at hF
      refine ⟨fun z => ?_, fun z => ?_⟩
      · rw [if_pos z] at hF
        exact fx_Wo_search_27 hk (fun j e => by cases e; exact hCC) hF hQ
      · rw [if_neg z] at hF
        refine ⟨fun z => ?_, fun z => ?_⟩
        · rw [if_pos z] at hF
          exact fx_Wo_search_27 hk (fun j e => by cases e; exact hCC) hF hQ
        · rw [if_neg z] at hF
          exact ret_q (Q := fun a b c => Q none (hp b c (pm_RT pa pb ga))) hF hQ
theorem fx_Wo_search {u k : Nat} {pa pb : Nat} {ga : Nat → Nat} {Q : Option Value → pm_H → Prop} {x1 : Int32} {x2 : Int32} {x3 : Int32} {x4 : Int32} {I : pm_II} {J : pm_JJ} {r : Unit} {I2 : pm_II} {J2 : pm_JJ} (hk : 13 ≤ k) (hF : F_Wo_search u x1 x2 x3 x4 I J = some (r, I2, J2)) (hQ : Q none (hp I2 J2 (pm_RT pa pb ga))) : Px k 176 m_Wo_search 0 [.ref 101, .int x1, .int x2, .int x3, .int x4, .null, .null, .null] [] (hp I J (pm_RT pa pb ga)) Q :=
  fx_Wo_search_r 10 k (by omega) _ _ _ _ _ _ _ _ _ _ hF hQ
def F_Wo_writeSchedule_78 (u : Nat) (K11 : Int32 → Int32 → Int32 → pm_II → pm_JJ → Option (Unit × pm_II × pm_JJ)) (x2 : Int32) (x3 : Int32) (x4 : Int32) (x5 : Int32) (s1 : Int32) (s2 : Int32) (I : pm_II) (J : pm_JJ) : Option (Unit × pm_II × pm_JJ) :=
  cond (vq x4 6) (
  bd (F_Jm_max u ((x5 + (I 103 ((x4 : Int32).toNatClampNeg))) + (I 101 10)) x2 (pm_up I 101 13 (s1 + s2)) J) fun r100 I100 J100 =>
  cond (vq x4 6) (
  cond (vq (x4 * (5 : Int32)) 30) (
  cond (vq ((x4 * (5 : Int32)) + (1 : Int32)) 30) (
  cond (vq ((x4 * (5 : Int32)) + (2 : Int32)) 30) (
  cond (vq ((x4 * (5 : Int32)) + (3 : Int32)) 30) (
  cond (vq x4 6) (
  bd (F_Jm_max u (0 : Int32) ((r100 + (I100 104 ((x4 : Int32).toNatClampNeg))) - (I100 105 ((x4 : Int32).toNatClampNeg))) (pm_up (pm_up (pm_up (pm_up I100 109 (((x4 * (5 : Int32)) : Int32).toNatClampNeg) x5) 109 ((((x4 * (5 : Int32)) + (1 : Int32)) : Int32).toNatClampNeg) (x5 + (I 103 ((x4 : Int32).toNatClampNeg)))) 109 ((((x4 * (5 : Int32)) + (2 : Int32)) : Int32).toNatClampNeg) r100) 109 ((((x4 * (5 : Int32)) + (3 : Int32)) : Int32).toNatClampNeg) (r100 + (I100 104 ((x4 : Int32).toNatClampNeg)))) J100) fun r184 I184 J184 =>
  cond (vq ((x4 * (5 : Int32)) + (4 : Int32)) 30) (
  K11 (x5 + (I 103 ((x4 : Int32).toNatClampNeg))) (r100 + (I100 104 ((x4 : Int32).toNatClampNeg))) (x3 + Int32.ofInt 1) (pm_up I184 109 ((((x4 * (5 : Int32)) + (4 : Int32)) : Int32).toNatClampNeg) r184) J184) none) none) none) none) none) none) none) none
def F_Wo_writeSchedule_194 (u : Nat) (I : pm_II) (J : pm_JJ) : Option (Unit × pm_II × pm_JJ) :=
  some ((), I, J)
def F_Wo_writeSchedule_11 (u : Nat) : Nat → Int32 → Int32 → Int32 → pm_II → pm_JJ → Option (Unit × pm_II × pm_JJ)
  | 0, _, _, _, _, _ => none
  | n + 1, x1, x2, x3, I, J =>
    if (I 101 8) ≤ x3 then (
      F_Wo_writeSchedule_194 u I J)
    else (
      if 6 ≤ x3 then (
        F_Wo_writeSchedule_194 u I J)
      else (
        cond (vq x3 6) (
        bd (F_Wo_has u (I 106 ((x3 : Int32).toNatClampNeg)) I J) fun r36 I36 J36 =>
        if ¬ r36 = 0 then (
          bd (F_Wo_changeAhead u 106 x3 I36 J36) fun r50 I50 J50 =>
          bd (F_Wo_isChange u 106 x3 I50 J50) fun r67 I67 J67 =>
          if r67 = 0 then (
            F_Wo_writeSchedule_78 u (F_Wo_writeSchedule_11 u n) x2 x3 (I 106 ((x3 : Int32).toNatClampNeg)) (x1 + r50) (I50 101 13) (0 : Int32) I67 J67)
          else (
            F_Wo_writeSchedule_78 u (F_Wo_writeSchedule_11 u n) x2 x3 (I 106 ((x3 : Int32).toNatClampNeg)) (x1 + r50) (I50 101 13) (1 : Int32) I67 J67))
        else (
          some ((), I36, J36))) none))
def F_Wo_writeSchedule (u : Nat) (I : pm_II) (J : pm_JJ) : Option (Unit × pm_II × pm_JJ) :=
  F_Wo_writeSchedule_11 u u (0 : Int32) (0 : Int32) (0 : Int32) (pm_up I 101 13 0) J
theorem fx_Wo_writeSchedule_78 {u k : Nat} {pa pb : Nat} {ga : Nat → Nat} {Q : Option Value → pm_H → Prop} {K11 : Int32 → Int32 → Int32 → pm_II → pm_JJ → Option (Unit × pm_II × pm_JJ)} {x1 : Int32} {x2 : Int32} {x3 : Int32} {x4 : Int32} {x5 : Int32} {s1 : Int32} {s2 : Int32} {I : pm_II} {J : pm_JJ} {r : Unit} {I2 : pm_II} {J2 : pm_JJ} (hk : 3 ≤ k) (hK11 : ∀ (x1 : Int32) (x2 : Int32) (x3 : Int32) (I : pm_II) (J : pm_JJ) (r : Unit) (I2 : pm_II) (J2 : pm_JJ), K11 x1 x2 x3 I J = some (r, I2, J2) → Q none (hp I2 J2 (pm_RT pa pb ga)) → Px k 176 m_Wo_writeSchedule 11 [.ref 101, .int x1, .int x2, .int x3, .null, .null, .null] [] (hp I J (pm_RT pa pb ga)) Q) (hF : F_Wo_writeSchedule_78 u K11 x2 x3 x4 x5 s1 s2 I J = some (r, I2, J2)) (hQ : Q none (hp I2 J2 (pm_RT pa pb ga))) : Px k 176 m_Wo_writeSchedule 78 [.ref 101, .int x1, .int x2, .int x3, .int x4, .int x5, .null] [.int s2, .int s1, .ref 101] (hp I J (pm_RT pa pb ga)) Q := by
  obtain ⟨k, rfl⟩ : ∃ j, k = j + 1 := ⟨k - 1, by omega⟩
  unfold F_Wo_writeSchedule_78 at hF
  refine bk_Wo_writeSchedule_78 ?_
  obtain ⟨g, hF⟩ := gd_e hF
  refine ⟨vq_in g, ?_⟩
  obtain ⟨r100, I100, J100, hC100, hF⟩ := bd_e hF
  refine fx_Jm_max (by omega) hC100 ⟨rfl, ?_⟩
  refine bk_Wo_writeSchedule_103 ?_
  obtain ⟨g, hF⟩ := gd_e hF
  refine ⟨vq_in g, ?_⟩
  obtain ⟨g, hF⟩ := gd_e hF
  refine ⟨vq_in g, ?_⟩
  obtain ⟨g, hF⟩ := gd_e hF
  refine ⟨vq_in g, ?_⟩
  obtain ⟨g, hF⟩ := gd_e hF
  refine ⟨vq_in g, ?_⟩
  obtain ⟨g, hF⟩ := gd_e hF
  refine ⟨vq_in g, ?_⟩
  obtain ⟨g, hF⟩ := gd_e hF
  refine ⟨vq_in g, ?_⟩
  obtain ⟨r184, I184, J184, hC184, hF⟩ := bd_e hF
  refine fx_Jm_max (by omega) hC184 ⟨rfl, ?_⟩
  refine bk_Wo_writeSchedule_187 ?_
  obtain ⟨g, hF⟩ := gd_e hF
  refine ⟨vq_in g, ?_⟩
  exact Px_wk (hK11 _ _ _ _ _ _ _ _ hF hQ) ⟨Or.inl rfl, Or.inl rfl, Or.inl rfl, Or.inl rfl, Or.inr ⟨rfl, rfl⟩, Or.inr ⟨rfl, rfl⟩, Or.inr ⟨rfl, rfl⟩, trivial⟩
theorem fx_Wo_writeSchedule_194 {u k : Nat} {pa pb : Nat} {ga : Nat → Nat} {Q : Option Value → pm_H → Prop} {x1 : Int32} {x2 : Int32} {x3 : Int32} {I : pm_II} {J : pm_JJ} {r : Unit} {I2 : pm_II} {J2 : pm_JJ} (hk : 3 ≤ k) (hF : F_Wo_writeSchedule_194 u  I J = some (r, I2, J2)) (hQ : Q none (hp I2 J2 (pm_RT pa pb ga))) : Px k 176 m_Wo_writeSchedule 194 [.ref 101, .int x1, .int x2, .int x3, .null, .null, .null] [] (hp I J (pm_RT pa pb ga)) Q := by
  obtain ⟨k, rfl⟩ : ∃ j, k = j + 1 := ⟨k - 1, by omega⟩
  unfold F_Wo_writeSchedule_194 at hF
  refine bk_Wo_writeSchedule_194 ?_
  exact ret_q (Q := fun a b c => Q none (hp b c (pm_RT pa pb ga))) hF hQ
theorem fx_Wo_writeSchedule_11 {u k : Nat} {pa pb : Nat} {ga : Nat → Nat} {Q : Option Value → pm_H → Prop} (hk : 3 ≤ k) : ∀ (n : Nat), ∀ (x1 : Int32) (x2 : Int32) (x3 : Int32) (I : pm_II) (J : pm_JJ) (r : Unit) (I2 : pm_II) (J2 : pm_JJ), F_Wo_writeSchedule_11 u n x1 x2 x3 I J = some (r, I2, J2) → Q none (hp I2 J2 (pm_RT pa pb ga)) → Px k 176 m_Wo_writeSchedule 11 [.ref 101, .int x1, .int x2, .int x3, .null, .null, .null] [] (hp I J (pm_RT pa pb ga)) Q := by
  obtain ⟨k, rfl⟩ : ∃ j, k = j + 1 := ⟨k - 1, by omega⟩
  intro n
  induction n with
  | zero => intro x1 x2 x3 I J r I2 J2  hF; cases hF
  | succ n ih =>
    intro x1 x2 x3 I J r I2 J2  hF hQ
    rw [F_Wo_writeSchedule_11] at hF
    refine bk_Wo_writeSchedule_11 ?_
    refine ⟨fun z => ?_, fun z => ?_⟩
    · rw [if_pos z] at hF
      exact fx_Wo_writeSchedule_194 hk hF hQ
    · rw [if_neg z] at hF
      refine ⟨fun z => ?_, fun z => ?_⟩
      · rw [if_pos z] at hF
        exact fx_Wo_writeSchedule_194 hk hF hQ
      · rw [if_neg z] at hF
        obtain ⟨g, hF⟩ := gd_e hF
        refine ⟨vq_in g, ?_⟩
        obtain ⟨r36, I36, J36, hC36, hF⟩ := bd_e hF
        refine fx_Wo_has (by omega) hC36 ⟨rfl, ?_⟩
        refine bk_Wo_writeSchedule_39 ?_
        refine ⟨fun z => ?_, fun z => ?_⟩
        · rw [if_pos z] at hF
          obtain ⟨r50, I50, J50, hC50, hF⟩ := bd_e hF
          refine fx_Wo_changeAhead (by omega) (Or.inl rfl) hC50 ⟨rfl, ?_⟩
          refine bk_Wo_writeSchedule_53 ?_
          obtain ⟨r67, I67, J67, hC67, hF⟩ := bd_e hF
          refine fx_Wo_isChange (by omega) (Or.inl rfl) hC67 ⟨rfl, ?_⟩
          refine bk_Wo_writeSchedule_70 ?_
          refine ⟨fun z => ?_, fun z => ?_⟩
          · rw [if_pos z] at hF
            exact fx_Wo_writeSchedule_78 hk ih hF hQ
          · rw [if_neg z] at hF
            exact fx_Wo_writeSchedule_78 hk ih hF hQ
        · rw [if_neg z] at hF
          exact ret_q (Q := fun a b c => Q none (hp b c (pm_RT pa pb ga))) hF hQ
theorem fx_Wo_writeSchedule {u k : Nat} {pa pb : Nat} {ga : Nat → Nat} {Q : Option Value → pm_H → Prop} {I : pm_II} {J : pm_JJ} {r : Unit} {I2 : pm_II} {J2 : pm_JJ} (hk : 3 ≤ k) (hF : F_Wo_writeSchedule u  I J = some (r, I2, J2)) (hQ : Q none (hp I2 J2 (pm_RT pa pb ga))) : Px k 176 m_Wo_writeSchedule 0 [.ref 101, .null, .null, .null, .null, .null, .null] [] (hp I J (pm_RT pa pb ga)) Q := by
  obtain ⟨k, rfl⟩ : ∃ j, k = j + 1 := ⟨k - 1, by omega⟩
  unfold F_Wo_writeSchedule at hF
  refine bk_Wo_writeSchedule_0 ?_
  exact fx_Wo_writeSchedule_11 hk u _ _ _ _ _ _ _ _ hF hQ
def F_Wo_refresh_27 (u : Nat) : Nat → Int32 → pm_II → pm_JJ → Option (Unit × pm_II × pm_JJ)
  | 0, _, _, _ => none
  | n + 1, x1, I, J =>
    if 6 ≤ x1 then (
      bd (F_Wo_search u (0 : Int32) (0 : Int32) (0 : Int32) (0 : Int32) I J) fun _ I51 J51 =>
      bd (F_Wo_writeSchedule u I51 J51) fun _ I55 J55 =>
      some ((), I55, J55))
    else (
      cond (vq x1 6) (
      F_Wo_refresh_27 u n (x1 + Int32.ofInt 1) (pm_up I 108 ((x1 : Int32).toNatClampNeg) 0) J) none)
def F_Wo_refresh (u : Nat) (I : pm_II) (J : pm_JJ) : Option (Unit × pm_II × pm_JJ) :=
  if ¬ (I 101 14) = 0 then (
    F_Wo_refresh_27 u u (0 : Int32) (pm_up (pm_up (pm_up I 101 14 0) 101 11 (Int32.ofNat 1000000)) 101 12 (Int32.ofNat 1000000)) J)
  else (
    some ((), I, J))
theorem fx_Wo_refresh_27 {u k : Nat} {pa pb : Nat} {ga : Nat → Nat} {Q : Option Value → pm_H → Prop} (hk : 14 ≤ k) : ∀ (n : Nat), ∀ (x1 : Int32) (I : pm_II) (J : pm_JJ) (r : Unit) (I2 : pm_II) (J2 : pm_JJ), F_Wo_refresh_27 u n x1 I J = some (r, I2, J2) → Q none (hp I2 J2 (pm_RT pa pb ga)) → Px k 176 m_Wo_refresh 27 [.ref 101, .int x1] [] (hp I J (pm_RT pa pb ga)) Q := by
  obtain ⟨k, rfl⟩ : ∃ j, k = j + 1 := ⟨k - 1, by omega⟩
  intro n
  induction n with
  | zero => intro x1 I J r I2 J2  hF; cases hF
  | succ n ih =>
    intro x1 I J r I2 J2  hF hQ
    rw [F_Wo_refresh_27] at hF
    refine bk_Wo_refresh_27 ?_
    refine ⟨fun z => ?_, fun z => ?_⟩
    · rw [if_pos z] at hF
      obtain ⟨r51, I51, J51, hC51, hF⟩ := bd_e hF
      refine fx_Wo_search (by omega) hC51 ⟨rfl, ?_⟩
      refine bk_Wo_refresh_54 ?_
      obtain ⟨r55, I55, J55, hC55, hF⟩ := bd_e hF
      refine fx_Wo_writeSchedule (by omega) hC55 ⟨rfl, ?_⟩
      refine bk_Wo_refresh_58 ?_
      exact ret_q (Q := fun a b c => Q none (hp b c (pm_RT pa pb ga))) hF hQ
    · rw [if_neg z] at hF
      obtain ⟨g, hF⟩ := gd_e hF
      refine ⟨vq_in g, ?_⟩
      exact ih _ _ _ _ _ _ hF hQ
theorem fx_Wo_refresh {u k : Nat} {pa pb : Nat} {ga : Nat → Nat} {Q : Option Value → pm_H → Prop} {I : pm_II} {J : pm_JJ} {r : Unit} {I2 : pm_II} {J2 : pm_JJ} (hk : 14 ≤ k) (hF : F_Wo_refresh u  I J = some (r, I2, J2)) (hQ : Q none (hp I2 J2 (pm_RT pa pb ga))) : Px k 176 m_Wo_refresh 0 [.ref 101, .null] [] (hp I J (pm_RT pa pb ga)) Q := by
  obtain ⟨k, rfl⟩ : ∃ j, k = j + 1 := ⟨k - 1, by omega⟩
  unfold F_Wo_refresh at hF
  refine bk_Wo_refresh_0 ?_
  refine ⟨fun z => ?_, fun z => ?_⟩
  · rw [if_pos z] at hF
    exact fx_Wo_refresh_27 hk u _ _ _ _ _ _ hF hQ
  · rw [if_neg z] at hF
    exact ret_q (Q := fun a b c => Q none (hp b c (pm_RT pa pb ga))) hF hQ
def F_Wo_jobAt (u : Nat) (x1 : Int32) (I : pm_II) (J : pm_JJ) : Option (Int32 × pm_II × pm_JJ) :=
  bd (F_Wo_refresh u I J) fun _ I1 J1 =>
  bd (F_Wo_has u x1 I1 J1) fun r6 I6 J6 =>
  if r6 = 0 then (
    some (((-1) : Int32), I6, J6))
  else (
    cond (vq x1 6) (
    some ((I6 106 ((x1 : Int32).toNatClampNeg)), I6, J6)) none)
theorem fx_Wo_jobAt {u k : Nat} {pa pb : Nat} {ga : Nat → Nat} {Q : Option Value → pm_H → Prop} {x1 : Int32} {I : pm_II} {J : pm_JJ} {r : Int32} {I2 : pm_II} {J2 : pm_JJ} (hk : 15 ≤ k) (hF : F_Wo_jobAt u x1 I J = some (r, I2, J2)) (hQ : Q (some (.int r)) (hp I2 J2 (pm_RT pa pb ga))) : Px k 176 m_Wo_jobAt 0 [.ref 101, .int x1] [] (hp I J (pm_RT pa pb ga)) Q := by
  obtain ⟨k, rfl⟩ : ∃ j, k = j + 1 := ⟨k - 1, by omega⟩
  unfold F_Wo_jobAt at hF
  refine bk_Wo_jobAt_0 ?_
  obtain ⟨r1, I1, J1, hC1, hF⟩ := bd_e hF
  refine fx_Wo_refresh (by omega) hC1 ⟨rfl, ?_⟩
  refine bk_Wo_jobAt_4 ?_
  obtain ⟨r6, I6, J6, hC6, hF⟩ := bd_e hF
  refine fx_Wo_has (by omega) hC6 ⟨rfl, ?_⟩
  refine bk_Wo_jobAt_9 ?_
  refine ⟨fun z => ?_, fun z => ?_⟩
  · rw [if_pos z] at hF
    exact ret_q (Q := fun a b c => Q (some (.int a)) (hp b c (pm_RT pa pb ga))) hF hQ
  · rw [if_neg z] at hF
    obtain ⟨g, hF⟩ := gd_e hF
    refine ⟨vq_in g, ?_⟩
    exact ret_q (Q := fun a b c => Q (some (.int a)) (hp b c (pm_RT pa pb ga))) hF hQ
def F_Wo_tell (u : Nat) (x1 : Int32) (x2 : Int32) (I : pm_II) (J : pm_JJ) : Option (Int32 × pm_II × pm_JJ) :=
  bd (F_Wo_refresh u I J) fun _ I1 J1 =>
  bd (F_Wo_has u x1 I1 J1) fun r6 I6 J6 =>
  if r6 = 0 then (
    some (((-1) : Int32), I6, J6))
  else (
    if x2 < 0 then (
      some (((-1) : Int32), I6, J6))
    else (
      if 5 ≤ x2 then (
        some (((-1) : Int32), I6, J6))
      else (
        cond (vq ((x1 * (5 : Int32)) + x2) 30) (
        some ((I6 109 ((((x1 * (5 : Int32)) + x2) : Int32).toNatClampNeg)), I6, J6)) none)))
theorem fx_Wo_tell {u k : Nat} {pa pb : Nat} {ga : Nat → Nat} {Q : Option Value → pm_H → Prop} {x1 : Int32} {x2 : Int32} {I : pm_II} {J : pm_JJ} {r : Int32} {I2 : pm_II} {J2 : pm_JJ} (hk : 15 ≤ k) (hF : F_Wo_tell u x1 x2 I J = some (r, I2, J2)) (hQ : Q (some (.int r)) (hp I2 J2 (pm_RT pa pb ga))) : Px k 176 m_Wo_tell 0 [.ref 101, .int x1, .int x2] [] (hp I J (pm_RT pa pb ga)) Q := by
  obtain ⟨k, rfl⟩ : ∃ j, k = j + 1 := ⟨k - 1, by omega⟩
  unfold F_Wo_tell at hF
  refine bk_Wo_tell_0 ?_
  obtain ⟨r1, I1, J1, hC1, hF⟩ := bd_e hF
  refine fx_Wo_refresh (by omega) hC1 ⟨rfl, ?_⟩
  refine bk_Wo_tell_4 ?_
  obtain ⟨r6, I6, J6, hC6, hF⟩ := bd_e hF
  refine fx_Wo_has (by omega) hC6 ⟨rfl, ?_⟩
  refine bk_Wo_tell_9 ?_
  refine ⟨fun z => ?_, fun z => ?_⟩
  · rw [if_pos z] at hF
    exact ret_q (Q := fun a b c => Q (some (.int a)) (hp b c (pm_RT pa pb ga))) hF hQ
  · rw [if_neg z] at hF
    refine ⟨fun z => ?_, fun z => ?_⟩
    · rw [if_pos z] at hF
      exact ret_q (Q := fun a b c => Q (some (.int a)) (hp b c (pm_RT pa pb ga))) hF hQ
    · rw [if_neg z] at hF
      refine ⟨fun z => ?_, fun z => ?_⟩
      · rw [if_pos z] at hF
        exact ret_q (Q := fun a b c => Q (some (.int a)) (hp b c (pm_RT pa pb ga))) hF hQ
      · rw [if_neg z] at hF
        obtain ⟨g, hF⟩ := gd_e hF
        refine ⟨vq_in g, ?_⟩
        exact ret_q (Q := fun a b c => Q (some (.int a)) (hp b c (pm_RT pa pb ga))) hF hQ
def F_Wo_changesOfColour (u : Nat) (I : pm_II) (J : pm_JJ) : Option (Int32 × pm_II × pm_JJ) :=
  bd (F_Wo_refresh u I J) fun _ I1 J1 =>
  some ((I1 101 13), I1, J1)
theorem fx_Wo_changesOfColour {u k : Nat} {pa pb : Nat} {ga : Nat → Nat} {Q : Option Value → pm_H → Prop} {I : pm_II} {J : pm_JJ} {r : Int32} {I2 : pm_II} {J2 : pm_JJ} (hk : 15 ≤ k) (hF : F_Wo_changesOfColour u  I J = some (r, I2, J2)) (hQ : Q (some (.int r)) (hp I2 J2 (pm_RT pa pb ga))) : Px k 176 m_Wo_changesOfColour 0 [.ref 101] [] (hp I J (pm_RT pa pb ga)) Q := by
  obtain ⟨k, rfl⟩ : ∃ j, k = j + 1 := ⟨k - 1, by omega⟩
  unfold F_Wo_changesOfColour at hF
  refine bk_Wo_changesOfColour_0 ?_
  obtain ⟨r1, I1, J1, hC1, hF⟩ := bd_e hF
  refine fx_Wo_refresh (by omega) hC1 ⟨rfl, ?_⟩
  refine bk_Wo_changesOfColour_4 ?_
  exact ret_q (Q := fun a b c => Q (some (.int a)) (hp b c (pm_RT pa pb ga))) hF hQ
def F_Wo_howMany (u : Nat) (I : pm_II) (J : pm_JJ) : Option (Int32 × pm_II × pm_JJ) :=
  some ((I 101 8), I, J)
theorem fx_Wo_howMany {u k : Nat} {pa pb : Nat} {ga : Nat → Nat} {Q : Option Value → pm_H → Prop} {I : pm_II} {J : pm_JJ} {r : Int32} {I2 : pm_II} {J2 : pm_JJ} (hk : 0 ≤ k) (hF : F_Wo_howMany u  I J = some (r, I2, J2)) (hQ : Q (some (.int r)) (hp I2 J2 (pm_RT pa pb ga))) : Px k 176 m_Wo_howMany 0 [.ref 101] [] (hp I J (pm_RT pa pb ga)) Q := by
  unfold F_Wo_howMany at hF
  refine bk_Wo_howMany_0 ?_
  exact ret_q (Q := fun a b c => Q (some (.int a)) (hp b c (pm_RT pa pb ga))) hF hQ
def F_Wo_lastEnd (u : Nat) (I : pm_II) (J : pm_JJ) : Option (Int32 × pm_II × pm_JJ) :=
  bd (F_Wo_refresh u I J) fun _ I1 J1 =>
  some ((I1 101 12), I1, J1)
theorem fx_Wo_lastEnd {u k : Nat} {pa pb : Nat} {ga : Nat → Nat} {Q : Option Value → pm_H → Prop} {I : pm_II} {J : pm_JJ} {r : Int32} {I2 : pm_II} {J2 : pm_JJ} (hk : 15 ≤ k) (hF : F_Wo_lastEnd u  I J = some (r, I2, J2)) (hQ : Q (some (.int r)) (hp I2 J2 (pm_RT pa pb ga))) : Px k 176 m_Wo_lastEnd 0 [.ref 101] [] (hp I J (pm_RT pa pb ga)) Q := by
  obtain ⟨k, rfl⟩ : ∃ j, k = j + 1 := ⟨k - 1, by omega⟩
  unfold F_Wo_lastEnd at hF
  refine bk_Wo_lastEnd_0 ?_
  obtain ⟨r1, I1, J1, hC1, hF⟩ := bd_e hF
  refine fx_Wo_refresh (by omega) hC1 ⟨rfl, ?_⟩
  refine bk_Wo_lastEnd_4 ?_
  exact ret_q (Q := fun a b c => Q (some (.int a)) (hp b c (pm_RT pa pb ga))) hF hQ
def F_Wo_lateInAll (u : Nat) (I : pm_II) (J : pm_JJ) : Option (Int32 × pm_II × pm_JJ) :=
  bd (F_Wo_refresh u I J) fun _ I1 J1 =>
  some ((I1 101 11), I1, J1)
theorem fx_Wo_lateInAll {u k : Nat} {pa pb : Nat} {ga : Nat → Nat} {Q : Option Value → pm_H → Prop} {I : pm_II} {J : pm_JJ} {r : Int32} {I2 : pm_II} {J2 : pm_JJ} (hk : 15 ≤ k) (hF : F_Wo_lateInAll u  I J = some (r, I2, J2)) (hQ : Q (some (.int r)) (hp I2 J2 (pm_RT pa pb ga))) : Px k 176 m_Wo_lateInAll 0 [.ref 101] [] (hp I J (pm_RT pa pb ga)) Q := by
  obtain ⟨k, rfl⟩ : ∃ j, k = j + 1 := ⟨k - 1, by omega⟩
  unfold F_Wo_lateInAll at hF
  refine bk_Wo_lateInAll_0 ?_
  obtain ⟨r1, I1, J1, hC1, hF⟩ := bd_e hF
  refine fx_Wo_refresh (by omega) hC1 ⟨rfl, ?_⟩
  refine bk_Wo_lateInAll_4 ?_
  exact ret_q (Q := fun a b c => Q (some (.int a)) (hp b c (pm_RT pa pb ga))) hF hQ
