def F_Ta_append_3 (u : Nat) : Nat → Int32 → Int32 → pm_II → pm_JJ → Option (Unit × pm_II × pm_JJ)
  | 0, _, _, _, _ => none
  | n + 1, x1, x2, I, J =>
    if x2 < 0 then (
      some ((), I, J))
    else (
      if (Int32.ofNat 1600) ≤ (I 17 1) then (
        F_Ta_append_3 u n x1 (x2 + Int32.ofInt (-8)) I J)
      else (
        cond (vq (I 17 1) 1600) (
        F_Ta_append_3 u n x1 (x2 + Int32.ofInt (-8)) (pm_up (pm_up I 18 (((I 17 1) : Int32).toNatClampNeg) (((x1).toUInt32 >>> ((x2).toUInt32 &&& Int32.toUInt32 31)).toInt32 &&& (255 : Int32))) 17 1 ((I 17 1) + (1 : Int32))) J) none))
def F_Ta_append (u : Nat) (x1 : Int32) (I : pm_II) (J : pm_JJ) : Option (Unit × pm_II × pm_JJ) :=
  F_Ta_append_3 u u x1 (24 : Int32) I J
theorem fx_Ta_append_3 {u k : Nat} {pa pb : Nat} {ga : Nat → Nat} {Q : Option Value → pm_H → Prop} (hk : 0 ≤ k) : ∀ (n : Nat), ∀ (x1 : Int32) (x2 : Int32) (I : pm_II) (J : pm_JJ) (r : Unit) (I2 : pm_II) (J2 : pm_JJ), F_Ta_append_3 u n x1 x2 I J = some (r, I2, J2) → Q none (hp I2 J2 (pm_RT pa pb ga)) → Px k 176 m_Ta_append 3 [.ref 17, .int x1, .int x2] [] (hp I J (pm_RT pa pb ga)) Q := by
  intro n
  induction n with
  | zero => intro x1 x2 I J r I2 J2  hF; cases hF
  | succ n ih =>
    intro x1 x2 I J r I2 J2  hF hQ
    rw [F_Ta_append_3] at hF
    refine bk_Ta_append_3 ?_
    refine ⟨fun z => ?_, fun z => ?_⟩
    · rw [if_pos z] at hF
      exact ret_q (Q := fun a b c => Q none (hp b c (pm_RT pa pb ga))) hF hQ
    · rw [if_neg z] at hF
      refine ⟨fun z => ?_, fun z => ?_⟩
      · rw [if_pos z] at hF
        exact ih _ _ _ _ _ _ _ hF hQ
      · rw [if_neg z] at hF
        obtain ⟨g, hF⟩ := gd_e hF
        refine ⟨vq_in g, ?_⟩
        exact ih _ _ _ _ _ _ _ hF hQ
theorem fx_Ta_append {u k : Nat} {pa pb : Nat} {ga : Nat → Nat} {Q : Option Value → pm_H → Prop} {x1 : Int32} {I : pm_II} {J : pm_JJ} {r : Unit} {I2 : pm_II} {J2 : pm_JJ} (hk : 0 ≤ k) (hF : F_Ta_append u x1 I J = some (r, I2, J2)) (hQ : Q none (hp I2 J2 (pm_RT pa pb ga))) : Px k 176 m_Ta_append 0 [.ref 17, .int x1, .null] [] (hp I J (pm_RT pa pb ga)) Q := by
  unfold F_Ta_append at hF
  refine bk_Ta_append_0 ?_
  exact fx_Ta_append_3 hk u _ _ _ _ _ _ _ hF hQ
def F_Ta_hasRoomFor (u : Nat) (x1 : Int32) (I : pm_II) (J : pm_JJ) : Option (Int32 × pm_II × pm_JJ) :=
  if (Int32.ofNat 1600) < ((I 17 1) + x1) then (
    some ((0 : Int32), I, J))
  else (
    some ((1 : Int32), I, J))
theorem fx_Ta_hasRoomFor {u k : Nat} {pa pb : Nat} {ga : Nat → Nat} {Q : Option Value → pm_H → Prop} {x1 : Int32} {I : pm_II} {J : pm_JJ} {r : Int32} {I2 : pm_II} {J2 : pm_JJ} (hk : 0 ≤ k) (hF : F_Ta_hasRoomFor u x1 I J = some (r, I2, J2)) (hQ : Q (some (.int r)) (hp I2 J2 (pm_RT pa pb ga))) : Px k 176 m_Ta_hasRoomFor 0 [.ref 17, .int x1] [] (hp I J (pm_RT pa pb ga)) Q := by
  unfold F_Ta_hasRoomFor at hF
  refine bk_Ta_hasRoomFor_0 ?_
  refine ⟨fun z => ?_, fun z => ?_⟩
  · rw [if_pos z] at hF
    exact ret_q (Q := fun a b c => Q (some (.int a)) (hp b c (pm_RT pa pb ga))) hF hQ
  · rw [if_neg z] at hF
    exact ret_q (Q := fun a b c => Q (some (.int a)) (hp b c (pm_RT pa pb ga))) hF hQ
def F_Ta_length (u : Nat) (I : pm_II) (J : pm_JJ) : Option (Int32 × pm_II × pm_JJ) :=
  some ((I 17 1), I, J)
theorem fx_Ta_length {u k : Nat} {pa pb : Nat} {ga : Nat → Nat} {Q : Option Value → pm_H → Prop} {I : pm_II} {J : pm_JJ} {r : Int32} {I2 : pm_II} {J2 : pm_JJ} (hk : 0 ≤ k) (hF : F_Ta_length u  I J = some (r, I2, J2)) (hQ : Q (some (.int r)) (hp I2 J2 (pm_RT pa pb ga))) : Px k 176 m_Ta_length 0 [.ref 17] [] (hp I J (pm_RT pa pb ga)) Q := by
  unfold F_Ta_length at hF
  refine bk_Ta_length_0 ?_
  exact ret_q (Q := fun a b c => Q (some (.int a)) (hp b c (pm_RT pa pb ga))) hF hQ
def F_Ta_shorten (u : Nat) (x1 : Int32) (I : pm_II) (J : pm_JJ) : Option (Int32 × pm_II × pm_JJ) :=
  if x1 < 0 then (
    some (((-1) : Int32), I, J))
  else (
    if x1 ≤ (I 17 1) then (
      some (x1, (pm_up I 17 1 x1), J))
    else (
      some (((-1) : Int32), I, J)))
theorem fx_Ta_shorten {u k : Nat} {pa pb : Nat} {ga : Nat → Nat} {Q : Option Value → pm_H → Prop} {x1 : Int32} {I : pm_II} {J : pm_JJ} {r : Int32} {I2 : pm_II} {J2 : pm_JJ} (hk : 0 ≤ k) (hF : F_Ta_shorten u x1 I J = some (r, I2, J2)) (hQ : Q (some (.int r)) (hp I2 J2 (pm_RT pa pb ga))) : Px k 176 m_Ta_shorten 0 [.ref 17, .int x1] [] (hp I J (pm_RT pa pb ga)) Q := by
  unfold F_Ta_shorten at hF
  refine bk_Ta_shorten_0 ?_
  refine ⟨fun z => ?_, fun z => ?_⟩
  · rw [if_pos z] at hF
    exact ret_q (Q := fun a b c => Q (some (.int a)) (hp b c (pm_RT pa pb ga))) hF hQ
  · rw [if_neg z] at hF
    refine ⟨fun z => ?_, fun z => ?_⟩
    · rw [if_pos z] at hF
      exact ret_q (Q := fun a b c => Q (some (.int a)) (hp b c (pm_RT pa pb ga))) hF hQ
    · rw [if_neg z] at hF
      exact ret_q (Q := fun a b c => Q (some (.int a)) (hp b c (pm_RT pa pb ga))) hF hQ
def F_Jm_min_II (u : Nat) (x0 : Int32) (x1 : Int32) (I : pm_II) (J : pm_JJ) : Option (Int32 × pm_II × pm_JJ) :=
  if x1 < x0 then (
    some (x1, I, J))
  else (
    some (x0, I, J))
theorem fx_Jm_min_II {u k : Nat} {pa pb : Nat} {ga : Nat → Nat} {Q : Option Value → pm_H → Prop} {x0 : Int32} {x1 : Int32} {I : pm_II} {J : pm_JJ} {r : Int32} {I2 : pm_II} {J2 : pm_JJ} (hk : 0 ≤ k) (hF : F_Jm_min_II u x0 x1 I J = some (r, I2, J2)) (hQ : Q (some (.int r)) (hp I2 J2 (pm_RT pa pb ga))) : Px k 176 m_Jm_min_II 0 [.int x0, .int x1] [] (hp I J (pm_RT pa pb ga)) Q := by
  unfold F_Jm_min_II at hF
  refine bk_Jm_min_II_0 ?_
  refine ⟨fun z => ?_, fun z => ?_⟩
  · rw [if_pos z] at hF
    exact ret_q (Q := fun a b c => Q (some (.int a)) (hp b c (pm_RT pa pb ga))) hF hQ
  · rw [if_neg z] at hF
    exact ret_q (Q := fun a b c => Q (some (.int a)) (hp b c (pm_RT pa pb ga))) hF hQ
def F_Jm_max (u : Nat) (x0 : Int32) (x1 : Int32) (I : pm_II) (J : pm_JJ) : Option (Int32 × pm_II × pm_JJ) :=
  if x0 < x1 then (
    some (x1, I, J))
  else (
    some (x0, I, J))
theorem fx_Jm_max {u k : Nat} {pa pb : Nat} {ga : Nat → Nat} {Q : Option Value → pm_H → Prop} {x0 : Int32} {x1 : Int32} {I : pm_II} {J : pm_JJ} {r : Int32} {I2 : pm_II} {J2 : pm_JJ} (hk : 0 ≤ k) (hF : F_Jm_max u x0 x1 I J = some (r, I2, J2)) (hQ : Q (some (.int r)) (hp I2 J2 (pm_RT pa pb ga))) : Px k 176 m_Jm_max 0 [.int x0, .int x1] [] (hp I J (pm_RT pa pb ga)) Q := by
  unfold F_Jm_max at hF
  refine bk_Jm_max_0 ?_
  refine ⟨fun z => ?_, fun z => ?_⟩
  · rw [if_pos z] at hF
    exact ret_q (Q := fun a b c => Q (some (.int a)) (hp b c (pm_RT pa pb ga))) hF hQ
  · rw [if_neg z] at hF
    exact ret_q (Q := fun a b c => Q (some (.int a)) (hp b c (pm_RT pa pb ga))) hF hQ
def F_Ta_blame (u : Nat) (x1 : Int32) (I : pm_II) (J : pm_JJ) : Option (Unit × pm_II × pm_JJ) :=
  if ¬ (I 17 4) = (-1) then (
    some ((), I, J))
  else (
    some ((), (pm_up I 17 4 x1), J))
theorem fx_Ta_blame {u k : Nat} {pa pb : Nat} {ga : Nat → Nat} {Q : Option Value → pm_H → Prop} {x1 : Int32} {I : pm_II} {J : pm_JJ} {r : Unit} {I2 : pm_II} {J2 : pm_JJ} (hk : 0 ≤ k) (hF : F_Ta_blame u x1 I J = some (r, I2, J2)) (hQ : Q none (hp I2 J2 (pm_RT pa pb ga))) : Px k 176 m_Ta_blame 0 [.ref 17, .int x1] [] (hp I J (pm_RT pa pb ga)) Q := by
  unfold F_Ta_blame at hF
  refine bk_Ta_blame_0 ?_
  refine ⟨fun z => ?_, fun z => ?_⟩
  · rw [if_pos z] at hF
    exact ret_q (Q := fun a b c => Q none (hp b c (pm_RT pa pb ga))) hF hQ
  · rw [if_neg z] at hF
    exact ret_q (Q := fun a b c => Q none (hp b c (pm_RT pa pb ga))) hF hQ
def F_Ta_blameToken (u : Nat) (I : pm_II) (J : pm_JJ) : Option (Unit × pm_II × pm_JJ) :=
  bd (F_Ta_blame u (I 17 3) I J) fun _ I5 J5 =>
  some ((), I5, J5)
theorem fx_Ta_blameToken {u k : Nat} {pa pb : Nat} {ga : Nat → Nat} {Q : Option Value → pm_H → Prop} {I : pm_II} {J : pm_JJ} {r : Unit} {I2 : pm_II} {J2 : pm_JJ} (hk : 1 ≤ k) (hF : F_Ta_blameToken u  I J = some (r, I2, J2)) (hQ : Q none (hp I2 J2 (pm_RT pa pb ga))) : Px k 176 m_Ta_blameToken 0 [.ref 17] [] (hp I J (pm_RT pa pb ga)) Q := by
  obtain ⟨k, rfl⟩ : ∃ j, k = j + 1 := ⟨k - 1, by omega⟩
  unfold F_Ta_blameToken at hF
  refine bk_Ta_blameToken_0 ?_
  obtain ⟨r5, I5, J5, hC5, hF⟩ := bd_e hF
  refine fx_Ta_blame (by omega) hC5 ⟨rfl, ?_⟩
  refine bk_Ta_blameToken_8 ?_
  exact ret_q (Q := fun a b c => Q none (hp b c (pm_RT pa pb ga))) hF hQ
def F_Ta_hasMore (u : Nat) (I : pm_II) (J : pm_JJ) : Option (Int32 × pm_II × pm_JJ) :=
  if ¬ (I 17 4) = (-1) then (
    some ((0 : Int32), I, J))
  else (
    if (I 17 1) ≤ (I 17 2) then (
      some ((0 : Int32), I, J))
    else (
      some ((1 : Int32), I, J)))
theorem fx_Ta_hasMore {u k : Nat} {pa pb : Nat} {ga : Nat → Nat} {Q : Option Value → pm_H → Prop} {I : pm_II} {J : pm_JJ} {r : Int32} {I2 : pm_II} {J2 : pm_JJ} (hk : 0 ≤ k) (hF : F_Ta_hasMore u  I J = some (r, I2, J2)) (hQ : Q (some (.int r)) (hp I2 J2 (pm_RT pa pb ga))) : Px k 176 m_Ta_hasMore 0 [.ref 17] [] (hp I J (pm_RT pa pb ga)) Q := by
  unfold F_Ta_hasMore at hF
  refine bk_Ta_hasMore_0 ?_
  refine ⟨fun z => ?_, fun z => ?_⟩
  · rw [if_pos z] at hF
    exact ret_q (Q := fun a b c => Q (some (.int a)) (hp b c (pm_RT pa pb ga))) hF hQ
  · rw [if_neg z] at hF
    refine ⟨fun z => ?_, fun z => ?_⟩
    · rw [if_pos z] at hF
      exact ret_q (Q := fun a b c => Q (some (.int a)) (hp b c (pm_RT pa pb ga))) hF hQ
    · rw [if_neg z] at hF
      exact ret_q (Q := fun a b c => Q (some (.int a)) (hp b c (pm_RT pa pb ga))) hF hQ
def F_Ta_takes (u : Nat) (x1 : Int32) (I : pm_II) (J : pm_JJ) : Option (Int32 × pm_II × pm_JJ) :=
  bd (F_Ta_hasMore u I J) fun r1 I1 J1 =>
  if r1 = 0 then (
    some ((0 : Int32), I1, J1))
  else (
    cond (vq (I1 17 2) 1600) (
    if (I1 18 (((I1 17 2) : Int32).toNatClampNeg)) = x1 then (
      some ((1 : Int32), (pm_up I1 17 2 ((I1 17 2) + (1 : Int32))), J1))
    else (
      some ((0 : Int32), I1, J1))) none)
theorem fx_Ta_takes {u k : Nat} {pa pb : Nat} {ga : Nat → Nat} {Q : Option Value → pm_H → Prop} {x1 : Int32} {I : pm_II} {J : pm_JJ} {r : Int32} {I2 : pm_II} {J2 : pm_JJ} (hk : 1 ≤ k) (hF : F_Ta_takes u x1 I J = some (r, I2, J2)) (hQ : Q (some (.int r)) (hp I2 J2 (pm_RT pa pb ga))) : Px k 176 m_Ta_takes 0 [.ref 17, .int x1] [] (hp I J (pm_RT pa pb ga)) Q := by
  obtain ⟨k, rfl⟩ : ∃ j, k = j + 1 := ⟨k - 1, by omega⟩
  unfold F_Ta_takes at hF
  refine bk_Ta_takes_0 ?_
  obtain ⟨r1, I1, J1, hC1, hF⟩ := bd_e hF
  refine fx_Ta_hasMore (by omega) hC1 ⟨rfl, ?_⟩
  refine bk_Ta_takes_4 ?_
  refine ⟨fun z => ?_, fun z => ?_⟩
  · rw [if_pos z] at hF
    exact ret_q (Q := fun a b c => Q (some (.int a)) (hp b c (pm_RT pa pb ga))) hF hQ
  · rw [if_neg z] at hF
    obtain ⟨g, hF⟩ := gd_e hF
    refine ⟨vq_in g, ?_⟩
    refine ⟨fun z => ?_, fun z => ?_⟩
    · rw [if_pos z] at hF
      exact ret_q (Q := fun a b c => Q (some (.int a)) (hp b c (pm_RT pa pb ga))) hF hQ
    · rw [if_neg z] at hF
      exact ret_q (Q := fun a b c => Q (some (.int a)) (hp b c (pm_RT pa pb ga))) hF hQ
def F_Ta_expect_16 (u : Nat) (I : pm_II) (J : pm_JJ) : Option (Unit × pm_II × pm_JJ) :=
  some ((), I, J)
def F_Ta_expect (u : Nat) (x1 : Int32) (I : pm_II) (J : pm_JJ) : Option (Unit × pm_II × pm_JJ) :=
  bd (F_Ta_takes u x1 I J) fun r2 I2 J2 =>
  if ¬ r2 = 0 then (
    F_Ta_expect_16 u I2 J2)
  else (
    bd (F_Ta_blame u (I2 17 2) I2 J2) fun _ I13 J13 =>
    F_Ta_expect_16 u I13 J13)
theorem fx_Ta_expect_16 {u k : Nat} {pa pb : Nat} {ga : Nat → Nat} {Q : Option Value → pm_H → Prop} {x1 : Int32} {I : pm_II} {J : pm_JJ} {r : Unit} {I2 : pm_II} {J2 : pm_JJ} (hk : 2 ≤ k) (hF : F_Ta_expect_16 u  I J = some (r, I2, J2)) (hQ : Q none (hp I2 J2 (pm_RT pa pb ga))) : Px k 176 m_Ta_expect 16 [.ref 17, .int x1] [] (hp I J (pm_RT pa pb ga)) Q := by
  obtain ⟨k, rfl⟩ : ∃ j, k = j + 1 := ⟨k - 1, by omega⟩
  unfold F_Ta_expect_16 at hF
  refine bk_Ta_expect_16 ?_
  exact ret_q (Q := fun a b c => Q none (hp b c (pm_RT pa pb ga))) hF hQ
theorem fx_Ta_expect {u k : Nat} {pa pb : Nat} {ga : Nat → Nat} {Q : Option Value → pm_H → Prop} {x1 : Int32} {I : pm_II} {J : pm_JJ} {r : Unit} {I2 : pm_II} {J2 : pm_JJ} (hk : 2 ≤ k) (hF : F_Ta_expect u x1 I J = some (r, I2, J2)) (hQ : Q none (hp I2 J2 (pm_RT pa pb ga))) : Px k 176 m_Ta_expect 0 [.ref 17, .int x1] [] (hp I J (pm_RT pa pb ga)) Q := by
  obtain ⟨k, rfl⟩ : ∃ j, k = j + 1 := ⟨k - 1, by omega⟩
  unfold F_Ta_expect at hF
  refine bk_Ta_expect_0 ?_
  obtain ⟨r2, I2, J2, hC2, hF⟩ := bd_e hF
  refine fx_Ta_takes (by omega) hC2 ⟨rfl, ?_⟩
  refine bk_Ta_expect_5 ?_
  refine ⟨fun z => ?_, fun z => ?_⟩
  · rw [if_pos z] at hF
    exact fx_Ta_expect_16 hk hF hQ
  · rw [if_neg z] at hF
    obtain ⟨r13, I13, J13, hC13, hF⟩ := bd_e hF
    refine fx_Ta_blame (by omega) hC13 ⟨rfl, ?_⟩
    exact fx_Ta_expect_16 hk hF hQ
def F_Ta_isDigit (u : Nat) (x0 : Int32) (I : pm_II) (J : pm_JJ) : Option (Int32 × pm_II × pm_JJ) :=
  if x0 < 48 then (
    some ((0 : Int32), I, J))
  else (
    if 57 < x0 then (
      some ((0 : Int32), I, J))
    else (
      some ((1 : Int32), I, J)))
theorem fx_Ta_isDigit {u k : Nat} {pa pb : Nat} {ga : Nat → Nat} {Q : Option Value → pm_H → Prop} {x0 : Int32} {I : pm_II} {J : pm_JJ} {r : Int32} {I2 : pm_II} {J2 : pm_JJ} (hk : 0 ≤ k) (hF : F_Ta_isDigit u x0 I J = some (r, I2, J2)) (hQ : Q (some (.int r)) (hp I2 J2 (pm_RT pa pb ga))) : Px k 176 m_Ta_isDigit 0 [.int x0] [] (hp I J (pm_RT pa pb ga)) Q := by
  unfold F_Ta_isDigit at hF
  refine bk_Ta_isDigit_0 ?_
  refine ⟨fun z => ?_, fun z => ?_⟩
  · rw [if_pos z] at hF
    exact ret_q (Q := fun a b c => Q (some (.int a)) (hp b c (pm_RT pa pb ga))) hF hQ
  · rw [if_neg z] at hF
    refine ⟨fun z => ?_, fun z => ?_⟩
    · rw [if_pos z] at hF
      exact ret_q (Q := fun a b c => Q (some (.int a)) (hp b c (pm_RT pa pb ga))) hF hQ
    · rw [if_neg z] at hF
      exact ret_q (Q := fun a b c => Q (some (.int a)) (hp b c (pm_RT pa pb ga))) hF hQ
def F_Ta_isLetter (u : Nat) (x0 : Int32) (I : pm_II) (J : pm_JJ) : Option (Int32 × pm_II × pm_JJ) :=
  if x0 < 97 then (
    some ((0 : Int32), I, J))
  else (
    if 122 < x0 then (
      some ((0 : Int32), I, J))
    else (
      some ((1 : Int32), I, J)))
theorem fx_Ta_isLetter {u k : Nat} {pa pb : Nat} {ga : Nat → Nat} {Q : Option Value → pm_H → Prop} {x0 : Int32} {I : pm_II} {J : pm_JJ} {r : Int32} {I2 : pm_II} {J2 : pm_JJ} (hk : 0 ≤ k) (hF : F_Ta_isLetter u x0 I J = some (r, I2, J2)) (hQ : Q (some (.int r)) (hp I2 J2 (pm_RT pa pb ga))) : Px k 176 m_Ta_isLetter 0 [.int x0] [] (hp I J (pm_RT pa pb ga)) Q := by
  unfold F_Ta_isLetter at hF
  refine bk_Ta_isLetter_0 ?_
  refine ⟨fun z => ?_, fun z => ?_⟩
  · rw [if_pos z] at hF
    exact ret_q (Q := fun a b c => Q (some (.int a)) (hp b c (pm_RT pa pb ga))) hF hQ
  · rw [if_neg z] at hF
    refine ⟨fun z => ?_, fun z => ?_⟩
    · rw [if_pos z] at hF
      exact ret_q (Q := fun a b c => Q (some (.int a)) (hp b c (pm_RT pa pb ga))) hF hQ
    · rw [if_neg z] at hF
      exact ret_q (Q := fun a b c => Q (some (.int a)) (hp b c (pm_RT pa pb ga))) hF hQ
def F_Ta_next (u : Nat) (I : pm_II) (J : pm_JJ) : Option (Int32 × pm_II × pm_JJ) :=
  if ¬ (I 17 4) = (-1) then (
    some (((-1) : Int32), I, J))
  else (
    if (I 17 1) ≤ (I 17 2) then (
      some (((-1) : Int32), I, J))
    else (
      cond (vq (I 17 2) 1600) (
      some ((I 18 (((I 17 2) : Int32).toNatClampNeg)), I, J)) none))
theorem fx_Ta_next {u k : Nat} {pa pb : Nat} {ga : Nat → Nat} {Q : Option Value → pm_H → Prop} {I : pm_II} {J : pm_JJ} {r : Int32} {I2 : pm_II} {J2 : pm_JJ} (hk : 0 ≤ k) (hF : F_Ta_next u  I J = some (r, I2, J2)) (hQ : Q (some (.int r)) (hp I2 J2 (pm_RT pa pb ga))) : Px k 176 m_Ta_next 0 [.ref 17] [] (hp I J (pm_RT pa pb ga)) Q := by
  unfold F_Ta_next at hF
  refine bk_Ta_next_0 ?_
  refine ⟨fun z => ?_, fun z => ?_⟩
  · rw [if_pos z] at hF
    exact ret_q (Q := fun a b c => Q (some (.int a)) (hp b c (pm_RT pa pb ga))) hF hQ
  · rw [if_neg z] at hF
    refine ⟨fun z => ?_, fun z => ?_⟩
    · rw [if_pos z] at hF
      exact ret_q (Q := fun a b c => Q (some (.int a)) (hp b c (pm_RT pa pb ga))) hF hQ
    · rw [if_neg z] at hF
      obtain ⟨g, hF⟩ := gd_e hF
      refine ⟨vq_in g, ?_⟩
      exact ret_q (Q := fun a b c => Q (some (.int a)) (hp b c (pm_RT pa pb ga))) hF hQ
def F_Ta_readLetters_71 (u : Nat) (x3 : Int32) (I : pm_II) (J : pm_JJ) : Option (Int32 × pm_II × pm_JJ) :=
  some (x3, I, J)
def F_Ta_readLetters_59 (u : Nat) (x3 : Int32) (I : pm_II) (J : pm_JJ) : Option (Int32 × pm_II × pm_JJ) :=
  if ¬ x3 = 0 then (
    F_Ta_readLetters_71 u x3 I J)
  else (
    bd (F_Ta_blame u (I 17 2) I J) fun _ I68 J68 =>
    F_Ta_readLetters_71 u x3 I68 J68)
def F_Ta_readLetters_10 (u : Nat) : Nat → Int32 → Int32 → Int32 → pm_II → pm_JJ → Option (Int32 × pm_II × pm_JJ)
  | 0, _, _, _, _, _ => none
  | n + 1, x1, x2, x3, I, J =>
    if x1 ≤ x3 then (
      F_Ta_readLetters_59 u x3 I J)
    else (
      bd (F_Ta_next u I J) fun r16 I16 J16 =>
      bd (F_Ta_isLetter u r16 I16 J16) fun r19 I19 J19 =>
      if ¬ r19 = 0 then (
        F_Ta_readLetters_10 u n x1 x2 (x3 + Int32.ofInt 1) (pm_up I19 17 2 ((I19 17 2) + (1 : Int32))) J19)
      else (
        if x2 = 0 then (
          F_Ta_readLetters_59 u x3 I19 J19)
        else (
          if x3 ≤ 0 then (
            F_Ta_readLetters_59 u x3 I19 J19)
          else (
            bd (F_Ta_next u I19 J19) fun r34 I34 J34 =>
            bd (F_Ta_isDigit u r34 I34 J34) fun r37 I37 J37 =>
            if r37 = 0 then (
              F_Ta_readLetters_59 u x3 I37 J37)
            else (
              F_Ta_readLetters_10 u n x1 x2 (x3 + Int32.ofInt 1) (pm_up I37 17 2 ((I37 17 2) + (1 : Int32))) J37)))))
def F_Ta_readLetters (u : Nat) (x1 : Int32) (x2 : Int32) (I : pm_II) (J : pm_JJ) : Option (Int32 × pm_II × pm_JJ) :=
  F_Ta_readLetters_10 u u x1 x2 (0 : Int32) (pm_up I 17 3 (I 17 2)) J
theorem fx_Ta_readLetters_71 {u k : Nat} {pa pb : Nat} {ga : Nat → Nat} {Q : Option Value → pm_H → Prop} {x1 : Int32} {x2 : Int32} {x3 : Int32} {I : pm_II} {J : pm_JJ} {r : Int32} {I2 : pm_II} {J2 : pm_JJ} (hk : 1 ≤ k) (hF : F_Ta_readLetters_71 u x3 I J = some (r, I2, J2)) (hQ : Q (some (.int r)) (hp I2 J2 (pm_RT pa pb ga))) : Px k 176 m_Ta_readLetters 71 [.ref 17, .int x1, .int x2, .int x3] [] (hp I J (pm_RT pa pb ga)) Q := by
  obtain ⟨k, rfl⟩ : ∃ j, k = j + 1 := ⟨k - 1, by omega⟩
  unfold F_Ta_readLetters_71 at hF
  refine bk_Ta_readLetters_71 ?_
  exact ret_q (Q := fun a b c => Q (some (.int a)) (hp b c (pm_RT pa pb ga))) hF hQ
theorem fx_Ta_readLetters_59 {u k : Nat} {pa pb : Nat} {ga : Nat → Nat} {Q : Option Value → pm_H → Prop} {x1 : Int32} {x2 : Int32} {x3 : Int32} {I : pm_II} {J : pm_JJ} {r : Int32} {I2 : pm_II} {J2 : pm_JJ} (hk : 1 ≤ k) (hF : F_Ta_readLetters_59 u x3 I J = some (r, I2, J2)) (hQ : Q (some (.int r)) (hp I2 J2 (pm_RT pa pb ga))) : Px k 176 m_Ta_readLetters 59 [.ref 17, .int x1, .int x2, .int x3] [] (hp I J (pm_RT pa pb ga)) Q := by
  obtain ⟨k, rfl⟩ : ∃ j, k = j + 1 := ⟨k - 1, by omega⟩
  unfold F_Ta_readLetters_59 at hF
  refine bk_Ta_readLetters_59 ?_
  refine ⟨fun z => ?_, fun z => ?_⟩
  · rw [if_pos z] at hF
    exact fx_Ta_readLetters_71 hk hF hQ
  · rw [if_neg z] at hF
    obtain ⟨r68, I68, J68, hC68, hF⟩ := bd_e hF
    refine fx_Ta_blame (by omega) hC68 ⟨rfl, ?_⟩
    exact fx_Ta_readLetters_71 hk hF hQ
theorem fx_Ta_readLetters_10 {u k : Nat} {pa pb : Nat} {ga : Nat → Nat} {Q : Option Value → pm_H → Prop} (hk : 1 ≤ k) : ∀ (n : Nat), ∀ (x1 : Int32) (x2 : Int32) (x3 : Int32) (I : pm_II) (J : pm_JJ) (r : Int32) (I2 : pm_II) (J2 : pm_JJ), F_Ta_readLetters_10 u n x1 x2 x3 I J = some (r, I2, J2) → Q (some (.int r)) (hp I2 J2 (pm_RT pa pb ga)) → Px k 176 m_Ta_readLetters 10 [.ref 17, .int x1, .int x2, .int x3] [] (hp I J (pm_RT pa pb ga)) Q := by
  obtain ⟨k, rfl⟩ : ∃ j, k = j + 1 := ⟨k - 1, by omega⟩
  intro n
  induction n with
  | zero => intro x1 x2 x3 I J r I2 J2  hF; cases hF
  | succ n ih =>
    intro x1 x2 x3 I J r I2 J2  hF hQ
    rw [F_Ta_readLetters_10] at hF
    refine bk_Ta_readLetters_10 ?_
    refine ⟨fun z => ?_, fun z => ?_⟩
    · rw [if_pos z] at hF
      exact fx_Ta_readLetters_59 hk hF hQ
    · rw [if_neg z] at hF
      obtain ⟨r16, I16, J16, hC16, hF⟩ := bd_e hF
      refine fx_Ta_next (by omega) hC16 ⟨rfl, ?_⟩
      refine bk_Ta_readLetters_19 ?_
      obtain ⟨r19, I19, J19, hC19, hF⟩ := bd_e hF
      refine fx_Ta_isLetter (by omega) hC19 ⟨rfl, ?_⟩
      refine bk_Ta_readLetters_22 ?_
      refine ⟨fun z => ?_, fun z => ?_⟩
      · rw [if_pos z] at hF
        exact ih _ _ _ _ _ _ _ _ hF hQ
      · rw [if_neg z] at hF
        refine ⟨fun z => ?_, fun z => ?_⟩
        · rw [if_pos z] at hF
          exact fx_Ta_readLetters_59 hk hF hQ
        · rw [if_neg z] at hF
          refine ⟨fun z => ?_, fun z => ?_⟩
          · rw [if_pos z] at hF
            exact fx_Ta_readLetters_59 hk hF hQ
          · rw [if_neg z] at hF
            obtain ⟨r34, I34, J34, hC34, hF⟩ := bd_e hF
            refine fx_Ta_next (by omega) hC34 ⟨rfl, ?_⟩
            refine bk_Ta_readLetters_37 ?_
            obtain ⟨r37, I37, J37, hC37, hF⟩ := bd_e hF
            refine fx_Ta_isDigit (by omega) hC37 ⟨rfl, ?_⟩
            refine bk_Ta_readLetters_40 ?_
            refine ⟨fun z => ?_, fun z => ?_⟩
            · rw [if_pos z] at hF
              exact fx_Ta_readLetters_59 hk hF hQ
            · rw [if_neg z] at hF
              exact ih _ _ _ _ _ _ _ _ hF hQ
theorem fx_Ta_readLetters {u k : Nat} {pa pb : Nat} {ga : Nat → Nat} {Q : Option Value → pm_H → Prop} {x1 : Int32} {x2 : Int32} {I : pm_II} {J : pm_JJ} {r : Int32} {I2 : pm_II} {J2 : pm_JJ} (hk : 1 ≤ k) (hF : F_Ta_readLetters u x1 x2 I J = some (r, I2, J2)) (hQ : Q (some (.int r)) (hp I2 J2 (pm_RT pa pb ga))) : Px k 176 m_Ta_readLetters 0 [.ref 17, .int x1, .int x2, .null] [] (hp I J (pm_RT pa pb ga)) Q := by
  obtain ⟨k, rfl⟩ : ∃ j, k = j + 1 := ⟨k - 1, by omega⟩
  unfold F_Ta_readLetters at hF
  refine bk_Ta_readLetters_0 ?_
  exact fx_Ta_readLetters_10 hk u _ _ _ _ _ _ _ _ hF hQ
def F_Ta_byteAt (u : Nat) (x1 : Int32) (I : pm_II) (J : pm_JJ) : Option (Int32 × pm_II × pm_JJ) :=
  if x1 < 0 then (
    some (((-1) : Int32), I, J))
  else (
    if (I 17 1) ≤ x1 then (
      some (((-1) : Int32), I, J))
    else (
      cond (vq x1 1600) (
      some ((I 18 ((x1 : Int32).toNatClampNeg)), I, J)) none))
theorem fx_Ta_byteAt {u k : Nat} {pa pb : Nat} {ga : Nat → Nat} {Q : Option Value → pm_H → Prop} {x1 : Int32} {I : pm_II} {J : pm_JJ} {r : Int32} {I2 : pm_II} {J2 : pm_JJ} (hk : 0 ≤ k) (hF : F_Ta_byteAt u x1 I J = some (r, I2, J2)) (hQ : Q (some (.int r)) (hp I2 J2 (pm_RT pa pb ga))) : Px k 176 m_Ta_byteAt 0 [.ref 17, .int x1] [] (hp I J (pm_RT pa pb ga)) Q := by
  unfold F_Ta_byteAt at hF
  refine bk_Ta_byteAt_0 ?_
  refine ⟨fun z => ?_, fun z => ?_⟩
  · rw [if_pos z] at hF
    exact ret_q (Q := fun a b c => Q (some (.int a)) (hp b c (pm_RT pa pb ga))) hF hQ
  · rw [if_neg z] at hF
    refine ⟨fun z => ?_, fun z => ?_⟩
    · rw [if_pos z] at hF
      exact ret_q (Q := fun a b c => Q (some (.int a)) (hp b c (pm_RT pa pb ga))) hF hQ
    · rw [if_neg z] at hF
      obtain ⟨g, hF⟩ := gd_e hF
      refine ⟨vq_in g, ?_⟩
      exact ret_q (Q := fun a b c => Q (some (.int a)) (hp b c (pm_RT pa pb ga))) hF hQ
def F_Ta_wordIs_20 (u : Nat) : Nat → Nat → Int32 → pm_II → pm_JJ → Option (Int32 × pm_II × pm_JJ)
  | 0, _, _, _, _ => none
  | n + 1, a1, x2, I, J =>
    if (Int32.ofNat (pm_txt a1).length) ≤ x2 then (
      some ((1 : Int32), I, J))
    else (
      bd (F_Ta_byteAt u ((I 17 3) + x2) I J) fun r35 I35 J35 =>
      cond (vq x2 (pm_txt a1).length) (
      if r35 = ((pm_txt a1).getD (x2 : Int32).toNatClampNeg 0) then (
        F_Ta_wordIs_20 u n a1 (x2 + Int32.ofInt 1) I35 J35)
      else (
        some ((0 : Int32), I35, J35))) none)
def F_Ta_wordIs (u : Nat) (a1 : Nat) (I : pm_II) (J : pm_JJ) : Option (Int32 × pm_II × pm_JJ) :=
  if ((I 17 2) - (I 17 3)) = (Int32.ofNat (pm_txt a1).length) then (
    F_Ta_wordIs_20 u u a1 (0 : Int32) I J)
  else (
    some ((0 : Int32), I, J))
theorem fx_Ta_wordIs_20 {u k : Nat} {pa pb : Nat} {ga : Nat → Nat} {Q : Option Value → pm_H → Prop} (hk : 4 ≤ k) : ∀ (n : Nat), ∀ (a1 : Nat) (x2 : Int32) (I : pm_II) (J : pm_JJ) (r : Int32) (I2 : pm_II) (J2 : pm_JJ), oS a1 → F_Ta_wordIs_20 u n a1 x2 I J = some (r, I2, J2) → Q (some (.int r)) (hp I2 J2 (pm_RT pa pb ga)) → Px k 176 m_Ta_wordIs 20 [.ref 17, .ref a1, .int x2] [] (hp I J (pm_RT pa pb ga)) Q := by
  obtain ⟨k, rfl⟩ : ∃ j, k = j + 4 := ⟨k - 4, by omega⟩
  intro n
  induction n with
  | zero => intro a1 x2 I J r I2 J2 ha1 hF; cases hF
  | succ n ih =>
    intro a1 x2 I J r I2 J2 ha1 hF hQ
    rw [F_Ta_wordIs_20] at hF
    refine bk_Ta_wordIs_20 ?_
    refine ⟨ha1, ?_⟩
    refine ⟨fun z => ?_, fun z => ?_⟩
    · rw [if_pos z] at hF
      exact ret_q (Q := fun a b c => Q (some (.int a)) (hp b c (pm_RT pa pb ga))) hF hQ
    · rw [if_neg z] at hF
      obtain ⟨r35, I35, J35, hC35, hF⟩ := bd_e hF
      refine fx_Ta_byteAt (by omega) hC35 ⟨rfl, ?_⟩
      refine bk_Ta_wordIs_38 ?_
      refine ⟨ha1, ?_⟩
      obtain ⟨g, hF⟩ := gd_e hF
      refine ⟨vq_in g, ?_⟩
      refine ⟨fun z => ?_, fun z => ?_⟩
      · rw [if_pos z] at hF
        exact ih _ _ _ _ _ _ _ ha1 hF hQ
      · rw [if_neg z] at hF
        exact ret_q (Q := fun a b c => Q (some (.int a)) (hp b c (pm_RT pa pb ga))) hF hQ
theorem fx_Ta_wordIs {u k : Nat} {pa pb : Nat} {ga : Nat → Nat} {Q : Option Value → pm_H → Prop} {a1 : Nat} {I : pm_II} {J : pm_JJ} {r : Int32} {I2 : pm_II} {J2 : pm_JJ} (hk : 4 ≤ k) (ha1 : oS a1) (hF : F_Ta_wordIs u a1 I J = some (r, I2, J2)) (hQ : Q (some (.int r)) (hp I2 J2 (pm_RT pa pb ga))) : Px k 176 m_Ta_wordIs 0 [.ref 17, .ref a1, .null] [] (hp I J (pm_RT pa pb ga)) Q := by
  obtain ⟨k, rfl⟩ : ∃ j, k = j + 4 := ⟨k - 4, by omega⟩
  unfold F_Ta_wordIs at hF
  refine bk_Ta_wordIs_0 ?_
  refine ⟨ha1, ?_⟩
  refine ⟨fun z => ?_, fun z => ?_⟩
  · rw [if_pos z] at hF
    exact fx_Ta_wordIs_20 hk u _ _ _ _ _ _ _ ha1 hF hQ
  · rw [if_neg z] at hF
    exact ret_q (Q := fun a b c => Q (some (.int a)) (hp b c (pm_RT pa pb ga))) hF hQ
def F_Ta_readKeyword_21 (u : Nat) (I : pm_II) (J : pm_JJ) : Option (Unit × pm_II × pm_JJ) :=
  some ((), I, J)
def F_Ta_readKeyword (u : Nat) (a1 : Nat) (I : pm_II) (J : pm_JJ) : Option (Unit × pm_II × pm_JJ) :=
  bd (F_Ta_readLetters u (1600 : Int32) (1 : Int32) I J) fun r5 I5 J5 =>
  bd (F_Ta_wordIs u a1 I5 J5) fun r11 I11 J11 =>
  if ¬ r11 = 0 then (
    F_Ta_readKeyword_21 u I11 J11)
  else (
    bd (F_Ta_blameToken u I11 J11) fun _ I18 J18 =>
    F_Ta_readKeyword_21 u I18 J18)
theorem fx_Ta_readKeyword_21 {u k : Nat} {pa pb : Nat} {ga : Nat → Nat} {Q : Option Value → pm_H → Prop} {a1 : Nat} {I : pm_II} {J : pm_JJ} {r : Unit} {I2 : pm_II} {J2 : pm_JJ} (hk : 5 ≤ k) (ha1 : oS a1) (hF : F_Ta_readKeyword_21 u  I J = some (r, I2, J2)) (hQ : Q none (hp I2 J2 (pm_RT pa pb ga))) : Px k 176 m_Ta_readKeyword 21 [.ref 17, .ref a1] [] (hp I J (pm_RT pa pb ga)) Q := by
  obtain ⟨k, rfl⟩ : ∃ j, k = j + 1 := ⟨k - 1, by omega⟩
  unfold F_Ta_readKeyword_21 at hF
  refine bk_Ta_readKeyword_21 ?_
  exact ret_q (Q := fun a b c => Q none (hp b c (pm_RT pa pb ga))) hF hQ
theorem fx_Ta_readKeyword {u k : Nat} {pa pb : Nat} {ga : Nat → Nat} {Q : Option Value → pm_H → Prop} {a1 : Nat} {I : pm_II} {J : pm_JJ} {r : Unit} {I2 : pm_II} {J2 : pm_JJ} (hk : 5 ≤ k) (ha1 : oS a1) (hF : F_Ta_readKeyword u a1 I J = some (r, I2, J2)) (hQ : Q none (hp I2 J2 (pm_RT pa pb ga))) : Px k 176 m_Ta_readKeyword 0 [.ref 17, .ref a1] [] (hp I J (pm_RT pa pb ga)) Q := by
  obtain ⟨k, rfl⟩ : ∃ j, k = j + 1 := ⟨k - 1, by omega⟩
  unfold F_Ta_readKeyword at hF
  refine bk_Ta_readKeyword_0 ?_
  obtain ⟨r5, I5, J5, hC5, hF⟩ := bd_e hF
  refine fx_Ta_readLetters (by omega) hC5 ⟨rfl, ?_⟩
  refine bk_Ta_readKeyword_8 ?_
  obtain ⟨r11, I11, J11, hC11, hF⟩ := bd_e hF
  refine fx_Ta_wordIs (by omega) ha1 hC11 ⟨rfl, ?_⟩
  refine bk_Ta_readKeyword_14 ?_
  refine ⟨fun z => ?_, fun z => ?_⟩
  · rw [if_pos z] at hF
    exact fx_Ta_readKeyword_21 hk ha1 hF hQ
  · rw [if_neg z] at hF
    obtain ⟨r18, I18, J18, hC18, hF⟩ := bd_e hF
    refine fx_Ta_blameToken (by omega) hC18 ⟨rfl, ?_⟩
    exact fx_Ta_readKeyword_21 hk ha1 hF hQ
def F_Ta_readNumber_119 (u : Nat) (x3 : Int32) (I : pm_II) (J : pm_JJ) : Option (Int32 × pm_II × pm_JJ) :=
  some (x3, I, J)
def F_Ta_readNumber_101 (u : Nat) (x1 : Int32) (x2 : Int32) (x3 : Int32) (I : pm_II) (J : pm_JJ) : Option (Int32 × pm_II × pm_JJ) :=
  if x3 < x1 then (
    bd (F_Ta_blame u (I 17 3) I J) fun _ I116 J116 =>
    F_Ta_readNumber_119 u x3 I116 J116)
  else (
    if x3 ≤ x2 then (
      F_Ta_readNumber_119 u x3 I J)
    else (
      bd (F_Ta_blame u (I 17 3) I J) fun _ I116 J116 =>
      F_Ta_readNumber_119 u x3 I116 J116))
def F_Ta_readNumber_78 (u : Nat) (x1 : Int32) (x2 : Int32) (x3 : Int32) (x4 : Int32) (I : pm_II) (J : pm_JJ) : Option (Int32 × pm_II × pm_JJ) :=
  if x4 = 0 then (
    bd (F_Ta_blame u (I 17 2) I J) fun _ I98 J98 =>
    F_Ta_readNumber_101 u x1 x2 x3 I98 J98)
  else (
    bd (F_Ta_next u I J) fun r84 I84 J84 =>
    bd (F_Ta_isDigit u r84 I84 J84) fun r87 I87 J87 =>
    if r87 = 0 then (
      F_Ta_readNumber_101 u x1 x2 x3 I87 J87)
    else (
      bd (F_Ta_blame u (I87 17 2) I87 J87) fun _ I98 J98 =>
      F_Ta_readNumber_101 u x1 x2 x3 I98 J98))
def F_Ta_readNumber_16 (u : Nat) : Nat → Int32 → Int32 → Int32 → Int32 → Int32 → pm_II → pm_JJ → Option (Int32 × pm_II × pm_JJ)
  | 0, _, _, _, _, _, _, _ => none
  | n + 1, x1, x2, x3, x4, x5, I, J =>
    if 6 ≤ x4 then (
      F_Ta_readNumber_78 u x1 x2 x3 x4 I J)
    else (
      if ¬ x5 = 0 then (
        F_Ta_readNumber_78 u x1 x2 x3 x4 I J)
      else (
        bd (F_Ta_next u I J) fun r29 I29 J29 =>
        bd (F_Ta_isDigit u r29 I29 J29) fun r32 I32 J32 =>
        if r32 = 0 then (
          F_Ta_readNumber_78 u x1 x2 x3 x4 I32 J32)
        else (
          bd (F_Ta_next u I32 J32) fun r43 I43 J43 =>
          if ¬ (((x3 * (10 : Int32)) + r43) - (48 : Int32)) = 0 then (
            F_Ta_readNumber_16 u n x1 x2 (((x3 * (10 : Int32)) + r43) - (48 : Int32)) (x4 + Int32.ofInt 1) (0 : Int32) (pm_up I43 17 2 ((I43 17 2) + (1 : Int32))) J43)
          else (
            F_Ta_readNumber_16 u n x1 x2 (((x3 * (10 : Int32)) + r43) - (48 : Int32)) (x4 + Int32.ofInt 1) (1 : Int32) (pm_up I43 17 2 ((I43 17 2) + (1 : Int32))) J43))))
def F_Ta_readNumber (u : Nat) (x1 : Int32) (x2 : Int32) (I : pm_II) (J : pm_JJ) : Option (Int32 × pm_II × pm_JJ) :=
  F_Ta_readNumber_16 u u x1 x2 (0 : Int32) (0 : Int32) (0 : Int32) (pm_up I 17 3 (I 17 2)) J
theorem fx_Ta_readNumber_119 {u k : Nat} {pa pb : Nat} {ga : Nat → Nat} {Q : Option Value → pm_H → Prop} {x1 : Int32} {x2 : Int32} {x3 : Int32} {x4 : Int32} {x5 : Int32} {I : pm_II} {J : pm_JJ} {r : Int32} {I2 : pm_II} {J2 : pm_JJ} (hk : 1 ≤ k) (hF : F_Ta_readNumber_119 u x3 I J = some (r, I2, J2)) (hQ : Q (some (.int r)) (hp I2 J2 (pm_RT pa pb ga))) : Px k 176 m_Ta_readNumber 119 [.ref 17, .int x1, .int x2, .int x3, .int x4, .int x5] [] (hp I J (pm_RT pa pb ga)) Q := by
  obtain ⟨k, rfl⟩ : ∃ j, k = j + 1 := ⟨k - 1, by omega⟩
  unfold F_Ta_readNumber_119 at hF
  refine bk_Ta_readNumber_119 ?_
  exact ret_q (Q := fun a b c => Q (some (.int a)) (hp b c (pm_RT pa pb ga))) hF hQ
theorem fx_Ta_readNumber_101 {u k : Nat} {pa pb : Nat} {ga : Nat → Nat} {Q : Option Value → pm_H → Prop} {x1 : Int32} {x2 : Int32} {x3 : Int32} {x4 : Int32} {x5 : Int32} {I : pm_II} {J : pm_JJ} {r : Int32} {I2 : pm_II} {J2 : pm_JJ} (hk : 1 ≤ k) (hF : F_Ta_readNumber_101 u x1 x2 x3 I J = some (r, I2, J2)) (hQ : Q (some (.int r)) (hp I2 J2 (pm_RT pa pb ga))) : Px k 176 m_Ta_readNumber 101 [.ref 17, .int x1, .int x2, .int x3, .int x4, .int x5] [] (hp I J (pm_RT pa pb ga)) Q := by
  obtain ⟨k, rfl⟩ : ∃ j, k = j + 1 := ⟨k - 1, by omega⟩
  unfold F_Ta_readNumber_101 at hF
  refine bk_Ta_readNumber_101 ?_
  refine ⟨fun z => ?_, fun z => ?_⟩
  · rw [if_pos z] at hF
    obtain ⟨r116, I116, J116, hC116, hF⟩ := bd_e hF
    refine fx_Ta_blame (by omega) hC116 ⟨rfl, ?_⟩
    exact fx_Ta_readNumber_119 hk hF hQ
  · rw [if_neg z] at hF
    refine ⟨fun z => ?_, fun z => ?_⟩
    · rw [if_pos z] at hF
      exact fx_Ta_readNumber_119 hk hF hQ
    · rw [if_neg z] at hF
      obtain ⟨r116, I116, J116, hC116, hF⟩ := bd_e hF
      refine fx_Ta_blame (by omega) hC116 ⟨rfl, ?_⟩
      exact fx_Ta_readNumber_119 hk hF hQ
theorem fx_Ta_readNumber_78 {u k : Nat} {pa pb : Nat} {ga : Nat → Nat} {Q : Option Value → pm_H → Prop} {x1 : Int32} {x2 : Int32} {x3 : Int32} {x4 : Int32} {x5 : Int32} {I : pm_II} {J : pm_JJ} {r : Int32} {I2 : pm_II} {J2 : pm_JJ} (hk : 1 ≤ k) (hF : F_Ta_readNumber_78 u x1 x2 x3 x4 I J = some (r, I2, J2)) (hQ : Q (some (.int r)) (hp I2 J2 (pm_RT pa pb ga))) : Px k 176 m_Ta_readNumber 78 [.ref 17, .int x1, .int x2, .int x3, .int x4, .int x5] [] (hp I J (pm_RT pa pb ga)) Q := by
  obtain ⟨k, rfl⟩ : ∃ j, k = j + 1 := ⟨k - 1, by omega⟩
  unfold F_Ta_readNumber_78 at hF
  refine bk_Ta_readNumber_78 ?_
  refine ⟨fun z => ?_, fun z => ?_⟩
  · rw [if_pos z] at hF
    obtain ⟨r98, I98, J98, hC98, hF⟩ := bd_e hF
    refine fx_Ta_blame (by omega) hC98 ⟨rfl, ?_⟩
    exact fx_Ta_readNumber_101 hk hF hQ
  · rw [if_neg z] at hF
    obtain ⟨r84, I84, J84, hC84, hF⟩ := bd_e hF
    refine fx_Ta_next (by omega) hC84 ⟨rfl, ?_⟩
    refine bk_Ta_readNumber_87 ?_
    obtain ⟨r87, I87, J87, hC87, hF⟩ := bd_e hF
    refine fx_Ta_isDigit (by omega) hC87 ⟨rfl, ?_⟩
    refine bk_Ta_readNumber_90 ?_
    refine ⟨fun z => ?_, fun z => ?_⟩
    · rw [if_pos z] at hF
      exact fx_Ta_readNumber_101 hk hF hQ
    · rw [if_neg z] at hF
      obtain ⟨r98, I98, J98, hC98, hF⟩ := bd_e hF
      refine fx_Ta_blame (by omega) hC98 ⟨rfl, ?_⟩
      exact fx_Ta_readNumber_101 hk hF hQ
theorem fx_Ta_readNumber_16 {u k : Nat} {pa pb : Nat} {ga : Nat → Nat} {Q : Option Value → pm_H → Prop} (hk : 1 ≤ k) : ∀ (n : Nat), ∀ (x1 : Int32) (x2 : Int32) (x3 : Int32) (x4 : Int32) (x5 : Int32) (I : pm_II) (J : pm_JJ) (r : Int32) (I2 : pm_II) (J2 : pm_JJ), F_Ta_readNumber_16 u n x1 x2 x3 x4 x5 I J = some (r, I2, J2) → Q (some (.int r)) (hp I2 J2 (pm_RT pa pb ga)) → Px k 176 m_Ta_readNumber 16 [.ref 17, .int x1, .int x2, .int x3, .int x4, .int x5] [] (hp I J (pm_RT pa pb ga)) Q := by
  obtain ⟨k, rfl⟩ : ∃ j, k = j + 1 := ⟨k - 1, by omega⟩
  intro n
  induction n with
  | zero => intro x1 x2 x3 x4 x5 I J r I2 J2  hF; cases hF
  | succ n ih =>
    intro x1 x2 x3 x4 x5 I J r I2 J2  hF hQ
    rw [F_Ta_readNumber_16] at hF
    refine bk_Ta_readNumber_16 ?_
    refine ⟨fun z => ?_, fun z => ?_⟩
    · rw [if_pos z] at hF
      exact fx_Ta_readNumber_78 hk hF hQ
    · rw [if_neg z] at hF
      refine ⟨fun z => ?_, fun z => ?_⟩
      · rw [if_pos z] at hF
        exact fx_Ta_readNumber_78 hk hF hQ
      · rw [if_neg z] at hF
        obtain ⟨r29, I29, J29, hC29, hF⟩ := bd_e hF
        refine fx_Ta_next (by omega) hC29 ⟨rfl, ?_⟩
        refine bk_Ta_readNumber_32 ?_
        obtain ⟨r32, I32, J32, hC32, hF⟩ := bd_e hF
        refine fx_Ta_isDigit (by omega) hC32 ⟨rfl, ?_⟩
        refine bk_Ta_readNumber_35 ?_
        refine ⟨fun z => ?_, fun z => ?_⟩
        · rw [if_pos z] at hF
          exact fx_Ta_readNumber_78 hk hF hQ
        · rw [if_neg z] at hF
          obtain ⟨r43, I43, J43, hC43, hF⟩ := bd_e hF
          refine fx_Ta_next (by omega) hC43 ⟨rfl, ?_⟩
          refine bk_Ta_readNumber_46 ?_
          refine ⟨fun z => ?_, fun z => ?_⟩
          · rw [if_pos z] at hF
            exact ih _ _ _ _ _ _ _ _ _ _ hF hQ
          · rw [if_neg z] at hF
            exact ih _ _ _ _ _ _ _ _ _ _ hF hQ
theorem fx_Ta_readNumber {u k : Nat} {pa pb : Nat} {ga : Nat → Nat} {Q : Option Value → pm_H → Prop} {x1 : Int32} {x2 : Int32} {I : pm_II} {J : pm_JJ} {r : Int32} {I2 : pm_II} {J2 : pm_JJ} (hk : 1 ≤ k) (hF : F_Ta_readNumber u x1 x2 I J = some (r, I2, J2)) (hQ : Q (some (.int r)) (hp I2 J2 (pm_RT pa pb ga))) : Px k 176 m_Ta_readNumber 0 [.ref 17, .int x1, .int x2, .null, .null, .null] [] (hp I J (pm_RT pa pb ga)) Q := by
  obtain ⟨k, rfl⟩ : ∃ j, k = j + 1 := ⟨k - 1, by omega⟩
  unfold F_Ta_readNumber at hF
  refine bk_Ta_readNumber_0 ?_
  exact fx_Ta_readNumber_16 hk u _ _ _ _ _ _ _ _ _ _ hF hQ
def F_Ta_readNextNumber (u : Nat) (x1 : Int32) (x2 : Int32) (I : pm_II) (J : pm_JJ) : Option (Int32 × pm_II × pm_JJ) :=
  bd (F_Ta_expect u (32 : Int32) I J) fun _ I3 J3 =>
  bd (F_Ta_readNumber u x1 x2 I3 J3) fun r9 I9 J9 =>
  some (r9, I9, J9)
theorem fx_Ta_readNextNumber {u k : Nat} {pa pb : Nat} {ga : Nat → Nat} {Q : Option Value → pm_H → Prop} {x1 : Int32} {x2 : Int32} {I : pm_II} {J : pm_JJ} {r : Int32} {I2 : pm_II} {J2 : pm_JJ} (hk : 3 ≤ k) (hF : F_Ta_readNextNumber u x1 x2 I J = some (r, I2, J2)) (hQ : Q (some (.int r)) (hp I2 J2 (pm_RT pa pb ga))) : Px k 176 m_Ta_readNextNumber 0 [.ref 17, .int x1, .int x2] [] (hp I J (pm_RT pa pb ga)) Q := by
  obtain ⟨k, rfl⟩ : ∃ j, k = j + 1 := ⟨k - 1, by omega⟩
  unfold F_Ta_readNextNumber at hF
  refine bk_Ta_readNextNumber_0 ?_
  obtain ⟨r3, I3, J3, hC3, hF⟩ := bd_e hF
  refine fx_Ta_expect (by omega) hC3 ⟨rfl, ?_⟩
  refine bk_Ta_readNextNumber_6 ?_
  obtain ⟨r9, I9, J9, hC9, hF⟩ := bd_e hF
  refine fx_Ta_readNumber (by omega) hC9 ⟨rfl, ?_⟩
  refine bk_Ta_readNextNumber_12 ?_
  exact ret_q (Q := fun a b c => Q (some (.int a)) (hp b c (pm_RT pa pb ga))) hF hQ
def F_Ta_finish_19 (u : Nat) (I : pm_II) (J : pm_JJ) : Option (Unit × pm_II × pm_JJ) :=
  some ((), I, J)
def F_Ta_finish (u : Nat) (I : pm_II) (J : pm_JJ) : Option (Unit × pm_II × pm_JJ) :=
  if (I 17 1) ≤ (I 17 2) then (
    F_Ta_finish_19 u I J)
  else (
    bd (F_Ta_blame u (I 17 2) I J) fun _ I16 J16 =>
    F_Ta_finish_19 u I16 J16)
theorem fx_Ta_finish_19 {u k : Nat} {pa pb : Nat} {ga : Nat → Nat} {Q : Option Value → pm_H → Prop} {I : pm_II} {J : pm_JJ} {r : Unit} {I2 : pm_II} {J2 : pm_JJ} (hk : 1 ≤ k) (hF : F_Ta_finish_19 u  I J = some (r, I2, J2)) (hQ : Q none (hp I2 J2 (pm_RT pa pb ga))) : Px k 176 m_Ta_finish 19 [.ref 17] [] (hp I J (pm_RT pa pb ga)) Q := by
  obtain ⟨k, rfl⟩ : ∃ j, k = j + 1 := ⟨k - 1, by omega⟩
  unfold F_Ta_finish_19 at hF
  refine bk_Ta_finish_19 ?_
  exact ret_q (Q := fun a b c => Q none (hp b c (pm_RT pa pb ga))) hF hQ
theorem fx_Ta_finish {u k : Nat} {pa pb : Nat} {ga : Nat → Nat} {Q : Option Value → pm_H → Prop} {I : pm_II} {J : pm_JJ} {r : Unit} {I2 : pm_II} {J2 : pm_JJ} (hk : 1 ≤ k) (hF : F_Ta_finish u  I J = some (r, I2, J2)) (hQ : Q none (hp I2 J2 (pm_RT pa pb ga))) : Px k 176 m_Ta_finish 0 [.ref 17] [] (hp I J (pm_RT pa pb ga)) Q := by
  obtain ⟨k, rfl⟩ : ∃ j, k = j + 1 := ⟨k - 1, by omega⟩
  unfold F_Ta_finish at hF
  refine bk_Ta_finish_0 ?_
  refine ⟨fun z => ?_, fun z => ?_⟩
  · rw [if_pos z] at hF
    exact fx_Ta_finish_19 hk hF hQ
  · rw [if_neg z] at hF
    obtain ⟨r16, I16, J16, hC16, hF⟩ := bd_e hF
    refine fx_Ta_blame (by omega) hC16 ⟨rfl, ?_⟩
    exact fx_Ta_finish_19 hk hF hQ
def F_Ta_isRight (u : Nat) (I : pm_II) (J : pm_JJ) : Option (Int32 × pm_II × pm_JJ) :=
  if ¬ (I 17 4) = (-1) then (
    some ((0 : Int32), I, J))
  else (
    some ((1 : Int32), I, J))
theorem fx_Ta_isRight {u k : Nat} {pa pb : Nat} {ga : Nat → Nat} {Q : Option Value → pm_H → Prop} {I : pm_II} {J : pm_JJ} {r : Int32} {I2 : pm_II} {J2 : pm_JJ} (hk : 0 ≤ k) (hF : F_Ta_isRight u  I J = some (r, I2, J2)) (hQ : Q (some (.int r)) (hp I2 J2 (pm_RT pa pb ga))) : Px k 176 m_Ta_isRight 0 [.ref 17] [] (hp I J (pm_RT pa pb ga)) Q := by
  unfold F_Ta_isRight at hF
  refine bk_Ta_isRight_0 ?_
  refine ⟨fun z => ?_, fun z => ?_⟩
  · rw [if_pos z] at hF
    exact ret_q (Q := fun a b c => Q (some (.int a)) (hp b c (pm_RT pa pb ga))) hF hQ
  · rw [if_neg z] at hF
    exact ret_q (Q := fun a b c => Q (some (.int a)) (hp b c (pm_RT pa pb ga))) hF hQ
def F_Ta_close (u : Nat) (x1 : Int32) (I : pm_II) (J : pm_JJ) : Option (Int32 × pm_II × pm_JJ) :=
  bd (F_Ta_isRight u (pm_up I 17 1 0) J) fun r6 I6 J6 =>
  if r6 = 0 then (
    some ((((-1000) : Int32) - (I6 17 4)), I6, J6))
  else (
    some (x1, I6, J6))
theorem fx_Ta_close {u k : Nat} {pa pb : Nat} {ga : Nat → Nat} {Q : Option Value → pm_H → Prop} {x1 : Int32} {I : pm_II} {J : pm_JJ} {r : Int32} {I2 : pm_II} {J2 : pm_JJ} (hk : 1 ≤ k) (hF : F_Ta_close u x1 I J = some (r, I2, J2)) (hQ : Q (some (.int r)) (hp I2 J2 (pm_RT pa pb ga))) : Px k 176 m_Ta_close 0 [.ref 17, .int x1] [] (hp I J (pm_RT pa pb ga)) Q := by
  obtain ⟨k, rfl⟩ : ∃ j, k = j + 1 := ⟨k - 1, by omega⟩
  unfold F_Ta_close at hF
  refine bk_Ta_close_0 ?_
  obtain ⟨r6, I6, J6, hC6, hF⟩ := bd_e hF
  refine fx_Ta_isRight (by omega) hC6 ⟨rfl, ?_⟩
  refine bk_Ta_close_9 ?_
  refine ⟨fun z => ?_, fun z => ?_⟩
  · rw [if_pos z] at hF
    exact ret_q (Q := fun a b c => Q (some (.int a)) (hp b c (pm_RT pa pb ga))) hF hQ
  · rw [if_neg z] at hF
    exact ret_q (Q := fun a b c => Q (some (.int a)) (hp b c (pm_RT pa pb ga))) hF hQ
def F_Ta_open (u : Nat) (I : pm_II) (J : pm_JJ) : Option (Unit × pm_II × pm_JJ) :=
  some ((), (pm_up (pm_up (pm_up I 17 2 0) 17 3 0) 17 4 (-1)), J)
theorem fx_Ta_open {u k : Nat} {pa pb : Nat} {ga : Nat → Nat} {Q : Option Value → pm_H → Prop} {I : pm_II} {J : pm_JJ} {r : Unit} {I2 : pm_II} {J2 : pm_JJ} (hk : 0 ≤ k) (hF : F_Ta_open u  I J = some (r, I2, J2)) (hQ : Q none (hp I2 J2 (pm_RT pa pb ga))) : Px k 176 m_Ta_open 0 [.ref 17] [] (hp I J (pm_RT pa pb ga)) Q := by
  unfold F_Ta_open at hF
  refine bk_Ta_open_0 ?_
  exact ret_q (Q := fun a b c => Q none (hp b c (pm_RT pa pb ga))) hF hQ
def F_Ta_place (u : Nat) (I : pm_II) (J : pm_JJ) : Option (Int32 × pm_II × pm_JJ) :=
  some ((I 17 2), I, J)
theorem fx_Ta_place {u k : Nat} {pa pb : Nat} {ga : Nat → Nat} {Q : Option Value → pm_H → Prop} {I : pm_II} {J : pm_JJ} {r : Int32} {I2 : pm_II} {J2 : pm_JJ} (hk : 0 ≤ k) (hF : F_Ta_place u  I J = some (r, I2, J2)) (hQ : Q (some (.int r)) (hp I2 J2 (pm_RT pa pb ga))) : Px k 176 m_Ta_place 0 [.ref 17] [] (hp I J (pm_RT pa pb ga)) Q := by
  unfold F_Ta_place at hF
  refine bk_Ta_place_0 ?_
  exact ret_q (Q := fun a b c => Q (some (.int a)) (hp b c (pm_RT pa pb ga))) hF hQ
def F_Ta_readEither_31 (u : Nat) (x3 : Int32) (I : pm_II) (J : pm_JJ) : Option (Int32 × pm_II × pm_JJ) :=
  if x3 = 0 then (
    some ((0 : Int32), I, J))
  else (
    some ((1 : Int32), I, J))
def F_Ta_readEither (u : Nat) (a1 : Nat) (a2 : Nat) (I : pm_II) (J : pm_JJ) : Option (Int32 × pm_II × pm_JJ) :=
  bd (F_Ta_readLetters u (1600 : Int32) (1 : Int32) I J) fun r5 I5 J5 =>
  bd (F_Ta_wordIs u a2 I5 J5) fun r11 I11 J11 =>
  if ¬ r11 = 0 then (
    F_Ta_readEither_31 u r11 I11 J11)
  else (
    bd (F_Ta_wordIs u a1 I11 J11) fun r21 I21 J21 =>
    if ¬ r21 = 0 then (
      F_Ta_readEither_31 u r11 I21 J21)
    else (
      bd (F_Ta_blameToken u I21 J21) fun _ I28 J28 =>
      F_Ta_readEither_31 u r11 I28 J28))
theorem fx_Ta_readEither_31 {u k : Nat} {pa pb : Nat} {ga : Nat → Nat} {Q : Option Value → pm_H → Prop} {a1 : Nat} {a2 : Nat} {x3 : Int32} {I : pm_II} {J : pm_JJ} {r : Int32} {I2 : pm_II} {J2 : pm_JJ} (hk : 5 ≤ k) (ha1 : oS a1) (ha2 : oS a2) (hF : F_Ta_readEither_31 u x3 I J = some (r, I2, J2)) (hQ : Q (some (.int r)) (hp I2 J2 (pm_RT pa pb ga))) : Px k 176 m_Ta_readEither 31 [.ref 17, .ref a1, .ref a2, .int x3] [] (hp I J (pm_RT pa pb ga)) Q := by
  obtain ⟨k, rfl⟩ : ∃ j, k = j + 1 := ⟨k - 1, by omega⟩
  unfold F_Ta_readEither_31 at hF
  refine bk_Ta_readEither_31 ?_
  refine ⟨fun z => ?_, fun z => ?_⟩
  · rw [if_pos z] at hF
    exact ret_q (Q := fun a b c => Q (some (.int a)) (hp b c (pm_RT pa pb ga))) hF hQ
  · rw [if_neg z] at hF
    exact ret_q (Q := fun a b c => Q (some (.int a)) (hp b c (pm_RT pa pb ga))) hF hQ
theorem fx_Ta_readEither {u k : Nat} {pa pb : Nat} {ga : Nat → Nat} {Q : Option Value → pm_H → Prop} {a1 : Nat} {a2 : Nat} {I : pm_II} {J : pm_JJ} {r : Int32} {I2 : pm_II} {J2 : pm_JJ} (hk : 5 ≤ k) (ha1 : oS a1) (ha2 : oS a2) (hF : F_Ta_readEither u a1 a2 I J = some (r, I2, J2)) (hQ : Q (some (.int r)) (hp I2 J2 (pm_RT pa pb ga))) : Px k 176 m_Ta_readEither 0 [.ref 17, .ref a1, .ref a2, .null] [] (hp I J (pm_RT pa pb ga)) Q := by
  obtain ⟨k, rfl⟩ : ∃ j, k = j + 1 := ⟨k - 1, by omega⟩
  unfold F_Ta_readEither at hF
  refine bk_Ta_readEither_0 ?_
  obtain ⟨r5, I5, J5, hC5, hF⟩ := bd_e hF
  refine fx_Ta_readLetters (by omega) hC5 ⟨rfl, ?_⟩
  refine bk_Ta_readEither_8 ?_
  obtain ⟨r11, I11, J11, hC11, hF⟩ := bd_e hF
  refine fx_Ta_wordIs (by omega) ha2 hC11 ⟨rfl, ?_⟩
  refine bk_Ta_readEither_14 ?_
  refine ⟨fun z => ?_, fun z => ?_⟩
  · rw [if_pos z] at hF
    exact fx_Ta_readEither_31 hk ha1 ha2 hF hQ
  · rw [if_neg z] at hF
    obtain ⟨r21, I21, J21, hC21, hF⟩ := bd_e hF
    refine fx_Ta_wordIs (by omega) ha1 hC21 ⟨rfl, ?_⟩
    refine bk_Ta_readEither_24 ?_
    refine ⟨fun z => ?_, fun z => ?_⟩
    · rw [if_pos z] at hF
      exact fx_Ta_readEither_31 hk ha1 ha2 hF hQ
    · rw [if_neg z] at hF
      obtain ⟨r28, I28, J28, hC28, hF⟩ := bd_e hF
      refine fx_Ta_blameToken (by omega) hC28 ⟨rfl, ?_⟩
      exact fx_Ta_readEither_31 hk ha1 ha2 hF hQ
def F_Jm_floorDiv_II (u : Nat) (x0 : Int32) (x1 : Int32) (I : pm_II) (J : pm_JJ) : Option (Int32 × pm_II × pm_JJ) :=
  if ¬ x1 = 0 then (
  if 0 ≤ (x0 ^^^ x1) then (
    some ((x0 / x1), I, J))
  else (
    if ((x0 / x1) * x1) = x0 then (
      some ((x0 / x1), I, J))
    else (
      some (((x0 / x1) - (1 : Int32)), I, J)))) else none
theorem fx_Jm_floorDiv_II {u k : Nat} {pa pb : Nat} {ga : Nat → Nat} {Q : Option Value → pm_H → Prop} {x0 : Int32} {x1 : Int32} {I : pm_II} {J : pm_JJ} {r : Int32} {I2 : pm_II} {J2 : pm_JJ} (hk : 0 ≤ k) (hF : F_Jm_floorDiv_II u x0 x1 I J = some (r, I2, J2)) (hQ : Q (some (.int r)) (hp I2 J2 (pm_RT pa pb ga))) : Px k 176 m_Jm_floorDiv_II 0 [.int x0, .int x1, .null] [] (hp I J (pm_RT pa pb ga)) Q := by
  unfold F_Jm_floorDiv_II at hF
  refine bk_Jm_floorDiv_II_0 ?_
  obtain ⟨g, hF⟩ := ge_e hF
  refine ⟨g, ?_⟩
  refine ⟨fun z => ?_, fun z => ?_⟩
  · rw [if_pos z] at hF
    exact ret_q (Q := fun a b c => Q (some (.int a)) (hp b c (pm_RT pa pb ga))) hF hQ
  · rw [if_neg z] at hF
    refine ⟨fun z => ?_, fun z => ?_⟩
    · rw [if_pos z] at hF
      exact ret_q (Q := fun a b c => Q (some (.int a)) (hp b c (pm_RT pa pb ga))) hF hQ
    · rw [if_neg z] at hF
      exact ret_q (Q := fun a b c => Q (some (.int a)) (hp b c (pm_RT pa pb ga))) hF hQ
def F_Jm_abs_I (u : Nat) (x0 : Int32) (I : pm_II) (J : pm_JJ) : Option (Int32 × pm_II × pm_JJ) :=
  if 0 ≤ x0 then (
    some (x0, I, J))
  else (
    some ((-x0), I, J))
theorem fx_Jm_abs_I {u k : Nat} {pa pb : Nat} {ga : Nat → Nat} {Q : Option Value → pm_H → Prop} {x0 : Int32} {I : pm_II} {J : pm_JJ} {r : Int32} {I2 : pm_II} {J2 : pm_JJ} (hk : 0 ≤ k) (hF : F_Jm_abs_I u x0 I J = some (r, I2, J2)) (hQ : Q (some (.int r)) (hp I2 J2 (pm_RT pa pb ga))) : Px k 176 m_Jm_abs_I 0 [.int x0] [] (hp I J (pm_RT pa pb ga)) Q := by
  unfold F_Jm_abs_I at hF
  refine bk_Jm_abs_I_0 ?_
  refine ⟨fun z => ?_, fun z => ?_⟩
  · rw [if_pos z] at hF
    exact ret_q (Q := fun a b c => Q (some (.int a)) (hp b c (pm_RT pa pb ga))) hF hQ
  · rw [if_neg z] at hF
    exact ret_q (Q := fun a b c => Q (some (.int a)) (hp b c (pm_RT pa pb ga))) hF hQ
def F_Ji_bitCount (u : Nat) (x0 : Int32) (I : pm_II) (J : pm_JJ) : Option (Int32 × pm_II × pm_JJ) :=
  some (((((((((x0 - (((x0).toUInt32 >>> (((1 : Int32)).toUInt32 &&& Int32.toUInt32 31)).toInt32 &&& (Int32.ofNat 1431655765))) &&& (Int32.ofNat 858993459)) + ((((x0 - (((x0).toUInt32 >>> (((1 : Int32)).toUInt32 &&& Int32.toUInt32 31)).toInt32 &&& (Int32.ofNat 1431655765)))).toUInt32 >>> (((2 : Int32)).toUInt32 &&& Int32.toUInt32 31)).toInt32 &&& (Int32.ofNat 858993459))) + (((((x0 - (((x0).toUInt32 >>> (((1 : Int32)).toUInt32 &&& Int32.toUInt32 31)).toInt32 &&& (Int32.ofNat 1431655765))) &&& (Int32.ofNat 858993459)) + ((((x0 - (((x0).toUInt32 >>> (((1 : Int32)).toUInt32 &&& Int32.toUInt32 31)).toInt32 &&& (Int32.ofNat 1431655765)))).toUInt32 >>> (((2 : Int32)).toUInt32 &&& Int32.toUInt32 31)).toInt32 &&& (Int32.ofNat 858993459)))).toUInt32 >>> (((4 : Int32)).toUInt32 &&& Int32.toUInt32 31)).toInt32) &&& (Int32.ofNat 252645135)) + (((((((x0 - (((x0).toUInt32 >>> (((1 : Int32)).toUInt32 &&& Int32.toUInt32 31)).toInt32 &&& (Int32.ofNat 1431655765))) &&& (Int32.ofNat 858993459)) + ((((x0 - (((x0).toUInt32 >>> (((1 : Int32)).toUInt32 &&& Int32.toUInt32 31)).toInt32 &&& (Int32.ofNat 1431655765)))).toUInt32 >>> (((2 : Int32)).toUInt32 &&& Int32.toUInt32 31)).toInt32 &&& (Int32.ofNat 858993459))) + (((((x0 - (((x0).toUInt32 >>> (((1 : Int32)).toUInt32 &&& Int32.toUInt32 31)).toInt32 &&& (Int32.ofNat 1431655765))) &&& (Int32.ofNat 858993459)) + ((((x0 - (((x0).toUInt32 >>> (((1 : Int32)).toUInt32 &&& Int32.toUInt32 31)).toInt32 &&& (Int32.ofNat 1431655765)))).toUInt32 >>> (((2 : Int32)).toUInt32 &&& Int32.toUInt32 31)).toInt32 &&& (Int32.ofNat 858993459)))).toUInt32 >>> (((4 : Int32)).toUInt32 &&& Int32.toUInt32 31)).toInt32) &&& (Int32.ofNat 252645135))).toUInt32 >>> (((8 : Int32)).toUInt32 &&& Int32.toUInt32 31)).toInt32) + ((((((((x0 - (((x0).toUInt32 >>> (((1 : Int32)).toUInt32 &&& Int32.toUInt32 31)).toInt32 &&& (Int32.ofNat 1431655765))) &&& (Int32.ofNat 858993459)) + ((((x0 - (((x0).toUInt32 >>> (((1 : Int32)).toUInt32 &&& Int32.toUInt32 31)).toInt32 &&& (Int32.ofNat 1431655765)))).toUInt32 >>> (((2 : Int32)).toUInt32 &&& Int32.toUInt32 31)).toInt32 &&& (Int32.ofNat 858993459))) + (((((x0 - (((x0).toUInt32 >>> (((1 : Int32)).toUInt32 &&& Int32.toUInt32 31)).toInt32 &&& (Int32.ofNat 1431655765))) &&& (Int32.ofNat 858993459)) + ((((x0 - (((x0).toUInt32 >>> (((1 : Int32)).toUInt32 &&& Int32.toUInt32 31)).toInt32 &&& (Int32.ofNat 1431655765)))).toUInt32 >>> (((2 : Int32)).toUInt32 &&& Int32.toUInt32 31)).toInt32 &&& (Int32.ofNat 858993459)))).toUInt32 >>> (((4 : Int32)).toUInt32 &&& Int32.toUInt32 31)).toInt32) &&& (Int32.ofNat 252645135)) + (((((((x0 - (((x0).toUInt32 >>> (((1 : Int32)).toUInt32 &&& Int32.toUInt32 31)).toInt32 &&& (Int32.ofNat 1431655765))) &&& (Int32.ofNat 858993459)) + ((((x0 - (((x0).toUInt32 >>> (((1 : Int32)).toUInt32 &&& Int32.toUInt32 31)).toInt32 &&& (Int32.ofNat 1431655765)))).toUInt32 >>> (((2 : Int32)).toUInt32 &&& Int32.toUInt32 31)).toInt32 &&& (Int32.ofNat 858993459))) + (((((x0 - (((x0).toUInt32 >>> (((1 : Int32)).toUInt32 &&& Int32.toUInt32 31)).toInt32 &&& (Int32.ofNat 1431655765))) &&& (Int32.ofNat 858993459)) + ((((x0 - (((x0).toUInt32 >>> (((1 : Int32)).toUInt32 &&& Int32.toUInt32 31)).toInt32 &&& (Int32.ofNat 1431655765)))).toUInt32 >>> (((2 : Int32)).toUInt32 &&& Int32.toUInt32 31)).toInt32 &&& (Int32.ofNat 858993459)))).toUInt32 >>> (((4 : Int32)).toUInt32 &&& Int32.toUInt32 31)).toInt32) &&& (Int32.ofNat 252645135))).toUInt32 >>> (((8 : Int32)).toUInt32 &&& Int32.toUInt32 31)).toInt32)).toUInt32 >>> (((16 : Int32)).toUInt32 &&& Int32.toUInt32 31)).toInt32) &&& (63 : Int32)), I, J)
theorem fx_Ji_bitCount {u k : Nat} {pa pb : Nat} {ga : Nat → Nat} {Q : Option Value → pm_H → Prop} {x0 : Int32} {I : pm_II} {J : pm_JJ} {r : Int32} {I2 : pm_II} {J2 : pm_JJ} (hk : 0 ≤ k) (hF : F_Ji_bitCount u x0 I J = some (r, I2, J2)) (hQ : Q (some (.int r)) (hp I2 J2 (pm_RT pa pb ga))) : Px k 176 m_Ji_bitCount 0 [.int x0] [] (hp I J (pm_RT pa pb ga)) Q := by
  unfold F_Ji_bitCount at hF
  refine bk_Ji_bitCount_0 ?_
  exact ret_q (Q := fun a b c => Q (some (.int a)) (hp b c (pm_RT pa pb ga))) hF hQ
def F_Jm_floorDiv_JJ (u : Nat) (y0 : Int64) (y2 : Int64) (I : pm_II) (J : pm_JJ) : Option (Int64 × pm_II × pm_JJ) :=
  if ¬ y2 = 0 then (
  if 0 ≤ (lg_cmp (y0 ^^^ y2) (Int64.ofNat 0)) then (
    some ((y0 / y2), I, J))
  else (
    if (lg_cmp ((y0 / y2) * y2) y0) = 0 then (
      some ((y0 / y2), I, J))
    else (
      some (((y0 / y2) - (Int64.ofNat 1)), I, J)))) else none
theorem fx_Jm_floorDiv_JJ {u k : Nat} {pa pb : Nat} {ga : Nat → Nat} {Q : Option Value → pm_H → Prop} {y0 : Int64} {y2 : Int64} {I : pm_II} {J : pm_JJ} {r : Int64} {I2 : pm_II} {J2 : pm_JJ} (hk : 0 ≤ k) (hF : F_Jm_floorDiv_JJ u y0 y2 I J = some (r, I2, J2)) (hQ : Q (some (.long r)) (hp I2 J2 (pm_RT pa pb ga))) : Px k 176 m_Jm_floorDiv_JJ 0 [.long y0, .null, .long y2, .null, .null, .null] [] (hp I J (pm_RT pa pb ga)) Q := by
  unfold F_Jm_floorDiv_JJ at hF
  refine bk_Jm_floorDiv_JJ_0 ?_
  obtain ⟨g, hF⟩ := ge_e hF
  refine ⟨g, ?_⟩
  refine ⟨fun z => ?_, fun z => ?_⟩
  · rw [if_pos z] at hF
    exact ret_q (Q := fun a b c => Q (some (.long a)) (hp b c (pm_RT pa pb ga))) hF hQ
  · rw [if_neg z] at hF
    refine ⟨fun z => ?_, fun z => ?_⟩
    · rw [if_pos z] at hF
      exact ret_q (Q := fun a b c => Q (some (.long a)) (hp b c (pm_RT pa pb ga))) hF hQ
    · rw [if_neg z] at hF
      exact ret_q (Q := fun a b c => Q (some (.long a)) (hp b c (pm_RT pa pb ga))) hF hQ
def F_Jm_min_JJ (u : Nat) (y0 : Int64) (y2 : Int64) (I : pm_II) (J : pm_JJ) : Option (Int64 × pm_II × pm_JJ) :=
  if 0 < (lg_cmp y0 y2) then (
    some (y2, I, J))
  else (
    some (y0, I, J))
theorem fx_Jm_min_JJ {u k : Nat} {pa pb : Nat} {ga : Nat → Nat} {Q : Option Value → pm_H → Prop} {y0 : Int64} {y2 : Int64} {I : pm_II} {J : pm_JJ} {r : Int64} {I2 : pm_II} {J2 : pm_JJ} (hk : 0 ≤ k) (hF : F_Jm_min_JJ u y0 y2 I J = some (r, I2, J2)) (hQ : Q (some (.long r)) (hp I2 J2 (pm_RT pa pb ga))) : Px k 176 m_Jm_min_JJ 0 [.long y0, .null, .long y2, .null] [] (hp I J (pm_RT pa pb ga)) Q := by
  unfold F_Jm_min_JJ at hF
  refine bk_Jm_min_JJ_0 ?_
  refine ⟨fun z => ?_, fun z => ?_⟩
  · rw [if_pos z] at hF
    exact ret_q (Q := fun a b c => Q (some (.long a)) (hp b c (pm_RT pa pb ga))) hF hQ
  · rw [if_neg z] at hF
    exact ret_q (Q := fun a b c => Q (some (.long a)) (hp b c (pm_RT pa pb ga))) hF hQ
def F_Jm_abs_J (u : Nat) (y0 : Int64) (I : pm_II) (J : pm_JJ) : Option (Int64 × pm_II × pm_JJ) :=
  if 0 ≤ (lg_cmp y0 (Int64.ofNat 0)) then (
    some (y0, I, J))
  else (
    some ((-y0), I, J))
theorem fx_Jm_abs_J {u k : Nat} {pa pb : Nat} {ga : Nat → Nat} {Q : Option Value → pm_H → Prop} {y0 : Int64} {I : pm_II} {J : pm_JJ} {r : Int64} {I2 : pm_II} {J2 : pm_JJ} (hk : 0 ≤ k) (hF : F_Jm_abs_J u y0 I J = some (r, I2, J2)) (hQ : Q (some (.long r)) (hp I2 J2 (pm_RT pa pb ga))) : Px k 176 m_Jm_abs_J 0 [.long y0, .null] [] (hp I J (pm_RT pa pb ga)) Q := by
  unfold F_Jm_abs_J at hF
  refine bk_Jm_abs_J_0 ?_
  refine ⟨fun z => ?_, fun z => ?_⟩
  · rw [if_pos z] at hF
    exact ret_q (Q := fun a b c => Q (some (.long a)) (hp b c (pm_RT pa pb ga))) hF hQ
  · rw [if_neg z] at hF
    exact ret_q (Q := fun a b c => Q (some (.long a)) (hp b c (pm_RT pa pb ga))) hF hQ
