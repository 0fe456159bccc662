def F_Ty_stockUp (u : Nat) (x1 : Int32) (x2 : Int32) (x3 : Int32) (I : pm_II) (J : pm_JJ) : Option (Int32 × pm_II × pm_JJ) :=
  if x1 < 1 then (
    some (((-1) : Int32), I, J))
  else (
    if 26 < x1 then (
      some (((-1) : Int32), I, J))
    else (
      if x2 < 0 then (
        some (((-1) : Int32), I, J))
      else (
        if 99 < x2 then (
          some (((-1) : Int32), I, J))
        else (
          if x3 < 1 then (
            some (((-1) : Int32), I, J))
          else (
            if x3 ≤ 20 then (
              cond (vq (x1 - (1 : Int32)) 26) (
              cond (vq (x1 - (1 : Int32)) 26) (
              some ((1 : Int32), (pm_up (pm_up I 49 (((x1 - (1 : Int32)) : Int32).toNatClampNeg) x2) 50 (((x1 - (1 : Int32)) : Int32).toNatClampNeg) x3), J)) none) none)
            else (
              some (((-1) : Int32), I, J)))))))
theorem fx_Ty_stockUp {u k : Nat} {pa pb : Nat} {ga : Nat → Nat} {Q : Option Value → pm_H → Prop} {x1 : Int32} {x2 : Int32} {x3 : Int32} {I : pm_II} {J : pm_JJ} {r : Int32} {I2 : pm_II} {J2 : pm_JJ} (hk : 0 ≤ k) (hF : F_Ty_stockUp u x1 x2 x3 I J = some (r, I2, J2)) (hQ : Q (some (.int r)) (hp I2 J2 (pm_RT pa pb ga))) : Px k 176 m_Ty_stockUp 0 [.ref 48, .int x1, .int x2, .int x3] [] (hp I J (pm_RT pa pb ga)) Q := by
  unfold F_Ty_stockUp at hF
  refine bk_Ty_stockUp_0 ?_
  refine ⟨fun z => ?_, fun z => ?_⟩
  · rw [if_pos z] at hF
    exact ret_q (Q := fun a b c => Q (some (.int a)) (hp b c (pm_RT pa pb ga))) hF hQ
  · rw [if_neg z] at hF
    refine ⟨fun z => ?_, fun z => ?_⟩
    · rw [if_pos z] at hF
      exact ret_q (Q := fun a b c => Q (some (.int a)) (hp b c (pm_RT pa pb ga))) hF hQ
    · rw [if_neg z] at hF
      refine ⟨fun z => ?_, fun z => ?_⟩
      · rw [if_pos z] at hF
        exact ret_q (Q := fun a b c => Q (some (.int a)) (hp b c (pm_RT pa pb ga))) hF hQ
      · rw [if_neg z] at hF
        refine ⟨fun z => ?_, fun z => ?_⟩
        · rw [if_pos z] at hF
          exact ret_q (Q := fun a b c => Q (some (.int a)) (hp b c (pm_RT pa pb ga))) hF hQ
        · rw [if_neg z] at hF
          refine ⟨fun z => ?_, fun z => ?_⟩
          · rw [if_pos z] at hF
            exact ret_q (Q := fun a b c => Q (some (.int a)) (hp b c (pm_RT pa pb ga))) hF hQ
          · rw [if_neg z] at hF
            refine ⟨fun z => ?_, fun z => ?_⟩
            · rw [if_pos z] at hF
              obtain ⟨g, hF⟩ := gd_e hF
              refine ⟨vq_in g, ?_⟩
              obtain ⟨g, hF⟩ := gd_e hF
              refine ⟨vq_in g, ?_⟩
              exact ret_q (Q := fun a b c => Q (some (.int a)) (hp b c (pm_RT pa pb ga))) hF hQ
            · rw [if_neg z] at hF
              exact ret_q (Q := fun a b c => Q (some (.int a)) (hp b c (pm_RT pa pb ga))) hF hQ
def F_Ty_breakLines_47 (u : Nat) (K7 : Int32 → Int32 → Int32 → Int32 → pm_II → pm_JJ → Option (Int32 × pm_II × pm_JJ)) (x1 : Int32) (x2 : Int32) (x4 : Int32) (I : pm_II) (J : pm_JJ) : Option (Int32 × pm_II × pm_JJ) :=
  cond (vq x2 13) (
  cond (vq x4 12) (
  K7 x1 (x2 + Int32.ofInt 1) (I 54 ((x4 : Int32).toNatClampNeg)) (x4 + Int32.ofInt 1) (pm_up I 55 ((x2 : Int32).toNatClampNeg) x4) J) none) none
def F_Ty_breakLines_76 (u : Nat) (x2 : Int32) (I : pm_II) (J : pm_JJ) : Option (Int32 × pm_II × pm_JJ) :=
  cond (vq x2 13) (
  some (x2, (pm_up I 55 ((x2 : Int32).toNatClampNeg) (I 48 8)), J)) none
def F_Ty_breakLines_7 (u : Nat) : Nat → Int32 → Int32 → Int32 → Int32 → pm_II → pm_JJ → Option (Int32 × pm_II × pm_JJ)
  | 0, _, _, _, _, _, _ => none
  | n + 1, x1, x2, x3, x4, I, J =>
    if (I 48 8) ≤ x4 then (
      F_Ty_breakLines_76 u x2 I J)
    else (
      if 12 ≤ x4 then (
        F_Ty_breakLines_76 u x2 I J)
      else (
        cond (vq x4 12) (
        if x4 = 0 then (
          F_Ty_breakLines_47 u (F_Ty_breakLines_7 u n) x1 x2 x4 I J)
        else (
          if ((x3 + (3 : Int32)) + (I 54 ((x4 : Int32).toNatClampNeg))) ≤ x1 then (
            F_Ty_breakLines_7 u n x1 x2 ((x3 + (3 : Int32)) + (I 54 ((x4 : Int32).toNatClampNeg))) (x4 + Int32.ofInt 1) I J)
          else (
            F_Ty_breakLines_47 u (F_Ty_breakLines_7 u n) x1 x2 x4 I J))) none))
def F_Ty_breakLines (u : Nat) (x1 : Int32) (I : pm_II) (J : pm_JJ) : Option (Int32 × pm_II × pm_JJ) :=
  F_Ty_breakLines_7 u u x1 (0 : Int32) (0 : Int32) (0 : Int32) I J
theorem fx_Ty_breakLines_47 {u k : Nat} {pa pb : Nat} {ga : Nat → Nat} {Q : Option Value → pm_H → Prop} {K7 : Int32 → Int32 → Int32 → Int32 → pm_II → pm_JJ → Option (Int32 × pm_II × pm_JJ)} {x1 : Int32} {x2 : Int32} {x3 : Int32} {x4 : Int32} {x5 : Int32} {I : pm_II} {J : pm_JJ} {r : Int32} {I2 : pm_II} {J2 : pm_JJ} (hk : 0 ≤ k) (hK7 : ∀ (x1 : Int32) (x2 : Int32) (x3 : Int32) (x4 : Int32) (I : pm_II) (J : pm_JJ) (r : Int32) (I2 : pm_II) (J2 : pm_JJ), K7 x1 x2 x3 x4 I J = some (r, I2, J2) → Q (some (.int r)) (hp I2 J2 (pm_RT pa pb ga)) → Px k 176 m_Ty_breakLines 7 [.ref 48, .int x1, .int x2, .int x3, .int x4, .null] [] (hp I J (pm_RT pa pb ga)) Q) (hF : F_Ty_breakLines_47 u K7 x1 x2 x4 I J = some (r, I2, J2)) (hQ : Q (some (.int r)) (hp I2 J2 (pm_RT pa pb ga))) : Px k 176 m_Ty_breakLines 47 [.ref 48, .int x1, .int x2, .int x3, .int x4, .int x5] [] (hp I J (pm_RT pa pb ga)) Q := by
  unfold F_Ty_breakLines_47 at hF
  refine bk_Ty_breakLines_47 ?_
  obtain ⟨g, hF⟩ := gd_e hF
  refine ⟨vq_in g, ?_⟩
  obtain ⟨g, hF⟩ := gd_e hF
  refine ⟨vq_in g, ?_⟩
  exact Px_wk (hK7 _ _ _ _ _ _ _ _ _ hF hQ) ⟨Or.inl rfl, Or.inl rfl, Or.inl rfl, Or.inl rfl, Or.inl rfl, Or.inr ⟨rfl, rfl⟩, trivial⟩
theorem fx_Ty_breakLines_76 {u k : Nat} {pa pb : Nat} {ga : Nat → Nat} {Q : Option Value → pm_H → Prop} {x1 : Int32} {x2 : Int32} {x3 : Int32} {x4 : Int32} {I : pm_II} {J : pm_JJ} {r : Int32} {I2 : pm_II} {J2 : pm_JJ} (hk : 0 ≤ k) (hF : F_Ty_breakLines_76 u x2 I J = some (r, I2, J2)) (hQ : Q (some (.int r)) (hp I2 J2 (pm_RT pa pb ga))) : Px k 176 m_Ty_breakLines 76 [.ref 48, .int x1, .int x2, .int x3, .int x4, .null] [] (hp I J (pm_RT pa pb ga)) Q := by
  unfold F_Ty_breakLines_76 at hF
  refine bk_Ty_breakLines_76 ?_
  obtain ⟨g, hF⟩ := gd_e hF
  refine ⟨vq_in g, ?_⟩
  exact ret_q (Q := fun a b c => Q (some (.int a)) (hp b c (pm_RT pa pb ga))) hF hQ
theorem fx_Ty_breakLines_7 {u k : Nat} {pa pb : Nat} {ga : Nat → Nat} {Q : Option Value → pm_H → Prop} (hk : 0 ≤ k) : ∀ (n : Nat), ∀ (x1 : Int32) (x2 : Int32) (x3 : Int32) (x4 : Int32) (I : pm_II) (J : pm_JJ) (r : Int32) (I2 : pm_II) (J2 : pm_JJ), F_Ty_breakLines_7 u n x1 x2 x3 x4 I J = some (r, I2, J2) → Q (some (.int r)) (hp I2 J2 (pm_RT pa pb ga)) → Px k 176 m_Ty_breakLines 7 [.ref 48, .int x1, .int x2, .int x3, .int x4, .null] [] (hp I J (pm_RT pa pb ga)) Q := by
  intro n
  induction n with
  | zero => intro x1 x2 x3 x4 I J r I2 J2  hF; cases hF
  | succ n ih =>
    intro x1 x2 x3 x4 I J r I2 J2  hF hQ
    rw [F_Ty_breakLines_7] at hF
    refine bk_Ty_breakLines_7 ?_
    refine ⟨fun z => ?_, fun z => ?_⟩
    · rw [if_pos z] at hF
      exact fx_Ty_breakLines_76 hk hF hQ
    · rw [if_neg z] at hF
      refine ⟨fun z => ?_, fun z => ?_⟩
      · rw [if_pos z] at hF
        exact fx_Ty_breakLines_76 hk hF hQ
      · rw [if_neg z] at hF
        obtain ⟨g, hF⟩ := gd_e hF
        refine ⟨vq_in g, ?_⟩
        refine ⟨fun z => ?_, fun z => ?_⟩
        · rw [if_pos z] at hF
          exact fx_Ty_breakLines_47 hk ih hF hQ
        · rw [if_neg z] at hF
          refine ⟨fun z => ?_, fun z => ?_⟩
          · rw [if_pos z] at hF
            exact Px_wk (ih _ _ _ _ _ _ _ _ _ hF hQ) ⟨Or.inl rfl, Or.inl rfl, Or.inl rfl, Or.inl rfl, Or.inl rfl, Or.inr ⟨rfl, rfl⟩, trivial⟩
          · rw [if_neg z] at hF
            exact fx_Ty_breakLines_47 hk ih hF hQ
theorem fx_Ty_breakLines {u k : Nat} {pa pb : Nat} {ga : Nat → Nat} {Q : Option Value → pm_H → Prop} {x1 : Int32} {I : pm_II} {J : pm_JJ} {r : Int32} {I2 : pm_II} {J2 : pm_JJ} (hk : 0 ≤ k) (hF : F_Ty_breakLines u x1 I J = some (r, I2, J2)) (hQ : Q (some (.int r)) (hp I2 J2 (pm_RT pa pb ga))) : Px k 176 m_Ty_breakLines 0 [.ref 48, .int x1, .null, .null, .null, .null] [] (hp I J (pm_RT pa pb ga)) Q := by
  unfold F_Ty_breakLines at hF
  refine bk_Ty_breakLines_0 ?_
  exact fx_Ty_breakLines_7 hk u _ _ _ _ _ _ _ _ _ hF hQ
def F_Ty_enoughSorts_2 (u : Nat) : Nat → Int32 → pm_II → pm_JJ → Option (Int32 × pm_II × pm_JJ)
  | 0, _, _, _ => none
  | n + 1, x1, I, J =>
    if 26 ≤ x1 then (
      some ((1 : Int32), I, J))
    else (
      cond (vq x1 26) (
      cond (vq x1 26) (
      if (I 51 ((x1 : Int32).toNatClampNeg)) ≤ (I 49 ((x1 : Int32).toNatClampNeg)) then (
        F_Ty_enoughSorts_2 u n (x1 + Int32.ofInt 1) I J)
      else (
        some ((0 : Int32), I, J))) none) none)
def F_Ty_enoughSorts (u : Nat) (I : pm_II) (J : pm_JJ) : Option (Int32 × pm_II × pm_JJ) :=
  F_Ty_enoughSorts_2 u u (0 : Int32) I J
theorem fx_Ty_enoughSorts_2 {u k : Nat} {pa pb : Nat} {ga : Nat → Nat} {Q : Option Value → pm_H → Prop} (hk : 0 ≤ k) : ∀ (n : Nat), ∀ (x1 : Int32) (I : pm_II) (J : pm_JJ) (r : Int32) (I2 : pm_II) (J2 : pm_JJ), F_Ty_enoughSorts_2 u n x1 I J = some (r, I2, J2) → Q (some (.int r)) (hp I2 J2 (pm_RT pa pb ga)) → Px k 176 m_Ty_enoughSorts 2 [.ref 48, .int x1] [] (hp I J (pm_RT pa pb ga)) Q := by
  intro n
  induction n with
  | zero => intro x1 I J r I2 J2  hF; cases hF
  | succ n ih =>
    intro x1 I J r I2 J2  hF hQ
    rw [F_Ty_enoughSorts_2] at hF
    refine bk_Ty_enoughSorts_2 ?_
    refine ⟨fun z => ?_, fun z => ?_⟩
    · rw [if_pos z] at hF
      exact ret_q (Q := fun a b c => Q (some (.int a)) (hp b c (pm_RT pa pb ga))) hF hQ
    · rw [if_neg z] at hF
      obtain ⟨g, hF⟩ := gd_e hF
      refine ⟨vq_in g, ?_⟩
      obtain ⟨g, hF⟩ := gd_e hF
      refine ⟨vq_in g, ?_⟩
      refine ⟨fun z => ?_, fun z => ?_⟩
      · rw [if_pos z] at hF
        exact ih _ _ _ _ _ _ hF hQ
      · rw [if_neg z] at hF
        exact ret_q (Q := fun a b c => Q (some (.int a)) (hp b c (pm_RT pa pb ga))) hF hQ
theorem fx_Ty_enoughSorts {u k : Nat} {pa pb : Nat} {ga : Nat → Nat} {Q : Option Value → pm_H → Prop} {I : pm_II} {J : pm_JJ} {r : Int32} {I2 : pm_II} {J2 : pm_JJ} (hk : 0 ≤ k) (hF : F_Ty_enoughSorts u  I J = some (r, I2, J2)) (hQ : Q (some (.int r)) (hp I2 J2 (pm_RT pa pb ga))) : Px k 176 m_Ty_enoughSorts 0 [.ref 48, .null] [] (hp I J (pm_RT pa pb ga)) Q := by
  unfold F_Ty_enoughSorts at hF
  refine bk_Ty_enoughSorts_0 ?_
  exact fx_Ty_enoughSorts_2 hk u _ _ _ _ _ _ hF hQ
def F_Tl_addSpace (u : Nat) (a0 : Nat) (x1 : Int32) (I : pm_II) (J : pm_JJ) : Option (Unit × pm_II × pm_JJ) :=
  if 155 ≤ (I a0 1) then (
    some ((), I, J))
  else (
    cond (vq (I a0 1) 155) (
    if ¬ ((pm_up (pm_up (pm_up I (a0 + 1) (((I a0 1) : Int32).toNatClampNeg) (-x1)) a0 1 (((pm_up I (a0 + 1) (((I a0 1) : Int32).toNatClampNeg) (-x1)) a0 1) + (1 : Int32))) a0 2 (((pm_up (pm_up I (a0 + 1) (((I a0 1) : Int32).toNatClampNeg) (-x1)) a0 1 (((pm_up I (a0 + 1) (((I a0 1) : Int32).toNatClampNeg) (-x1)) a0 1) + (1 : Int32))) a0 2) + x1)) a0 5) = 0 then (
      some ((), (pm_up (pm_up (pm_up (pm_up (pm_up I (a0 + 1) (((I a0 1) : Int32).toNatClampNeg) (-x1)) a0 1 (((pm_up I (a0 + 1) (((I a0 1) : Int32).toNatClampNeg) (-x1)) a0 1) + (1 : Int32))) a0 2 (((pm_up (pm_up I (a0 + 1) (((I a0 1) : Int32).toNatClampNeg) (-x1)) a0 1 (((pm_up I (a0 + 1) (((I a0 1) : Int32).toNatClampNeg) (-x1)) a0 1) + (1 : Int32))) a0 2) + x1)) a0 5 ((pm_up (pm_up (pm_up I (a0 + 1) (((I a0 1) : Int32).toNatClampNeg) (-x1)) a0 1 (((pm_up I (a0 + 1) (((I a0 1) : Int32).toNatClampNeg) (-x1)) a0 1) + (1 : Int32))) a0 2 (((pm_up (pm_up I (a0 + 1) (((I a0 1) : Int32).toNatClampNeg) (-x1)) a0 1 (((pm_up I (a0 + 1) (((I a0 1) : Int32).toNatClampNeg) (-x1)) a0 1) + (1 : Int32))) a0 2) + x1)) a0 5)) a0 6 x1), J))
    else (
      some ((), (pm_up (pm_up (pm_up (pm_up (pm_up I (a0 + 1) (((I a0 1) : Int32).toNatClampNeg) (-x1)) a0 1 (((pm_up I (a0 + 1) (((I a0 1) : Int32).toNatClampNeg) (-x1)) a0 1) + (1 : Int32))) a0 2 (((pm_up (pm_up I (a0 + 1) (((I a0 1) : Int32).toNatClampNeg) (-x1)) a0 1 (((pm_up I (a0 + 1) (((I a0 1) : Int32).toNatClampNeg) (-x1)) a0 1) + (1 : Int32))) a0 2) + x1)) a0 5 x1) a0 6 x1), J))) none)
theorem fx_Tl_addSpace {u k : Nat} {pa pb : Nat} {ga : Nat → Nat} {Q : Option Value → pm_H → Prop} {a0 : Nat} {x1 : Int32} {I : pm_II} {J : pm_JJ} {r : Unit} {I2 : pm_II} {J2 : pm_JJ} (hk : 0 ≤ k) (ha0 : oT a0) (hF : F_Tl_addSpace u a0 x1 I J = some (r, I2, J2)) (hQ : Q none (hp I2 J2 (pm_RT pa pb ga))) : Px k 176 m_Tl_addSpace 0 [.ref a0, .int x1] [] (hp I J (pm_RT pa pb ga)) Q := by
  unfold F_Tl_addSpace at hF
  refine bk_Tl_addSpace_0 ?_
  refine ⟨oT_ob ha0, ?_⟩
  refine ⟨fun z => ?_, fun z => ?_⟩
  · rw [if_pos z] at hF
    exact ret_q (Q := fun a b c => Q none (hp b c (pm_RT pa pb ga))) hF hQ
  · rw [if_neg z] at hF
    refine ⟨oT_ob ha0, ?_⟩
    refine ⟨oT_rt0 ha0, ?_⟩
    refine ⟨oT_ob ha0, ?_⟩
    refine ⟨oT_ar1 ha0, ?_⟩
    obtain ⟨g, hF⟩ := gd_e hF
    refine ⟨(oT_in1 ha0 g), ?_⟩
    refine ⟨oT_ob ha0, ?_⟩
    refine ⟨oT_ob ha0, ?_⟩
    refine ⟨oT_ob ha0, ?_⟩
    refine ⟨oT_ob ha0, ?_⟩
    refine ⟨oT_ob ha0, ?_⟩
    refine ⟨fun z => ?_, fun z => ?_⟩
    · rw [if_pos z] at hF
      refine ⟨oT_ob ha0, ?_⟩
      refine ⟨oT_ob ha0, ?_⟩
      refine ⟨oT_ob ha0, ?_⟩
      exact ret_q (Q := fun a b c => Q none (hp b c (pm_RT pa pb ga))) hF hQ
    · rw [if_neg z] at hF
      refine ⟨oT_ob ha0, ?_⟩
      refine ⟨oT_ob ha0, ?_⟩
      exact ret_q (Q := fun a b c => Q none (hp b c (pm_RT pa pb ga))) hF hQ
def F_Tl_start (u : Nat) (a0 : Nat) (I : pm_II) (J : pm_JJ) : Option (Unit × pm_II × pm_JJ) :=
  some ((), (pm_up (pm_up (pm_up (pm_up (pm_up (pm_up I a0 1 0) a0 2 0) a0 3 0) a0 4 0) a0 5 0) a0 6 0), J)
theorem fx_Tl_start {u k : Nat} {pa pb : Nat} {ga : Nat → Nat} {Q : Option Value → pm_H → Prop} {a0 : Nat} {I : pm_II} {J : pm_JJ} {r : Unit} {I2 : pm_II} {J2 : pm_JJ} (hk : 0 ≤ k) (ha0 : oT a0) (hF : F_Tl_start u a0 I J = some (r, I2, J2)) (hQ : Q none (hp I2 J2 (pm_RT pa pb ga))) : Px k 176 m_Tl_start 0 [.ref a0] [] (hp I J (pm_RT pa pb ga)) Q := by
  unfold F_Tl_start at hF
  refine bk_Tl_start_0 ?_
  refine ⟨oT_ob ha0, ?_⟩
  refine ⟨oT_ob ha0, ?_⟩
  refine ⟨oT_ob ha0, ?_⟩
  refine ⟨oT_ob ha0, ?_⟩
  refine ⟨oT_ob ha0, ?_⟩
  refine ⟨oT_ob ha0, ?_⟩
  exact ret_q (Q := fun a b c => Q none (hp b c (pm_RT pa pb ga))) hF hQ
def F_Tl_addLetter (u : Nat) (a0 : Nat) (x1 : Int32) (I : pm_II) (J : pm_JJ) : Option (Unit × pm_II × pm_JJ) :=
  if 155 ≤ (I a0 1) then (
    some ((), I, J))
  else (
    cond (vq (I a0 1) 155) (
    some ((), (pm_up (pm_up (pm_up I (a0 + 1) (((I a0 1) : Int32).toNatClampNeg) x1) a0 1 (((pm_up I (a0 + 1) (((I a0 1) : Int32).toNatClampNeg) x1) a0 1) + (1 : Int32))) a0 4 (((pm_up (pm_up I (a0 + 1) (((I a0 1) : Int32).toNatClampNeg) x1) a0 1 (((pm_up I (a0 + 1) (((I a0 1) : Int32).toNatClampNeg) x1) a0 1) + (1 : Int32))) a0 4) + (1 : Int32))), J)) none)
theorem fx_Tl_addLetter {u k : Nat} {pa pb : Nat} {ga : Nat → Nat} {Q : Option Value → pm_H → Prop} {a0 : Nat} {x1 : Int32} {I : pm_II} {J : pm_JJ} {r : Unit} {I2 : pm_II} {J2 : pm_JJ} (hk : 0 ≤ k) (ha0 : oT a0) (hF : F_Tl_addLetter u a0 x1 I J = some (r, I2, J2)) (hQ : Q none (hp I2 J2 (pm_RT pa pb ga))) : Px k 176 m_Tl_addLetter 0 [.ref a0, .int x1] [] (hp I J (pm_RT pa pb ga)) Q := by
  unfold F_Tl_addLetter at hF
  refine bk_Tl_addLetter_0 ?_
  refine ⟨oT_ob ha0, ?_⟩
  refine ⟨fun z => ?_, fun z => ?_⟩
  · rw [if_pos z] at hF
    exact ret_q (Q := fun a b c => Q none (hp b c (pm_RT pa pb ga))) hF hQ
  · rw [if_neg z] at hF
    refine ⟨oT_ob ha0, ?_⟩
    refine ⟨oT_rt0 ha0, ?_⟩
    refine ⟨oT_ob ha0, ?_⟩
    refine ⟨oT_ar1 ha0, ?_⟩
    obtain ⟨g, hF⟩ := gd_e hF
    refine ⟨(oT_in1 ha0 g), ?_⟩
    refine ⟨oT_ob ha0, ?_⟩
    refine ⟨oT_ob ha0, ?_⟩
    refine ⟨oT_ob ha0, ?_⟩
    refine ⟨oT_ob ha0, ?_⟩
    exact ret_q (Q := fun a b c => Q none (hp b c (pm_RT pa pb ga))) hF hQ
def F_Tl_addWord (u : Nat) (a0 : Nat) (x1 : Int32) (I : pm_II) (J : pm_JJ) : Option (Unit × pm_II × pm_JJ) :=
  some ((), (pm_up (pm_up I a0 3 ((I a0 3) + (1 : Int32))) a0 2 (((pm_up I a0 3 ((I a0 3) + (1 : Int32))) a0 2) + x1)), J)
theorem fx_Tl_addWord {u k : Nat} {pa pb : Nat} {ga : Nat → Nat} {Q : Option Value → pm_H → Prop} {a0 : Nat} {x1 : Int32} {I : pm_II} {J : pm_JJ} {r : Unit} {I2 : pm_II} {J2 : pm_JJ} (hk : 0 ≤ k) (ha0 : oT a0) (hF : F_Tl_addWord u a0 x1 I J = some (r, I2, J2)) (hQ : Q none (hp I2 J2 (pm_RT pa pb ga))) : Px k 176 m_Tl_addWord 0 [.ref a0, .int x1] [] (hp I J (pm_RT pa pb ga)) Q := by
  unfold F_Tl_addWord at hF
  refine bk_Tl_addWord_0 ?_
  refine ⟨oT_ob ha0, ?_⟩
  refine ⟨oT_ob ha0, ?_⟩
  refine ⟨oT_ob ha0, ?_⟩
  refine ⟨oT_ob ha0, ?_⟩
  exact ret_q (Q := fun a b c => Q none (hp b c (pm_RT pa pb ga))) hF hQ
def F_Ty_layWord_13 (u : Nat) : Nat → Int32 → Nat → Int32 → pm_II → pm_JJ → Option (Unit × pm_II × pm_JJ)
  | 0, _, _, _, _, _ => none
  | n + 1, x2, a3, x4, I, J =>
    cond (vq x2 12) (
    if (I 53 ((x2 : Int32).toNatClampNeg)) ≤ x4 then (
      some ((), I, J))
    else (
      cond (vq x2 12) (
      bd (F_Ta_byteAt u ((I 52 ((x2 : Int32).toNatClampNeg)) + x4) I J) fun r35 I35 J35 =>
      bd (F_Tl_addLetter u a3 ((r35 - (97 : Int32)) + (1 : Int32)) I35 J35) fun _ I43 J43 =>
      F_Ty_layWord_13 u n x2 a3 (x4 + Int32.ofInt 1) I43 J43) none)) none
def F_Ty_layWord (u : Nat) (x2 : Int32) (a3 : Nat) (I : pm_II) (J : pm_JJ) : Option (Unit × pm_II × pm_JJ) :=
  cond (vq x2 12) (
  bd (F_Tl_addWord u a3 (I 54 ((x2 : Int32).toNatClampNeg)) I J) fun _ I7 J7 =>
  F_Ty_layWord_13 u u x2 a3 (0 : Int32) I7 J7) none
theorem fx_Ty_layWord_13 {u k : Nat} {pa pb : Nat} {ga : Nat → Nat} {Q : Option Value → pm_H → Prop} (hk : 1 ≤ k) : ∀ (n : Nat), ∀ (x2 : Int32) (a3 : Nat) (x4 : Int32) (I : pm_II) (J : pm_JJ) (r : Unit) (I2 : pm_II) (J2 : pm_JJ), oT a3 → F_Ty_layWord_13 u n x2 a3 x4 I J = some (r, I2, J2) → Q none (hp I2 J2 (pm_RT pa pb ga)) → Px k 176 m_Ty_layWord 13 [.ref 48, .ref 17, .int x2, .ref a3, .int x4] [] (hp I J (pm_RT pa pb ga)) Q := by
  obtain ⟨k, rfl⟩ : ∃ j, k = j + 1 := ⟨k - 1, by omega⟩
  intro n
  induction n with
  | zero => intro x2 a3 x4 I J r I2 J2 ha3 hF; cases hF
  | succ n ih =>
    intro x2 a3 x4 I J r I2 J2 ha3 hF hQ
    rw [F_Ty_layWord_13] at hF
    refine bk_Ty_layWord_13 ?_
    obtain ⟨g, hF⟩ := gd_e hF
    refine ⟨vq_in g, ?_⟩
    refine ⟨fun z => ?_, fun z => ?_⟩
    · rw [if_pos z] at hF
      exact ret_q (Q := fun a b c => Q none (hp b c (pm_RT pa pb ga))) hF hQ
    · rw [if_neg z] at hF
      obtain ⟨g, hF⟩ := gd_e hF
      refine ⟨vq_in g, ?_⟩
      obtain ⟨r35, I35, J35, hC35, hF⟩ := bd_e hF
      refine fx_Ta_byteAt (by omega) hC35 ⟨rfl, ?_⟩
      refine bk_Ty_layWord_38 ?_
      refine ⟨oT_ob ha3, ?_⟩
      obtain ⟨r43, I43, J43, hC43, hF⟩ := bd_e hF
      refine fx_Tl_addLetter (by omega) ha3 hC43 ⟨rfl, ?_⟩
      refine bk_Ty_layWord_46 ?_
      exact ih _ _ _ _ _ _ _ _ ha3 hF hQ
theorem fx_Ty_layWord {u k : Nat} {pa pb : Nat} {ga : Nat → Nat} {Q : Option Value → pm_H → Prop} {x2 : Int32} {a3 : Nat} {I : pm_II} {J : pm_JJ} {r : Unit} {I2 : pm_II} {J2 : pm_JJ} (hk : 1 ≤ k) (ha3 : oT a3) (hF : F_Ty_layWord u x2 a3 I J = some (r, I2, J2)) (hQ : Q none (hp I2 J2 (pm_RT pa pb ga))) : Px k 176 m_Ty_layWord 0 [.ref 48, .ref 17, .int x2, .ref a3, .null] [] (hp I J (pm_RT pa pb ga)) Q := by
  obtain ⟨k, rfl⟩ : ∃ j, k = j + 1 := ⟨k - 1, by omega⟩
  unfold F_Ty_layWord at hF
  refine bk_Ty_layWord_0 ?_
  obtain ⟨g, hF⟩ := gd_e hF
  refine ⟨vq_in g, ?_⟩
  refine ⟨oT_ob ha3, ?_⟩
  obtain ⟨r7, I7, J7, hC7, hF⟩ := bd_e hF
  refine fx_Tl_addWord (by omega) ha3 hC7 ⟨rfl, ?_⟩
  refine bk_Ty_layWord_10 ?_
  exact fx_Ty_layWord_13 hk u _ _ _ _ _ _ _ _ ha3 hF hQ
def F_Ty_layLine_193 (u : Nat) (pa pb : Nat) (ga : Nat → Nat) (K154 : Int32 → Int32 → Int32 → Int32 → Nat → Int32 → pm_II → pm_JJ → Option (Unit × pm_II × pm_JJ)) (x5 : Int32) (x6 : Int32) (x9 : Int32) (x10 : Int32) (a11 : Nat) (x12 : Int32) (I : pm_II) (J : pm_JJ) : Option (Unit × pm_II × pm_JJ) :=
  bd (F_Ty_layWord u x12 a11 I J) fun _ I199 J199 =>
  K154 x5 x6 x9 x10 a11 (x12 + Int32.ofInt 1) I199 J199
def F_Ty_layLine_189 (u : Nat) (pa pb : Nat) (ga : Nat → Nat) (K154 : Int32 → Int32 → Int32 → Int32 → Nat → Int32 → pm_II → pm_JJ → Option (Unit × pm_II × pm_JJ)) (x5 : Int32) (x6 : Int32) (x9 : Int32) (x10 : Int32) (a11 : Nat) (x12 : Int32) (b0 : Nat) (s1 : Int32) (s2 : Int32) (I : pm_II) (J : pm_JJ) : Option (Unit × pm_II × pm_JJ) :=
  bd (F_Tl_addSpace u b0 (s1 + s2) I J) fun _ I190 J190 =>
  F_Ty_layLine_193 u pa pb ga K154 x5 x6 x9 x10 a11 x12 I190 J190
def F_Ty_layLine_154 (u : Nat) (pa pb : Nat) (ga : Nat → Nat) : Nat → Int32 → Int32 → Int32 → Int32 → Nat → Int32 → pm_II → pm_JJ → Option (Unit × pm_II × pm_JJ)
  | 0, _, _, _, _, _, _, _, _ => none
  | n + 1, x5, x6, x9, x10, a11, x12, I, J =>
    if x6 ≤ x12 then (
      some ((), (pm_up I 48 9 ((I 48 9) + (1 : Int32))), J))
    else (
      if x12 ≤ x5 then (
        F_Ty_layLine_193 u pa pb ga (F_Ty_layLine_154 u pa pb ga n) x5 x6 x9 x10 a11 x12 I J)
      else (
        if x10 < (x12 - x5) then (
          F_Ty_layLine_189 u pa pb ga (F_Ty_layLine_154 u pa pb ga n) x5 x6 x9 x10 a11 x12 a11 ((3 : Int32) + x9) (0 : Int32) I J)
        else (
          F_Ty_layLine_189 u pa pb ga (F_Ty_layLine_154 u pa pb ga n) x5 x6 x9 x10 a11 x12 a11 ((3 : Int32) + x9) (1 : Int32) I J)))
def F_Ty_layLine_132 (u : Nat) (pa pb : Nat) (ga : Nat → Nat) (x5 : Int32) (x6 : Int32) (x9 : Int32) (s0 : Int32) (I : pm_II) (J : pm_JJ) : Option (Unit × pm_II × pm_JJ) :=
  cond (vq (I 48 9) 16) (
  bd (F_Tl_start u (ga (((I 48 9) : Int32).toNatClampNeg)) I J) fun _ I147 J147 =>
  F_Ty_layLine_154 u pa pb ga u x5 x6 x9 s0 (ga (((I 48 9) : Int32).toNatClampNeg)) x5 I147 J147) none
def F_Ty_layLine_116 (u : Nat) (pa pb : Nat) (ga : Nat → Nat) (x5 : Int32) (x6 : Int32) (x7 : Int32) (x8 : Int32) (s0 : Int32) (I : pm_II) (J : pm_JJ) : Option (Unit × pm_II × pm_JJ) :=
  if x7 ≤ 0 then (
    F_Ty_layLine_132 u pa pb ga x5 x6 s0 (0 : Int32) I J)
  else (
    if ¬ x7 = 0 then (
    F_Ty_layLine_132 u pa pb ga x5 x6 s0 (x8 - x8 / x7 * x7) I J) else none)
def F_Ty_layLine_102 (u : Nat) (pa pb : Nat) (ga : Nat → Nat) (x5 : Int32) (x6 : Int32) (x7 : Int32) (x8 : Int32) (I : pm_II) (J : pm_JJ) : Option (Unit × pm_II × pm_JJ) :=
  if x7 ≤ 0 then (
    F_Ty_layLine_116 u pa pb ga x5 x6 x7 x8 (0 : Int32) I J)
  else (
    if ¬ x7 = 0 then (
    F_Ty_layLine_116 u pa pb ga x5 x6 x7 x8 (x8 / x7) I J) else none)
def F_Ty_layLine_73 (u : Nat) (pa pb : Nat) (ga : Nat → Nat) : Nat → Int32 → Int32 → Int32 → Int32 → Int32 → Int32 → pm_II → pm_JJ → Option (Unit × pm_II × pm_JJ)
  | 0, _, _, _, _, _, _, _, _ => none
  | n + 1, x3, x5, x6, x7, x8, x9, I, J =>
    if x6 ≤ x9 then (
      F_Ty_layLine_102 u pa pb ga x5 x6 x7 x8 I J)
    else (
      if ¬ x3 = 0 then (
        F_Ty_layLine_102 u pa pb ga x5 x6 x7 x8 I J)
      else (
        cond (vq x9 12) (
        F_Ty_layLine_73 u pa pb ga n x3 x5 x6 x7 (x8 - (I 54 ((x9 : Int32).toNatClampNeg))) (x9 + Int32.ofInt 1) I J) none))
def F_Ty_layLine (u : Nat) (pa pb : Nat) (ga : Nat → Nat) (x2 : Int32) (x3 : Int32) (x4 : Int32) (I : pm_II) (J : pm_JJ) : Option (Unit × pm_II × pm_JJ) :=
  if x2 < 0 then (
    some ((), I, J))
  else (
    if 12 ≤ x2 then (
      some ((), I, J))
    else (
      if (I 48 9) < 16 then (
        cond (vq x2 13) (
        cond (vq (x2 + (1 : Int32)) 13) (
        bd (F_Jm_min_II u (I 55 (((x2 + (1 : Int32)) : Int32).toNatClampNeg)) (12 : Int32) I J) fun r38 I38 J38 =>
        if x3 = 0 then (
          F_Ty_layLine_73 u pa pb ga u x3 (I 55 ((x2 : Int32).toNatClampNeg)) r38 ((r38 - (I 55 ((x2 : Int32).toNatClampNeg))) - (1 : Int32)) (x4 - (((r38 - (I 55 ((x2 : Int32).toNatClampNeg))) - (1 : Int32)) * (3 : Int32))) (I 55 ((x2 : Int32).toNatClampNeg)) I38 J38)
        else (
          F_Ty_layLine_73 u pa pb ga u x3 (I 55 ((x2 : Int32).toNatClampNeg)) r38 ((r38 - (I 55 ((x2 : Int32).toNatClampNeg))) - (1 : Int32)) (0 : Int32) (I 55 ((x2 : Int32).toNatClampNeg)) I38 J38)) none) none)
      else (
        some ((), I, J))))
theorem fx_Ty_layLine_193 {u k : Nat} {pa pb : Nat} {ga : Nat → Nat} {Q : Option Value → pm_H → Prop} {K154 : Int32 → Int32 → Int32 → Int32 → Nat → Int32 → pm_II → pm_JJ → Option (Unit × pm_II × pm_JJ)} {x2 : Int32} {x3 : Int32} {x4 : Int32} {x5 : Int32} {x6 : Int32} {x7 : Int32} {x8 : Int32} {x9 : Int32} {x10 : Int32} {a11 : Nat} {x12 : Int32} {I : pm_II} {J : pm_JJ} {r : Unit} {I2 : pm_II} {J2 : pm_JJ} (hk : 2 ≤ k) (hpa : oP pa) (hpb : oP pb) (hga : ∀ j, j < 16 → oT (ga j)) (hK154 : ∀ (x2 : Int32) (x3 : Int32) (x4 : Int32) (x5 : Int32) (x6 : Int32) (x7 : Int32) (x8 : Int32) (x9 : Int32) (x10 : Int32) (a11 : Nat) (x12 : Int32) (I : pm_II) (J : pm_JJ) (r : Unit) (I2 : pm_II) (J2 : pm_JJ), oT a11 → K154 x5 x6 x9 x10 a11 x12 I J = some (r, I2, J2) → Q none (hp I2 J2 (pm_RT pa pb ga)) → Px k 176 m_Ty_layLine 154 [.ref 48, .ref 17, .int x2, .int x3, .int x4, .int x5, .int x6, .int x7, .int x8, .int x9, .int x10, .ref a11, .int x12] [] (hp I J (pm_RT pa pb ga)) Q) (ha11 : oT a11) (hF : F_Ty_layLine_193 u pa pb ga K154 x5 x6 x9 x10 a11 x12 I J = some (r, I2, J2)) (hQ : Q none (hp I2 J2 (pm_RT pa pb ga))) : Px k 176 m_Ty_layLine 193 [.ref 48, .ref 17, .int x2, .int x3, .int x4, .int x5, .int x6, .int x7, .int x8, .int x9, .int x10, .ref a11, .int x12] [] (hp I J (pm_RT pa pb ga)) Q := by
  obtain ⟨k, rfl⟩ : ∃ j, k = j + 1 := ⟨k - 1, by omega⟩
  unfold F_Ty_layLine_193 at hF
  refine bk_Ty_layLine_193 ?_
  obtain ⟨r199, I199, J199, hC199, hF⟩ := bd_e hF
  refine fx_Ty_layWord (by omega) ha11 hC199 ⟨rfl, ?_⟩
  refine bk_Ty_layLine_202 ?_
  exact hK154 _ _ _ _ _ _ _ _ _ _ _ _ _ _ _ _ ha11 hF hQ
theorem fx_Ty_layLine_189 {u k : Nat} {pa pb : Nat} {ga : Nat → Nat} {Q : Option Value → pm_H → Prop} {K154 : Int32 → Int32 → Int32 → Int32 → Nat → Int32 → pm_II → pm_JJ → Option (Unit × pm_II × pm_JJ)} {x2 : Int32} {x3 : Int32} {x4 : Int32} {x5 : Int32} {x6 : Int32} {x7 : Int32} {x8 : Int32} {x9 : Int32} {x10 : Int32} {a11 : Nat} {x12 : Int32} {b0 : Nat} {s1 : Int32} {s2 : Int32} {I : pm_II} {J : pm_JJ} {r : Unit} {I2 : pm_II} {J2 : pm_JJ} (hk : 2 ≤ k) (hpa : oP pa) (hpb : oP pb) (hga : ∀ j, j < 16 → oT (ga j)) (hK154 : ∀ (x2 : Int32) (x3 : Int32) (x4 : Int32) (x5 : Int32) (x6 : Int32) (x7 : Int32) (x8 : Int32) (x9 : Int32) (x10 : Int32) (a11 : Nat) (x12 : Int32) (I : pm_II) (J : pm_JJ) (r : Unit) (I2 : pm_II) (J2 : pm_JJ), oT a11 → K154 x5 x6 x9 x10 a11 x12 I J = some (r, I2, J2) → Q none (hp I2 J2 (pm_RT pa pb ga)) → Px k 176 m_Ty_layLine 154 [.ref 48, .ref 17, .int x2, .int x3, .int x4, .int x5, .int x6, .int x7, .int x8, .int x9, .int x10, .ref a11, .int x12] [] (hp I J (pm_RT pa pb ga)) Q) (ha11 : oT a11) (hb0 : oT b0) (hF : F_Ty_layLine_189 u pa pb ga K154 x5 x6 x9 x10 a11 x12 b0 s1 s2 I J = some (r, I2, J2)) (hQ : Q none (hp I2 J2 (pm_RT pa pb ga))) : Px k 176 m_Ty_layLine 189 [.ref 48, .ref 17, .int x2, .int x3, .int x4, .int x5, .int x6, .int x7, .int x8, .int x9, .int x10, .ref a11, .int x12] [.int s2, .int s1, .ref b0] (hp I J (pm_RT pa pb ga)) Q := by
  obtain ⟨k, rfl⟩ : ∃ j, k = j + 1 := ⟨k - 1, by omega⟩
  unfold F_Ty_layLine_189 at hF
  refine bk_Ty_layLine_189 ?_
  refine ⟨oT_ob hb0, ?_⟩
  obtain ⟨r190, I190, J190, hC190, hF⟩ := bd_e hF
  refine fx_Tl_addSpace (by omega) hb0 hC190 ⟨rfl, ?_⟩
  exact fx_Ty_layLine_193 hk hpa hpb hga hK154 ha11 hF hQ
theorem fx_Ty_layLine_154 {u k : Nat} {pa pb : Nat} {ga : Nat → Nat} {Q : Option Value → pm_H → Prop} (hk : 2 ≤ k) (hpa : oP pa) (hpb : oP pb) (hga : ∀ j, j < 16 → oT (ga j)) : ∀ (n : Nat), ∀ (x2 : Int32) (x3 : Int32) (x4 : Int32) (x5 : Int32) (x6 : Int32) (x7 : Int32) (x8 : Int32) (x9 : Int32) (x10 : Int32) (a11 : Nat) (x12 : Int32) (I : pm_II) (J : pm_JJ) (r : Unit) (I2 : pm_II) (J2 : pm_JJ), oT a11 → F_Ty_layLine_154 u pa pb ga n x5 x6 x9 x10 a11 x12 I J = some (r, I2, J2) → Q none (hp I2 J2 (pm_RT pa pb ga)) → Px k 176 m_Ty_layLine 154 [.ref 48, .ref 17, .int x2, .int x3, .int x4, .int x5, .int x6, .int x7, .int x8, .int x9, .int x10, .ref a11, .int x12] [] (hp I J (pm_RT pa pb ga)) Q := by
  obtain ⟨k, rfl⟩ : ∃ j, k = j + 1 := ⟨k - 1, by omega⟩
  intro n
  induction n with
  | zero => intro x2 x3 x4 x5 x6 x7 x8 x9 x10 a11 x12 I J r I2 J2 ha11 hF; cases hF
  | succ n ih =>
    intro x2 x3 x4 x5 x6 x7 x8 x9 x10 a11 x12 I J r I2 J2 ha11 hF hQ
    rw [F_Ty_layLine_154] at hF
    refine bk_Ty_layLine_154 ?_
    refine ⟨fun z => ?_, fun z => ?_⟩
    · rw [if_pos z] at hF
      exact ret_q (Q := fun a b c => Q none (hp b c (pm_RT pa pb ga))) hF hQ
    · rw [if_neg z] at hF
      refine ⟨fun z => ?_, fun z => ?_⟩
      · rw [if_pos z] at hF
        exact fx_Ty_layLine_193 hk hpa hpb hga ih ha11 hF hQ
      · rw [if_neg z] at hF
        refine ⟨fun z => ?_, fun z => ?_⟩
        · rw [if_pos z] at hF
          exact fx_Ty_layLine_189 hk hpa hpb hga ih ha11 ha11 hF hQ
        · rw [if_neg z] at hF
          exact fx_Ty_layLine_189 hk hpa hpb hga ih ha11 ha11 hF hQ
theorem fx_Ty_layLine_132 {u k : Nat} {pa pb : Nat} {ga : Nat → Nat} {Q : Option Value → pm_H → Prop} {x2 : Int32} {x3 : Int32} {x4 : Int32} {x5 : Int32} {x6 : Int32} {x7 : Int32} {x8 : Int32} {x9 : Int32} {s0 : Int32} {I : pm_II} {J : pm_JJ} {r : Unit} {I2 : pm_II} {J2 : pm_JJ} (hk : 2 ≤ k) (hpa : oP pa) (hpb : oP pb) (hga : ∀ j, j < 16 → oT (ga j)) (hF : F_Ty_layLine_132 u pa pb ga x5 x6 x9 s0 I J = some (r, I2, J2)) (hQ : Q none (hp I2 J2 (pm_RT pa pb ga))) : Px k 176 m_Ty_layLine 132 [.ref 48, .ref 17, .int x2, .int x3, .int x4, .int x5, .int x6, .int x7, .int x8, .int x9, .null, .null, .null] [.int s0] (hp I J (pm_RT pa pb ga)) Q := by
  obtain ⟨k, rfl⟩ : ∃ j, k = j + 1 := ⟨k - 1, by omega⟩
  unfold F_Ty_layLine_132 at hF
  refine bk_Ty_layLine_132 ?_
  obtain ⟨g, hF⟩ := gd_e hF
  refine ⟨vq_in g, ?_⟩
  refine ⟨oT_ob (hga _ (vq_lt (by assumption))), ?_⟩
  obtain ⟨r147, I147, J147, hC147, hF⟩ := bd_e hF
  refine fx_Tl_start (by omega) (hga _ (vq_lt (by assumption))) hC147 ⟨rfl, ?_⟩
  refine bk_Ty_layLine_150 ?_
  exact fx_Ty_layLine_154 hk hpa hpb hga u _ _ _ _ _ _ _ _ _ _ _ _ _ _ _ _ (hga _ (vq_lt (by assumption))) hF hQ
theorem fx_Ty_layLine_116 {u k : Nat} {pa pb : Nat} {ga : Nat → Nat} {Q : Option Value → pm_H → Prop} {x2 : Int32} {x3 : Int32} {x4 : Int32} {x5 : Int32} {x6 : Int32} {x7 : Int32} {x8 : Int32} {x9 : Int32} {s0 : Int32} {I : pm_II} {J : pm_JJ} {r : Unit} {I2 : pm_II} {J2 : pm_JJ} (hk : 2 ≤ k) (hpa : oP pa) (hpb : oP pb) (hga : ∀ j, j < 16 → oT (ga j)) (hF : F_Ty_layLine_116 u pa pb ga x5 x6 x7 x8 s0 I J = some (r, I2, J2)) (hQ : Q none (hp I2 J2 (pm_RT pa pb ga))) : Px k 176 m_Ty_layLine 116 [.ref 48, .ref 17, .int x2, .int x3, .int x4, .int x5, .int x6, .int x7, .int x8, .int x9, .null, .null, .null] [.int s0] (hp I J (pm_RT pa pb ga)) Q := by
  obtain ⟨k, rfl⟩ : ∃ j, k = j + 1 := ⟨k - 1, by omega⟩
  unfold F_Ty_layLine_116 at hF
  refine bk_Ty_layLine_116 ?_
  refine ⟨fun z => ?_, fun z => ?_⟩
  · rw [if_pos z] at hF
    exact fx_Ty_layLine_132 hk hpa hpb hga hF hQ
  · rw [if_neg z] at hF
    obtain ⟨g, hF⟩ := ge_e hF
    refine ⟨g, ?_⟩
    exact fx_Ty_layLine_132 hk hpa hpb hga hF hQ
theorem fx_Ty_layLine_102 {u k : Nat} {pa pb : Nat} {ga : Nat → Nat} {Q : Option Value → pm_H → Prop} {x2 : Int32} {x3 : Int32} {x4 : Int32} {x5 : Int32} {x6 : Int32} {x7 : Int32} {x8 : Int32} {x9 : Int32} {I : pm_II} {J : pm_JJ} {r : Unit} {I2 : pm_II} {J2 : pm_JJ} (hk : 2 ≤ k) (hpa : oP pa) (hpb : oP pb) (hga : ∀ j, j < 16 → oT (ga j)) (hF : F_Ty_layLine_102 u pa pb ga x5 x6 x7 x8 I J = some (r, I2, J2)) (hQ : Q none (hp I2 J2 (pm_RT pa pb ga))) : Px k 176 m_Ty_layLine 102 [.ref 48, .ref 17, .int x2, .int x3, .int x4, .int x5, .int x6, .int x7, .int x8, .int x9, .null, .null, .null] [] (hp I J (pm_RT pa pb ga)) Q := by
  obtain ⟨k, rfl⟩ : ∃ j, k = j + 1 := ⟨k - 1, by omega⟩
  unfold F_Ty_layLine_102 at hF
  refine bk_Ty_layLine_102 ?_
  refine ⟨fun z => ?_, fun z => ?_⟩
  · rw [if_pos z] at hF
    exact fx_Ty_layLine_116 hk hpa hpb hga hF hQ
  · rw [if_neg z] at hF
    obtain ⟨g, hF⟩ := ge_e hF
    refine ⟨g, ?_⟩
    exact fx_Ty_layLine_116 hk hpa hpb hga hF hQ
theorem fx_Ty_layLine_73 {u k : Nat} {pa pb : Nat} {ga : Nat → Nat} {Q : Option Value → pm_H → Prop} (hk : 2 ≤ k) (hpa : oP pa) (hpb : oP pb) (hga : ∀ j, j < 16 → oT (ga j)) : ∀ (n : Nat), ∀ (x2 : Int32) (x3 : Int32) (x4 : Int32) (x5 : Int32) (x6 : Int32) (x7 : Int32) (x8 : Int32) (x9 : Int32) (I : pm_II) (J : pm_JJ) (r : Unit) (I2 : pm_II) (J2 : pm_JJ), F_Ty_layLine_73 u pa pb ga n x3 x5 x6 x7 x8 x9 I J = some (r, I2, J2) → Q none (hp I2 J2 (pm_RT pa pb ga)) → Px k 176 m_Ty_layLine 73 [.ref 48, .ref 17, .int x2, .int x3, .int x4, .int x5, .int x6, .int x7, .int x8, .int x9, .null, .null, .null] [] (hp I J (pm_RT pa pb ga)) Q := by
  obtain ⟨k, rfl⟩ : ∃ j, k = j + 1 := ⟨k - 1, by omega⟩
  intro n
  induction n with
  | zero => intro x2 x3 x4 x5 x6 x7 x8 x9 I J r I2 J2  hF; cases hF
  | succ n ih =>
    intro x2 x3 x4 x5 x6 x7 x8 x9 I J r I2 J2  hF hQ
    rw [F_Ty_layLine_73] at hF
    refine bk_Ty_layLine_73 ?_
    refine ⟨fun z => ?_, fun z => ?_⟩
    · rw [if_pos z] at hF
      exact fx_Ty_layLine_102 hk hpa hpb hga hF hQ
    · rw [if_neg z] at hF
      refine ⟨fun z => ?_, fun z => ?_⟩
      · rw [if_pos z] at hF
        exact fx_Ty_layLine_102 hk hpa hpb hga hF hQ
      · rw [if_neg z] at hF
        obtain ⟨g, hF⟩ := gd_e hF
        refine ⟨vq_in g, ?_⟩
        exact ih _ _ _ _ _ _ _ _ _ _ _ _ _ hF hQ
theorem fx_Ty_layLine {u k : Nat} {pa pb : Nat} {ga : Nat → Nat} {Q : Option Value → pm_H → Prop} {x2 : Int32} {x3 : Int32} {x4 : Int32} {I : pm_II} {J : pm_JJ} {r : Unit} {I2 : pm_II} {J2 : pm_JJ} (hk : 2 ≤ k) (hpa : oP pa) (hpb : oP pb) (hga : ∀ j, j < 16 → oT (ga j)) (hF : F_Ty_layLine u pa pb ga x2 x3 x4 I J = some (r, I2, J2)) (hQ : Q none (hp I2 J2 (pm_RT pa pb ga))) : Px k 176 m_Ty_layLine 0 [.ref 48, .ref 17, .int x2, .int x3, .int x4, .null, .null, .null, .null, .null, .null, .null, .null] [] (hp I J (pm_RT pa pb ga)) Q := by
  obtain ⟨k, rfl⟩ : ∃ j, k = j + 1 := ⟨k - 1, by omega⟩
  unfold F_Ty_layLine at hF
  refine bk_Ty_layLine_0 ?_
  refine ⟨fun z => ?_, fun z => ?_⟩
  · rw [if_pos z] at hF
    exact ret_q (Q := fun a b c => Q none (hp b c (pm_RT pa pb ga))) hF hQ
  · rw [if_neg z] at hF
    refine ⟨fun z => ?_, fun z => ?_⟩
    · rw [if_pos z] at hF
      exact ret_q (Q := fun a b c => Q none (hp b c (pm_RT pa pb ga))) hF hQ
    · rw [if_neg z] at hF
      refine ⟨fun z => ?_, fun z => ?_⟩
      · rw [if_pos z] at hF
        obtain ⟨g, hF⟩ := gd_e hF
        refine ⟨vq_in g, ?_⟩
        obtain ⟨g, hF⟩ := gd_e hF
        refine ⟨vq_in g, ?_⟩
        obtain ⟨r38, I38, J38, hC38, hF⟩ := bd_e hF
        refine fx_Jm_min_II (by omega) hC38 ⟨rfl, ?_⟩
        refine bk_Ty_layLine_41 ?_
        refine ⟨fun z => ?_, fun z => ?_⟩
        · rw [if_pos z] at hF
          exact fx_Ty_layLine_73 hk hpa hpb hga u _ _ _ _ _ _ _ _ _ _ _ _ _ hF hQ
        · rw [if_neg z] at hF
          exact fx_Ty_layLine_73 hk hpa hpb hga u _ _ _ _ _ _ _ _ _ _ _ _ _ hF hQ
      · rw [if_neg z] at hF
        exact ret_q (Q := fun a b c => Q none (hp b c (pm_RT pa pb ga))) hF hQ
def F_Ty_measureWords_46 (u : Nat) (K23 : Int32 → pm_II → pm_JJ → Option (Unit × pm_II × pm_JJ)) : Nat → Int32 → Int32 → pm_II → pm_JJ → Option (Unit × pm_II × pm_JJ)
  | 0, _, _, _, _ => none
  | n + 1, x2, x3, I, J =>
    cond (vq x2 12) (
    if (I 53 ((x2 : Int32).toNatClampNeg)) ≤ x3 then (
      K23 (x2 + Int32.ofInt 1) I J)
    else (
      cond (vq x2 12) (
      bd (F_Ta_byteAt u ((I 52 ((x2 : Int32).toNatClampNeg)) + x3) I J) fun r65 I65 J65 =>
      if (r65 - (97 : Int32)) < 0 then (
        F_Ty_measureWords_46 u K23 n x2 (x3 + Int32.ofInt 1) I65 J65)
      else (
        if 26 ≤ (r65 - (97 : Int32)) then (
          F_Ty_measureWords_46 u K23 n x2 (x3 + Int32.ofInt 1) I65 J65)
        else (
          cond (vq (r65 - (97 : Int32)) 26) (
          cond (vq (r65 - (97 : Int32)) 26) (
          cond (vq x2 12) (
          cond (vq (r65 - (97 : Int32)) 26) (
          cond (vq x2 12) (
          F_Ty_measureWords_46 u K23 n x2 (x3 + Int32.ofInt 1) (pm_up (pm_up I65 51 (((r65 - (97 : Int32)) : Int32).toNatClampNeg) ((I65 51 (((r65 - (97 : Int32)) : Int32).toNatClampNeg)) + (1 : Int32))) 54 ((x2 : Int32).toNatClampNeg) ((I65 54 ((x2 : Int32).toNatClampNeg)) + (I65 50 (((r65 - (97 : Int32)) : Int32).toNatClampNeg)))) J65) none) none) none) none) none))) none)) none
def F_Ty_measureWords_124 (u : Nat) (I : pm_II) (J : pm_JJ) : Option (Unit × pm_II × pm_JJ) :=
  some ((), I, J)
def F_Ty_measureWords_23 (u : Nat) : Nat → Int32 → pm_II → pm_JJ → Option (Unit × pm_II × pm_JJ)
  | 0, _, _, _ => none
  | n + 1, x2, I, J =>
    if (I 48 8) ≤ x2 then (
      F_Ty_measureWords_124 u I J)
    else (
      if 12 ≤ x2 then (
        F_Ty_measureWords_124 u I J)
      else (
        cond (vq x2 12) (
        F_Ty_measureWords_46 u (F_Ty_measureWords_23 u n) u x2 (0 : Int32) (pm_up I 54 ((x2 : Int32).toNatClampNeg) 0) J) none))
def F_Ty_measureWords_2 (u : Nat) : Nat → Int32 → pm_II → pm_JJ → Option (Unit × pm_II × pm_JJ)
  | 0, _, _, _ => none
  | n + 1, x2, I, J =>
    if 26 ≤ x2 then (
      F_Ty_measureWords_23 u u (0 : Int32) I J)
    else (
      cond (vq x2 26) (
      F_Ty_measureWords_2 u n (x2 + Int32.ofInt 1) (pm_up I 51 ((x2 : Int32).toNatClampNeg) 0) J) none)
def F_Ty_measureWords (u : Nat) (I : pm_II) (J : pm_JJ) : Option (Unit × pm_II × pm_JJ) :=
  F_Ty_measureWords_2 u u (0 : Int32) I J
theorem fx_Ty_measureWords_46 {u k : Nat} {pa pb : Nat} {ga : Nat → Nat} {Q : Option Value → pm_H → Prop} {K23 : Int32 → pm_II → pm_JJ → Option (Unit × pm_II × pm_JJ)} (hk : 1 ≤ k) (hK23 : ∀ (x2 : Int32) (I : pm_II) (J : pm_JJ) (r : Unit) (I2 : pm_II) (J2 : pm_JJ), K23 x2 I J = some (r, I2, J2) → Q none (hp I2 J2 (pm_RT pa pb ga)) → Px k 176 m_Ty_measureWords 23 [.ref 48, .ref 17, .int x2, .null, .null] [] (hp I J (pm_RT pa pb ga)) Q) : ∀ (n : Nat), ∀ (x2 : Int32) (x3 : Int32) (I : pm_II) (J : pm_JJ) (r : Unit) (I2 : pm_II) (J2 : pm_JJ), F_Ty_measureWords_46 u K23 n x2 x3 I J = some (r, I2, J2) → Q none (hp I2 J2 (pm_RT pa pb ga)) → Px k 176 m_Ty_measureWords 46 [.ref 48, .ref 17, .int x2, .int x3, .null] [] (hp I J (pm_RT pa pb ga)) Q := by
  obtain ⟨k, rfl⟩ : ∃ j, k = j + 1 := ⟨k - 1, by omega⟩
  intro n
  induction n with
  | zero => intro x2 x3 I J r I2 J2  hF; cases hF
  | succ n ih =>
    intro x2 x3 I J r I2 J2  hF hQ
    rw [F_Ty_measureWords_46] at hF
    refine bk_Ty_measureWords_46 ?_
    obtain ⟨g, hF⟩ := gd_e hF
    refine ⟨vq_in g, ?_⟩
    refine ⟨fun z => ?_, fun z => ?_⟩
    · rw [if_pos z] at hF
      exact Px_wk (hK23 _ _ _ _ _ _ hF hQ) ⟨Or.inl rfl, Or.inl rfl, Or.inl rfl, Or.inr ⟨rfl, rfl⟩, Or.inl rfl, trivial⟩
    · rw [if_neg z] at hF
      obtain ⟨g, hF⟩ := gd_e hF
      refine ⟨vq_in g, ?_⟩
      obtain ⟨r65, I65, J65, hC65, hF⟩ := bd_e hF
      refine fx_Ta_byteAt (by omega) hC65 ⟨rfl, ?_⟩
      refine bk_Ty_measureWords_68 ?_
      refine ⟨fun z => ?_, fun z => ?_⟩
      · rw [if_pos z] at hF
        exact Px_wk (ih _ _ _ _ _ _ _ hF hQ) ⟨Or.inl rfl, Or.inl rfl, Or.inl rfl, Or.inl rfl, Or.inr ⟨rfl, rfl⟩, trivial⟩
      · rw [if_neg z] at hF
        refine ⟨fun z => ?_, fun z => ?_⟩
        · rw [if_pos z] at hF
          exact Px_wk (ih _ _ _ _ _ _ _ hF hQ) ⟨Or.inl rfl, Or.inl rfl, Or.inl rfl, Or.inl rfl, Or.inr ⟨rfl, rfl⟩, trivial⟩
        · rw [if_neg z] at hF
          obtain ⟨g, hF⟩ := gd_e hF
          refine ⟨vq_in g, ?_⟩
          obtain ⟨g, hF⟩ := gd_e hF
          refine ⟨vq_in g, ?_⟩
          obtain ⟨g, hF⟩ := gd_e hF
          refine ⟨vq_in g, ?_⟩
          obtain ⟨g, hF⟩ := gd_e hF
          refine ⟨vq_in g, ?_⟩
          obtain ⟨g, hF⟩ := gd_e hF
          refine ⟨vq_in g, ?_⟩
          exact Px_wk (ih _ _ _ _ _ _ _ hF hQ) ⟨Or.inl rfl, Or.inl rfl, Or.inl rfl, Or.inl rfl, Or.inr ⟨rfl, rfl⟩, trivial⟩
theorem fx_Ty_measureWords_124 {u k : Nat} {pa pb : Nat} {ga : Nat → Nat} {Q : Option Value → pm_H → Prop} {x2 : Int32} {I : pm_II} {J : pm_JJ} {r : Unit} {I2 : pm_II} {J2 : pm_JJ} (hk : 1 ≤ k) (hF : F_Ty_measureWords_124 u  I J = some (r, I2, J2)) (hQ : Q none (hp I2 J2 (pm_RT pa pb ga))) : Px k 176 m_Ty_measureWords 124 [.ref 48, .ref 17, .int x2, .null, .null] [] (hp I J (pm_RT pa pb ga)) Q := by
  obtain ⟨k, rfl⟩ : ∃ j, k = j + 1 := ⟨k - 1, by omega⟩
  unfold F_Ty_measureWords_124 at hF
  refine bk_Ty_measureWords_124 ?_
  exact ret_q (Q := fun a b c => Q none (hp b c (pm_RT pa pb ga))) hF hQ
theorem fx_Ty_measureWords_23 {u k : Nat} {pa pb : Nat} {ga : Nat → Nat} {Q : Option Value → pm_H → Prop} (hk : 1 ≤ k) : ∀ (n : Nat), ∀ (x2 : Int32) (I : pm_II) (J : pm_JJ) (r : Unit) (I2 : pm_II) (J2 : pm_JJ), F_Ty_measureWords_23 u n x2 I J = some (r, I2, J2) → Q none (hp I2 J2 (pm_RT pa pb ga)) → Px k 176 m_Ty_measureWords 23 [.ref 48, .ref 17, .int x2, .null, .null] [] (hp I J (pm_RT pa pb ga)) Q := by
  obtain ⟨k, rfl⟩ : ∃ j, k = j + 1 := ⟨k - 1, by omega⟩
  intro n
  induction n with
  | zero => intro x2 I J r I2 J2  hF; cases hF
  | succ n ih =>
    intro x2 I J r I2 J2  hF hQ
    rw [F_Ty_measureWords_23] at hF
    refine bk_Ty_measureWords_23 ?_
    refine ⟨fun z => ?_, fun z => ?_⟩
    · rw [if_pos z] at hF
      exact fx_Ty_measureWords_124 hk hF hQ
    · rw [if_neg z] at hF
      refine ⟨fun z => ?_, fun z => ?_⟩
      · rw [if_pos z] at hF
        exact fx_Ty_measureWords_124 hk hF hQ
      · rw [if_neg z] at hF
        obtain ⟨g, hF⟩ := gd_e hF
        refine ⟨vq_in g, ?_⟩
        exact fx_Ty_measureWords_46 hk ih u _ _ _ _ _ _ _ hF hQ
theorem fx_Ty_measureWords_2 {u k : Nat} {pa pb : Nat} {ga : Nat → Nat} {Q : Option Value → pm_H → Prop} (hk : 1 ≤ k) : ∀ (n : Nat), ∀ (x2 : Int32) (I : pm_II) (J : pm_JJ) (r : Unit) (I2 : pm_II) (J2 : pm_JJ), F_Ty_measureWords_2 u n x2 I J = some (r, I2, J2) → Q none (hp I2 J2 (pm_RT pa pb ga)) → Px k 176 m_Ty_measureWords 2 [.ref 48, .ref 17, .int x2, .null, .null] [] (hp I J (pm_RT pa pb ga)) Q := by
  obtain ⟨k, rfl⟩ : ∃ j, k = j + 1 := ⟨k - 1, by omega⟩
  intro n
  induction n with
  | zero => intro x2 I J r I2 J2  hF; cases hF
  | succ n ih =>
    intro x2 I J r I2 J2  hF hQ
    rw [F_Ty_measureWords_2] at hF
    refine bk_Ty_measureWords_2 ?_
    refine ⟨fun z => ?_, fun z => ?_⟩
    · rw [if_pos z] at hF
      exact fx_Ty_measureWords_23 hk u _ _ _ _ _ _ hF hQ
    · rw [if_neg z] at hF
      obtain ⟨g, hF⟩ := gd_e hF
      refine ⟨vq_in g, ?_⟩
      exact ih _ _ _ _ _ _ hF hQ
theorem fx_Ty_measureWords {u k : Nat} {pa pb : Nat} {ga : Nat → Nat} {Q : Option Value → pm_H → Prop} {I : pm_II} {J : pm_JJ} {r : Unit} {I2 : pm_II} {J2 : pm_JJ} (hk : 1 ≤ k) (hF : F_Ty_measureWords u  I J = some (r, I2, J2)) (hQ : Q none (hp I2 J2 (pm_RT pa pb ga))) : Px k 176 m_Ty_measureWords 0 [.ref 48, .ref 17, .null, .null, .null] [] (hp I J (pm_RT pa pb ga)) Q := by
  obtain ⟨k, rfl⟩ : ∃ j, k = j + 1 := ⟨k - 1, by omega⟩
  unfold F_Ty_measureWords at hF
  refine bk_Ty_measureWords_0 ?_
  exact fx_Ty_measureWords_2 hk u _ _ _ _ _ _ hF hQ
def F_Ty_readWords_62 (u : Nat) (I : pm_II) (J : pm_JJ) : Option (Unit × pm_II × pm_JJ) :=
  bd (F_Ta_expect u (10 : Int32) I J) fun _ I65 J65 =>
  bd (F_Ta_finish u I65 J65) fun _ I69 J69 =>
  some ((), I69, J69)
def F_Ty_readWords_5 (u : Nat) : Nat → pm_II → pm_JJ → Option (Unit × pm_II × pm_JJ)
  | 0, _, _ => none
  | n + 1, I, J =>
    bd (F_Ta_place u I J) fun r14 I14 J14 =>
    cond (vq (I 48 8) 12) (
    bd (F_Ta_readLetters u (12 : Int32) (0 : Int32) (pm_up I14 52 (((I 48 8) : Int32).toNatClampNeg) r14) J14) fun r30 I30 J30 =>
    cond (vq (I14 48 8) 12) (
    if 12 ≤ ((I30 48 8) + (1 : Int32)) then (
      F_Ty_readWords_62 u (pm_up (pm_up I30 53 (((I14 48 8) : Int32).toNatClampNeg) r30) 48 8 ((I30 48 8) + (1 : Int32))) J30)
    else (
      bd (F_Ta_takes u (32 : Int32) (pm_up (pm_up I30 53 (((I14 48 8) : Int32).toNatClampNeg) r30) 48 8 ((I30 48 8) + (1 : Int32))) J30) fun r56 I56 J56 =>
      if ¬ r56 = 0 then (
        F_Ty_readWords_5 u n I56 J56)
      else (
        F_Ty_readWords_62 u I56 J56))) none) none
def F_Ty_readWords (u : Nat) (I : pm_II) (J : pm_JJ) : Option (Unit × pm_II × pm_JJ) :=
  F_Ty_readWords_5 u u (pm_up I 48 8 0) J
theorem fx_Ty_readWords_62 {u k : Nat} {pa pb : Nat} {ga : Nat → Nat} {Q : Option Value → pm_H → Prop} {I : pm_II} {J : pm_JJ} {r : Unit} {I2 : pm_II} {J2 : pm_JJ} (hk : 3 ≤ k) (hF : F_Ty_readWords_62 u  I J = some (r, I2, J2)) (hQ : Q none (hp I2 J2 (pm_RT pa pb ga))) : Px k 176 m_Ty_readWords 62 [.ref 48, .ref 17] [] (hp I J (pm_RT pa pb ga)) Q := by
  obtain ⟨k, rfl⟩ : ∃ j, k = j + 1 := ⟨k - 1, by omega⟩
  unfold F_Ty_readWords_62 at hF
  refine bk_Ty_readWords_62 ?_
  obtain ⟨r65, I65, J65, hC65, hF⟩ := bd_e hF
  refine fx_Ta_expect (by omega) hC65 ⟨rfl, ?_⟩
  refine bk_Ty_readWords_68 ?_
  obtain ⟨r69, I69, J69, hC69, hF⟩ := bd_e hF
  refine fx_Ta_finish (by omega) hC69 ⟨rfl, ?_⟩
  refine bk_Ty_readWords_72 ?_
  exact ret_q (Q := fun a b c => Q none (hp b c (pm_RT pa pb ga))) hF hQ
theorem fx_Ty_readWords_5 {u k : Nat} {pa pb : Nat} {ga : Nat → Nat} {Q : Option Value → pm_H → Prop} (hk : 3 ≤ k) : ∀ (n : Nat), ∀  (I : pm_II) (J : pm_JJ) (r : Unit) (I2 : pm_II) (J2 : pm_JJ), F_Ty_readWords_5 u n I J = some (r, I2, J2) → Q none (hp I2 J2 (pm_RT pa pb ga)) → Px k 176 m_Ty_readWords 5 [.ref 48, .ref 17] [] (hp I J (pm_RT pa pb ga)) Q := by
  obtain ⟨k, rfl⟩ : ∃ j, k = j + 1 := ⟨k - 1, by omega⟩
  intro n
  induction n with
  | zero => intro  I J r I2 J2  hF; cases hF
  | succ n ih =>
    intro  I J r I2 J2  hF hQ
    rw [F_Ty_readWords_5] at hF
    refine bk_Ty_readWords_5 ?_
    obtain ⟨r14, I14, J14, hC14, hF⟩ := bd_e hF
    refine fx_Ta_place (by omega) hC14 ⟨rfl, ?_⟩
    refine bk_Ty_readWords_17 ?_
    obtain ⟨g, hF⟩ := gd_e hF
    refine ⟨vq_in g, ?_⟩
    obtain ⟨r30, I30, J30, hC30, hF⟩ := bd_e hF
    refine fx_Ta_readLetters (by omega) hC30 ⟨rfl, ?_⟩
    refine bk_Ty_readWords_33 ?_
    obtain ⟨g, hF⟩ := gd_e hF
    refine ⟨vq_in g, ?_⟩
    refine ⟨fun z => ?_, fun z => ?_⟩
    · rw [if_pos z] at hF
      exact fx_Ty_readWords_62 hk hF hQ
    · rw [if_neg z] at hF
      obtain ⟨r56, I56, J56, hC56, hF⟩ := bd_e hF
      refine fx_Ta_takes (by omega) hC56 ⟨rfl, ?_⟩
      refine bk_Ty_readWords_59 ?_
      refine ⟨fun z => ?_, fun z => ?_⟩
      · rw [if_pos z] at hF
        exact ih _ _ _ _ _ hF hQ
      · rw [if_neg z] at hF
        exact fx_Ty_readWords_62 hk hF hQ
theorem fx_Ty_readWords {u k : Nat} {pa pb : Nat} {ga : Nat → Nat} {Q : Option Value → pm_H → Prop} {I : pm_II} {J : pm_JJ} {r : Unit} {I2 : pm_II} {J2 : pm_JJ} (hk : 3 ≤ k) (hF : F_Ty_readWords u  I J = some (r, I2, J2)) (hQ : Q none (hp I2 J2 (pm_RT pa pb ga))) : Px k 176 m_Ty_readWords 0 [.ref 48, .ref 17] [] (hp I J (pm_RT pa pb ga)) Q := by
  obtain ⟨k, rfl⟩ : ∃ j, k = j + 1 := ⟨k - 1, by omega⟩
  unfold F_Ty_readWords at hF
  refine bk_Ty_readWords_0 ?_
  exact fx_Ty_readWords_5 hk u _ _ _ _ _ hF hQ
def F_Ty_wordsFit_34 (u : Nat) (I : pm_II) (J : pm_JJ) : Option (Int32 × pm_II × pm_JJ) :=
  some ((1 : Int32), I, J)
def F_Ty_wordsFit_2 (u : Nat) : Nat → Int32 → Int32 → pm_II → pm_JJ → Option (Int32 × pm_II × pm_JJ)
  | 0, _, _, _, _ => none
  | n + 1, x1, x2, I, J =>
    if (I 48 8) ≤ x2 then (
      F_Ty_wordsFit_34 u I J)
    else (
      if 12 ≤ x2 then (
        F_Ty_wordsFit_34 u I J)
      else (
        cond (vq x2 12) (
        if (I 54 ((x2 : Int32).toNatClampNeg)) ≤ x1 then (
          F_Ty_wordsFit_2 u n x1 (x2 + Int32.ofInt 1) I J)
        else (
          some ((0 : Int32), I, J))) none))
def F_Ty_wordsFit (u : Nat) (x1 : Int32) (I : pm_II) (J : pm_JJ) : Option (Int32 × pm_II × pm_JJ) :=
  F_Ty_wordsFit_2 u u x1 (0 : Int32) I J
theorem fx_Ty_wordsFit_34 {u k : Nat} {pa pb : Nat} {ga : Nat → Nat} {Q : Option Value → pm_H → Prop} {x1 : Int32} {x2 : Int32} {I : pm_II} {J : pm_JJ} {r : Int32} {I2 : pm_II} {J2 : pm_JJ} (hk : 0 ≤ k) (hF : F_Ty_wordsFit_34 u  I J = some (r, I2, J2)) (hQ : Q (some (.int r)) (hp I2 J2 (pm_RT pa pb ga))) : Px k 176 m_Ty_wordsFit 34 [.ref 48, .int x1, .int x2] [] (hp I J (pm_RT pa pb ga)) Q := by
  unfold F_Ty_wordsFit_34 at hF
  refine bk_Ty_wordsFit_34 ?_
  exact ret_q (Q := fun a b c => Q (some (.int a)) (hp b c (pm_RT pa pb ga))) hF hQ
theorem fx_Ty_wordsFit_2 {u k : Nat} {pa pb : Nat} {ga : Nat → Nat} {Q : Option Value → pm_H → Prop} (hk : 0 ≤ k) : ∀ (n : Nat), ∀ (x1 : Int32) (x2 : Int32) (I : pm_II) (J : pm_JJ) (r : Int32) (I2 : pm_II) (J2 : pm_JJ), F_Ty_wordsFit_2 u n x1 x2 I J = some (r, I2, J2) → Q (some (.int r)) (hp I2 J2 (pm_RT pa pb ga)) → Px k 176 m_Ty_wordsFit 2 [.ref 48, .int x1, .int x2] [] (hp I J (pm_RT pa pb ga)) Q := by
  intro n
  induction n with
  | zero => intro x1 x2 I J r I2 J2  hF; cases hF
  | succ n ih =>
    intro x1 x2 I J r I2 J2  hF hQ
    rw [F_Ty_wordsFit_2] at hF
    refine bk_Ty_wordsFit_2 ?_
    refine ⟨fun z => ?_, fun z => ?_⟩
    · rw [if_pos z] at hF
      exact fx_Ty_wordsFit_34 hk hF hQ
    · rw [if_neg z] at hF
      refine ⟨fun z => ?_, fun z => ?_⟩
      · rw [if_pos z] at hF
        exact fx_Ty_wordsFit_34 hk hF hQ
      · rw [if_neg z] at hF
        obtain ⟨g, hF⟩ := gd_e hF
        refine ⟨vq_in g, ?_⟩
        refine ⟨fun z => ?_, fun z => ?_⟩
        · rw [if_pos z] at hF
          exact ih _ _ _ _ _ _ _ hF hQ
        · rw [if_neg z] at hF
          exact ret_q (Q := fun a b c => Q (some (.int a)) (hp b c (pm_RT pa pb ga))) hF hQ
theorem fx_Ty_wordsFit {u k : Nat} {pa pb : Nat} {ga : Nat → Nat} {Q : Option Value → pm_H → Prop} {x1 : Int32} {I : pm_II} {J : pm_JJ} {r : Int32} {I2 : pm_II} {J2 : pm_JJ} (hk : 0 ≤ k) (hF : F_Ty_wordsFit u x1 I J = some (r, I2, J2)) (hQ : Q (some (.int r)) (hp I2 J2 (pm_RT pa pb ga))) : Px k 176 m_Ty_wordsFit 0 [.ref 48, .int x1, .null] [] (hp I J (pm_RT pa pb ga)) Q := by
  unfold F_Ty_wordsFit at hF
  refine bk_Ty_wordsFit_0 ?_
  exact fx_Ty_wordsFit_2 hk u _ _ _ _ _ _ _ hF hQ
def F_Ty_takeText_81 (u : Nat) (pa pb : Nat) (ga : Nat → Nat) (K58 : Int32 → Int32 → Int32 → pm_II → pm_JJ → Option (Int32 × pm_II × pm_JJ)) (x2 : Int32) (x3 : Int32) (x4 : Int32) (s2 : Int32) (s3 : Int32) (I : pm_II) (J : pm_JJ) : Option (Int32 × pm_II × pm_JJ) :=
  bd (F_Ty_layLine u pa pb ga s2 s3 x2 I J) fun _ I82 J82 =>
  K58 x2 x3 (x4 + Int32.ofInt 1) I82 J82
def F_Ty_takeText_94 (u : Nat) (pa pb : Nat) (ga : Nat → Nat) : Nat → Int32 → Int32 → pm_II → pm_JJ → Option (Int32 × pm_II × pm_JJ)
  | 0, _, _, _, _ => none
  | n + 1, x3, x4, I, J =>
    if 26 ≤ x4 then (
      some (x3, I, J))
    else (
      cond (vq x4 26) (
      cond (vq x4 26) (
      cond (vq x4 26) (
      F_Ty_takeText_94 u pa pb ga n x3 (x4 + Int32.ofInt 1) (pm_up I 49 ((x4 : Int32).toNatClampNeg) ((I 49 ((x4 : Int32).toNatClampNeg)) - (I 51 ((x4 : Int32).toNatClampNeg)))) J) none) none) none)
def F_Ty_takeText_58 (u : Nat) (pa pb : Nat) (ga : Nat → Nat) : Nat → Int32 → Int32 → Int32 → pm_II → pm_JJ → Option (Int32 × pm_II × pm_JJ)
  | 0, _, _, _, _, _ => none
  | n + 1, x2, x3, x4, I, J =>
    if x3 ≤ x4 then (
      F_Ty_takeText_94 u pa pb ga u x3 (0 : Int32) I J)
    else (
      if ¬ x4 = (x3 - (1 : Int32)) then (
        F_Ty_takeText_81 u pa pb ga (F_Ty_takeText_58 u pa pb ga n) x2 x3 x4 x4 (0 : Int32) I J)
      else (
        F_Ty_takeText_81 u pa pb ga (F_Ty_takeText_58 u pa pb ga n) x2 x3 x4 x4 (1 : Int32) I J))
def F_Ty_takeText (u : Nat) (pa pb : Nat) (ga : Nat → Nat) (x2 : Int32) (I : pm_II) (J : pm_JJ) : Option (Int32 × pm_II × pm_JJ) :=
  bd (F_Ty_readWords u I J) fun _ I2 J2 =>
  bd (F_Ta_isRight u I2 J2) fun r6 I6 J6 =>
  if ¬ r6 = 0 then (
    bd (F_Ty_measureWords u I6 J6) fun _ I16 J16 =>
    bd (F_Ty_enoughSorts u I16 J16) fun r20 I20 J20 =>
    if r20 = 0 then (
      some ((0 : Int32), I20, J20))
    else (
      bd (F_Ty_wordsFit u x2 I20 J20) fun r28 I28 J28 =>
      if ¬ r28 = 0 then (
        bd (F_Ty_breakLines u x2 I28 J28) fun r38 I38 J38 =>
        if ((I38 48 9) + r38) ≤ 16 then (
          F_Ty_takeText_58 u pa pb ga u x2 r38 (0 : Int32) I38 J38)
        else (
          some ((0 : Int32), I38, J38)))
      else (
        some ((0 : Int32), I28, J28))))
  else (
    some (((-1) : Int32), I6, J6))
theorem fx_Ty_takeText_81 {u k : Nat} {pa pb : Nat} {ga : Nat → Nat} {Q : Option Value → pm_H → Prop} {K58 : Int32 → Int32 → Int32 → pm_II → pm_JJ → Option (Int32 × pm_II × pm_JJ)} {x2 : Int32} {x3 : Int32} {x4 : Int32} {s2 : Int32} {s3 : Int32} {I : pm_II} {J : pm_JJ} {r : Int32} {I2 : pm_II} {J2 : pm_JJ} (hk : 4 ≤ k) (hpa : oP pa) (hpb : oP pb) (hga : ∀ j, j < 16 → oT (ga j)) (hK58 : ∀ (x2 : Int32) (x3 : Int32) (x4 : Int32) (I : pm_II) (J : pm_JJ) (r : Int32) (I2 : pm_II) (J2 : pm_JJ), K58 x2 x3 x4 I J = some (r, I2, J2) → Q (some (.int r)) (hp I2 J2 (pm_RT pa pb ga)) → Px k 176 m_Ty_takeText 58 [.ref 48, .ref 17, .int x2, .int x3, .int x4] [] (hp I J (pm_RT pa pb ga)) Q) (hF : F_Ty_takeText_81 u pa pb ga K58 x2 x3 x4 s2 s3 I J = some (r, I2, J2)) (hQ : Q (some (.int r)) (hp I2 J2 (pm_RT pa pb ga))) : Px k 176 m_Ty_takeText 81 [.ref 48, .ref 17, .int x2, .int x3, .int x4] [.int s3, .int s2, .ref 17, .ref 48] (hp I J (pm_RT pa pb ga)) Q := by
  obtain ⟨k, rfl⟩ : ∃ j, k = j + 1 := ⟨k - 1, by omega⟩
  unfold F_Ty_takeText_81 at hF
  refine bk_Ty_takeText_81 ?_
  obtain ⟨r82, I82, J82, hC82, hF⟩ := bd_e hF
  refine fx_Ty_layLine (by omega) hpa hpb hga hC82 ⟨rfl, ?_⟩
  refine bk_Ty_takeText_85 ?_
  exact hK58 _ _ _ _ _ _ _ _ hF hQ
theorem fx_Ty_takeText_94 {u k : Nat} {pa pb : Nat} {ga : Nat → Nat} {Q : Option Value → pm_H → Prop} (hk : 4 ≤ k) (hpa : oP pa) (hpb : oP pb) (hga : ∀ j, j < 16 → oT (ga j)) : ∀ (n : Nat), ∀ (x2 : Int32) (x3 : Int32) (x4 : Int32) (I : pm_II) (J : pm_JJ) (r : Int32) (I2 : pm_II) (J2 : pm_JJ), F_Ty_takeText_94 u pa pb ga n x3 x4 I J = some (r, I2, J2) → Q (some (.int r)) (hp I2 J2 (pm_RT pa pb ga)) → Px k 176 m_Ty_takeText 94 [.ref 48, .ref 17, .int x2, .int x3, .int x4] [] (hp I J (pm_RT pa pb ga)) Q := by
  obtain ⟨k, rfl⟩ : ∃ j, k = j + 1 := ⟨k - 1, by omega⟩
  intro n
  induction n with
  | zero => intro x2 x3 x4 I J r I2 J2  hF; cases hF
  | succ n ih =>
    intro x2 x3 x4 I J r I2 J2  hF hQ
    rw [F_Ty_takeText_94] at hF
    refine bk_Ty_takeText_94 ?_
    refine ⟨fun z => ?_, fun z => ?_⟩
    · rw [if_pos z] at hF
      exact ret_q (Q := fun a b c => Q (some (.int a)) (hp b c (pm_RT pa pb ga))) hF hQ
    · rw [if_neg z] at hF
      obtain ⟨g, hF⟩ := gd_e hF
      refine ⟨vq_in g, ?_⟩
      obtain ⟨g, hF⟩ := gd_e hF
      refine ⟨vq_in g, ?_⟩
      obtain ⟨g, hF⟩ := gd_e hF
      refine ⟨vq_in g, ?_⟩
      exact ih _ _ _ _ _ _ _ _ hF hQ
theorem fx_Ty_takeText_58 {u k : Nat} {pa pb : Nat} {ga : Nat → Nat} {Q : Option Value → pm_H → Prop} (hk : 4 ≤ k) (hpa : oP pa) (hpb : oP pb) (hga : ∀ j, j < 16 → oT (ga j)) : ∀ (n : Nat), ∀ (x2 : Int32) (x3 : Int32) (x4 : Int32) (I : pm_II) (J : pm_JJ) (r : Int32) (I2 : pm_II) (J2 : pm_JJ), F_Ty_takeText_58 u pa pb ga n x2 x3 x4 I J = some (r, I2, J2) → Q (some (.int r)) (hp I2 J2 (pm_RT pa pb ga)) → Px k 176 m_Ty_takeText 58 [.ref 48, .ref 17, .int x2, .int x3, .int x4] [] (hp I J (pm_RT pa pb ga)) Q := by
  obtain ⟨k, rfl⟩ : ∃ j, k = j + 1 := ⟨k - 1, by omega⟩
  intro n
  induction n with
  | zero => intro x2 x3 x4 I J r I2 J2  hF; cases hF
  | succ n ih =>
    intro x2 x3 x4 I J r I2 J2  hF hQ
    rw [F_Ty_takeText_58] at hF
    refine bk_Ty_takeText_58 ?_
    refine ⟨fun z => ?_, fun z => ?_⟩
    · rw [if_pos z] at hF
      exact fx_Ty_takeText_94 hk hpa hpb hga u _ _ _ _ _ _ _ _ hF hQ
    · rw [if_neg z] at hF
      refine ⟨fun z => ?_, fun z => ?_⟩
      · rw [if_pos z] at hF
        exact fx_Ty_takeText_81 hk hpa hpb hga ih hF hQ
      · rw [if_neg z] at hF
        exact fx_Ty_takeText_81 hk hpa hpb hga ih hF hQ
theorem fx_Ty_takeText {u k : Nat} {pa pb : Nat} {ga : Nat → Nat} {Q : Option Value → pm_H → Prop} {x2 : Int32} {I : pm_II} {J : pm_JJ} {r : Int32} {I2 : pm_II} {J2 : pm_JJ} (hk : 4 ≤ k) (hpa : oP pa) (hpb : oP pb) (hga : ∀ j, j < 16 → oT (ga j)) (hF : F_Ty_takeText u pa pb ga x2 I J = some (r, I2, J2)) (hQ : Q (some (.int r)) (hp I2 J2 (pm_RT pa pb ga))) : Px k 176 m_Ty_takeText 0 [.ref 48, .ref 17, .int x2, .null, .null] [] (hp I J (pm_RT pa pb ga)) Q := by
  obtain ⟨k, rfl⟩ : ∃ j, k = j + 1 := ⟨k - 1, by omega⟩
  unfold F_Ty_takeText at hF
  refine bk_Ty_takeText_0 ?_
  obtain ⟨r2, I2, J2, hC2, hF⟩ := bd_e hF
  refine fx_Ty_readWords (by omega) hC2 ⟨rfl, ?_⟩
  refine bk_Ty_takeText_5 ?_
  obtain ⟨r6, I6, J6, hC6, hF⟩ := bd_e hF
  refine fx_Ta_isRight (by omega) hC6 ⟨rfl, ?_⟩
  refine bk_Ty_takeText_9 ?_
  refine ⟨fun z => ?_, fun z => ?_⟩
  · rw [if_pos z] at hF
    obtain ⟨r16, I16, J16, hC16, hF⟩ := bd_e hF
    refine fx_Ty_measureWords (by omega) hC16 ⟨rfl, ?_⟩
    refine bk_Ty_takeText_19 ?_
    obtain ⟨r20, I20, J20, hC20, hF⟩ := bd_e hF
    refine fx_Ty_enoughSorts (by omega) hC20 ⟨rfl, ?_⟩
    refine bk_Ty_takeText_23 ?_
    refine ⟨fun z => ?_, fun z => ?_⟩
    · rw [if_pos z] at hF
      exact ret_q (Q := fun a b c => Q (some (.int a)) (hp b c (pm_RT pa pb ga))) hF hQ
    · rw [if_neg z] at hF
      obtain ⟨r28, I28, J28, hC28, hF⟩ := bd_e hF
      refine fx_Ty_wordsFit (by omega) hC28 ⟨rfl, ?_⟩
      refine bk_Ty_takeText_31 ?_
      refine ⟨fun z => ?_, fun z => ?_⟩
      · rw [if_pos z] at hF
        obtain ⟨r38, I38, J38, hC38, hF⟩ := bd_e hF
        refine fx_Ty_breakLines (by omega) hC38 ⟨rfl, ?_⟩
        refine bk_Ty_takeText_41 ?_
        refine ⟨fun z => ?_, fun z => ?_⟩
        · rw [if_pos z] at hF
          exact fx_Ty_takeText_58 hk hpa hpb hga u _ _ _ _ _ _ _ _ hF hQ
        · rw [if_neg z] at hF
          exact ret_q (Q := fun a b c => Q (some (.int a)) (hp b c (pm_RT pa pb ga))) hF hQ
      · rw [if_neg z] at hF
        exact ret_q (Q := fun a b c => Q (some (.int a)) (hp b c (pm_RT pa pb ga))) hF hQ
  · rw [if_neg z] at hF
    exact ret_q (Q := fun a b c => Q (some (.int a)) (hp b c (pm_RT pa pb ga))) hF hQ
def F_Ty_stands (u : Nat) (x1 : Int32) (I : pm_II) (J : pm_JJ) : Option (Int32 × pm_II × pm_JJ) :=
  if x1 < 0 then (
    some ((0 : Int32), I, J))
  else (
    if (I 48 9) ≤ x1 then (
      some ((0 : Int32), I, J))
    else (
      if 16 ≤ x1 then (
        some ((0 : Int32), I, J))
      else (
        some ((1 : Int32), I, J))))
theorem fx_Ty_stands {u k : Nat} {pa pb : Nat} {ga : Nat → Nat} {Q : Option Value → pm_H → Prop} {x1 : Int32} {I : pm_II} {J : pm_JJ} {r : Int32} {I2 : pm_II} {J2 : pm_JJ} (hk : 0 ≤ k) (hF : F_Ty_stands u x1 I J = some (r, I2, J2)) (hQ : Q (some (.int r)) (hp I2 J2 (pm_RT pa pb ga))) : Px k 176 m_Ty_stands 0 [.ref 48, .int x1] [] (hp I J (pm_RT pa pb ga)) Q := by
  unfold F_Ty_stands at hF
  refine bk_Ty_stands_0 ?_
  refine ⟨fun z => ?_, fun z => ?_⟩
  · rw [if_pos z] at hF
    exact ret_q (Q := fun a b c => Q (some (.int a)) (hp b c (pm_RT pa pb ga))) hF hQ
  · rw [if_neg z] at hF
    refine ⟨fun z => ?_, fun z => ?_⟩
    · rw [if_pos z] at hF
      exact ret_q (Q := fun a b c => Q (some (.int a)) (hp b c (pm_RT pa pb ga))) hF hQ
    · rw [if_neg z] at hF
      refine ⟨fun z => ?_, fun z => ?_⟩
      · rw [if_pos z] at hF
        exact ret_q (Q := fun a b c => Q (some (.int a)) (hp b c (pm_RT pa pb ga))) hF hQ
      · rw [if_neg z] at hF
        exact ret_q (Q := fun a b c => Q (some (.int a)) (hp b c (pm_RT pa pb ga))) hF hQ
def F_Tl_length (u : Nat) (a0 : Nat) (I : pm_II) (J : pm_JJ) : Option (Int32 × pm_II × pm_JJ) :=
  some ((I a0 1), I, J)
theorem fx_Tl_length {u k : Nat} {pa pb : Nat} {ga : Nat → Nat} {Q : Option Value → pm_H → Prop} {a0 : Nat} {I : pm_II} {J : pm_JJ} {r : Int32} {I2 : pm_II} {J2 : pm_JJ} (hk : 0 ≤ k) (ha0 : oT a0) (hF : F_Tl_length u a0 I J = some (r, I2, J2)) (hQ : Q (some (.int r)) (hp I2 J2 (pm_RT pa pb ga))) : Px k 176 m_Tl_length 0 [.ref a0] [] (hp I J (pm_RT pa pb ga)) Q := by
  unfold F_Tl_length at hF
  refine bk_Tl_length_0 ?_
  refine ⟨oT_ob ha0, ?_⟩
  exact ret_q (Q := fun a b c => Q (some (.int a)) (hp b c (pm_RT pa pb ga))) hF hQ
def F_Tl_letterAt (u : Nat) (a0 : Nat) (x1 : Int32) (I : pm_II) (J : pm_JJ) : Option (Int32 × pm_II × pm_JJ) :=
  if x1 < 0 then (
    some ((0 : Int32), I, J))
  else (
    if (I a0 1) ≤ x1 then (
      some ((0 : Int32), I, J))
    else (
      cond (vq x1 155) (
      bd (F_Jm_max u (0 : Int32) (I (a0 + 1) ((x1 : Int32).toNatClampNeg)) I J) fun r19 I19 J19 =>
      some (r19, I19, J19)) none))
theorem fx_Tl_letterAt {u k : Nat} {pa pb : Nat} {ga : Nat → Nat} {Q : Option Value → pm_H → Prop} {a0 : Nat} {x1 : Int32} {I : pm_II} {J : pm_JJ} {r : Int32} {I2 : pm_II} {J2 : pm_JJ} (hk : 1 ≤ k) (ha0 : oT a0) (hF : F_Tl_letterAt u a0 x1 I J = some (r, I2, J2)) (hQ : Q (some (.int r)) (hp I2 J2 (pm_RT pa pb ga))) : Px k 176 m_Tl_letterAt 0 [.ref a0, .int x1] [] (hp I J (pm_RT pa pb ga)) Q := by
  obtain ⟨k, rfl⟩ : ∃ j, k = j + 1 := ⟨k - 1, by omega⟩
  unfold F_Tl_letterAt at hF
  refine bk_Tl_letterAt_0 ?_
  refine ⟨fun z => ?_, fun z => ?_⟩
  · rw [if_pos z] at hF
    exact ret_q (Q := fun a b c => Q (some (.int a)) (hp b c (pm_RT pa pb ga))) hF hQ
  · rw [if_neg z] at hF
    refine ⟨oT_ob ha0, ?_⟩
    refine ⟨fun z => ?_, fun z => ?_⟩
    · rw [if_pos z] at hF
      exact ret_q (Q := fun a b c => Q (some (.int a)) (hp b c (pm_RT pa pb ga))) hF hQ
    · rw [if_neg z] at hF
      refine ⟨oT_ob ha0, ?_⟩
      refine ⟨oT_rt0 ha0, ?_⟩
      refine ⟨oT_ar1 ha0, ?_⟩
      obtain ⟨g, hF⟩ := gd_e hF
      refine ⟨(oT_in1 ha0 g), ?_⟩
      obtain ⟨r19, I19, J19, hC19, hF⟩ := bd_e hF
      refine fx_Jm_max (by omega) hC19 ⟨rfl, ?_⟩
      refine bk_Tl_letterAt_22 ?_
      exact ret_q (Q := fun a b c => Q (some (.int a)) (hp b c (pm_RT pa pb ga))) hF hQ
def F_Tl_tell (u : Nat) (a0 : Nat) (x1 : Int32) (I : pm_II) (J : pm_JJ) : Option (Int32 × pm_II × pm_JJ) :=
  if x1 = nI 0 then (
    some ((I a0 2), I, J))
  else   if x1 = nI 1 then (
    some ((I a0 3), I, J))
  else   if x1 = nI 2 then (
    some ((I a0 4), I, J))
  else   if x1 = nI 3 then (
    some ((I a0 5), I, J))
  else   if x1 = nI 4 then (
    some ((I a0 6), I, J))
  else (
    some (((-1) : Int32), I, J))
theorem fx_Tl_tell {u k : Nat} {pa pb : Nat} {ga : Nat → Nat} {Q : Option Value → pm_H → Prop} {a0 : Nat} {x1 : Int32} {I : pm_II} {J : pm_JJ} {r : Int32} {I2 : pm_II} {J2 : pm_JJ} (hk : 0 ≤ k) (ha0 : oT a0) (hF : F_Tl_tell u a0 x1 I J = some (r, I2, J2)) (hQ : Q (some (.int r)) (hp I2 J2 (pm_RT pa pb ga))) : Px k 176 m_Tl_tell 0 [.ref a0, .int x1] [] (hp I J (pm_RT pa pb ga)) Q := by
  unfold F_Tl_tell at hF
  refine bk_Tl_tell_0 ?_
  refine ⟨fun z => ?_, fun z => ?_, fun z => ?_, fun z => ?_, fun z => ?_, fun z => ?_⟩
  · rw [if_pos z] at hF
    refine ⟨oT_ob ha0, ?_⟩
    exact ret_q (Q := fun a b c => Q (some (.int a)) (hp b c (pm_RT pa pb ga))) hF hQ
  · rw [if_neg (by rw [z]; decide), if_pos z] at hF
    refine ⟨oT_ob ha0, ?_⟩
    exact ret_q (Q := fun a b c => Q (some (.int a)) (hp b c (pm_RT pa pb ga))) hF hQ
  · rw [if_neg (by rw [z]; decide), if_neg (by rw [z]; decide), if_pos z] at hF
    refine ⟨oT_ob ha0, ?_⟩
    exact ret_q (Q := fun a b c => Q (some (.int a)) (hp b c (pm_RT pa pb ga))) hF hQ
  · rw [if_neg (by rw [z]; decide), if_neg (by rw [z]; decide), if_neg (by rw [z]; decide), if_pos z] at hF
    refine ⟨oT_ob ha0, ?_⟩
    exact ret_q (Q := fun a b c => Q (some (.int a)) (hp b c (pm_RT pa pb ga))) hF hQ
  · rw [if_neg (by rw [z]; decide), if_neg (by rw [z]; decide), if_neg (by rw [z]; decide), if_neg (by rw [z]; decide), if_pos z] at hF
    refine ⟨oT_ob ha0, ?_⟩
    exact ret_q (Q := fun a b c => Q (some (.int a)) (hp b c (pm_RT pa pb ga))) hF hQ
  · rw [if_neg (sw_ne z (by decide) (by decide)), if_neg (sw_ne z (by decide) (by decide)), if_neg (sw_ne z (by decide) (by decide)), if_neg (sw_ne z (by decide) (by decide)), if_neg (sw_ne z (by decide) (by decide))] at hF
    exact ret_q (Q := fun a b c => Q (some (.int a)) (hp b c (pm_RT pa pb ga))) hF hQ
def F_Ty_tellLine (u : Nat) (pa pb : Nat) (ga : Nat → Nat) (x1 : Int32) (x2 : Int32) (I : pm_II) (J : pm_JJ) : Option (Int32 × pm_II × pm_JJ) :=
  bd (F_Ty_stands u x1 I J) fun r2 I2 J2 =>
  if r2 = 0 then (
    some (((-1) : Int32), I2, J2))
  else (
    cond (vq x1 16) (
    bd (F_Tl_tell u (ga ((x1 : Int32).toNatClampNeg)) x2 I2 J2) fun r15 I15 J15 =>
    some (r15, I15, J15)) none)
theorem fx_Ty_tellLine {u k : Nat} {pa pb : Nat} {ga : Nat → Nat} {Q : Option Value → pm_H → Prop} {x1 : Int32} {x2 : Int32} {I : pm_II} {J : pm_JJ} {r : Int32} {I2 : pm_II} {J2 : pm_JJ} (hk : 1 ≤ k) (hpa : oP pa) (hpb : oP pb) (hga : ∀ j, j < 16 → oT (ga j)) (hF : F_Ty_tellLine u pa pb ga x1 x2 I J = some (r, I2, J2)) (hQ : Q (some (.int r)) (hp I2 J2 (pm_RT pa pb ga))) : Px k 176 m_Ty_tellLine 0 [.ref 48, .int x1, .int x2] [] (hp I J (pm_RT pa pb ga)) Q := by
  obtain ⟨k, rfl⟩ : ∃ j, k = j + 1 := ⟨k - 1, by omega⟩
  unfold F_Ty_tellLine at hF
  refine bk_Ty_tellLine_0 ?_
  obtain ⟨r2, I2, J2, hC2, hF⟩ := bd_e hF
  refine fx_Ty_stands (by omega) hC2 ⟨rfl, ?_⟩
  refine bk_Ty_tellLine_5 ?_
  refine ⟨fun z => ?_, fun z => ?_⟩
  · rw [if_pos z] at hF
    exact ret_q (Q := fun a b c => Q (some (.int a)) (hp b c (pm_RT pa pb ga))) hF hQ
  · rw [if_neg z] at hF
    obtain ⟨g, hF⟩ := gd_e hF
    refine ⟨vq_in g, ?_⟩
    refine ⟨oT_ob (hga _ (vq_lt (by assumption))), ?_⟩
    obtain ⟨r15, I15, J15, hC15, hF⟩ := bd_e hF
    refine fx_Tl_tell (by omega) (hga _ (vq_lt (by assumption))) hC15 ⟨rfl, ?_⟩
    refine bk_Ty_tellLine_18 ?_
    exact ret_q (Q := fun a b c => Q (some (.int a)) (hp b c (pm_RT pa pb ga))) hF hQ
def F_Tl_backwards_47 (u : Nat) (s0 : Int32) (I : pm_II) (J : pm_JJ) : Option (Int32 × pm_II × pm_JJ) :=
  some (s0, I, J)
def F_Tl_backwards (u : Nat) (a0 : Nat) (x1 : Int32) (I : pm_II) (J : pm_JJ) : Option (Int32 × pm_II × pm_JJ) :=
  if x1 < 0 then (
    some (((-1) : Int32), I, J))
  else (
    if x1 < (I a0 1) then (
      cond (vq (((I a0 1) - (1 : Int32)) - x1) 155) (
      if (I (a0 + 1) (((((I a0 1) - (1 : Int32)) - x1) : Int32).toNatClampNeg)) ≤ 0 then (
        bd (F_Jm_min_II u (40 : Int32) (((30 : Int32) - (I (a0 + 1) (((((I a0 1) - (1 : Int32)) - x1) : Int32).toNatClampNeg))) - (3 : Int32)) I J) fun r44 I44 J44 =>
        F_Tl_backwards_47 u r44 I44 J44)
      else (
        F_Tl_backwards_47 u (I (a0 + 1) (((((I a0 1) - (1 : Int32)) - x1) : Int32).toNatClampNeg)) I J)) none)
    else (
      some (((-1) : Int32), I, J)))
theorem fx_Tl_backwards_47 {u k : Nat} {pa pb : Nat} {ga : Nat → Nat} {Q : Option Value → pm_H → Prop} {a0 : Nat} {x1 : Int32} {x2 : Int32} {s0 : Int32} {I : pm_II} {J : pm_JJ} {r : Int32} {I2 : pm_II} {J2 : pm_JJ} (hk : 1 ≤ k) (ha0 : oT a0) (hF : F_Tl_backwards_47 u s0 I J = some (r, I2, J2)) (hQ : Q (some (.int r)) (hp I2 J2 (pm_RT pa pb ga))) : Px k 176 m_Tl_backwards 47 [.ref a0, .int x1, .int x2] [.int s0] (hp I J (pm_RT pa pb ga)) Q := by
  obtain ⟨k, rfl⟩ : ∃ j, k = j + 1 := ⟨k - 1, by omega⟩
  unfold F_Tl_backwards_47 at hF
  refine bk_Tl_backwards_47 ?_
  exact ret_q (Q := fun a b c => Q (some (.int a)) (hp b c (pm_RT pa pb ga))) hF hQ
theorem fx_Tl_backwards {u k : Nat} {pa pb : Nat} {ga : Nat → Nat} {Q : Option Value → pm_H → Prop} {a0 : Nat} {x1 : Int32} {I : pm_II} {J : pm_JJ} {r : Int32} {I2 : pm_II} {J2 : pm_JJ} (hk : 1 ≤ k) (ha0 : oT a0) (hF : F_Tl_backwards u a0 x1 I J = some (r, I2, J2)) (hQ : Q (some (.int r)) (hp I2 J2 (pm_RT pa pb ga))) : Px k 176 m_Tl_backwards 0 [.ref a0, .int x1, .null] [] (hp I J (pm_RT pa pb ga)) Q := by
  obtain ⟨k, rfl⟩ : ∃ j, k = j + 1 := ⟨k - 1, by omega⟩
  unfold F_Tl_backwards at hF
  refine bk_Tl_backwards_0 ?_
  refine ⟨fun z => ?_, fun z => ?_⟩
  · rw [if_pos z] at hF
    exact ret_q (Q := fun a b c => Q (some (.int a)) (hp b c (pm_RT pa pb ga))) hF hQ
  · rw [if_neg z] at hF
    refine ⟨oT_ob ha0, ?_⟩
    refine ⟨fun z => ?_, fun z => ?_⟩
    · rw [if_pos z] at hF
      refine ⟨oT_ob ha0, ?_⟩
      refine ⟨oT_rt0 ha0, ?_⟩
      refine ⟨oT_ob ha0, ?_⟩
      refine ⟨oT_ar1 ha0, ?_⟩
      obtain ⟨g, hF⟩ := gd_e hF
      refine ⟨(oT_in1 ha0 g), ?_⟩
      refine ⟨fun z => ?_, fun z => ?_⟩
      · rw [if_pos z] at hF
        obtain ⟨r44, I44, J44, hC44, hF⟩ := bd_e hF
        refine fx_Jm_min_II (by omega) hC44 ⟨rfl, ?_⟩
        exact fx_Tl_backwards_47 hk ha0 hF hQ
      · rw [if_neg z] at hF
        exact fx_Tl_backwards_47 hk ha0 hF hQ
    · rw [if_neg z] at hF
      exact ret_q (Q := fun a b c => Q (some (.int a)) (hp b c (pm_RT pa pb ga))) hF hQ
def F_Ty_tellStrip (u : Nat) (pa pb : Nat) (ga : Nat → Nat) (x1 : Int32) (x2 : Int32) (I : pm_II) (J : pm_JJ) : Option (Int32 × pm_II × pm_JJ) :=
  bd (F_Ty_stands u x1 I J) fun r2 I2 J2 =>
  if r2 = 0 then (
    some (((-1) : Int32), I2, J2))
  else (
    cond (vq x1 16) (
    bd (F_Tl_backwards u (ga ((x1 : Int32).toNatClampNeg)) x2 I2 J2) fun r15 I15 J15 =>
    some (r15, I15, J15)) none)
theorem fx_Ty_tellStrip {u k : Nat} {pa pb : Nat} {ga : Nat → Nat} {Q : Option Value → pm_H → Prop} {x1 : Int32} {x2 : Int32} {I : pm_II} {J : pm_JJ} {r : Int32} {I2 : pm_II} {J2 : pm_JJ} (hk : 2 ≤ k) (hpa : oP pa) (hpb : oP pb) (hga : ∀ j, j < 16 → oT (ga j)) (hF : F_Ty_tellStrip u pa pb ga x1 x2 I J = some (r, I2, J2)) (hQ : Q (some (.int r)) (hp I2 J2 (pm_RT pa pb ga))) : Px k 176 m_Ty_tellStrip 0 [.ref 48, .int x1, .int x2] [] (hp I J (pm_RT pa pb ga)) Q := by
  obtain ⟨k, rfl⟩ : ∃ j, k = j + 1 := ⟨k - 1, by omega⟩
  unfold F_Ty_tellStrip at hF
  refine bk_Ty_tellStrip_0 ?_
  obtain ⟨r2, I2, J2, hC2, hF⟩ := bd_e hF
  refine fx_Ty_stands (by omega) hC2 ⟨rfl, ?_⟩
  refine bk_Ty_tellStrip_5 ?_
  refine ⟨fun z => ?_, fun z => ?_⟩
  · rw [if_pos z] at hF
    exact ret_q (Q := fun a b c => Q (some (.int a)) (hp b c (pm_RT pa pb ga))) hF hQ
  · rw [if_neg z] at hF
    obtain ⟨g, hF⟩ := gd_e hF
    refine ⟨vq_in g, ?_⟩
    refine ⟨oT_ob (hga _ (vq_lt (by assumption))), ?_⟩
    obtain ⟨r15, I15, J15, hC15, hF⟩ := bd_e hF
    refine fx_Tl_backwards (by omega) (hga _ (vq_lt (by assumption))) hC15 ⟨rfl, ?_⟩
    refine bk_Ty_tellStrip_18 ?_
    exact ret_q (Q := fun a b c => Q (some (.int a)) (hp b c (pm_RT pa pb ga))) hF hQ
def F_Ty_stockOf (u : Nat) (x1 : Int32) (I : pm_II) (J : pm_JJ) : Option (Int32 × pm_II × pm_JJ) :=
  if x1 < 1 then (
    some (((-1) : Int32), I, J))
  else (
    if x1 ≤ 26 then (
      cond (vq (x1 - (1 : Int32)) 26) (
      some ((I 49 (((x1 - (1 : Int32)) : Int32).toNatClampNeg)), I, J)) none)
    else (
      some (((-1) : Int32), I, J)))
theorem fx_Ty_stockOf {u k : Nat} {pa pb : Nat} {ga : Nat → Nat} {Q : Option Value → pm_H → Prop} {x1 : Int32} {I : pm_II} {J : pm_JJ} {r : Int32} {I2 : pm_II} {J2 : pm_JJ} (hk : 0 ≤ k) (hF : F_Ty_stockOf u x1 I J = some (r, I2, J2)) (hQ : Q (some (.int r)) (hp I2 J2 (pm_RT pa pb ga))) : Px k 176 m_Ty_stockOf 0 [.ref 48, .int x1] [] (hp I J (pm_RT pa pb ga)) Q := by
  unfold F_Ty_stockOf at hF
  refine bk_Ty_stockOf_0 ?_
  refine ⟨fun z => ?_, fun z => ?_⟩
  · rw [if_pos z] at hF
    exact ret_q (Q := fun a b c => Q (some (.int a)) (hp b c (pm_RT pa pb ga))) hF hQ
  · rw [if_neg z] at hF
    refine ⟨fun z => ?_, fun z => ?_⟩
    · rw [if_pos z] at hF
      obtain ⟨g, hF⟩ := gd_e hF
      refine ⟨vq_in g, ?_⟩
      exact ret_q (Q := fun a b c => Q (some (.int a)) (hp b c (pm_RT pa pb ga))) hF hQ
    · rw [if_neg z] at hF
      exact ret_q (Q := fun a b c => Q (some (.int a)) (hp b c (pm_RT pa pb ga))) hF hQ
def F_Pi_cutOff (u : Nat) (a0 : Nat) (x1 : Int32) (x2 : Int32) (x3 : Int32) (I : pm_II) (J : pm_JJ) : Option (Unit × pm_II × pm_JJ) :=
  cond (vq x1 31) (
  cond (vq (I a0 4) 31) (
  cond (vq x1 31) (
  cond (vq ((pm_up I (a0 + 1) (((I a0 4) : Int32).toNatClampNeg) ((I (a0 + 1) ((x1 : Int32).toNatClampNeg)) + x2)) a0 4) 31) (
  cond (vq x1 31) (
  cond (vq ((pm_up (pm_up I (a0 + 1) (((I a0 4) : Int32).toNatClampNeg) ((I (a0 + 1) ((x1 : Int32).toNatClampNeg)) + x2)) (a0 + 2) ((((pm_up I (a0 + 1) (((I a0 4) : Int32).toNatClampNeg) ((I (a0 + 1) ((x1 : Int32).toNatClampNeg)) + x2)) a0 4) : Int32).toNatClampNeg) (((pm_up I (a0 + 1) (((I a0 4) : Int32).toNatClampNeg) ((I (a0 + 1) ((x1 : Int32).toNatClampNeg)) + x2)) (a0 + 2) ((x1 : Int32).toNatClampNeg)) + x3)) a0 4) 31) (
  cond (vq x1 31) (
  cond (vq ((pm_up (pm_up (pm_up I (a0 + 1) (((I a0 4) : Int32).toNatClampNeg) ((I (a0 + 1) ((x1 : Int32).toNatClampNeg)) + x2)) (a0 + 2) ((((pm_up I (a0 + 1) (((I a0 4) : Int32).toNatClampNeg) ((I (a0 + 1) ((x1 : Int32).toNatClampNeg)) + x2)) a0 4) : Int32).toNatClampNeg) (((pm_up I (a0 + 1) (((I a0 4) : Int32).toNatClampNeg) ((I (a0 + 1) ((x1 : Int32).toNatClampNeg)) + x2)) (a0 + 2) ((x1 : Int32).toNatClampNeg)) + x3)) (a0 + 3) ((((pm_up (pm_up I (a0 + 1) (((I a0 4) : Int32).toNatClampNeg) ((I (a0 + 1) ((x1 : Int32).toNatClampNeg)) + x2)) (a0 + 2) ((((pm_up I (a0 + 1) (((I a0 4) : Int32).toNatClampNeg) ((I (a0 + 1) ((x1 : Int32).toNatClampNeg)) + x2)) a0 4) : Int32).toNatClampNeg) (((pm_up I (a0 + 1) (((I a0 4) : Int32).toNatClampNeg) ((I (a0 + 1) ((x1 : Int32).toNatClampNeg)) + x2)) (a0 + 2) ((x1 : Int32).toNatClampNeg)) + x3)) a0 4) : Int32).toNatClampNeg) (((pm_up (pm_up I (a0 + 1) (((I a0 4) : Int32).toNatClampNeg) ((I (a0 + 1) ((x1 : Int32).toNatClampNeg)) + x2)) (a0 + 2) ((((pm_up I (a0 + 1) (((I a0 4) : Int32).toNatClampNeg) ((I (a0 + 1) ((x1 : Int32).toNatClampNeg)) + x2)) a0 4) : Int32).toNatClampNeg) (((pm_up I (a0 + 1) (((I a0 4) : Int32).toNatClampNeg) ((I (a0 + 1) ((x1 : Int32).toNatClampNeg)) + x2)) (a0 + 2) ((x1 : Int32).toNatClampNeg)) + x3)) (a0 + 3) ((x1 : Int32).toNatClampNeg)) - x2)) a0 4) 31) (
  if x2 ≤ 0 then (
    cond (vq x1 31) (
    some ((), (pm_up (pm_up (pm_up (pm_up (pm_up (pm_up I (a0 + 1) (((I a0 4) : Int32).toNatClampNeg) ((I (a0 + 1) ((x1 : Int32).toNatClampNeg)) + x2)) (a0 + 2) ((((pm_up I (a0 + 1) (((I a0 4) : Int32).toNatClampNeg) ((I (a0 + 1) ((x1 : Int32).toNatClampNeg)) + x2)) a0 4) : Int32).toNatClampNeg) (((pm_up I (a0 + 1) (((I a0 4) : Int32).toNatClampNeg) ((I (a0 + 1) ((x1 : Int32).toNatClampNeg)) + x2)) (a0 + 2) ((x1 : Int32).toNatClampNeg)) + x3)) (a0 + 3) ((((pm_up (pm_up I (a0 + 1) (((I a0 4) : Int32).toNatClampNeg) ((I (a0 + 1) ((x1 : Int32).toNatClampNeg)) + x2)) (a0 + 2) ((((pm_up I (a0 + 1) (((I a0 4) : Int32).toNatClampNeg) ((I (a0 + 1) ((x1 : Int32).toNatClampNeg)) + x2)) a0 4) : Int32).toNatClampNeg) (((pm_up I (a0 + 1) (((I a0 4) : Int32).toNatClampNeg) ((I (a0 + 1) ((x1 : Int32).toNatClampNeg)) + x2)) (a0 + 2) ((x1 : Int32).toNatClampNeg)) + x3)) a0 4) : Int32).toNatClampNeg) (((pm_up (pm_up I (a0 + 1) (((I a0 4) : Int32).toNatClampNeg) ((I (a0 + 1) ((x1 : Int32).toNatClampNeg)) + x2)) (a0 + 2) ((((pm_up I (a0 + 1) (((I a0 4) : Int32).toNatClampNeg) ((I (a0 + 1) ((x1 : Int32).toNatClampNeg)) + x2)) a0 4) : Int32).toNatClampNeg) (((pm_up I (a0 + 1) (((I a0 4) : Int32).toNatClampNeg) ((I (a0 + 1) ((x1 : Int32).toNatClampNeg)) + x2)) (a0 + 2) ((x1 : Int32).toNatClampNeg)) + x3)) (a0 + 3) ((x1 : Int32).toNatClampNeg)) - x2)) (a0 + 4) ((((pm_up (pm_up (pm_up I (a0 + 1) (((I a0 4) : Int32).toNatClampNeg) ((I (a0 + 1) ((x1 : Int32).toNatClampNeg)) + x2)) (a0 + 2) ((((pm_up I (a0 + 1) (((I a0 4) : Int32).toNatClampNeg) ((I (a0 + 1) ((x1 : Int32).toNatClampNeg)) + x2)) a0 4) : Int32).toNatClampNeg) (((pm_up I (a0 + 1) (((I a0 4) : Int32).toNatClampNeg) ((I (a0 + 1) ((x1 : Int32).toNatClampNeg)) + x2)) (a0 + 2) ((x1 : Int32).toNatClampNeg)) + x3)) (a0 + 3) ((((pm_up (pm_up I (a0 + 1) (((I a0 4) : Int32).toNatClampNeg) ((I (a0 + 1) ((x1 : Int32).toNatClampNeg)) + x2)) (a0 + 2) ((((pm_up I (a0 + 1) (((I a0 4) : Int32).toNatClampNeg) ((I (a0 + 1) ((x1 : Int32).toNatClampNeg)) + x2)) a0 4) : Int32).toNatClampNeg) (((pm_up I (a0 + 1) (((I a0 4) : Int32).toNatClampNeg) ((I (a0 + 1) ((x1 : Int32).toNatClampNeg)) + x2)) (a0 + 2) ((x1 : Int32).toNatClampNeg)) + x3)) a0 4) : Int32).toNatClampNeg) (((pm_up (pm_up I (a0 + 1) (((I a0 4) : Int32).toNatClampNeg) ((I (a0 + 1) ((x1 : Int32).toNatClampNeg)) + x2)) (a0 + 2) ((((pm_up I (a0 + 1) (((I a0 4) : Int32).toNatClampNeg) ((I (a0 + 1) ((x1 : Int32).toNatClampNeg)) + x2)) a0 4) : Int32).toNatClampNeg) (((pm_up I (a0 + 1) (((I a0 4) : Int32).toNatClampNeg) ((I (a0 + 1) ((x1 : Int32).toNatClampNeg)) + x2)) (a0 + 2) ((x1 : Int32).toNatClampNeg)) + x3)) (a0 + 3) ((x1 : Int32).toNatClampNeg)) - x2)) a0 4) : Int32).toNatClampNeg) (((pm_up (pm_up (pm_up I (a0 + 1) (((I a0 4) : Int32).toNatClampNeg) ((I (a0 + 1) ((x1 : Int32).toNatClampNeg)) + x2)) (a0 + 2) ((((pm_up I (a0 + 1) (((I a0 4) : Int32).toNatClampNeg) ((I (a0 + 1) ((x1 : Int32).toNatClampNeg)) + x2)) a0 4) : Int32).toNatClampNeg) (((pm_up I (a0 + 1) (((I a0 4) : Int32).toNatClampNeg) ((I (a0 + 1) ((x1 : Int32).toNatClampNeg)) + x2)) (a0 + 2) ((x1 : Int32).toNatClampNeg)) + x3)) (a0 + 3) ((((pm_up (pm_up I (a0 + 1) (((I a0 4) : Int32).toNatClampNeg) ((I (a0 + 1) ((x1 : Int32).toNatClampNeg)) + x2)) (a0 + 2) ((((pm_up I (a0 + 1) (((I a0 4) : Int32).toNatClampNeg) ((I (a0 + 1) ((x1 : Int32).toNatClampNeg)) + x2)) a0 4) : Int32).toNatClampNeg) (((pm_up I (a0 + 1) (((I a0 4) : Int32).toNatClampNeg) ((I (a0 + 1) ((x1 : Int32).toNatClampNeg)) + x2)) (a0 + 2) ((x1 : Int32).toNatClampNeg)) + x3)) a0 4) : Int32).toNatClampNeg) (((pm_up (pm_up I (a0 + 1) (((I a0 4) : Int32).toNatClampNeg) ((I (a0 + 1) ((x1 : Int32).toNatClampNeg)) + x2)) (a0 + 2) ((((pm_up I (a0 + 1) (((I a0 4) : Int32).toNatClampNeg) ((I (a0 + 1) ((x1 : Int32).toNatClampNeg)) + x2)) a0 4) : Int32).toNatClampNeg) (((pm_up I (a0 + 1) (((I a0 4) : Int32).toNatClampNeg) ((I (a0 + 1) ((x1 : Int32).toNatClampNeg)) + x2)) (a0 + 2) ((x1 : Int32).toNatClampNeg)) + x3)) (a0 + 3) ((x1 : Int32).toNatClampNeg)) - x2)) (a0 + 4) ((x1 : Int32).toNatClampNeg)) - x3)) (a0 + 4) ((x1 : Int32).toNatClampNeg) x3) a0 4 (((pm_up (pm_up (pm_up (pm_up (pm_up I (a0 + 1) (((I a0 4) : Int32).toNatClampNeg) ((I (a0 + 1) ((x1 : Int32).toNatClampNeg)) + x2)) (a0 + 2) ((((pm_up I (a0 + 1) (((I a0 4) : Int32).toNatClampNeg) ((I (a0 + 1) ((x1 : Int32).toNatClampNeg)) + x2)) a0 4) : Int32).toNatClampNeg) (((pm_up I (a0 + 1) (((I a0 4) : Int32).toNatClampNeg) ((I (a0 + 1) ((x1 : Int32).toNatClampNeg)) + x2)) (a0 + 2) ((x1 : Int32).toNatClampNeg)) + x3)) (a0 + 3) ((((pm_up (pm_up I (a0 + 1) (((I a0 4) : Int32).toNatClampNeg) ((I (a0 + 1) ((x1 : Int32).toNatClampNeg)) + x2)) (a0 + 2) ((((pm_up I (a0 + 1) (((I a0 4) : Int32).toNatClampNeg) ((I (a0 + 1) ((x1 : Int32).toNatClampNeg)) + x2)) a0 4) : Int32).toNatClampNeg) (((pm_up I (a0 + 1) (((I a0 4) : Int32).toNatClampNeg) ((I (a0 + 1) ((x1 : Int32).toNatClampNeg)) + x2)) (a0 + 2) ((x1 : Int32).toNatClampNeg)) + x3)) a0 4) : Int32).toNatClampNeg) (((pm_up (pm_up I (a0 + 1) (((I a0 4) : Int32).toNatClampNeg) ((I (a0 + 1) ((x1 : Int32).toNatClampNeg)) + x2)) (a0 + 2) ((((pm_up I (a0 + 1) (((I a0 4) : Int32).toNatClampNeg) ((I (a0 + 1) ((x1 : Int32).toNatClampNeg)) + x2)) a0 4) : Int32).toNatClampNeg) (((pm_up I (a0 + 1) (((I a0 4) : Int32).toNatClampNeg) ((I (a0 + 1) ((x1 : Int32).toNatClampNeg)) + x2)) (a0 + 2) ((x1 : Int32).toNatClampNeg)) + x3)) (a0 + 3) ((x1 : Int32).toNatClampNeg)) - x2)) (a0 + 4) ((((pm_up (pm_up (pm_up I (a0 + 1) (((I a0 4) : Int32).toNatClampNeg) ((I (a0 + 1) ((x1 : Int32).toNatClampNeg)) + x2)) (a0 + 2) ((((pm_up I (a0 + 1) (((I a0 4) : Int32).toNatClampNeg) ((I (a0 + 1) ((x1 : Int32).toNatClampNeg)) + x2)) a0 4) : Int32).toNatClampNeg) (((pm_up I (a0 + 1) (((I a0 4) : Int32).toNatClampNeg) ((I (a0 + 1) ((x1 : Int32).toNatClampNeg)) + x2)) (a0 + 2) ((x1 : Int32).toNatClampNeg)) + x3)) (a0 + 3) ((((pm_up (pm_up I (a0 + 1) (((I a0 4) : Int32).toNatClampNeg) ((I (a0 + 1) ((x1 : Int32).toNatClampNeg)) + x2)) (a0 + 2) ((((pm_up I (a0 + 1) (((I a0 4) : Int32).toNatClampNeg) ((I (a0 + 1) ((x1 : Int32).toNatClampNeg)) + x2)) a0 4) : Int32).toNatClampNeg) (((pm_up I (a0 + 1) (((I a0 4) : Int32).toNatClampNeg) ((I (a0 + 1) ((x1 : Int32).toNatClampNeg)) + x2)) (a0 + 2) ((x1 : Int32).toNatClampNeg)) + x3)) a0 4) : Int32).toNatClampNeg) (((pm_up (pm_up I (a0 + 1) (((I a0 4) : Int32).toNatClampNeg) ((I (a0 + 1) ((x1 : Int32).toNatClampNeg)) + x2)) (a0 + 2) ((((pm_up I (a0 + 1) (((I a0 4) : Int32).toNatClampNeg) ((I (a0 + 1) ((x1 : Int32).toNatClampNeg)) + x2)) a0 4) : Int32).toNatClampNeg) (((pm_up I (a0 + 1) (((I a0 4) : Int32).toNatClampNeg) ((I (a0 + 1) ((x1 : Int32).toNatClampNeg)) + x2)) (a0 + 2) ((x1 : Int32).toNatClampNeg)) + x3)) (a0 + 3) ((x1 : Int32).toNatClampNeg)) - x2)) a0 4) : Int32).toNatClampNeg) (((pm_up (pm_up (pm_up I (a0 + 1) (((I a0 4) : Int32).toNatClampNeg) ((I (a0 + 1) ((x1 : Int32).toNatClampNeg)) + x2)) (a0 + 2) ((((pm_up I (a0 + 1) (((I a0 4) : Int32).toNatClampNeg) ((I (a0 + 1) ((x1 : Int32).toNatClampNeg)) + x2)) a0 4) : Int32).toNatClampNeg) (((pm_up I (a0 + 1) (((I a0 4) : Int32).toNatClampNeg) ((I (a0 + 1) ((x1 : Int32).toNatClampNeg)) + x2)) (a0 + 2) ((x1 : Int32).toNatClampNeg)) + x3)) (a0 + 3) ((((pm_up (pm_up I (a0 + 1) (((I a0 4) : Int32).toNatClampNeg) ((I (a0 + 1) ((x1 : Int32).toNatClampNeg)) + x2)) (a0 + 2) ((((pm_up I (a0 + 1) (((I a0 4) : Int32).toNatClampNeg) ((I (a0 + 1) ((x1 : Int32).toNatClampNeg)) + x2)) a0 4) : Int32).toNatClampNeg) (((pm_up I (a0 + 1) (((I a0 4) : Int32).toNatClampNeg) ((I (a0 + 1) ((x1 : Int32).toNatClampNeg)) + x2)) (a0 + 2) ((x1 : Int32).toNatClampNeg)) + x3)) a0 4) : Int32).toNatClampNeg) (((pm_up (pm_up I (a0 + 1) (((I a0 4) : Int32).toNatClampNeg) ((I (a0 + 1) ((x1 : Int32).toNatClampNeg)) + x2)) (a0 + 2) ((((pm_up I (a0 + 1) (((I a0 4) : Int32).toNatClampNeg) ((I (a0 + 1) ((x1 : Int32).toNatClampNeg)) + x2)) a0 4) : Int32).toNatClampNeg) (((pm_up I (a0 + 1) (((I a0 4) : Int32).toNatClampNeg) ((I (a0 + 1) ((x1 : Int32).toNatClampNeg)) + x2)) (a0 + 2) ((x1 : Int32).toNatClampNeg)) + x3)) (a0 + 3) ((x1 : Int32).toNatClampNeg)) - x2)) (a0 + 4) ((x1 : Int32).toNatClampNeg)) - x3)) (a0 + 4) ((x1 : Int32).toNatClampNeg) x3) a0 4) + (1 : Int32))), J)) none)
  else (
    cond (vq x1 31) (
    some ((), (pm_up (pm_up (pm_up (pm_up (pm_up (pm_up I (a0 + 1) (((I a0 4) : Int32).toNatClampNeg) ((I (a0 + 1) ((x1 : Int32).toNatClampNeg)) + x2)) (a0 + 2) ((((pm_up I (a0 + 1) (((I a0 4) : Int32).toNatClampNeg) ((I (a0 + 1) ((x1 : Int32).toNatClampNeg)) + x2)) a0 4) : Int32).toNatClampNeg) (((pm_up I (a0 + 1) (((I a0 4) : Int32).toNatClampNeg) ((I (a0 + 1) ((x1 : Int32).toNatClampNeg)) + x2)) (a0 + 2) ((x1 : Int32).toNatClampNeg)) + x3)) (a0 + 3) ((((pm_up (pm_up I (a0 + 1) (((I a0 4) : Int32).toNatClampNeg) ((I (a0 + 1) ((x1 : Int32).toNatClampNeg)) + x2)) (a0 + 2) ((((pm_up I (a0 + 1) (((I a0 4) : Int32).toNatClampNeg) ((I (a0 + 1) ((x1 : Int32).toNatClampNeg)) + x2)) a0 4) : Int32).toNatClampNeg) (((pm_up I (a0 + 1) (((I a0 4) : Int32).toNatClampNeg) ((I (a0 + 1) ((x1 : Int32).toNatClampNeg)) + x2)) (a0 + 2) ((x1 : Int32).toNatClampNeg)) + x3)) a0 4) : Int32).toNatClampNeg) (((pm_up (pm_up I (a0 + 1) (((I a0 4) : Int32).toNatClampNeg) ((I (a0 + 1) ((x1 : Int32).toNatClampNeg)) + x2)) (a0 + 2) ((((pm_up I (a0 + 1) (((I a0 4) : Int32).toNatClampNeg) ((I (a0 + 1) ((x1 : Int32).toNatClampNeg)) + x2)) a0 4) : Int32).toNatClampNeg) (((pm_up I (a0 + 1) (((I a0 4) : Int32).toNatClampNeg) ((I (a0 + 1) ((x1 : Int32).toNatClampNeg)) + x2)) (a0 + 2) ((x1 : Int32).toNatClampNeg)) + x3)) (a0 + 3) ((x1 : Int32).toNatClampNeg)) - x2)) (a0 + 4) ((((pm_up (pm_up (pm_up I (a0 + 1) (((I a0 4) : Int32).toNatClampNeg) ((I (a0 + 1) ((x1 : Int32).toNatClampNeg)) + x2)) (a0 + 2) ((((pm_up I (a0 + 1) (((I a0 4) : Int32).toNatClampNeg) ((I (a0 + 1) ((x1 : Int32).toNatClampNeg)) + x2)) a0 4) : Int32).toNatClampNeg) (((pm_up I (a0 + 1) (((I a0 4) : Int32).toNatClampNeg) ((I (a0 + 1) ((x1 : Int32).toNatClampNeg)) + x2)) (a0 + 2) ((x1 : Int32).toNatClampNeg)) + x3)) (a0 + 3) ((((pm_up (pm_up I (a0 + 1) (((I a0 4) : Int32).toNatClampNeg) ((I (a0 + 1) ((x1 : Int32).toNatClampNeg)) + x2)) (a0 + 2) ((((pm_up I (a0 + 1) (((I a0 4) : Int32).toNatClampNeg) ((I (a0 + 1) ((x1 : Int32).toNatClampNeg)) + x2)) a0 4) : Int32).toNatClampNeg) (((pm_up I (a0 + 1) (((I a0 4) : Int32).toNatClampNeg) ((I (a0 + 1) ((x1 : Int32).toNatClampNeg)) + x2)) (a0 + 2) ((x1 : Int32).toNatClampNeg)) + x3)) a0 4) : Int32).toNatClampNeg) (((pm_up (pm_up I (a0 + 1) (((I a0 4) : Int32).toNatClampNeg) ((I (a0 + 1) ((x1 : Int32).toNatClampNeg)) + x2)) (a0 + 2) ((((pm_up I (a0 + 1) (((I a0 4) : Int32).toNatClampNeg) ((I (a0 + 1) ((x1 : Int32).toNatClampNeg)) + x2)) a0 4) : Int32).toNatClampNeg) (((pm_up I (a0 + 1) (((I a0 4) : Int32).toNatClampNeg) ((I (a0 + 1) ((x1 : Int32).toNatClampNeg)) + x2)) (a0 + 2) ((x1 : Int32).toNatClampNeg)) + x3)) (a0 + 3) ((x1 : Int32).toNatClampNeg)) - x2)) a0 4) : Int32).toNatClampNeg) (((pm_up (pm_up (pm_up I (a0 + 1) (((I a0 4) : Int32).toNatClampNeg) ((I (a0 + 1) ((x1 : Int32).toNatClampNeg)) + x2)) (a0 + 2) ((((pm_up I (a0 + 1) (((I a0 4) : Int32).toNatClampNeg) ((I (a0 + 1) ((x1 : Int32).toNatClampNeg)) + x2)) a0 4) : Int32).toNatClampNeg) (((pm_up I (a0 + 1) (((I a0 4) : Int32).toNatClampNeg) ((I (a0 + 1) ((x1 : Int32).toNatClampNeg)) + x2)) (a0 + 2) ((x1 : Int32).toNatClampNeg)) + x3)) (a0 + 3) ((((pm_up (pm_up I (a0 + 1) (((I a0 4) : Int32).toNatClampNeg) ((I (a0 + 1) ((x1 : Int32).toNatClampNeg)) + x2)) (a0 + 2) ((((pm_up I (a0 + 1) (((I a0 4) : Int32).toNatClampNeg) ((I (a0 + 1) ((x1 : Int32).toNatClampNeg)) + x2)) a0 4) : Int32).toNatClampNeg) (((pm_up I (a0 + 1) (((I a0 4) : Int32).toNatClampNeg) ((I (a0 + 1) ((x1 : Int32).toNatClampNeg)) + x2)) (a0 + 2) ((x1 : Int32).toNatClampNeg)) + x3)) a0 4) : Int32).toNatClampNeg) (((pm_up (pm_up I (a0 + 1) (((I a0 4) : Int32).toNatClampNeg) ((I (a0 + 1) ((x1 : Int32).toNatClampNeg)) + x2)) (a0 + 2) ((((pm_up I (a0 + 1) (((I a0 4) : Int32).toNatClampNeg) ((I (a0 + 1) ((x1 : Int32).toNatClampNeg)) + x2)) a0 4) : Int32).toNatClampNeg) (((pm_up I (a0 + 1) (((I a0 4) : Int32).toNatClampNeg) ((I (a0 + 1) ((x1 : Int32).toNatClampNeg)) + x2)) (a0 + 2) ((x1 : Int32).toNatClampNeg)) + x3)) (a0 + 3) ((x1 : Int32).toNatClampNeg)) - x2)) (a0 + 4) ((x1 : Int32).toNatClampNeg)) - x3)) (a0 + 3) ((x1 : Int32).toNatClampNeg) x2) a0 4 (((pm_up (pm_up (pm_up (pm_up (pm_up I (a0 + 1) (((I a0 4) : Int32).toNatClampNeg) ((I (a0 + 1) ((x1 : Int32).toNatClampNeg)) + x2)) (a0 + 2) ((((pm_up I (a0 + 1) (((I a0 4) : Int32).toNatClampNeg) ((I (a0 + 1) ((x1 : Int32).toNatClampNeg)) + x2)) a0 4) : Int32).toNatClampNeg) (((pm_up I (a0 + 1) (((I a0 4) : Int32).toNatClampNeg) ((I (a0 + 1) ((x1 : Int32).toNatClampNeg)) + x2)) (a0 + 2) ((x1 : Int32).toNatClampNeg)) + x3)) (a0 + 3) ((((pm_up (pm_up I (a0 + 1) (((I a0 4) : Int32).toNatClampNeg) ((I (a0 + 1) ((x1 : Int32).toNatClampNeg)) + x2)) (a0 + 2) ((((pm_up I (a0 + 1) (((I a0 4) : Int32).toNatClampNeg) ((I (a0 + 1) ((x1 : Int32).toNatClampNeg)) + x2)) a0 4) : Int32).toNatClampNeg) (((pm_up I (a0 + 1) (((I a0 4) : Int32).toNatClampNeg) ((I (a0 + 1) ((x1 : Int32).toNatClampNeg)) + x2)) (a0 + 2) ((x1 : Int32).toNatClampNeg)) + x3)) a0 4) : Int32).toNatClampNeg) (((pm_up (pm_up I (a0 + 1) (((I a0 4) : Int32).toNatClampNeg) ((I (a0 + 1) ((x1 : Int32).toNatClampNeg)) + x2)) (a0 + 2) ((((pm_up I (a0 + 1) (((I a0 4) : Int32).toNatClampNeg) ((I (a0 + 1) ((x1 : Int32).toNatClampNeg)) + x2)) a0 4) : Int32).toNatClampNeg) (((pm_up I (a0 + 1) (((I a0 4) : Int32).toNatClampNeg) ((I (a0 + 1) ((x1 : Int32).toNatClampNeg)) + x2)) (a0 + 2) ((x1 : Int32).toNatClampNeg)) + x3)) (a0 + 3) ((x1 : Int32).toNatClampNeg)) - x2)) (a0 + 4) ((((pm_up (pm_up (pm_up I (a0 + 1) (((I a0 4) : Int32).toNatClampNeg) ((I (a0 + 1) ((x1 : Int32).toNatClampNeg)) + x2)) (a0 + 2) ((((pm_up I (a0 + 1) (((I a0 4) : Int32).toNatClampNeg) ((I (a0 + 1) ((x1 : Int32).toNatClampNeg)) + x2)) a0 4) : Int32).toNatClampNeg) (((pm_up I (a0 + 1) (((I a0 4) : Int32).toNatClampNeg) ((I (a0 + 1) ((x1 : Int32).toNatClampNeg)) + x2)) (a0 + 2) ((x1 : Int32).toNatClampNeg)) + x3)) (a0 + 3) ((((pm_up (pm_up I (a0 + 1) (((I a0 4) : Int32).toNatClampNeg) ((I (a0 + 1) ((x1 : Int32).toNatClampNeg)) + x2)) (a0 + 2) ((((pm_up I (a0 + 1) (((I a0 4) : Int32).toNatClampNeg) ((I (a0 + 1) ((x1 : Int32).toNatClampNeg)) + x2)) a0 4) : Int32).toNatClampNeg) (((pm_up I (a0 + 1) (((I a0 4) : Int32).toNatClampNeg) ((I (a0 + 1) ((x1 : Int32).toNatClampNeg)) + x2)) (a0 + 2) ((x1 : Int32).toNatClampNeg)) + x3)) a0 4) : Int32).toNatClampNeg) (((pm_up (pm_up I (a0 + 1) (((I a0 4) : Int32).toNatClampNeg) ((I (a0 + 1) ((x1 : Int32).toNatClampNeg)) + x2)) (a0 + 2) ((((pm_up I (a0 + 1) (((I a0 4) : Int32).toNatClampNeg) ((I (a0 + 1) ((x1 : Int32).toNatClampNeg)) + x2)) a0 4) : Int32).toNatClampNeg) (((pm_up I (a0 + 1) (((I a0 4) : Int32).toNatClampNeg) ((I (a0 + 1) ((x1 : Int32).toNatClampNeg)) + x2)) (a0 + 2) ((x1 : Int32).toNatClampNeg)) + x3)) (a0 + 3) ((x1 : Int32).toNatClampNeg)) - x2)) a0 4) : Int32).toNatClampNeg) (((pm_up (pm_up (pm_up I (a0 + 1) (((I a0 4) : Int32).toNatClampNeg) ((I (a0 + 1) ((x1 : Int32).toNatClampNeg)) + x2)) (a0 + 2) ((((pm_up I (a0 + 1) (((I a0 4) : Int32).toNatClampNeg) ((I (a0 + 1) ((x1 : Int32).toNatClampNeg)) + x2)) a0 4) : Int32).toNatClampNeg) (((pm_up I (a0 + 1) (((I a0 4) : Int32).toNatClampNeg) ((I (a0 + 1) ((x1 : Int32).toNatClampNeg)) + x2)) (a0 + 2) ((x1 : Int32).toNatClampNeg)) + x3)) (a0 + 3) ((((pm_up (pm_up I (a0 + 1) (((I a0 4) : Int32).toNatClampNeg) ((I (a0 + 1) ((x1 : Int32).toNatClampNeg)) + x2)) (a0 + 2) ((((pm_up I (a0 + 1) (((I a0 4) : Int32).toNatClampNeg) ((I (a0 + 1) ((x1 : Int32).toNatClampNeg)) + x2)) a0 4) : Int32).toNatClampNeg) (((pm_up I (a0 + 1) (((I a0 4) : Int32).toNatClampNeg) ((I (a0 + 1) ((x1 : Int32).toNatClampNeg)) + x2)) (a0 + 2) ((x1 : Int32).toNatClampNeg)) + x3)) a0 4) : Int32).toNatClampNeg) (((pm_up (pm_up I (a0 + 1) (((I a0 4) : Int32).toNatClampNeg) ((I (a0 + 1) ((x1 : Int32).toNatClampNeg)) + x2)) (a0 + 2) ((((pm_up I (a0 + 1) (((I a0 4) : Int32).toNatClampNeg) ((I (a0 + 1) ((x1 : Int32).toNatClampNeg)) + x2)) a0 4) : Int32).toNatClampNeg) (((pm_up I (a0 + 1) (((I a0 4) : Int32).toNatClampNeg) ((I (a0 + 1) ((x1 : Int32).toNatClampNeg)) + x2)) (a0 + 2) ((x1 : Int32).toNatClampNeg)) + x3)) (a0 + 3) ((x1 : Int32).toNatClampNeg)) - x2)) (a0 + 4) ((x1 : Int32).toNatClampNeg)) - x3)) (a0 + 3) ((x1 : Int32).toNatClampNeg) x2) a0 4) + (1 : Int32))), J)) none)) none) none) none) none) none) none) none) none
theorem fx_Pi_cutOff {u k : Nat} {pa pb : Nat} {ga : Nat → Nat} {Q : Option Value → pm_H → Prop} {a0 : Nat} {x1 : Int32} {x2 : Int32} {x3 : Int32} {I : pm_II} {J : pm_JJ} {r : Unit} {I2 : pm_II} {J2 : pm_JJ} (hk : 0 ≤ k) (ha0 : oP a0) (hF : F_Pi_cutOff u a0 x1 x2 x3 I J = some (r, I2, J2)) (hQ : Q none (hp I2 J2 (pm_RT pa pb ga))) : Px k 176 m_Pi_cutOff 0 [.ref a0, .int x1, .int x2, .int x3] [] (hp I J (pm_RT pa pb ga)) Q := by
  unfold F_Pi_cutOff at hF
  refine bk_Pi_cutOff_0 ?_
  refine ⟨oP_ob ha0, ?_⟩
  refine ⟨oP_rt0 ha0, ?_⟩
  refine ⟨oP_ob ha0, ?_⟩
  refine ⟨oP_ob ha0, ?_⟩
  refine ⟨oP_rt0 ha0, ?_⟩
  refine ⟨oP_ar1 ha0, ?_⟩
  obtain ⟨g, hF⟩ := gd_e hF
  refine ⟨(oP_in1 ha0 g), ?_⟩
  refine ⟨oP_ar1 ha0, ?_⟩
  obtain ⟨g, hF⟩ := gd_e hF
  refine ⟨(oP_in1 ha0 g), ?_⟩
  refine ⟨oP_ob ha0, ?_⟩
  refine ⟨oP_rt1 ha0, ?_⟩
  refine ⟨oP_ob ha0, ?_⟩
  refine ⟨oP_ob ha0, ?_⟩
  refine ⟨oP_rt1 ha0, ?_⟩
  refine ⟨oP_ar2 ha0, ?_⟩
  obtain ⟨g, hF⟩ := gd_e hF
  refine ⟨(oP_in2 ha0 g), ?_⟩
  refine ⟨oP_ar2 ha0, ?_⟩
  obtain ⟨g, hF⟩ := gd_e hF
  refine ⟨(oP_in2 ha0 g), ?_⟩
  refine ⟨oP_ob ha0, ?_⟩
  refine ⟨oP_rt2 ha0, ?_⟩
  refine ⟨oP_ob ha0, ?_⟩
  refine ⟨oP_ob ha0, ?_⟩
  refine ⟨oP_rt2 ha0, ?_⟩
  refine ⟨oP_ar3 ha0, ?_⟩
  obtain ⟨g, hF⟩ := gd_e hF
  refine ⟨(oP_in3 ha0 g), ?_⟩
  refine ⟨oP_ar3 ha0, ?_⟩
  obtain ⟨g, hF⟩ := gd_e hF
  refine ⟨(oP_in3 ha0 g), ?_⟩
  refine ⟨oP_ob ha0, ?_⟩
  refine ⟨oP_rt3 ha0, ?_⟩
  refine ⟨oP_ob ha0, ?_⟩
  refine ⟨oP_ob ha0, ?_⟩
  refine ⟨oP_rt3 ha0, ?_⟩
  refine ⟨oP_ar4 ha0, ?_⟩
  obtain ⟨g, hF⟩ := gd_e hF
  refine ⟨(oP_in4 ha0 g), ?_⟩
  refine ⟨oP_ar4 ha0, ?_⟩
  obtain ⟨g, hF⟩ := gd_e hF
  refine ⟨(oP_in4 ha0 g), ?_⟩
  refine ⟨fun z => ?_, fun z => ?_⟩
  · rw [if_pos z] at hF
    refine ⟨oP_ob ha0, ?_⟩
    refine ⟨oP_rt3 ha0, ?_⟩
    refine ⟨oP_ar4 ha0, ?_⟩
    obtain ⟨g, hF⟩ := gd_e hF
    refine ⟨(oP_in4 ha0 g), ?_⟩
    refine ⟨oP_ob ha0, ?_⟩
    refine ⟨oP_ob ha0, ?_⟩
    exact ret_q (Q := fun a b c => Q none (hp b c (pm_RT pa pb ga))) hF hQ
  · rw [if_neg z] at hF
    refine ⟨oP_ob ha0, ?_⟩
    refine ⟨oP_rt2 ha0, ?_⟩
    refine ⟨oP_ar3 ha0, ?_⟩
    obtain ⟨g, hF⟩ := gd_e hF
    refine ⟨(oP_in3 ha0 g), ?_⟩
    refine ⟨oP_ob ha0, ?_⟩
    refine ⟨oP_ob ha0, ?_⟩
    exact ret_q (Q := fun a b c => Q none (hp b c (pm_RT pa pb ga))) hF hQ
def F_Pi_has (u : Nat) (a0 : Nat) (x1 : Int32) (I : pm_II) (J : pm_JJ) : Option (Int32 × pm_II × pm_JJ) :=
  if x1 < 0 then (
    some ((0 : Int32), I, J))
  else (
    if (I a0 4) ≤ x1 then (
      some ((0 : Int32), I, J))
    else (
      if 30 < x1 then (
        some ((0 : Int32), I, J))
      else (
        some ((1 : Int32), I, J))))
theorem fx_Pi_has {u k : Nat} {pa pb : Nat} {ga : Nat → Nat} {Q : Option Value → pm_H → Prop} {a0 : Nat} {x1 : Int32} {I : pm_II} {J : pm_JJ} {r : Int32} {I2 : pm_II} {J2 : pm_JJ} (hk : 0 ≤ k) (ha0 : oP a0) (hF : F_Pi_has u a0 x1 I J = some (r, I2, J2)) (hQ : Q (some (.int r)) (hp I2 J2 (pm_RT pa pb ga))) : Px k 176 m_Pi_has 0 [.ref a0, .int x1] [] (hp I J (pm_RT pa pb ga)) Q := by
  unfold F_Pi_has at hF
  refine bk_Pi_has_0 ?_
  refine ⟨fun z => ?_, fun z => ?_⟩
  · rw [if_pos z] at hF
    exact ret_q (Q := fun a b c => Q (some (.int a)) (hp b c (pm_RT pa pb ga))) hF hQ
  · rw [if_neg z] at hF
    refine ⟨oP_ob ha0, ?_⟩
    refine ⟨fun z => ?_, fun z => ?_⟩
    · rw [if_pos z] at hF
      exact ret_q (Q := fun a b c => Q (some (.int a)) (hp b c (pm_RT pa pb ga))) hF hQ
    · rw [if_neg z] at hF
      refine ⟨fun z => ?_, fun z => ?_⟩
      · rw [if_pos z] at hF
        exact ret_q (Q := fun a b c => Q (some (.int a)) (hp b c (pm_RT pa pb ga))) hF hQ
      · rw [if_neg z] at hF
        exact ret_q (Q := fun a b c => Q (some (.int a)) (hp b c (pm_RT pa pb ga))) hF hQ
def F_Pi_readCut_114 (u : Nat) (I : pm_II) (J : pm_JJ) : Option (Unit × pm_II × pm_JJ) :=
  some ((), I, J)
def F_Pi_readCut_111 (u : Nat) (b0 : Nat) (s1 : Int32) (s2 : Int32) (s3 : Int32) (I : pm_II) (J : pm_JJ) : Option (Unit × pm_II × pm_JJ) :=
  bd (F_Pi_cutOff u b0 s1 s2 s3 I J) fun _ I111 J111 =>
  F_Pi_readCut_114 u I111 J111
def F_Pi_readCut_101 (u : Nat) (x2 : Int32) (x4 : Int32) (b0 : Nat) (s1 : Int32) (s2 : Int32) (I : pm_II) (J : pm_JJ) : Option (Unit × pm_II × pm_JJ) :=
  if x2 = 0 then (
    F_Pi_readCut_111 u b0 s1 s2 (0 : Int32) I J)
  else (
    F_Pi_readCut_111 u b0 s1 s2 x4 I J)
def F_Pi_readCut_69 (u : Nat) (a0 : Nat) (x2 : Int32) (x3 : Int32) (s1 : Int32) (s2 : Int32) (I : pm_II) (J : pm_JJ) : Option (Unit × pm_II × pm_JJ) :=
  bd (F_Ta_readNextNumber u s1 (s2 - (1 : Int32)) I J) fun r71 I71 J71 =>
  bd (F_Ta_expect u (10 : Int32) I71 J71) fun _ I79 J79 =>
  bd (F_Ta_isRight u I79 J79) fun r83 I83 J83 =>
  if r83 = 0 then (
    F_Pi_readCut_114 u I83 J83)
  else (
    if x2 = 0 then (
      F_Pi_readCut_101 u x2 r71 a0 x3 r71 I83 J83)
    else (
      F_Pi_readCut_101 u x2 r71 a0 x3 (0 : Int32) I83 J83))
def F_Pi_readCut_17 (u : Nat) (a0 : Nat) (s0 : Int32) (I : pm_II) (J : pm_JJ) : Option (Unit × pm_II × pm_JJ) :=
  bd (F_Ta_readNextNumber u (0 : Int32) ((I a0 4) - (1 : Int32)) I J) fun r26 I26 J26 =>
  bd (F_Pi_has u a0 r26 I26 J26) fun r32 I32 J32 =>
  if r32 = 0 then (
    some ((), I32, J32))
  else (
    if (I32 a0 4) ≤ 30 then (
      if s0 = 0 then (
        cond (vq r26 31) (
        F_Pi_readCut_69 u a0 s0 r26 (1 : Int32) (I32 (a0 + 3) ((r26 : Int32).toNatClampNeg)) I32 J32) none)
      else (
        cond (vq r26 31) (
        F_Pi_readCut_69 u a0 s0 r26 (1 : Int32) (I32 (a0 + 4) ((r26 : Int32).toNatClampNeg)) I32 J32) none))
    else (
      some ((), I32, J32)))
def F_Pi_readCut (u : Nat) (a0 : Nat) (I : pm_II) (J : pm_JJ) : Option (Unit × pm_II × pm_JJ) :=
  bd (F_Ta_readEither u 9 10 I J) fun r5 I5 J5 =>
  if ¬ r5 = 1 then (
    F_Pi_readCut_17 u a0 (0 : Int32) I5 J5)
  else (
    F_Pi_readCut_17 u a0 (1 : Int32) I5 J5)
theorem fx_Pi_readCut_114 {u k : Nat} {pa pb : Nat} {ga : Nat → Nat} {Q : Option Value → pm_H → Prop} {a0 : Nat} {x2 : Int32} {x3 : Int32} {x4 : Int32} {I : pm_II} {J : pm_JJ} {r : Unit} {I2 : pm_II} {J2 : pm_JJ} (hk : 6 ≤ k) (ha0 : oP a0) (hF : F_Pi_readCut_114 u  I J = some (r, I2, J2)) (hQ : Q none (hp I2 J2 (pm_RT pa pb ga))) : Px k 176 m_Pi_readCut 114 [.ref a0, .ref 17, .int x2, .int x3, .int x4] [] (hp I J (pm_RT pa pb ga)) Q := by
  obtain ⟨k, rfl⟩ : ∃ j, k = j + 1 := ⟨k - 1, by omega⟩
  unfold F_Pi_readCut_114 at hF
  refine bk_Pi_readCut_114 ?_
  exact ret_q (Q := fun a b c => Q none (hp b c (pm_RT pa pb ga))) hF hQ
theorem fx_Pi_readCut_111 {u k : Nat} {pa pb : Nat} {ga : Nat → Nat} {Q : Option Value → pm_H → Prop} {a0 : Nat} {x2 : Int32} {x3 : Int32} {x4 : Int32} {b0 : Nat} {s1 : Int32} {s2 : Int32} {s3 : Int32} {I : pm_II} {J : pm_JJ} {r : Unit} {I2 : pm_II} {J2 : pm_JJ} (hk : 6 ≤ k) (ha0 : oP a0) (hb0 : oP b0) (hF : F_Pi_readCut_111 u b0 s1 s2 s3 I J = some (r, I2, J2)) (hQ : Q none (hp I2 J2 (pm_RT pa pb ga))) : Px k 176 m_Pi_readCut 111 [.ref a0, .ref 17, .int x2, .int x3, .int x4] [.int s3, .int s2, .int s1, .ref b0] (hp I J (pm_RT pa pb ga)) Q := by
  obtain ⟨k, rfl⟩ : ∃ j, k = j + 1 := ⟨k - 1, by omega⟩
  unfold F_Pi_readCut_111 at hF
  refine bk_Pi_readCut_111 ?_
  refine ⟨oP_ob hb0, ?_⟩
  obtain ⟨r111, I111, J111, hC111, hF⟩ := bd_e hF
  refine fx_Pi_cutOff (by omega) hb0 hC111 ⟨rfl, ?_⟩
  exact fx_Pi_readCut_114 hk ha0 hF hQ
theorem fx_Pi_readCut_101 {u k : Nat} {pa pb : Nat} {ga : Nat → Nat} {Q : Option Value → pm_H → Prop} {a0 : Nat} {x2 : Int32} {x3 : Int32} {x4 : Int32} {b0 : Nat} {s1 : Int32} {s2 : Int32} {I : pm_II} {J : pm_JJ} {r : Unit} {I2 : pm_II} {J2 : pm_JJ} (hk : 6 ≤ k) (ha0 : oP a0) (hb0 : oP b0) (hF : F_Pi_readCut_101 u x2 x4 b0 s1 s2 I J = some (r, I2, J2)) (hQ : Q none (hp I2 J2 (pm_RT pa pb ga))) : Px k 176 m_Pi_readCut 101 [.ref a0, .ref 17, .int x2, .int x3, .int x4] [.int s2, .int s1, .ref b0] (hp I J (pm_RT pa pb ga)) Q := by
  obtain ⟨k, rfl⟩ : ∃ j, k = j + 1 := ⟨k - 1, by omega⟩
  unfold F_Pi_readCut_101 at hF
  refine bk_Pi_readCut_101 ?_
  refine ⟨fun z => ?_, fun z => ?_⟩
  · rw [if_pos z] at hF
    exact fx_Pi_readCut_111 hk ha0 hb0 hF hQ
  · rw [if_neg z] at hF
    exact fx_Pi_readCut_111 hk ha0 hb0 hF hQ
theorem fx_Pi_readCut_69 {u k : Nat} {pa pb : Nat} {ga : Nat → Nat} {Q : Option Value → pm_H → Prop} {a0 : Nat} {x2 : Int32} {x3 : Int32} {s1 : Int32} {s2 : Int32} {I : pm_II} {J : pm_JJ} {r : Unit} {I2 : pm_II} {J2 : pm_JJ} (hk : 6 ≤ k) (ha0 : oP a0) (hF : F_Pi_readCut_69 u a0 x2 x3 s1 s2 I J = some (r, I2, J2)) (hQ : Q none (hp I2 J2 (pm_RT pa pb ga))) : Px k 176 m_Pi_readCut 69 [.ref a0, .ref 17, .int x2, .int x3, .null] [.int s2, .int s1, .ref 17] (hp I J (pm_RT pa pb ga)) Q := by
  obtain ⟨k, rfl⟩ : ∃ j, k = j + 1 := ⟨k - 1, by omega⟩
  unfold F_Pi_readCut_69 at hF
  refine bk_Pi_readCut_69 ?_
  obtain ⟨r71, I71, J71, hC71, hF⟩ := bd_e hF
  refine fx_Ta_readNextNumber (by omega) hC71 ⟨rfl, ?_⟩
  refine bk_Pi_readCut_74 ?_
  obtain ⟨r79, I79, J79, hC79, hF⟩ := bd_e hF
  refine fx_Ta_expect (by omega) hC79 ⟨rfl, ?_⟩
  refine bk_Pi_readCut_82 ?_
  obtain ⟨r83, I83, J83, hC83, hF⟩ := bd_e hF
  refine fx_Ta_isRight (by omega) hC83 ⟨rfl, ?_⟩
  refine bk_Pi_readCut_86 ?_
  refine ⟨fun z => ?_, fun z => ?_⟩
  · rw [if_pos z] at hF
    exact fx_Pi_readCut_114 hk ha0 hF hQ
  · rw [if_neg z] at hF
    refine ⟨fun z => ?_, fun z => ?_⟩
    · rw [if_pos z] at hF
      exact fx_Pi_readCut_101 hk ha0 ha0 hF hQ
    · rw [if_neg z] at hF
      exact fx_Pi_readCut_101 hk ha0 ha0 hF hQ
theorem fx_Pi_readCut_17 {u k : Nat} {pa pb : Nat} {ga : Nat → Nat} {Q : Option Value → pm_H → Prop} {a0 : Nat} {s0 : Int32} {I : pm_II} {J : pm_JJ} {r : Unit} {I2 : pm_II} {J2 : pm_JJ} (hk : 6 ≤ k) (ha0 : oP a0) (hF : F_Pi_readCut_17 u a0 s0 I J = some (r, I2, J2)) (hQ : Q none (hp I2 J2 (pm_RT pa pb ga))) : Px k 176 m_Pi_readCut 17 [.ref a0, .ref 17, .null, .null, .null] [.int s0] (hp I J (pm_RT pa pb ga)) Q := by
  obtain ⟨k, rfl⟩ : ∃ j, k = j + 1 := ⟨k - 1, by omega⟩
  unfold F_Pi_readCut_17 at hF
  refine bk_Pi_readCut_17 ?_
  refine ⟨oP_ob ha0, ?_⟩
  obtain ⟨r26, I26, J26, hC26, hF⟩ := bd_e hF
  refine fx_Ta_readNextNumber (by omega) hC26 ⟨rfl, ?_⟩
  refine bk_Pi_readCut_29 ?_
  refine ⟨oP_ob ha0, ?_⟩
  obtain ⟨r32, I32, J32, hC32, hF⟩ := bd_e hF
  refine fx_Pi_has (by omega) ha0 hC32 ⟨rfl, ?_⟩
  refine bk_Pi_readCut_35 ?_
  refine ⟨fun z => ?_, fun z => ?_⟩
  · rw [if_pos z] at hF
    exact ret_q (Q := fun a b c => Q none (hp b c (pm_RT pa pb ga))) hF hQ
  · rw [if_neg z] at hF
    refine ⟨oP_ob ha0, ?_⟩
    refine ⟨fun z => ?_, fun z => ?_⟩
    · rw [if_pos z] at hF
      refine ⟨fun z => ?_, fun z => ?_⟩
      · rw [if_pos z] at hF
        refine ⟨oP_ob ha0, ?_⟩
        refine ⟨oP_rt2 ha0, ?_⟩
        refine ⟨oP_ar3 ha0, ?_⟩
        obtain ⟨g, hF⟩ := gd_e hF
        refine ⟨(oP_in3 ha0 g), ?_⟩
        exact fx_Pi_readCut_69 hk ha0 hF hQ
      · rw [if_neg z] at hF
        refine ⟨oP_ob ha0, ?_⟩
        refine ⟨oP_rt3 ha0, ?_⟩
        refine ⟨oP_ar4 ha0, ?_⟩
        obtain ⟨g, hF⟩ := gd_e hF
        refine ⟨(oP_in4 ha0 g), ?_⟩
        exact fx_Pi_readCut_69 hk ha0 hF hQ
    · rw [if_neg z] at hF
      exact ret_q (Q := fun a b c => Q none (hp b c (pm_RT pa pb ga))) hF hQ
theorem fx_Pi_readCut {u k : Nat} {pa pb : Nat} {ga : Nat → Nat} {Q : Option Value → pm_H → Prop} {a0 : Nat} {I : pm_II} {J : pm_JJ} {r : Unit} {I2 : pm_II} {J2 : pm_JJ} (hk : 6 ≤ k) (ha0 : oP a0) (hF : F_Pi_readCut u a0 I J = some (r, I2, J2)) (hQ : Q none (hp I2 J2 (pm_RT pa pb ga))) : Px k 176 m_Pi_readCut 0 [.ref a0, .ref 17, .null, .null, .null] [] (hp I J (pm_RT pa pb ga)) Q := by
  obtain ⟨k, rfl⟩ : ∃ j, k = j + 1 := ⟨k - 1, by omega⟩
  unfold F_Pi_readCut at hF
  refine bk_Pi_readCut_0 ?_
  obtain ⟨r5, I5, J5, hC5, hF⟩ := bd_e hF
  refine fx_Ta_readEither (by omega) ⟨by decide, by decide⟩ ⟨by decide, by decide⟩ hC5 ⟨rfl, ?_⟩
  refine bk_Pi_readCut_8 ?_
  refine ⟨fun z => ?_, fun z => ?_⟩
  · rw [if_pos z] at hF
    exact fx_Pi_readCut_17 hk ha0 hF hQ
  · rw [if_neg z] at hF
    exact fx_Pi_readCut_17 hk ha0 hF hQ
def F_Pi_takeText_61 (u : Nat) (a0 : Nat) (I : pm_II) (J : pm_JJ) : Option (Int32 × pm_II × pm_JJ) :=
  bd (F_Ta_finish u I J) fun _ I62 J62 =>
  some ((I62 a0 4), I62, J62)
def F_Pi_takeText_36 (u : Nat) : Nat → Nat → Int32 → pm_II → pm_JJ → Option (Int32 × pm_II × pm_JJ)
  | 0, _, _, _, _ => none
  | n + 1, a0, x4, I, J =>
    if 30 ≤ x4 then (
      F_Pi_takeText_61 u a0 I J)
    else (
      bd (F_Ta_hasMore u I J) fun r44 I44 J44 =>
      if r44 = 0 then (
        F_Pi_takeText_61 u a0 I44 J44)
      else (
        bd (F_Pi_readCut u a0 I44 J44) fun _ I52 J52 =>
        F_Pi_takeText_36 u n a0 (x4 + Int32.ofInt 1) I52 J52))
def F_Pi_takeText (u : Nat) (a0 : Nat) (x2 : Int32) (x3 : Int32) (I : pm_II) (J : pm_JJ) : Option (Int32 × pm_II × pm_JJ) :=
  cond (vq 0 31) (
  cond (vq 0 31) (
  cond (vq 0 31) (
  cond (vq 0 31) (
  F_Pi_takeText_36 u u a0 (0 : Int32) (pm_up (pm_up (pm_up (pm_up (pm_up I (a0 + 1) 0 0) (a0 + 2) 0 0) (a0 + 3) 0 x2) (a0 + 4) 0 x3) a0 4 1) J) none) none) none) none
theorem fx_Pi_takeText_61 {u k : Nat} {pa pb : Nat} {ga : Nat → Nat} {Q : Option Value → pm_H → Prop} {a0 : Nat} {x2 : Int32} {x3 : Int32} {x4 : Int32} {I : pm_II} {J : pm_JJ} {r : Int32} {I2 : pm_II} {J2 : pm_JJ} (hk : 7 ≤ k) (ha0 : oP a0) (hF : F_Pi_takeText_61 u a0 I J = some (r, I2, J2)) (hQ : Q (some (.int r)) (hp I2 J2 (pm_RT pa pb ga))) : Px k 176 m_Pi_takeText 61 [.ref a0, .ref 17, .int x2, .int x3, .int x4] [] (hp I J (pm_RT pa pb ga)) Q := by
  obtain ⟨k, rfl⟩ : ∃ j, k = j + 1 := ⟨k - 1, by omega⟩
  unfold F_Pi_takeText_61 at hF
  refine bk_Pi_takeText_61 ?_
  obtain ⟨r62, I62, J62, hC62, hF⟩ := bd_e hF
  refine fx_Ta_finish (by omega) hC62 ⟨rfl, ?_⟩
  refine bk_Pi_takeText_65 ?_
  refine ⟨oP_ob ha0, ?_⟩
  exact ret_q (Q := fun a b c => Q (some (.int a)) (hp b c (pm_RT pa pb ga))) hF hQ
theorem fx_Pi_takeText_36 {u k : Nat} {pa pb : Nat} {ga : Nat → Nat} {Q : Option Value → pm_H → Prop} (hk : 7 ≤ k) : ∀ (n : Nat), ∀ (a0 : Nat) (x2 : Int32) (x3 : Int32) (x4 : Int32) (I : pm_II) (J : pm_JJ) (r : Int32) (I2 : pm_II) (J2 : pm_JJ), oP a0 → F_Pi_takeText_36 u n a0 x4 I J = some (r, I2, J2) → Q (some (.int r)) (hp I2 J2 (pm_RT pa pb ga)) → Px k 176 m_Pi_takeText 36 [.ref a0, .ref 17, .int x2, .int x3, .int x4] [] (hp I J (pm_RT pa pb ga)) Q := by
  obtain ⟨k, rfl⟩ : ∃ j, k = j + 1 := ⟨k - 1, by omega⟩
  intro n
  induction n with
  | zero => intro a0 x2 x3 x4 I J r I2 J2 ha0 hF; cases hF
  | succ n ih =>
    intro a0 x2 x3 x4 I J r I2 J2 ha0 hF hQ
    rw [F_Pi_takeText_36] at hF
    refine bk_Pi_takeText_36 ?_
    refine ⟨fun z => ?_, fun z => ?_⟩
    · rw [if_pos z] at hF
      exact fx_Pi_takeText_61 hk ha0 hF hQ
    · rw [if_neg z] at hF
      obtain ⟨r44, I44, J44, hC44, hF⟩ := bd_e hF
      refine fx_Ta_hasMore (by omega) hC44 ⟨rfl, ?_⟩
      refine bk_Pi_takeText_47 ?_
      refine ⟨fun z => ?_, fun z => ?_⟩
      · rw [if_pos z] at hF
        exact fx_Pi_takeText_61 hk ha0 hF hQ
      · rw [if_neg z] at hF
        refine ⟨oP_ob ha0, ?_⟩
        obtain ⟨r52, I52, J52, hC52, hF⟩ := bd_e hF
        refine fx_Pi_readCut (by omega) ha0 hC52 ⟨rfl, ?_⟩
        refine bk_Pi_takeText_55 ?_
        exact ih _ _ _ _ _ _ _ _ _ ha0 hF hQ
theorem fx_Pi_takeText {u k : Nat} {pa pb : Nat} {ga : Nat → Nat} {Q : Option Value → pm_H → Prop} {a0 : Nat} {x2 : Int32} {x3 : Int32} {I : pm_II} {J : pm_JJ} {r : Int32} {I2 : pm_II} {J2 : pm_JJ} (hk : 7 ≤ k) (ha0 : oP a0) (hF : F_Pi_takeText u a0 x2 x3 I J = some (r, I2, J2)) (hQ : Q (some (.int r)) (hp I2 J2 (pm_RT pa pb ga))) : Px k 176 m_Pi_takeText 0 [.ref a0, .ref 17, .int x2, .int x3, .null] [] (hp I J (pm_RT pa pb ga)) Q := by
  obtain ⟨k, rfl⟩ : ∃ j, k = j + 1 := ⟨k - 1, by omega⟩
  unfold F_Pi_takeText at hF
  refine bk_Pi_takeText_0 ?_
  refine ⟨oP_ob ha0, ?_⟩
  refine ⟨oP_rt0 ha0, ?_⟩
  refine ⟨oP_ar1 ha0, ?_⟩
  obtain ⟨g, hF⟩ := gd_e hF
  refine ⟨(oP_in1 ha0 g), ?_⟩
  refine ⟨oP_ob ha0, ?_⟩
  refine ⟨oP_rt1 ha0, ?_⟩
  refine ⟨oP_ar2 ha0, ?_⟩
  obtain ⟨g, hF⟩ := gd_e hF
  refine ⟨(oP_in2 ha0 g), ?_⟩
  refine ⟨oP_ob ha0, ?_⟩
  refine ⟨oP_rt2 ha0, ?_⟩
  refine ⟨oP_ar3 ha0, ?_⟩
  obtain ⟨g, hF⟩ := gd_e hF
  refine ⟨(oP_in3 ha0 g), ?_⟩
  refine ⟨oP_ob ha0, ?_⟩
  refine ⟨oP_rt3 ha0, ?_⟩
  refine ⟨oP_ar4 ha0, ?_⟩
  obtain ⟨g, hF⟩ := gd_e hF
  refine ⟨(oP_in4 ha0 g), ?_⟩
  refine ⟨oP_ob ha0, ?_⟩
  exact fx_Pi_takeText_36 hk u _ _ _ _ _ _ _ _ _ ha0 hF hQ
def F_Pi_tell (u : Nat) (a0 : Nat) (x1 : Int32) (x2 : Int32) (I : pm_II) (J : pm_JJ) : Option (Int32 × pm_II × pm_JJ) :=
  bd (F_Pi_has u a0 x1 I J) fun r2 I2 J2 =>
  if ¬ r2 = 0 then (
    if x2 = nI 0 then (
      cond (vq x1 31) (
      some ((I2 (a0 + 1) ((x1 : Int32).toNatClampNeg)), I2, J2)) none)
    else     if x2 = nI 1 then (
      cond (vq x1 31) (
      some ((I2 (a0 + 2) ((x1 : Int32).toNatClampNeg)), I2, J2)) none)
    else     if x2 = nI 2 then (
      cond (vq x1 31) (
      some ((I2 (a0 + 3) ((x1 : Int32).toNatClampNeg)), I2, J2)) none)
    else     if x2 = nI 3 then (
      cond (vq x1 31) (
      some ((I2 (a0 + 4) ((x1 : Int32).toNatClampNeg)), I2, J2)) none)
    else (
      some (((-1) : Int32), I2, J2)))
  else (
    some (((-1) : Int32), I2, J2))
theorem fx_Pi_tell {u k : Nat} {pa pb : Nat} {ga : Nat → Nat} {Q : Option Value → pm_H → Prop} {a0 : Nat} {x1 : Int32} {x2 : Int32} {I : pm_II} {J : pm_JJ} {r : Int32} {I2 : pm_II} {J2 : pm_JJ} (hk : 1 ≤ k) (ha0 : oP a0) (hF : F_Pi_tell u a0 x1 x2 I J = some (r, I2, J2)) (hQ : Q (some (.int r)) (hp I2 J2 (pm_RT pa pb ga))) : Px k 176 m_Pi_tell 0 [.ref a0, .int x1, .int x2] [] (hp I J (pm_RT pa pb ga)) Q := by
  obtain ⟨k, rfl⟩ : ∃ j, k = j + 1 := ⟨k - 1, by omega⟩
  unfold F_Pi_tell at hF
  refine bk_Pi_tell_0 ?_
  refine ⟨oP_ob ha0, ?_⟩
  obtain ⟨r2, I2, J2, hC2, hF⟩ := bd_e hF
  refine fx_Pi_has (by omega) ha0 hC2 ⟨rfl, ?_⟩
  refine bk_Pi_tell_5 ?_
  refine ⟨fun z => ?_, fun z => ?_⟩
  · rw [if_pos z] at hF
    refine ⟨fun z => ?_, fun z => ?_, fun z => ?_, fun z => ?_, fun z => ?_⟩
    · rw [if_pos z] at hF
      refine ⟨oP_ob ha0, ?_⟩
      refine ⟨oP_rt0 ha0, ?_⟩
      refine ⟨oP_ar1 ha0, ?_⟩
      obtain ⟨g, hF⟩ := gd_e hF
      refine ⟨(oP_in1 ha0 g), ?_⟩
      exact ret_q (Q := fun a b c => Q (some (.int a)) (hp b c (pm_RT pa pb ga))) hF hQ
    · rw [if_neg (by rw [z]; decide), if_pos z] at hF
      refine ⟨oP_ob ha0, ?_⟩
      refine ⟨oP_rt1 ha0, ?_⟩
      refine ⟨oP_ar2 ha0, ?_⟩
      obtain ⟨g, hF⟩ := gd_e hF
      refine ⟨(oP_in2 ha0 g), ?_⟩
      exact ret_q (Q := fun a b c => Q (some (.int a)) (hp b c (pm_RT pa pb ga))) hF hQ
    · rw [if_neg (by rw [z]; decide), if_neg (by rw [z]; decide), if_pos z] at hF
      refine ⟨oP_ob ha0, ?_⟩
      refine ⟨oP_rt2 ha0, ?_⟩
      refine ⟨oP_ar3 ha0, ?_⟩
      obtain ⟨g, hF⟩ := gd_e hF
      refine ⟨(oP_in3 ha0 g), ?_⟩
      exact ret_q (Q := fun a b c => Q (some (.int a)) (hp b c (pm_RT pa pb ga))) hF hQ
    · rw [if_neg (by rw [z]; decide), if_neg (by rw [z]; decide), if_neg (by rw [z]; decide), if_pos z] at hF
      refine ⟨oP_ob ha0, ?_⟩
      refine ⟨oP_rt3 ha0, ?_⟩
      refine ⟨oP_ar4 ha0, ?_⟩
      obtain ⟨g, hF⟩ := gd_e hF
      refine ⟨(oP_in4 ha0 g), ?_⟩
      exact ret_q (Q := fun a b c => Q (some (.int a)) (hp b c (pm_RT pa pb ga))) hF hQ
    · rw [if_neg (sw_ne z (by decide) (by decide)), if_neg (sw_ne z (by decide) (by decide)), if_neg (sw_ne z (by decide) (by decide)), if_neg (sw_ne z (by decide) (by decide))] at hF
      exact ret_q (Q := fun a b c => Q (some (.int a)) (hp b c (pm_RT pa pb ga))) hF hQ
  · rw [if_neg z] at hF
    exact ret_q (Q := fun a b c => Q (some (.int a)) (hp b c (pm_RT pa pb ga))) hF hQ
def F_Pi_pieceAt_48 (u : Nat) (K2 : Nat → Int32 → Int32 → Int32 → pm_II → pm_JJ → Option (Int32 × pm_II × pm_JJ)) (a0 : Nat) (x1 : Int32) (x2 : Int32) (x3 : Int32) (s0 : Int32) (I : pm_II) (J : pm_JJ) : Option (Int32 × pm_II × pm_JJ) :=
  if s0 = 0 then (
    K2 a0 x1 x2 (x3 + Int32.ofInt 1) I J)
  else (
    cond (vq x3 31) (
    if x2 < (I (a0 + 2) ((x3 : Int32).toNatClampNeg)) then (
      K2 a0 x1 x2 (x3 + Int32.ofInt 1) I J)
    else (
      cond (vq x3 31) (
      cond (vq x3 31) (
      if ((I (a0 + 2) ((x3 : Int32).toNatClampNeg)) + (I (a0 + 4) ((x3 : Int32).toNatClampNeg))) ≤ x2 then (
        K2 a0 x1 x2 (x3 + Int32.ofInt 1) I J)
      else (
        some (x3, I, J))) none) none)) none)
def F_Pi_pieceAt_90 (u : Nat) (I : pm_II) (J : pm_JJ) : Option (Int32 × pm_II × pm_JJ) :=
  some (((-1) : Int32), I, J)
def F_Pi_pieceAt_2 (u : Nat) : Nat → Nat → Int32 → Int32 → Int32 → pm_II → pm_JJ → Option (Int32 × pm_II × pm_JJ)
  | 0, _, _, _, _, _, _ => none
  | n + 1, a0, x1, x2, x3, I, J =>
    if (I a0 4) ≤ x3 then (
      F_Pi_pieceAt_90 u I J)
    else (
      if 30 < x3 then (
        F_Pi_pieceAt_90 u I J)
      else (
        cond (vq x3 31) (
        if x1 < (I (a0 + 1) ((x3 : Int32).toNatClampNeg)) then (
          F_Pi_pieceAt_48 u (F_Pi_pieceAt_2 u n) a0 x1 x2 x3 (0 : Int32) I J)
        else (
          cond (vq x3 31) (
          cond (vq x3 31) (
          if ((I (a0 + 1) ((x3 : Int32).toNatClampNeg)) + (I (a0 + 3) ((x3 : Int32).toNatClampNeg))) ≤ x1 then (
            F_Pi_pieceAt_48 u (F_Pi_pieceAt_2 u n) a0 x1 x2 x3 (0 : Int32) I J)
          else (
            F_Pi_pieceAt_48 u (F_Pi_pieceAt_2 u n) a0 x1 x2 x3 (1 : Int32) I J)) none) none)) none))
def F_Pi_pieceAt (u : Nat) (a0 : Nat) (x1 : Int32) (x2 : Int32) (I : pm_II) (J : pm_JJ) : Option (Int32 × pm_II × pm_JJ) :=
  F_Pi_pieceAt_2 u u a0 x1 x2 (0 : Int32) I J
theorem fx_Pi_pieceAt_48 {u k : Nat} {pa pb : Nat} {ga : Nat → Nat} {Q : Option Value → pm_H → Prop} {K2 : Nat → Int32 → Int32 → Int32 → pm_II → pm_JJ → Option (Int32 × pm_II × pm_JJ)} {a0 : Nat} {x1 : Int32} {x2 : Int32} {x3 : Int32} {s0 : Int32} {I : pm_II} {J : pm_JJ} {r : Int32} {I2 : pm_II} {J2 : pm_JJ} (hk : 0 ≤ k) (hK2 : ∀ (a0 : Nat) (x1 : Int32) (x2 : Int32) (x3 : Int32) (I : pm_II) (J : pm_JJ) (r : Int32) (I2 : pm_II) (J2 : pm_JJ), oP a0 → K2 a0 x1 x2 x3 I J = some (r, I2, J2) → Q (some (.int r)) (hp I2 J2 (pm_RT pa pb ga)) → Px k 176 m_Pi_pieceAt 2 [.ref a0, .int x1, .int x2, .int x3, .null] [] (hp I J (pm_RT pa pb ga)) Q) (ha0 : oP a0) (hF : F_Pi_pieceAt_48 u K2 a0 x1 x2 x3 s0 I J = some (r, I2, J2)) (hQ : Q (some (.int r)) (hp I2 J2 (pm_RT pa pb ga))) : Px k 176 m_Pi_pieceAt 48 [.ref a0, .int x1, .int x2, .int x3, .null] [.int s0] (hp I J (pm_RT pa pb ga)) Q := by
  unfold F_Pi_pieceAt_48 at hF
  refine bk_Pi_pieceAt_48 ?_
  refine ⟨fun z => ?_, fun z => ?_⟩
  · rw [if_pos z] at hF
    exact Px_wk (hK2 _ _ _ _ _ _ _ _ _ ha0 hF hQ) ⟨Or.inl rfl, Or.inl rfl, Or.inl rfl, Or.inl rfl, Or.inr ⟨rfl, rfl⟩, trivial⟩
  · rw [if_neg z] at hF
    refine ⟨oP_ob ha0, ?_⟩
    refine ⟨oP_rt1 ha0, ?_⟩
    refine ⟨oP_ar2 ha0, ?_⟩
    obtain ⟨g, hF⟩ := gd_e hF
    refine ⟨(oP_in2 ha0 g), ?_⟩
    refine ⟨fun z => ?_, fun z => ?_⟩
    · rw [if_pos z] at hF
      exact Px_wk (hK2 _ _ _ _ _ _ _ _ _ ha0 hF hQ) ⟨Or.inl rfl, Or.inl rfl, Or.inl rfl, Or.inl rfl, Or.inr ⟨rfl, rfl⟩, trivial⟩
    · rw [if_neg z] at hF
      refine ⟨oP_ob ha0, ?_⟩
      refine ⟨oP_rt1 ha0, ?_⟩
      refine ⟨oP_ar2 ha0, ?_⟩
      obtain ⟨g, hF⟩ := gd_e hF
      refine ⟨(oP_in2 ha0 g), ?_⟩
      refine ⟨oP_ob ha0, ?_⟩
      refine ⟨oP_rt3 ha0, ?_⟩
      refine ⟨oP_ar4 ha0, ?_⟩
      obtain ⟨g, hF⟩ := gd_e hF
      refine ⟨(oP_in4 ha0 g), ?_⟩
      refine ⟨fun z => ?_, fun z => ?_⟩
      · rw [if_pos z] at hF
        exact Px_wk (hK2 _ _ _ _ _ _ _ _ _ ha0 hF hQ) ⟨Or.inl rfl, Or.inl rfl, Or.inl rfl, Or.inl rfl, Or.inr ⟨rfl, rfl⟩, trivial⟩
      · rw [if_neg z] at hF
        exact ret_q (Q := fun a b c => Q (some (.int a)) (hp b c (pm_RT pa pb ga))) hF hQ
theorem fx_Pi_pieceAt_90 {u k : Nat} {pa pb : Nat} {ga : Nat → Nat} {Q : Option Value → pm_H → Prop} {a0 : Nat} {x1 : Int32} {x2 : Int32} {x3 : Int32} {I : pm_II} {J : pm_JJ} {r : Int32} {I2 : pm_II} {J2 : pm_JJ} (hk : 0 ≤ k) (ha0 : oP a0) (hF : F_Pi_pieceAt_90 u  I J = some (r, I2, J2)) (hQ : Q (some (.int r)) (hp I2 J2 (pm_RT pa pb ga))) : Px k 176 m_Pi_pieceAt 90 [.ref a0, .int x1, .int x2, .int x3, .null] [] (hp I J (pm_RT pa pb ga)) Q := by
  unfold F_Pi_pieceAt_90 at hF
  refine bk_Pi_pieceAt_90 ?_
  exact ret_q (Q := fun a b c => Q (some (.int a)) (hp b c (pm_RT pa pb ga))) hF hQ
theorem fx_Pi_pieceAt_2 {u k : Nat} {pa pb : Nat} {ga : Nat → Nat} {Q : Option Value → pm_H → Prop} (hk : 0 ≤ k) : ∀ (n : Nat), ∀ (a0 : Nat) (x1 : Int32) (x2 : Int32) (x3 : Int32) (I : pm_II) (J : pm_JJ) (r : Int32) (I2 : pm_II) (J2 : pm_JJ), oP a0 → F_Pi_pieceAt_2 u n a0 x1 x2 x3 I J = some (r, I2, J2) → Q (some (.int r)) (hp I2 J2 (pm_RT pa pb ga)) → Px k 176 m_Pi_pieceAt 2 [.ref a0, .int x1, .int x2, .int x3, .null] [] (hp I J (pm_RT pa pb ga)) Q := by
  intro n
  induction n with
  | zero => intro a0 x1 x2 x3 I J r I2 J2 ha0 hF; cases hF
  | succ n ih =>
    intro a0 x1 x2 x3 I J r I2 J2 ha0 hF hQ
    rw [F_Pi_pieceAt_2] at hF
    refine bk_Pi_pieceAt_2 ?_
    refine ⟨oP_ob ha0, ?_⟩
    refine ⟨fun z => ?_, fun z => ?_⟩
    · rw [if_pos z] at hF
      exact fx_Pi_pieceAt_90 hk ha0 hF hQ
    · rw [if_neg z] at hF
      refine ⟨fun z => ?_, fun z => ?_⟩
      · rw [if_pos z] at hF
        exact fx_Pi_pieceAt_90 hk ha0 hF hQ
      · rw [if_neg z] at hF
        refine ⟨oP_ob ha0, ?_⟩
        refine ⟨oP_rt0 ha0, ?_⟩
        refine ⟨oP_ar1 ha0, ?_⟩
        obtain ⟨g, hF⟩ := gd_e hF
        refine ⟨(oP_in1 ha0 g), ?_⟩
        refine ⟨fun z => ?_, fun z => ?_⟩
        · rw [if_pos z] at hF
          exact fx_Pi_pieceAt_48 hk ih ha0 hF hQ
        · rw [if_neg z] at hF
          refine ⟨oP_ob ha0, ?_⟩
          refine ⟨oP_rt0 ha0, ?_⟩
          refine ⟨oP_ar1 ha0, ?_⟩
          obtain ⟨g, hF⟩ := gd_e hF
          refine ⟨(oP_in1 ha0 g), ?_⟩
          refine ⟨oP_ob ha0, ?_⟩
          refine ⟨oP_rt2 ha0, ?_⟩
          refine ⟨oP_ar3 ha0, ?_⟩
          obtain ⟨g, hF⟩ := gd_e hF
          refine ⟨(oP_in3 ha0 g), ?_⟩
          refine ⟨fun z => ?_, fun z => ?_⟩
          · rw [if_pos z] at hF
            exact fx_Pi_pieceAt_48 hk ih ha0 hF hQ
          · rw [if_neg z] at hF
            exact fx_Pi_pieceAt_48 hk ih ha0 hF hQ
theorem fx_Pi_pieceAt {u k : Nat} {pa pb : Nat} {ga : Nat → Nat} {Q : Option Value → pm_H → Prop} {a0 : Nat} {x1 : Int32} {x2 : Int32} {I : pm_II} {J : pm_JJ} {r : Int32} {I2 : pm_II} {J2 : pm_JJ} (hk : 0 ≤ k) (ha0 : oP a0) (hF : F_Pi_pieceAt u a0 x1 x2 I J = some (r, I2, J2)) (hQ : Q (some (.int r)) (hp I2 J2 (pm_RT pa pb ga))) : Px k 176 m_Pi_pieceAt 0 [.ref a0, .int x1, .int x2, .null, .null] [] (hp I J (pm_RT pa pb ga)) Q := by
  unfold F_Pi_pieceAt at hF
  refine bk_Pi_pieceAt_0 ?_
  exact fx_Pi_pieceAt_2 hk u _ _ _ _ _ _ _ _ _ ha0 hF hQ
def F_Pi_howMany (u : Nat) (a0 : Nat) (I : pm_II) (J : pm_JJ) : Option (Int32 × pm_II × pm_JJ) :=
  some ((I a0 4), I, J)
theorem fx_Pi_howMany {u k : Nat} {pa pb : Nat} {ga : Nat → Nat} {Q : Option Value → pm_H → Prop} {a0 : Nat} {I : pm_II} {J : pm_JJ} {r : Int32} {I2 : pm_II} {J2 : pm_JJ} (hk : 0 ≤ k) (ha0 : oP a0) (hF : F_Pi_howMany u a0 I J = some (r, I2, J2)) (hQ : Q (some (.int r)) (hp I2 J2 (pm_RT pa pb ga))) : Px k 176 m_Pi_howMany 0 [.ref a0] [] (hp I J (pm_RT pa pb ga)) Q := by
  unfold F_Pi_howMany at hF
  refine bk_Pi_howMany_0 ?_
  refine ⟨oP_ob ha0, ?_⟩
  exact ret_q (Q := fun a b c => Q (some (.int a)) (hp b c (pm_RT pa pb ga))) hF hQ
def F_Ty_linesStanding (u : Nat) (I : pm_II) (J : pm_JJ) : Option (Int32 × pm_II × pm_JJ) :=
  some ((I 48 9), I, J)
theorem fx_Ty_linesStanding {u k : Nat} {pa pb : Nat} {ga : Nat → Nat} {Q : Option Value → pm_H → Prop} {I : pm_II} {J : pm_JJ} {r : Int32} {I2 : pm_II} {J2 : pm_JJ} (hk : 0 ≤ k) (hF : F_Ty_linesStanding u  I J = some (r, I2, J2)) (hQ : Q (some (.int r)) (hp I2 J2 (pm_RT pa pb ga))) : Px k 176 m_Ty_linesStanding 0 [.ref 48] [] (hp I J (pm_RT pa pb ga)) Q := by
  unfold F_Ty_linesStanding at hF
  refine bk_Ty_linesStanding_0 ?_
  exact ret_q (Q := fun a b c => Q (some (.int a)) (hp b c (pm_RT pa pb ga))) hF hQ
