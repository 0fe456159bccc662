def F_Ph_feed (u : Nat) (x1 : Int32) (x2 : Int32) (x3 : Int32) (x4 : Int32) (x5 : Int32) (I : pm_II) (J : pm_JJ) : Option (Int32 × pm_II × pm_JJ) :=
  bd (F_Ta_hasRoomFor u (20 : Int32) I J) fun r6 I6 J6 =>
  if ¬ r6 = 0 then (
    bd (F_Ta_append u x1 I6 J6) fun _ I20 J20 =>
    bd (F_Ta_append u x2 I20 J20) fun _ I28 J28 =>
    bd (F_Ta_append u x3 I28 J28) fun _ I36 J36 =>
    bd (F_Ta_append u x4 I36 J36) fun _ I45 J45 =>
    bd (F_Ta_append u x5 I45 J45) fun _ I54 J54 =>
    bd (F_Ta_length u I54 J54) fun r61 I61 J61 =>
    some (r61, I61, J61))
  else (
    some (((-4) : Int32), I6, J6))
theorem fx_Ph_feed {u k : Nat} {pa pb : Nat} {ga : Nat → Nat} {Q : Option Value → pm_H → Prop} {x1 : Int32} {x2 : Int32} {x3 : Int32} {x4 : Int32} {x5 : Int32} {I : pm_II} {J : pm_JJ} {r : Int32} {I2 : pm_II} {J2 : pm_JJ} (hk : 1 ≤ k) (hF : F_Ph_feed u x1 x2 x3 x4 x5 I J = some (r, I2, J2)) (hQ : Q (some (.int r)) (hp I2 J2 (pm_RT pa pb ga))) : Px k 176 m_Ph_feed 0 [.ref 16, .int x1, .int x2, .int x3, .int x4, .int x5] [] (hp I J (pm_RT pa pb ga)) Q := by
  obtain ⟨k, rfl⟩ : ∃ j, k = j + 1 := ⟨k - 1, by omega⟩
  unfold F_Ph_feed at hF
  refine bk_Ph_feed_0 ?_
  obtain ⟨r6, I6, J6, hC6, hF⟩ := bd_e hF
  refine fx_Ta_hasRoomFor (by omega) hC6 ⟨rfl, ?_⟩
  refine bk_Ph_feed_9 ?_
  refine ⟨fun z => ?_, fun z => ?_⟩
  · rw [if_pos z] at hF
    obtain ⟨r20, I20, J20, hC20, hF⟩ := bd_e hF
    refine fx_Ta_append (by omega) hC20 ⟨rfl, ?_⟩
    refine bk_Ph_feed_23 ?_
    obtain ⟨r28, I28, J28, hC28, hF⟩ := bd_e hF
    refine fx_Ta_append (by omega) hC28 ⟨rfl, ?_⟩
    refine bk_Ph_feed_31 ?_
    obtain ⟨r36, I36, J36, hC36, hF⟩ := bd_e hF
    refine fx_Ta_append (by omega) hC36 ⟨rfl, ?_⟩
    refine bk_Ph_feed_39 ?_
    obtain ⟨r45, I45, J45, hC45, hF⟩ := bd_e hF
    refine fx_Ta_append (by omega) hC45 ⟨rfl, ?_⟩
    refine bk_Ph_feed_48 ?_
    obtain ⟨r54, I54, J54, hC54, hF⟩ := bd_e hF
    refine fx_Ta_append (by omega) hC54 ⟨rfl, ?_⟩
    refine bk_Ph_feed_57 ?_
    obtain ⟨r61, I61, J61, hC61, hF⟩ := bd_e hF
    refine fx_Ta_length (by omega) hC61 ⟨rfl, ?_⟩
    refine bk_Ph_feed_64 ?_
    exact ret_q (Q := fun a b c => Q (some (.int a)) (hp b c (pm_RT pa pb ga))) hF hQ
  · rw [if_neg z] at hF
    exact ret_q (Q := fun a b c => Q (some (.int a)) (hp b c (pm_RT pa pb ga))) hF hQ
def F_Ph_end (u : Nat) (x1 : Int32) (I : pm_II) (J : pm_JJ) : Option (Int32 × pm_II × pm_JJ) :=
  bd (F_Ta_shorten u x1 I J) fun r5 I5 J5 =>
  some (r5, I5, J5)
theorem fx_Ph_end {u k : Nat} {pa pb : Nat} {ga : Nat → Nat} {Q : Option Value → pm_H → Prop} {x1 : Int32} {I : pm_II} {J : pm_JJ} {r : Int32} {I2 : pm_II} {J2 : pm_JJ} (hk : 1 ≤ k) (hF : F_Ph_end u x1 I J = some (r, I2, J2)) (hQ : Q (some (.int r)) (hp I2 J2 (pm_RT pa pb ga))) : Px k 176 m_Ph_end 0 [.ref 16, .int x1] [] (hp I J (pm_RT pa pb ga)) Q := by
  obtain ⟨k, rfl⟩ : ∃ j, k = j + 1 := ⟨k - 1, by omega⟩
  unfold F_Ph_end at hF
  refine bk_Ph_end_0 ?_
  obtain ⟨r5, I5, J5, hC5, hF⟩ := bd_e hF
  refine fx_Ta_shorten (by omega) hC5 ⟨rfl, ?_⟩
  refine bk_Ph_end_8 ?_
  exact ret_q (Q := fun a b c => Q (some (.int a)) (hp b c (pm_RT pa pb ga))) hF hQ
def F_Ph_cut (u : Nat) (I : pm_II) (J : pm_JJ) : Option (Int32 × pm_II × pm_JJ) :=
  bd (F_Ta_open u I J) fun _ I4 J4 =>
  bd (F_Ro_takeText u I4 J4) fun r19 I19 J19 =>
  bd (F_Ta_close u r19 I19 J19) fun r22 I22 J22 =>
  some (r22, I22, J22)
theorem fx_Ph_cut {u k : Nat} {pa pb : Nat} {ga : Nat → Nat} {Q : Option Value → pm_H → Prop} {I : pm_II} {J : pm_JJ} {r : Int32} {I2 : pm_II} {J2 : pm_JJ} (hk : 15 ≤ k) (hF : F_Ph_cut u  I J = some (r, I2, J2)) (hQ : Q (some (.int r)) (hp I2 J2 (pm_RT pa pb ga))) : Px k 176 m_Ph_cut 0 [.ref 16] [] (hp I J (pm_RT pa pb ga)) Q := by
  obtain ⟨k, rfl⟩ : ∃ j, k = j + 1 := ⟨k - 1, by omega⟩
  unfold F_Ph_cut at hF
  refine bk_Ph_cut_0 ?_
  obtain ⟨r4, I4, J4, hC4, hF⟩ := bd_e hF
  refine fx_Ta_open (by omega) hC4 ⟨rfl, ?_⟩
  refine bk_Ph_cut_7 ?_
  obtain ⟨r19, I19, J19, hC19, hF⟩ := bd_e hF
  refine fx_Ro_takeText (by omega) hC19 ⟨rfl, ?_⟩
  refine bk_Ph_cut_22 ?_
  obtain ⟨r22, I22, J22, hC22, hF⟩ := bd_e hF
  refine fx_Ta_close (by omega) hC22 ⟨rfl, ?_⟩
  refine bk_Ph_cut_25 ?_
  exact ret_q (Q := fun a b c => Q (some (.int a)) (hp b c (pm_RT pa pb ga))) hF hQ
def F_Ph_pattern (u : Nat) (x1 : Int32) (x2 : Int32) (I : pm_II) (J : pm_JJ) : Option (Int32 × pm_II × pm_JJ) :=
  bd (F_Ro_tell u x1 x2 I J) fun r6 I6 J6 =>
  some (r6, I6, J6)
theorem fx_Ph_pattern {u k : Nat} {pa pb : Nat} {ga : Nat → Nat} {Q : Option Value → pm_H → Prop} {x1 : Int32} {x2 : Int32} {I : pm_II} {J : pm_JJ} {r : Int32} {I2 : pm_II} {J2 : pm_JJ} (hk : 2 ≤ k) (hF : F_Ph_pattern u x1 x2 I J = some (r, I2, J2)) (hQ : Q (some (.int r)) (hp I2 J2 (pm_RT pa pb ga))) : Px k 176 m_Ph_pattern 0 [.ref 16, .int x1, .int x2] [] (hp I J (pm_RT pa pb ga)) Q := by
  obtain ⟨k, rfl⟩ : ∃ j, k = j + 1 := ⟨k - 1, by omega⟩
  unfold F_Ph_pattern at hF
  refine bk_Ph_pattern_0 ?_
  obtain ⟨r6, I6, J6, hC6, hF⟩ := bd_e hF
  refine fx_Ro_tell (by omega) hC6 ⟨rfl, ?_⟩
  refine bk_Ph_pattern_9 ?_
  exact ret_q (Q := fun a b c => Q (some (.int a)) (hp b c (pm_RT pa pb ga))) hF hQ
def F_Ph_fold (u : Nat) (I : pm_II) (J : pm_JJ) : Option (Int32 × pm_II × pm_JJ) :=
  bd (F_Ta_open u I J) fun _ I4 J4 =>
  bd (F_Fo_takeText u I4 J4) fun r19 I19 J19 =>
  bd (F_Ta_close u r19 I19 J19) fun r22 I22 J22 =>
  some (r22, I22, J22)
theorem fx_Ph_fold {u k : Nat} {pa pb : Nat} {ga : Nat → Nat} {Q : Option Value → pm_H → Prop} {I : pm_II} {J : pm_JJ} {r : Int32} {I2 : pm_II} {J2 : pm_JJ} (hk : 7 ≤ k) (hF : F_Ph_fold u  I J = some (r, I2, J2)) (hQ : Q (some (.int r)) (hp I2 J2 (pm_RT pa pb ga))) : Px k 176 m_Ph_fold 0 [.ref 16] [] (hp I J (pm_RT pa pb ga)) Q := by
  obtain ⟨k, rfl⟩ : ∃ j, k = j + 1 := ⟨k - 1, by omega⟩
  unfold F_Ph_fold at hF
  refine bk_Ph_fold_0 ?_
  obtain ⟨r4, I4, J4, hC4, hF⟩ := bd_e hF
  refine fx_Ta_open (by omega) hC4 ⟨rfl, ?_⟩
  refine bk_Ph_fold_7 ?_
  obtain ⟨r19, I19, J19, hC19, hF⟩ := bd_e hF
  refine fx_Fo_takeText (by omega) hC19 ⟨rfl, ?_⟩
  refine bk_Ph_fold_22 ?_
  obtain ⟨r22, I22, J22, hC22, hF⟩ := bd_e hF
  refine fx_Ta_close (by omega) hC22 ⟨rfl, ?_⟩
  refine bk_Ph_fold_25 ?_
  exact ret_q (Q := fun a b c => Q (some (.int a)) (hp b c (pm_RT pa pb ga))) hF hQ
def F_Ph_book (u : Nat) (x1 : Int32) (x2 : Int32) (x3 : Int32) (I : pm_II) (J : pm_JJ) : Option (Int32 × pm_II × pm_JJ) :=
  bd (F_Fo_bind u x1 x2 x3 I J) fun r7 I7 J7 =>
  some (r7, I7, J7)
theorem fx_Ph_book {u k : Nat} {pa pb : Nat} {ga : Nat → Nat} {Q : Option Value → pm_H → Prop} {x1 : Int32} {x2 : Int32} {x3 : Int32} {I : pm_II} {J : pm_JJ} {r : Int32} {I2 : pm_II} {J2 : pm_JJ} (hk : 2 ≤ k) (hF : F_Ph_book u x1 x2 x3 I J = some (r, I2, J2)) (hQ : Q (some (.int r)) (hp I2 J2 (pm_RT pa pb ga))) : Px k 176 m_Ph_book 0 [.ref 16, .int x1, .int x2, .int x3] [] (hp I J (pm_RT pa pb ga)) Q := by
  obtain ⟨k, rfl⟩ : ∃ j, k = j + 1 := ⟨k - 1, by omega⟩
  unfold F_Ph_book at hF
  refine bk_Ph_book_0 ?_
  obtain ⟨r7, I7, J7, hC7, hF⟩ := bd_e hF
  refine fx_Fo_bind (by omega) hC7 ⟨rfl, ?_⟩
  refine bk_Ph_book_10 ?_
  exact ret_q (Q := fun a b c => Q (some (.int a)) (hp b c (pm_RT pa pb ga))) hF hQ
def F_Ph_page (u : Nat) (x1 : Int32) (x2 : Int32) (x3 : Int32) (x4 : Int32) (I : pm_II) (J : pm_JJ) : Option (Int32 × pm_II × pm_JJ) :=
  bd (F_Fo_hasPanel u x1 x2 x3 x4 I J) fun r9 I9 J9 =>
  if ¬ r9 = 0 then (
    bd (F_Fo_pageOn u x1 x2 x3 x4 I9 J9) fun r26 I26 J26 =>
    bd (F_Fo_isUpsideDown u x3 x4 I26 J26) fun r38 I38 J38 =>
    if r38 = 0 then (
      some (r26, I38, J38))
    else (
      some ((r26 + (1000 : Int32)), I38, J38)))
  else (
    some (((-1) : Int32), I9, J9))
theorem fx_Ph_page {u k : Nat} {pa pb : Nat} {ga : Nat → Nat} {Q : Option Value → pm_H → Prop} {x1 : Int32} {x2 : Int32} {x3 : Int32} {x4 : Int32} {I : pm_II} {J : pm_JJ} {r : Int32} {I2 : pm_II} {J2 : pm_JJ} (hk : 3 ≤ k) (hF : F_Ph_page u x1 x2 x3 x4 I J = some (r, I2, J2)) (hQ : Q (some (.int r)) (hp I2 J2 (pm_RT pa pb ga))) : Px k 176 m_Ph_page 0 [.ref 16, .int x1, .int x2, .int x3, .int x4, .null] [] (hp I J (pm_RT pa pb ga)) Q := by
  obtain ⟨k, rfl⟩ : ∃ j, k = j + 1 := ⟨k - 1, by omega⟩
  unfold F_Ph_page at hF
  refine bk_Ph_page_0 ?_
  obtain ⟨r9, I9, J9, hC9, hF⟩ := bd_e hF
  refine fx_Fo_hasPanel (by omega) hC9 ⟨rfl, ?_⟩
  refine bk_Ph_page_12 ?_
  refine ⟨fun z => ?_, fun z => ?_⟩
  · rw [if_pos z] at hF
    obtain ⟨r26, I26, J26, hC26, hF⟩ := bd_e hF
    refine fx_Fo_pageOn (by omega) hC26 ⟨rfl, ?_⟩
    refine bk_Ph_page_29 ?_
    obtain ⟨r38, I38, J38, hC38, hF⟩ := bd_e hF
    refine fx_Fo_isUpsideDown (by omega) hC38 ⟨rfl, ?_⟩
    refine bk_Ph_page_41 ?_
    refine ⟨fun z => ?_, fun z => ?_⟩
    · rw [if_pos z] at hF
      exact ret_q (Q := fun a b c => Q (some (.int a)) (hp b c (pm_RT pa pb ga))) hF hQ
    · rw [if_neg z] at hF
      exact ret_q (Q := fun a b c => Q (some (.int a)) (hp b c (pm_RT pa pb ga))) hF hQ
  · rw [if_neg z] at hF
    exact ret_q (Q := fun a b c => Q (some (.int a)) (hp b c (pm_RT pa pb ga))) hF hQ
def F_Ph_where (u : Nat) (x1 : Int32) (x2 : Int32) (I : pm_II) (J : pm_JJ) : Option (Int32 × pm_II × pm_JJ) :=
  bd (F_Fo_find u x1 x2 I J) fun r6 I6 J6 =>
  some (r6, I6, J6)
theorem fx_Ph_where {u k : Nat} {pa pb : Nat} {ga : Nat → Nat} {Q : Option Value → pm_H → Prop} {x1 : Int32} {x2 : Int32} {I : pm_II} {J : pm_JJ} {r : Int32} {I2 : pm_II} {J2 : pm_JJ} (hk : 3 ≤ k) (hF : F_Ph_where u x1 x2 I J = some (r, I2, J2)) (hQ : Q (some (.int r)) (hp I2 J2 (pm_RT pa pb ga))) : Px k 176 m_Ph_where 0 [.ref 16, .int x1, .int x2] [] (hp I J (pm_RT pa pb ga)) Q := by
  obtain ⟨k, rfl⟩ : ∃ j, k = j + 1 := ⟨k - 1, by omega⟩
  unfold F_Ph_where at hF
  refine bk_Ph_where_0 ?_
  obtain ⟨r6, I6, J6, hC6, hF⟩ := bd_e hF
  refine fx_Fo_find (by omega) hC6 ⟨rfl, ?_⟩
  refine bk_Ph_where_9 ?_
  exact ret_q (Q := fun a b c => Q (some (.int a)) (hp b c (pm_RT pa pb ga))) hF hQ
def F_Ph_draw (u : Nat) (x1 : Int32) (I : pm_II) (J : pm_JJ) : Option (Int32 × pm_II × pm_JJ) :=
  if x1 < 0 then (
    some (((-1) : Int32), I, J))
  else (
    if x1 < 32 then (
      bd (F_Ta_open u I J) fun _ I16 J16 =>
      bd (F_Pl_takeText u x1 I16 J16) fun r32 I32 J32 =>
      bd (F_Ta_close u r32 I32 J32) fun r35 I35 J35 =>
      some (r35, I35, J35))
    else (
      some (((-1) : Int32), I, J)))
theorem fx_Ph_draw {u k : Nat} {pa pb : Nat} {ga : Nat → Nat} {Q : Option Value → pm_H → Prop} {x1 : Int32} {I : pm_II} {J : pm_JJ} {r : Int32} {I2 : pm_II} {J2 : pm_JJ} (hk : 8 ≤ k) (hF : F_Ph_draw u x1 I J = some (r, I2, J2)) (hQ : Q (some (.int r)) (hp I2 J2 (pm_RT pa pb ga))) : Px k 176 m_Ph_draw 0 [.ref 16, .int x1] [] (hp I J (pm_RT pa pb ga)) Q := by
  obtain ⟨k, rfl⟩ : ∃ j, k = j + 1 := ⟨k - 1, by omega⟩
  unfold F_Ph_draw at hF
  refine bk_Ph_draw_0 ?_
  refine ⟨fun z => ?_, fun z => ?_⟩
  · rw [if_pos z] at hF
    exact ret_q (Q := fun a b c => Q (some (.int a)) (hp b c (pm_RT pa pb ga))) hF hQ
  · rw [if_neg z] at hF
    refine ⟨fun z => ?_, fun z => ?_⟩
    · rw [if_pos z] at hF
      obtain ⟨r16, I16, J16, hC16, hF⟩ := bd_e hF
      refine fx_Ta_open (by omega) hC16 ⟨rfl, ?_⟩
      refine bk_Ph_draw_19 ?_
      obtain ⟨r32, I32, J32, hC32, hF⟩ := bd_e hF
      refine fx_Pl_takeText (by omega) hC32 ⟨rfl, ?_⟩
      refine bk_Ph_draw_35 ?_
      obtain ⟨r35, I35, J35, hC35, hF⟩ := bd_e hF
      refine fx_Ta_close (by omega) hC35 ⟨rfl, ?_⟩
      refine bk_Ph_draw_38 ?_
      exact ret_q (Q := fun a b c => Q (some (.int a)) (hp b c (pm_RT pa pb ga))) hF hQ
    · rw [if_neg z] at hF
      exact ret_q (Q := fun a b c => Q (some (.int a)) (hp b c (pm_RT pa pb ga))) hF hQ
def F_Ph_point (u : Nat) (x1 : Int32) (x2 : Int32) (x3 : Int32) (x4 : Int32) (I : pm_II) (J : pm_JJ) : Option (Int32 × pm_II × pm_JJ) :=
  bd (F_Pl_pointAt u x1 x2 x3 x4 I J) fun r13 I13 J13 =>
  some (r13, I13, J13)
theorem fx_Ph_point {u k : Nat} {pa pb : Nat} {ga : Nat → Nat} {Q : Option Value → pm_H → Prop} {x1 : Int32} {x2 : Int32} {x3 : Int32} {x4 : Int32} {I : pm_II} {J : pm_JJ} {r : Int32} {I2 : pm_II} {J2 : pm_JJ} (hk : 4 ≤ k) (hF : F_Ph_point u x1 x2 x3 x4 I J = some (r, I2, J2)) (hQ : Q (some (.int r)) (hp I2 J2 (pm_RT pa pb ga))) : Px k 176 m_Ph_point 0 [.ref 16, .int x1, .int x2, .int x3, .int x4] [] (hp I J (pm_RT pa pb ga)) Q := by
  obtain ⟨k, rfl⟩ : ∃ j, k = j + 1 := ⟨k - 1, by omega⟩
  unfold F_Ph_point at hF
  refine bk_Ph_point_0 ?_
  obtain ⟨r13, I13, J13, hC13, hF⟩ := bd_e hF
  refine fx_Pl_pointAt (by omega) hC13 ⟨rfl, ?_⟩
  refine bk_Ph_point_16 ?_
  exact ret_q (Q := fun a b c => Q (some (.int a)) (hp b c (pm_RT pa pb ga))) hF hQ
def F_Ph_mount_33 (u : Nat) : Nat → Int32 → Int32 → Int32 → Int32 → pm_II → pm_JJ → Option (Int32 × pm_II × pm_JJ)
  | 0, _, _, _, _, _, _ => none
  | n + 1, x1, x2, x3, x4, I, J =>
    if x3 ≤ x4 then (
      some (x3, I, J))
    else (
      bd (F_Pl_coverageOf u x1 x2 x4 I J) fun r57 I57 J57 =>
      bd (F_Fo_rows u I57 J57) fun r64 I64 J64 =>
      bd (F_Pr_cover u x4 r57 r64 I64 J64) fun _ I67 J67 =>
      F_Ph_mount_33 u n x1 x2 x3 (x4 + Int32.ofInt 1) I67 J67)
def F_Ph_mount (u : Nat) (x1 : Int32) (x2 : Int32) (I : pm_II) (J : pm_JJ) : Option (Int32 × pm_II × pm_JJ) :=
  bd (F_Fo_hasSide u x1 x2 I J) fun r6 I6 J6 =>
  if ¬ r6 = 0 then (
    bd (F_Fo_columns u I6 J6) fun r18 I18 J18 =>
    bd (F_Pr_clear u r18 I18 J18) fun _ I27 J27 =>
    F_Ph_mount_33 u u x1 x2 r18 (0 : Int32) I27 J27)
  else (
    some (((-1) : Int32), I6, J6))
theorem fx_Ph_mount_33 {u k : Nat} {pa pb : Nat} {ga : Nat → Nat} {Q : Option Value → pm_H → Prop} (hk : 4 ≤ k) : ∀ (n : Nat), ∀ (x1 : Int32) (x2 : Int32) (x3 : Int32) (x4 : Int32) (I : pm_II) (J : pm_JJ) (r : Int32) (I2 : pm_II) (J2 : pm_JJ), F_Ph_mount_33 u n x1 x2 x3 x4 I J = some (r, I2, J2) → Q (some (.int r)) (hp I2 J2 (pm_RT pa pb ga)) → Px k 176 m_Ph_mount 33 [.ref 16, .int x1, .int x2, .int x3, .int x4] [] (hp I J (pm_RT pa pb ga)) Q := by
  obtain ⟨k, rfl⟩ : ∃ j, k = j + 1 := ⟨k - 1, by omega⟩
  intro n
  induction n with
  | zero => intro x1 x2 x3 x4 I J r I2 J2  hF; cases hF
  | succ n ih =>
    intro x1 x2 x3 x4 I J r I2 J2  hF hQ
    rw [F_Ph_mount_33] at hF
    refine bk_Ph_mount_33 ?_
    refine ⟨fun z => ?_, fun z => ?_⟩
    · rw [if_pos z] at hF
      exact ret_q (Q := fun a b c => Q (some (.int a)) (hp b c (pm_RT pa pb ga))) hF hQ
    · rw [if_neg z] at hF
      obtain ⟨r57, I57, J57, hC57, hF⟩ := bd_e hF
      refine fx_Pl_coverageOf (by omega) hC57 ⟨rfl, ?_⟩
      refine bk_Ph_mount_60 ?_
      obtain ⟨r64, I64, J64, hC64, hF⟩ := bd_e hF
      refine fx_Fo_rows (by omega) hC64 ⟨rfl, ?_⟩
      refine bk_Ph_mount_67 ?_
      obtain ⟨r67, I67, J67, hC67, hF⟩ := bd_e hF
      refine fx_Pr_cover (by omega) hC67 ⟨rfl, ?_⟩
      refine bk_Ph_mount_70 ?_
      exact ih _ _ _ _ _ _ _ _ _ hF hQ
theorem fx_Ph_mount {u k : Nat} {pa pb : Nat} {ga : Nat → Nat} {Q : Option Value → pm_H → Prop} {x1 : Int32} {x2 : Int32} {I : pm_II} {J : pm_JJ} {r : Int32} {I2 : pm_II} {J2 : pm_JJ} (hk : 4 ≤ k) (hF : F_Ph_mount u x1 x2 I J = some (r, I2, J2)) (hQ : Q (some (.int r)) (hp I2 J2 (pm_RT pa pb ga))) : Px k 176 m_Ph_mount 0 [.ref 16, .int x1, .int x2, .null, .null] [] (hp I J (pm_RT pa pb ga)) Q := by
  obtain ⟨k, rfl⟩ : ∃ j, k = j + 1 := ⟨k - 1, by omega⟩
  unfold F_Ph_mount at hF
  refine bk_Ph_mount_0 ?_
  obtain ⟨r6, I6, J6, hC6, hF⟩ := bd_e hF
  refine fx_Fo_hasSide (by omega) hC6 ⟨rfl, ?_⟩
  refine bk_Ph_mount_9 ?_
  refine ⟨fun z => ?_, fun z => ?_⟩
  · rw [if_pos z] at hF
    obtain ⟨r18, I18, J18, hC18, hF⟩ := bd_e hF
    refine fx_Fo_columns (by omega) hC18 ⟨rfl, ?_⟩
    refine bk_Ph_mount_21 ?_
    obtain ⟨r27, I27, J27, hC27, hF⟩ := bd_e hF
    refine fx_Pr_clear (by omega) hC27 ⟨rfl, ?_⟩
    refine bk_Ph_mount_30 ?_
    exact fx_Ph_mount_33 hk u _ _ _ _ _ _ _ _ _ hF hQ
  · rw [if_neg z] at hF
    exact ret_q (Q := fun a b c => Q (some (.int a)) (hp b c (pm_RT pa pb ga))) hF hQ
def F_Ph_key (u : Nat) (x1 : Int32) (x2 : Int32) (I : pm_II) (J : pm_JJ) : Option (Int32 × pm_II × pm_JJ) :=
  bd (F_Pr_turnKey u x1 x2 I J) fun r6 I6 J6 =>
  some (r6, I6, J6)
theorem fx_Ph_key {u k : Nat} {pa pb : Nat} {ga : Nat → Nat} {Q : Option Value → pm_H → Prop} {x1 : Int32} {x2 : Int32} {I : pm_II} {J : pm_JJ} {r : Int32} {I2 : pm_II} {J2 : pm_JJ} (hk : 1 ≤ k) (hF : F_Ph_key u x1 x2 I J = some (r, I2, J2)) (hQ : Q (some (.int r)) (hp I2 J2 (pm_RT pa pb ga))) : Px k 176 m_Ph_key 0 [.ref 16, .int x1, .int x2] [] (hp I J (pm_RT pa pb ga)) Q := by
  obtain ⟨k, rfl⟩ : ∃ j, k = j + 1 := ⟨k - 1, by omega⟩
  unfold F_Ph_key at hF
  refine bk_Ph_key_0 ?_
  obtain ⟨r6, I6, J6, hC6, hF⟩ := bd_e hF
  refine fx_Pr_turnKey (by omega) hC6 ⟨rfl, ?_⟩
  refine bk_Ph_key_9 ?_
  exact ret_q (Q := fun a b c => Q (some (.int a)) (hp b c (pm_RT pa pb ga))) hF hQ
def F_Ph_aim (u : Nat) (x1 : Int32) (x2 : Int32) (x3 : Int32) (I : pm_II) (J : pm_JJ) : Option (Int32 × pm_II × pm_JJ) :=
  bd (F_Pr_aimAt u x1 x2 x3 I J) fun r7 I7 J7 =>
  some (r7, I7, J7)
theorem fx_Ph_aim {u k : Nat} {pa pb : Nat} {ga : Nat → Nat} {Q : Option Value → pm_H → Prop} {x1 : Int32} {x2 : Int32} {x3 : Int32} {I : pm_II} {J : pm_JJ} {r : Int32} {I2 : pm_II} {J2 : pm_JJ} (hk : 1 ≤ k) (hF : F_Ph_aim u x1 x2 x3 I J = some (r, I2, J2)) (hQ : Q (some (.int r)) (hp I2 J2 (pm_RT pa pb ga))) : Px k 176 m_Ph_aim 0 [.ref 16, .int x1, .int x2, .int x3] [] (hp I J (pm_RT pa pb ga)) Q := by
  obtain ⟨k, rfl⟩ : ∃ j, k = j + 1 := ⟨k - 1, by omega⟩
  unfold F_Ph_aim at hF
  refine bk_Ph_aim_0 ?_
  obtain ⟨r7, I7, J7, hC7, hF⟩ := bd_e hF
  refine fx_Pr_aimAt (by omega) hC7 ⟨rfl, ?_⟩
  refine bk_Ph_aim_10 ?_
  exact ret_q (Q := fun a b c => Q (some (.int a)) (hp b c (pm_RT pa pb ga))) hF hQ
def F_Ph_settled (u : Nat) (x1 : Int32) (I : pm_II) (J : pm_JJ) : Option (Int32 × pm_II × pm_JJ) :=
  bd (F_Pr_settledKey u x1 I J) fun r5 I5 J5 =>
  some (r5, I5, J5)
theorem fx_Ph_settled {u k : Nat} {pa pb : Nat} {ga : Nat → Nat} {Q : Option Value → pm_H → Prop} {x1 : Int32} {I : pm_II} {J : pm_JJ} {r : Int32} {I2 : pm_II} {J2 : pm_JJ} (hk : 4 ≤ k) (hF : F_Ph_settled u x1 I J = some (r, I2, J2)) (hQ : Q (some (.int r)) (hp I2 J2 (pm_RT pa pb ga))) : Px k 176 m_Ph_settled 0 [.ref 16, .int x1] [] (hp I J (pm_RT pa pb ga)) Q := by
  obtain ⟨k, rfl⟩ : ∃ j, k = j + 1 := ⟨k - 1, by omega⟩
  unfold F_Ph_settled at hF
  refine bk_Ph_settled_0 ?_
  obtain ⟨r5, I5, J5, hC5, hF⟩ := bd_e hF
  refine fx_Pr_settledKey (by omega) hC5 ⟨rfl, ?_⟩
  refine bk_Ph_settled_8 ?_
  exact ret_q (Q := fun a b c => Q (some (.int a)) (hp b c (pm_RT pa pb ga))) hF hQ
def F_Ph_print (u : Nat) (x1 : Int32) (I : pm_II) (J : pm_JJ) : Option (Int32 × pm_II × pm_JJ) :=
  bd (F_Pr_printMany u x1 I J) fun r5 I5 J5 =>
  some (r5, I5, J5)
theorem fx_Ph_print {u k : Nat} {pa pb : Nat} {ga : Nat → Nat} {Q : Option Value → pm_H → Prop} {x1 : Int32} {I : pm_II} {J : pm_JJ} {r : Int32} {I2 : pm_II} {J2 : pm_JJ} (hk : 4 ≤ k) (hF : F_Ph_print u x1 I J = some (r, I2, J2)) (hQ : Q (some (.int r)) (hp I2 J2 (pm_RT pa pb ga))) : Px k 176 m_Ph_print 0 [.ref 16, .int x1] [] (hp I J (pm_RT pa pb ga)) Q := by
  obtain ⟨k, rfl⟩ : ∃ j, k = j + 1 := ⟨k - 1, by omega⟩
  unfold F_Ph_print at hF
  refine bk_Ph_print_0 ?_
  obtain ⟨r5, I5, J5, hC5, hF⟩ := bd_e hF
  refine fx_Pr_printMany (by omega) hC5 ⟨rfl, ?_⟩
  refine bk_Ph_print_8 ?_
  exact ret_q (Q := fun a b c => Q (some (.int a)) (hp b c (pm_RT pa pb ga))) hF hQ
def F_Ph_good (u : Nat) (x1 : Int32) (I : pm_II) (J : pm_JJ) : Option (Int32 × pm_II × pm_JJ) :=
  bd (F_Pr_printTill u x1 I J) fun r5 I5 J5 =>
  some (r5, I5, J5)
theorem fx_Ph_good {u k : Nat} {pa pb : Nat} {ga : Nat → Nat} {Q : Option Value → pm_H → Prop} {x1 : Int32} {I : pm_II} {J : pm_JJ} {r : Int32} {I2 : pm_II} {J2 : pm_JJ} (hk : 4 ≤ k) (hF : F_Ph_good u x1 I J = some (r, I2, J2)) (hQ : Q (some (.int r)) (hp I2 J2 (pm_RT pa pb ga))) : Px k 176 m_Ph_good 0 [.ref 16, .int x1] [] (hp I J (pm_RT pa pb ga)) Q := by
  obtain ⟨k, rfl⟩ : ∃ j, k = j + 1 := ⟨k - 1, by omega⟩
  unfold F_Ph_good at hF
  refine bk_Ph_good_0 ?_
  obtain ⟨r5, I5, J5, hC5, hF⟩ := bd_e hF
  refine fx_Pr_printTill (by omega) hC5 ⟨rfl, ?_⟩
  refine bk_Ph_good_8 ?_
  exact ret_q (Q := fun a b c => Q (some (.int a)) (hp b c (pm_RT pa pb ga))) hF hQ
def F_Ph_zone (u : Nat) (x1 : Int32) (x2 : Int32) (I : pm_II) (J : pm_JJ) : Option (Int32 × pm_II × pm_JJ) :=
  bd (F_Pr_tellZone u x1 x2 I J) fun r6 I6 J6 =>
  some (r6, I6, J6)
theorem fx_Ph_zone {u k : Nat} {pa pb : Nat} {ga : Nat → Nat} {Q : Option Value → pm_H → Prop} {x1 : Int32} {x2 : Int32} {I : pm_II} {J : pm_JJ} {r : Int32} {I2 : pm_II} {J2 : pm_JJ} (hk : 1 ≤ k) (hF : F_Ph_zone u x1 x2 I J = some (r, I2, J2)) (hQ : Q (some (.int r)) (hp I2 J2 (pm_RT pa pb ga))) : Px k 176 m_Ph_zone 0 [.ref 16, .int x1, .int x2] [] (hp I J (pm_RT pa pb ga)) Q := by
  obtain ⟨k, rfl⟩ : ∃ j, k = j + 1 := ⟨k - 1, by omega⟩
  unfold F_Ph_zone at hF
  refine bk_Ph_zone_0 ?_
  obtain ⟨r6, I6, J6, hC6, hF⟩ := bd_e hF
  refine fx_Pr_tellZone (by omega) hC6 ⟨rfl, ?_⟩
  refine bk_Ph_zone_9 ?_
  exact ret_q (Q := fun a b c => Q (some (.int a)) (hp b c (pm_RT pa pb ga))) hF hQ
def F_Ph_number (u : Nat) (x1 : Int32) (I : pm_II) (J : pm_JJ) : Option (Int32 × pm_II × pm_JJ) :=
  bd (F_Pr_numberOf u x1 I J) fun r5 I5 J5 =>
  some (r5, I5, J5)
theorem fx_Ph_number {u k : Nat} {pa pb : Nat} {ga : Nat → Nat} {Q : Option Value → pm_H → Prop} {x1 : Int32} {I : pm_II} {J : pm_JJ} {r : Int32} {I2 : pm_II} {J2 : pm_JJ} (hk : 2 ≤ k) (hF : F_Ph_number u x1 I J = some (r, I2, J2)) (hQ : Q (some (.int r)) (hp I2 J2 (pm_RT pa pb ga))) : Px k 176 m_Ph_number 0 [.ref 16, .int x1] [] (hp I J (pm_RT pa pb ga)) Q := by
  obtain ⟨k, rfl⟩ : ∃ j, k = j + 1 := ⟨k - 1, by omega⟩
  unfold F_Ph_number at hF
  refine bk_Ph_number_0 ?_
  obtain ⟨r5, I5, J5, hC5, hF⟩ := bd_e hF
  refine fx_Pr_numberOf (by omega) hC5 ⟨rfl, ?_⟩
  refine bk_Ph_number_8 ?_
  exact ret_q (Q := fun a b c => Q (some (.int a)) (hp b c (pm_RT pa pb ga))) hF hQ
def F_Ph_sorts (u : Nat) (x1 : Int32) (x2 : Int32) (x3 : Int32) (I : pm_II) (J : pm_JJ) : Option (Int32 × pm_II × pm_JJ) :=
  bd (F_Ty_stockUp u x1 x2 x3 I J) fun r7 I7 J7 =>
  some (r7, I7, J7)
theorem fx_Ph_sorts {u k : Nat} {pa pb : Nat} {ga : Nat → Nat} {Q : Option Value → pm_H → Prop} {x1 : Int32} {x2 : Int32} {x3 : Int32} {I : pm_II} {J : pm_JJ} {r : Int32} {I2 : pm_II} {J2 : pm_JJ} (hk : 1 ≤ k) (hF : F_Ph_sorts u x1 x2 x3 I J = some (r, I2, J2)) (hQ : Q (some (.int r)) (hp I2 J2 (pm_RT pa pb ga))) : Px k 176 m_Ph_sorts 0 [.ref 16, .int x1, .int x2, .int x3] [] (hp I J (pm_RT pa pb ga)) Q := by
  obtain ⟨k, rfl⟩ : ∃ j, k = j + 1 := ⟨k - 1, by omega⟩
  unfold F_Ph_sorts at hF
  refine bk_Ph_sorts_0 ?_
  obtain ⟨r7, I7, J7, hC7, hF⟩ := bd_e hF
  refine fx_Ty_stockUp (by omega) hC7 ⟨rfl, ?_⟩
  refine bk_Ph_sorts_10 ?_
  exact ret_q (Q := fun a b c => Q (some (.int a)) (hp b c (pm_RT pa pb ga))) hF hQ
def F_Ph_set (u : Nat) (pa pb : Nat) (ga : Nat → Nat) (x1 : Int32) (I : pm_II) (J : pm_JJ) : Option (Int32 × pm_II × pm_JJ) :=
  if x1 < 20 then (
    some (((-1) : Int32), I, J))
  else (
    if x1 ≤ 200 then (
      bd (F_Ta_open u I J) fun _ I19 J19 =>
      bd (F_Ty_takeText u pa pb ga x1 I19 J19) fun r35 I35 J35 =>
      bd (F_Ta_close u r35 I35 J35) fun r38 I38 J38 =>
      some (r38, I38, J38))
    else (
      some (((-1) : Int32), I, J)))
theorem fx_Ph_set {u k : Nat} {pa pb : Nat} {ga : Nat → Nat} {Q : Option Value → pm_H → Prop} {x1 : Int32} {I : pm_II} {J : pm_JJ} {r : Int32} {I2 : pm_II} {J2 : pm_JJ} (hk : 5 ≤ k) (hpa : oP pa) (hpb : oP pb) (hga : ∀ j, j < 16 → oT (ga j)) (hF : F_Ph_set u pa pb ga x1 I J = some (r, I2, J2)) (hQ : Q (some (.int r)) (hp I2 J2 (pm_RT pa pb ga))) : Px k 176 m_Ph_set 0 [.ref 16, .int x1] [] (hp I J (pm_RT pa pb ga)) Q := by
  obtain ⟨k, rfl⟩ : ∃ j, k = j + 1 := ⟨k - 1, by omega⟩
  unfold F_Ph_set at hF
  refine bk_Ph_set_0 ?_
  refine ⟨fun z => ?_, fun z => ?_⟩
  · rw [if_pos z] at hF
    exact ret_q (Q := fun a b c => Q (some (.int a)) (hp b c (pm_RT pa pb ga))) hF hQ
  · rw [if_neg z] at hF
    refine ⟨fun z => ?_, fun z => ?_⟩
    · rw [if_pos z] at hF
      obtain ⟨r19, I19, J19, hC19, hF⟩ := bd_e hF
      refine fx_Ta_open (by omega) hC19 ⟨rfl, ?_⟩
      refine bk_Ph_set_22 ?_
      obtain ⟨r35, I35, J35, hC35, hF⟩ := bd_e hF
      refine fx_Ty_takeText (by omega) hpa hpb hga hC35 ⟨rfl, ?_⟩
      refine bk_Ph_set_38 ?_
      obtain ⟨r38, I38, J38, hC38, hF⟩ := bd_e hF
      refine fx_Ta_close (by omega) hC38 ⟨rfl, ?_⟩
      refine bk_Ph_set_41 ?_
      exact ret_q (Q := fun a b c => Q (some (.int a)) (hp b c (pm_RT pa pb ga))) hF hQ
    · rw [if_neg z] at hF
      exact ret_q (Q := fun a b c => Q (some (.int a)) (hp b c (pm_RT pa pb ga))) hF hQ
def F_Ph_line (u : Nat) (pa pb : Nat) (ga : Nat → Nat) (x1 : Int32) (x2 : Int32) (I : pm_II) (J : pm_JJ) : Option (Int32 × pm_II × pm_JJ) :=
  bd (F_Ty_tellLine u pa pb ga x1 x2 I J) fun r6 I6 J6 =>
  some (r6, I6, J6)
theorem fx_Ph_line {u k : Nat} {pa pb : Nat} {ga : Nat → Nat} {Q : Option Value → pm_H → Prop} {x1 : Int32} {x2 : Int32} {I : pm_II} {J : pm_JJ} {r : Int32} {I2 : pm_II} {J2 : pm_JJ} (hk : 2 ≤ k) (hpa : oP pa) (hpb : oP pb) (hga : ∀ j, j < 16 → oT (ga j)) (hF : F_Ph_line u pa pb ga x1 x2 I J = some (r, I2, J2)) (hQ : Q (some (.int r)) (hp I2 J2 (pm_RT pa pb ga))) : Px k 176 m_Ph_line 0 [.ref 16, .int x1, .int x2] [] (hp I J (pm_RT pa pb ga)) Q := by
  obtain ⟨k, rfl⟩ : ∃ j, k = j + 1 := ⟨k - 1, by omega⟩
  unfold F_Ph_line at hF
  refine bk_Ph_line_0 ?_
  obtain ⟨r6, I6, J6, hC6, hF⟩ := bd_e hF
  refine fx_Ty_tellLine (by omega) hpa hpb hga hC6 ⟨rfl, ?_⟩
  refine bk_Ph_line_9 ?_
  exact ret_q (Q := fun a b c => Q (some (.int a)) (hp b c (pm_RT pa pb ga))) hF hQ
def F_Ph_strip (u : Nat) (pa pb : Nat) (ga : Nat → Nat) (x1 : Int32) (x2 : Int32) (I : pm_II) (J : pm_JJ) : Option (Int32 × pm_II × pm_JJ) :=
  bd (F_Ty_tellStrip u pa pb ga x1 x2 I J) fun r6 I6 J6 =>
  some (r6, I6, J6)
theorem fx_Ph_strip {u k : Nat} {pa pb : Nat} {ga : Nat → Nat} {Q : Option Value → pm_H → Prop} {x1 : Int32} {x2 : Int32} {I : pm_II} {J : pm_JJ} {r : Int32} {I2 : pm_II} {J2 : pm_JJ} (hk : 3 ≤ k) (hpa : oP pa) (hpb : oP pb) (hga : ∀ j, j < 16 → oT (ga j)) (hF : F_Ph_strip u pa pb ga x1 x2 I J = some (r, I2, J2)) (hQ : Q (some (.int r)) (hp I2 J2 (pm_RT pa pb ga))) : Px k 176 m_Ph_strip 0 [.ref 16, .int x1, .int x2] [] (hp I J (pm_RT pa pb ga)) Q := by
  obtain ⟨k, rfl⟩ : ∃ j, k = j + 1 := ⟨k - 1, by omega⟩
  unfold F_Ph_strip at hF
  refine bk_Ph_strip_0 ?_
  obtain ⟨r6, I6, J6, hC6, hF⟩ := bd_e hF
  refine fx_Ty_tellStrip (by omega) hpa hpb hga hC6 ⟨rfl, ?_⟩
  refine bk_Ph_strip_9 ?_
  exact ret_q (Q := fun a b c => Q (some (.int a)) (hp b c (pm_RT pa pb ga))) hF hQ
def F_Ph_left (u : Nat) (x1 : Int32) (I : pm_II) (J : pm_JJ) : Option (Int32 × pm_II × pm_JJ) :=
  bd (F_Ty_stockOf u x1 I J) fun r5 I5 J5 =>
  some (r5, I5, J5)
theorem fx_Ph_left {u k : Nat} {pa pb : Nat} {ga : Nat → Nat} {Q : Option Value → pm_H → Prop} {x1 : Int32} {I : pm_II} {J : pm_JJ} {r : Int32} {I2 : pm_II} {J2 : pm_JJ} (hk : 1 ≤ k) (hF : F_Ph_left u x1 I J = some (r, I2, J2)) (hQ : Q (some (.int r)) (hp I2 J2 (pm_RT pa pb ga))) : Px k 176 m_Ph_left 0 [.ref 16, .int x1] [] (hp I J (pm_RT pa pb ga)) Q := by
  obtain ⟨k, rfl⟩ : ∃ j, k = j + 1 := ⟨k - 1, by omega⟩
  unfold F_Ph_left at hF
  refine bk_Ph_left_0 ?_
  obtain ⟨r5, I5, J5, hC5, hF⟩ := bd_e hF
  refine fx_Ty_stockOf (by omega) hC5 ⟨rfl, ?_⟩
  refine bk_Ph_left_8 ?_
  exact ret_q (Q := fun a b c => Q (some (.int a)) (hp b c (pm_RT pa pb ga))) hF hQ
def F_Ph_piece (u : Nat) (pa pb : Nat) (ga : Nat → Nat) (x1 : Int32) (x2 : Int32) (I : pm_II) (J : pm_JJ) : Option (Int32 × pm_II × pm_JJ) :=
  bd (F_Pi_tell u pa x1 x2 I J) fun r6 I6 J6 =>
  some (r6, I6, J6)
theorem fx_Ph_piece {u k : Nat} {pa pb : Nat} {ga : Nat → Nat} {Q : Option Value → pm_H → Prop} {x1 : Int32} {x2 : Int32} {I : pm_II} {J : pm_JJ} {r : Int32} {I2 : pm_II} {J2 : pm_JJ} (hk : 2 ≤ k) (hpa : oP pa) (hpb : oP pb) (hga : ∀ j, j < 16 → oT (ga j)) (hF : F_Ph_piece u pa pb ga x1 x2 I J = some (r, I2, J2)) (hQ : Q (some (.int r)) (hp I2 J2 (pm_RT pa pb ga))) : Px k 176 m_Ph_piece 0 [.ref 16, .int x1, .int x2] [] (hp I J (pm_RT pa pb ga)) Q := by
  obtain ⟨k, rfl⟩ : ∃ j, k = j + 1 := ⟨k - 1, by omega⟩
  unfold F_Ph_piece at hF
  refine bk_Ph_piece_0 ?_
  refine ⟨oP_ob hpa, ?_⟩
  obtain ⟨r6, I6, J6, hC6, hF⟩ := bd_e hF
  refine fx_Pi_tell (by omega) hpa hC6 ⟨rfl, ?_⟩
  refine bk_Ph_piece_9 ?_
  exact ret_q (Q := fun a b c => Q (some (.int a)) (hp b c (pm_RT pa pb ga))) hF hQ
def F_Ph_on (u : Nat) (pa pb : Nat) (ga : Nat → Nat) (x1 : Int32) (x2 : Int32) (I : pm_II) (J : pm_JJ) : Option (Int32 × pm_II × pm_JJ) :=
  bd (F_Pi_pieceAt u pa x1 x2 I J) fun r6 I6 J6 =>
  some (r6, I6, J6)
theorem fx_Ph_on {u k : Nat} {pa pb : Nat} {ga : Nat → Nat} {Q : Option Value → pm_H → Prop} {x1 : Int32} {x2 : Int32} {I : pm_II} {J : pm_JJ} {r : Int32} {I2 : pm_II} {J2 : pm_JJ} (hk : 1 ≤ k) (hpa : oP pa) (hpb : oP pb) (hga : ∀ j, j < 16 → oT (ga j)) (hF : F_Ph_on u pa pb ga x1 x2 I J = some (r, I2, J2)) (hQ : Q (some (.int r)) (hp I2 J2 (pm_RT pa pb ga))) : Px k 176 m_Ph_on 0 [.ref 16, .int x1, .int x2] [] (hp I J (pm_RT pa pb ga)) Q := by
  obtain ⟨k, rfl⟩ : ∃ j, k = j + 1 := ⟨k - 1, by omega⟩
  unfold F_Ph_on at hF
  refine bk_Ph_on_0 ?_
  refine ⟨oP_ob hpa, ?_⟩
  obtain ⟨r6, I6, J6, hC6, hF⟩ := bd_e hF
  refine fx_Pi_pieceAt (by omega) hpa hC6 ⟨rfl, ?_⟩
  refine bk_Ph_on_9 ?_
  exact ret_q (Q := fun a b c => Q (some (.int a)) (hp b c (pm_RT pa pb ga))) hF hQ
def F_Ph_gather_98 (u : Nat) (x3 : Int32) (I : pm_II) (J : pm_JJ) : Option (Int32 × pm_II × pm_JJ) :=
  bd (F_Ta_close u x3 I J) fun r103 I103 J103 =>
  some (r103, I103, J103)
def F_Ph_gather_69 (u : Nat) (x1 : Int32) (x2 : Int32) (x3 : Int32) (I : pm_II) (J : pm_JJ) : Option (Int32 × pm_II × pm_JJ) :=
  bd (F_Ta_expect u (10 : Int32) I J) fun _ I75 J75 =>
  bd (F_Ta_finish u I75 J75) fun _ I82 J82 =>
  if ¬ x3 = 0 then (
    F_Ph_gather_98 u x3 I82 J82)
  else (
    if x1 ≤ x2 then (
      F_Ph_gather_98 u x3 I82 J82)
    else (
      F_Ph_gather_98 u (x2 + (1 : Int32)) I82 J82))
def F_Ph_gather_51 (u : Nat) (K19 : Int32 → Int32 → Int32 → pm_II → pm_JJ → Option (Int32 × pm_II × pm_JJ)) (x1 : Int32) (x2 : Int32) (x3 : Int32) (I : pm_II) (J : pm_JJ) : Option (Int32 × pm_II × pm_JJ) :=
  if 20 ≤ x2 then (
    F_Ph_gather_69 u x1 x2 x3 I J)
  else (
    bd (F_Ta_takes u (32 : Int32) I J) fun r63 I63 J63 =>
    if ¬ r63 = 0 then (
      K19 x1 x2 x3 I63 J63)
    else (
      F_Ph_gather_69 u x1 x2 x3 I63 J63))
def F_Ph_gather_19 (u : Nat) : Nat → Int32 → Int32 → Int32 → pm_II → pm_JJ → Option (Int32 × pm_II × pm_JJ)
  | 0, _, _, _, _, _ => none
  | n + 1, x1, x2, x3, I, J =>
    bd (F_Ta_readNumber u (1 : Int32) (8 : Int32) I J) fun r29 I29 J29 =>
    if ¬ x3 = 0 then (
      F_Ph_gather_51 u (F_Ph_gather_19 u n) x1 (x2 + Int32.ofInt 1) x3 I29 J29)
    else (
      if x1 < (x2 + Int32.ofInt 1) then (
        F_Ph_gather_51 u (F_Ph_gather_19 u n) x1 (x2 + Int32.ofInt 1) (x2 + Int32.ofInt 1) I29 J29)
      else (
        if r29 = (x2 + Int32.ofInt 1) then (
          F_Ph_gather_51 u (F_Ph_gather_19 u n) x1 (x2 + Int32.ofInt 1) x3 I29 J29)
        else (
          F_Ph_gather_51 u (F_Ph_gather_19 u n) x1 (x2 + Int32.ofInt 1) (x2 + Int32.ofInt 1) I29 J29)))
def F_Ph_gather (u : Nat) (I : pm_II) (J : pm_JJ) : Option (Int32 × pm_II × pm_JJ) :=
  bd (F_Ta_open u I J) fun _ I4 J4 =>
  bd (F_Fo_sheets u I4 J4) fun r11 I11 J11 =>
  F_Ph_gather_19 u u r11 (0 : Int32) (0 : Int32) I11 J11
theorem fx_Ph_gather_98 {u k : Nat} {pa pb : Nat} {ga : Nat → Nat} {Q : Option Value → pm_H → Prop} {x1 : Int32} {x2 : Int32} {x3 : Int32} {x4 : Int32} {I : pm_II} {J : pm_JJ} {r : Int32} {I2 : pm_II} {J2 : pm_JJ} (hk : 3 ≤ k) (hF : F_Ph_gather_98 u x3 I J = some (r, I2, J2)) (hQ : Q (some (.int r)) (hp I2 J2 (pm_RT pa pb ga))) : Px k 176 m_Ph_gather 98 [.ref 16, .int x1, .int x2, .int x3, .int x4] [] (hp I J (pm_RT pa pb ga)) Q := by
  obtain ⟨k, rfl⟩ : ∃ j, k = j + 1 := ⟨k - 1, by omega⟩
  unfold F_Ph_gather_98 at hF
  refine bk_Ph_gather_98 ?_
  obtain ⟨r103, I103, J103, hC103, hF⟩ := bd_e hF
  refine fx_Ta_close (by omega) hC103 ⟨rfl, ?_⟩
  refine bk_Ph_gather_106 ?_
  exact ret_q (Q := fun a b c => Q (some (.int a)) (hp b c (pm_RT pa pb ga))) hF hQ
theorem fx_Ph_gather_69 {u k : Nat} {pa pb : Nat} {ga : Nat → Nat} {Q : Option Value → pm_H → Prop} {x1 : Int32} {x2 : Int32} {x3 : Int32} {x4 : Int32} {I : pm_II} {J : pm_JJ} {r : Int32} {I2 : pm_II} {J2 : pm_JJ} (hk : 3 ≤ k) (hF : F_Ph_gather_69 u x1 x2 x3 I J = some (r, I2, J2)) (hQ : Q (some (.int r)) (hp I2 J2 (pm_RT pa pb ga))) : Px k 176 m_Ph_gather 69 [.ref 16, .int x1, .int x2, .int x3, .int x4] [] (hp I J (pm_RT pa pb ga)) Q := by
  obtain ⟨k, rfl⟩ : ∃ j, k = j + 1 := ⟨k - 1, by omega⟩
  unfold F_Ph_gather_69 at hF
  refine bk_Ph_gather_69 ?_
  obtain ⟨r75, I75, J75, hC75, hF⟩ := bd_e hF
  refine fx_Ta_expect (by omega) hC75 ⟨rfl, ?_⟩
  refine bk_Ph_gather_78 ?_
  obtain ⟨r82, I82, J82, hC82, hF⟩ := bd_e hF
  refine fx_Ta_finish (by omega) hC82 ⟨rfl, ?_⟩
  refine bk_Ph_gather_85 ?_
  refine ⟨fun z => ?_, fun z => ?_⟩
  · rw [if_pos z] at hF
    exact fx_Ph_gather_98 hk hF hQ
  · rw [if_neg z] at hF
    refine ⟨fun z => ?_, fun z => ?_⟩
    · rw [if_pos z] at hF
      exact fx_Ph_gather_98 hk hF hQ
    · rw [if_neg z] at hF
      exact fx_Ph_gather_98 hk hF hQ
theorem fx_Ph_gather_51 {u k : Nat} {pa pb : Nat} {ga : Nat → Nat} {Q : Option Value → pm_H → Prop} {K19 : Int32 → Int32 → Int32 → pm_II → pm_JJ → Option (Int32 × pm_II × pm_JJ)} {x1 : Int32} {x2 : Int32} {x3 : Int32} {x4 : Int32} {I : pm_II} {J : pm_JJ} {r : Int32} {I2 : pm_II} {J2 : pm_JJ} (hk : 3 ≤ k) (hK19 : ∀ (x1 : Int32) (x2 : Int32) (x3 : Int32) (I : pm_II) (J : pm_JJ) (r : Int32) (I2 : pm_II) (J2 : pm_JJ), K19 x1 x2 x3 I J = some (r, I2, J2) → Q (some (.int r)) (hp I2 J2 (pm_RT pa pb ga)) → Px k 176 m_Ph_gather 19 [.ref 16, .int x1, .int x2, .int x3, .null] [] (hp I J (pm_RT pa pb ga)) Q) (hF : F_Ph_gather_51 u K19 x1 x2 x3 I J = some (r, I2, J2)) (hQ : Q (some (.int r)) (hp I2 J2 (pm_RT pa pb ga))) : Px k 176 m_Ph_gather 51 [.ref 16, .int x1, .int x2, .int x3, .int x4] [] (hp I J (pm_RT pa pb ga)) Q := by
  obtain ⟨k, rfl⟩ : ∃ j, k = j + 1 := ⟨k - 1, by omega⟩
  unfold F_Ph_gather_51 at hF
  refine bk_Ph_gather_51 ?_
  refine ⟨fun z => ?_, fun z => ?_⟩
  · rw [if_pos z] at hF
    exact fx_Ph_gather_69 hk hF hQ
  · rw [if_neg z] at hF
    obtain ⟨r63, I63, J63, hC63, hF⟩ := bd_e hF
    refine fx_Ta_takes (by omega) hC63 ⟨rfl, ?_⟩
    refine bk_Ph_gather_66 ?_
    refine ⟨fun z => ?_, fun z => ?_⟩
    · rw [if_pos z] at hF
      exact Px_wk (hK19 _ _ _ _ _ _ _ _ hF hQ) ⟨Or.inl rfl, Or.inl rfl, Or.inl rfl, Or.inl rfl, Or.inr ⟨rfl, rfl⟩, trivial⟩
    · rw [if_neg z] at hF
      exact fx_Ph_gather_69 hk hF hQ
theorem fx_Ph_gather_19 {u k : Nat} {pa pb : Nat} {ga : Nat → Nat} {Q : Option Value → pm_H → Prop} (hk : 3 ≤ k) : ∀ (n : Nat), ∀ (x1 : Int32) (x2 : Int32) (x3 : Int32) (I : pm_II) (J : pm_JJ) (r : Int32) (I2 : pm_II) (J2 : pm_JJ), F_Ph_gather_19 u n x1 x2 x3 I J = some (r, I2, J2) → Q (some (.int r)) (hp I2 J2 (pm_RT pa pb ga)) → Px k 176 m_Ph_gather 19 [.ref 16, .int x1, .int x2, .int x3, .null] [] (hp I J (pm_RT pa pb ga)) Q := by
  obtain ⟨k, rfl⟩ : ∃ j, k = j + 1 := ⟨k - 1, by omega⟩
  intro n
  induction n with
  | zero => intro x1 x2 x3 I J r I2 J2  hF; cases hF
  | succ n ih =>
    intro x1 x2 x3 I J r I2 J2  hF hQ
    rw [F_Ph_gather_19] at hF
    refine bk_Ph_gather_19 ?_
    obtain ⟨r29, I29, J29, hC29, hF⟩ := bd_e hF
    refine fx_Ta_readNumber (by omega) hC29 ⟨rfl, ?_⟩
    refine bk_Ph_gather_32 ?_
    refine ⟨fun z => ?_, fun z => ?_⟩
    · rw [if_pos z] at hF
      exact fx_Ph_gather_51 hk ih hF hQ
    · rw [if_neg z] at hF
      refine ⟨fun z => ?_, fun z => ?_⟩
      · rw [if_pos z] at hF
        exact fx_Ph_gather_51 hk ih hF hQ
      · rw [if_neg z] at hF
        refine ⟨fun z => ?_, fun z => ?_⟩
        · rw [if_pos z] at hF
          exact fx_Ph_gather_51 hk ih hF hQ
        · rw [if_neg z] at hF
          exact fx_Ph_gather_51 hk ih hF hQ
theorem fx_Ph_gather {u k : Nat} {pa pb : Nat} {ga : Nat → Nat} {Q : Option Value → pm_H → Prop} {I : pm_II} {J : pm_JJ} {r : Int32} {I2 : pm_II} {J2 : pm_JJ} (hk : 3 ≤ k) (hF : F_Ph_gather u  I J = some (r, I2, J2)) (hQ : Q (some (.int r)) (hp I2 J2 (pm_RT pa pb ga))) : Px k 176 m_Ph_gather 0 [.ref 16, .null, .null, .null, .null] [] (hp I J (pm_RT pa pb ga)) Q := by
  obtain ⟨k, rfl⟩ : ∃ j, k = j + 1 := ⟨k - 1, by omega⟩
  unfold F_Ph_gather at hF
  refine bk_Ph_gather_0 ?_
  obtain ⟨r4, I4, J4, hC4, hF⟩ := bd_e hF
  refine fx_Ta_open (by omega) hC4 ⟨rfl, ?_⟩
  refine bk_Ph_gather_7 ?_
  obtain ⟨r11, I11, J11, hC11, hF⟩ := bd_e hF
  refine fx_Fo_sheets (by omega) hC11 ⟨rfl, ?_⟩
  refine bk_Ph_gather_14 ?_
  exact fx_Ph_gather_19 hk u _ _ _ _ _ _ _ _ hF hQ
def F_Ph_letters (u : Nat) (I : pm_II) (J : pm_JJ) : Option (Int32 × pm_II × pm_JJ) :=
  bd (F_Ta_open u I J) fun _ I4 J4 =>
  bd (F_Ma_takeText u I4 J4) fun r15 I15 J15 =>
  bd (F_Bu_outdate u I15 J15) fun _ I23 J23 =>
  bd (F_Ta_close u r15 I23 J23) fun r31 I31 J31 =>
  some (r31, I31, J31)
theorem fx_Ph_letters {u k : Nat} {pa pb : Nat} {ga : Nat → Nat} {Q : Option Value → pm_H → Prop} {I : pm_II} {J : pm_JJ} {r : Int32} {I2 : pm_II} {J2 : pm_JJ} (hk : 5 ≤ k) (hF : F_Ph_letters u  I J = some (r, I2, J2)) (hQ : Q (some (.int r)) (hp I2 J2 (pm_RT pa pb ga))) : Px k 176 m_Ph_letters 0 [.ref 16, .null] [] (hp I J (pm_RT pa pb ga)) Q := by
  obtain ⟨k, rfl⟩ : ∃ j, k = j + 1 := ⟨k - 1, by omega⟩
  unfold F_Ph_letters at hF
  refine bk_Ph_letters_0 ?_
  obtain ⟨r4, I4, J4, hC4, hF⟩ := bd_e hF
  refine fx_Ta_open (by omega) hC4 ⟨rfl, ?_⟩
  refine bk_Ph_letters_7 ?_
  obtain ⟨r15, I15, J15, hC15, hF⟩ := bd_e hF
  refine fx_Ma_takeText (by omega) hC15 ⟨rfl, ?_⟩
  refine bk_Ph_letters_18 ?_
  obtain ⟨r23, I23, J23, hC23, hF⟩ := bd_e hF
  refine fx_Bu_outdate (by omega) hC23 ⟨rfl, ?_⟩
  refine bk_Ph_letters_26 ?_
  obtain ⟨r31, I31, J31, hC31, hF⟩ := bd_e hF
  refine fx_Ta_close (by omega) hC31 ⟨rfl, ?_⟩
  refine bk_Ph_letters_34 ?_
  exact ret_q (Q := fun a b c => Q (some (.int a)) (hp b c (pm_RT pa pb ga))) hF hQ
def F_Ph_bundles (u : Nat) (x1 : Int32) (x2 : Int32) (I : pm_II) (J : pm_JJ) : Option (Int32 × pm_II × pm_JJ) :=
  if x1 < 1 then (
    some (((-1) : Int32), I, J))
  else (
    if 30 < x2 then (
      some (((-1) : Int32), I, J))
    else (
      if x1 ≤ x2 then (
        bd (F_Bu_limit u x1 x2 I J) fun _ I24 J24 =>
        bd (F_Bu_howMany u I24 J24) fun r35 I35 J35 =>
        some (r35, I35, J35))
      else (
        some (((-1) : Int32), I, J))))
theorem fx_Ph_bundles {u k : Nat} {pa pb : Nat} {ga : Nat → Nat} {Q : Option Value → pm_H → Prop} {x1 : Int32} {x2 : Int32} {I : pm_II} {J : pm_JJ} {r : Int32} {I2 : pm_II} {J2 : pm_JJ} (hk : 6 ≤ k) (hF : F_Ph_bundles u x1 x2 I J = some (r, I2, J2)) (hQ : Q (some (.int r)) (hp I2 J2 (pm_RT pa pb ga))) : Px k 176 m_Ph_bundles 0 [.ref 16, .int x1, .int x2] [] (hp I J (pm_RT pa pb ga)) Q := by
  obtain ⟨k, rfl⟩ : ∃ j, k = j + 1 := ⟨k - 1, by omega⟩
  unfold F_Ph_bundles at hF
  refine bk_Ph_bundles_0 ?_
  refine ⟨fun z => ?_, fun z => ?_⟩
  · rw [if_pos z] at hF
    exact ret_q (Q := fun a b c => Q (some (.int a)) (hp b c (pm_RT pa pb ga))) hF hQ
  · rw [if_neg z] at hF
    refine ⟨fun z => ?_, fun z => ?_⟩
    · rw [if_pos z] at hF
      exact ret_q (Q := fun a b c => Q (some (.int a)) (hp b c (pm_RT pa pb ga))) hF hQ
    · rw [if_neg z] at hF
      refine ⟨fun z => ?_, fun z => ?_⟩
      · rw [if_pos z] at hF
        obtain ⟨r24, I24, J24, hC24, hF⟩ := bd_e hF
        refine fx_Bu_limit (by omega) hC24 ⟨rfl, ?_⟩
        refine bk_Ph_bundles_27 ?_
        obtain ⟨r35, I35, J35, hC35, hF⟩ := bd_e hF
        refine fx_Bu_howMany (by omega) hC35 ⟨rfl, ?_⟩
        refine bk_Ph_bundles_38 ?_
        exact ret_q (Q := fun a b c => Q (some (.int a)) (hp b c (pm_RT pa pb ga))) hF hQ
      · rw [if_neg z] at hF
        exact ret_q (Q := fun a b c => Q (some (.int a)) (hp b c (pm_RT pa pb ga))) hF hQ
def F_Ph_letter (u : Nat) (x1 : Int32) (x2 : Int32) (I : pm_II) (J : pm_JJ) : Option (Int32 × pm_II × pm_JJ) :=
  if ¬ x2 = 2 then (
    bd (F_Ma_tell u x1 x2 I J) fun r24 I24 J24 =>
    some (r24, I24, J24))
  else (
    bd (F_Bu_bundleOf u x1 I J) fun r14 I14 J14 =>
    some (r14, I14, J14))
theorem fx_Ph_letter {u k : Nat} {pa pb : Nat} {ga : Nat → Nat} {Q : Option Value → pm_H → Prop} {x1 : Int32} {x2 : Int32} {I : pm_II} {J : pm_JJ} {r : Int32} {I2 : pm_II} {J2 : pm_JJ} (hk : 6 ≤ k) (hF : F_Ph_letter u x1 x2 I J = some (r, I2, J2)) (hQ : Q (some (.int r)) (hp I2 J2 (pm_RT pa pb ga))) : Px k 176 m_Ph_letter 0 [.ref 16, .int x1, .int x2] [] (hp I J (pm_RT pa pb ga)) Q := by
  obtain ⟨k, rfl⟩ : ∃ j, k = j + 1 := ⟨k - 1, by omega⟩
  unfold F_Ph_letter at hF
  refine bk_Ph_letter_0 ?_
  refine ⟨fun z => ?_, fun z => ?_⟩
  · rw [if_pos z] at hF
    obtain ⟨r24, I24, J24, hC24, hF⟩ := bd_e hF
    refine fx_Ma_tell (by omega) hC24 ⟨rfl, ?_⟩
    refine bk_Ph_letter_27 ?_
    exact ret_q (Q := fun a b c => Q (some (.int a)) (hp b c (pm_RT pa pb ga))) hF hQ
  · rw [if_neg z] at hF
    obtain ⟨r14, I14, J14, hC14, hF⟩ := bd_e hF
    refine fx_Bu_bundleOf (by omega) hC14 ⟨rfl, ?_⟩
    refine bk_Ph_letter_17 ?_
    exact ret_q (Q := fun a b c => Q (some (.int a)) (hp b c (pm_RT pa pb ga))) hF hQ
def F_Ph_bundle (u : Nat) (x1 : Int32) (x2 : Int32) (I : pm_II) (J : pm_JJ) : Option (Int32 × pm_II × pm_JJ) :=
  bd (F_Bu_tell u x1 x2 I J) fun r10 I10 J10 =>
  some (r10, I10, J10)
theorem fx_Ph_bundle {u k : Nat} {pa pb : Nat} {ga : Nat → Nat} {Q : Option Value → pm_H → Prop} {x1 : Int32} {x2 : Int32} {I : pm_II} {J : pm_JJ} {r : Int32} {I2 : pm_II} {J2 : pm_JJ} (hk : 6 ≤ k) (hF : F_Ph_bundle u x1 x2 I J = some (r, I2, J2)) (hQ : Q (some (.int r)) (hp I2 J2 (pm_RT pa pb ga))) : Px k 176 m_Ph_bundle 0 [.ref 16, .int x1, .int x2] [] (hp I J (pm_RT pa pb ga)) Q := by
  obtain ⟨k, rfl⟩ : ∃ j, k = j + 1 := ⟨k - 1, by omega⟩
  unfold F_Ph_bundle at hF
  refine bk_Ph_bundle_0 ?_
  obtain ⟨r10, I10, J10, hC10, hF⟩ := bd_e hF
  refine fx_Bu_tell (by omega) hC10 ⟨rfl, ?_⟩
  refine bk_Ph_bundle_13 ?_
  exact ret_q (Q := fun a b c => Q (some (.int a)) (hp b c (pm_RT pa pb ga))) hF hQ
def F_Ph_strike (u : Nat) (x1 : Int32) (I : pm_II) (J : pm_JJ) : Option (Int32 × pm_II × pm_JJ) :=
  bd (F_Ma_remove u x1 I J) fun r5 I5 J5 =>
  bd (F_Bu_outdate u I5 J5) fun _ I13 J13 =>
  some (r5, I13, J13)
theorem fx_Ph_strike {u k : Nat} {pa pb : Nat} {ga : Nat → Nat} {Q : Option Value → pm_H → Prop} {x1 : Int32} {I : pm_II} {J : pm_JJ} {r : Int32} {I2 : pm_II} {J2 : pm_JJ} (hk : 2 ≤ k) (hF : F_Ph_strike u x1 I J = some (r, I2, J2)) (hQ : Q (some (.int r)) (hp I2 J2 (pm_RT pa pb ga))) : Px k 176 m_Ph_strike 0 [.ref 16, .int x1, .null] [] (hp I J (pm_RT pa pb ga)) Q := by
  obtain ⟨k, rfl⟩ : ∃ j, k = j + 1 := ⟨k - 1, by omega⟩
  unfold F_Ph_strike at hF
  refine bk_Ph_strike_0 ?_
  obtain ⟨r5, I5, J5, hC5, hF⟩ := bd_e hF
  refine fx_Ma_remove (by omega) hC5 ⟨rfl, ?_⟩
  refine bk_Ph_strike_8 ?_
  obtain ⟨r13, I13, J13, hC13, hF⟩ := bd_e hF
  refine fx_Bu_outdate (by omega) hC13 ⟨rfl, ?_⟩
  refine bk_Ph_strike_16 ?_
  exact ret_q (Q := fun a b c => Q (some (.int a)) (hp b c (pm_RT pa pb ga))) hF hQ
def F_Ph_job (u : Nat) (x1 : Int32) (x2 : Int32) (x3 : Int32) (x4 : Int32) (I : pm_II) (J : pm_JJ) : Option (Int32 × pm_II × pm_JJ) :=
  bd (F_Wo_add u x1 x2 x3 x4 I J) fun r9 I9 J9 =>
  some (r9, I9, J9)
theorem fx_Ph_job {u k : Nat} {pa pb : Nat} {ga : Nat → Nat} {Q : Option Value → pm_H → Prop} {x1 : Int32} {x2 : Int32} {x3 : Int32} {x4 : Int32} {I : pm_II} {J : pm_JJ} {r : Int32} {I2 : pm_II} {J2 : pm_JJ} (hk : 1 ≤ k) (hF : F_Ph_job u x1 x2 x3 x4 I J = some (r, I2, J2)) (hQ : Q (some (.int r)) (hp I2 J2 (pm_RT pa pb ga))) : Px k 176 m_Ph_job 0 [.ref 16, .int x1, .int x2, .int x3, .int x4] [] (hp I J (pm_RT pa pb ga)) Q := by
  obtain ⟨k, rfl⟩ : ∃ j, k = j + 1 := ⟨k - 1, by omega⟩
  unfold F_Ph_job at hF
  refine bk_Ph_job_0 ?_
  obtain ⟨r9, I9, J9, hC9, hF⟩ := bd_e hF
  refine fx_Wo_add (by omega) hC9 ⟨rfl, ?_⟩
  refine bk_Ph_job_12 ?_
  exact ret_q (Q := fun a b c => Q (some (.int a)) (hp b c (pm_RT pa pb ga))) hF hQ
def F_Ph_times (u : Nat) (x1 : Int32) (x2 : Int32) (I : pm_II) (J : pm_JJ) : Option (Int32 × pm_II × pm_JJ) :=
  bd (F_Wo_allow u x1 x2 I J) fun r6 I6 J6 =>
  some (r6, I6, J6)
theorem fx_Ph_times {u k : Nat} {pa pb : Nat} {ga : Nat → Nat} {Q : Option Value → pm_H → Prop} {x1 : Int32} {x2 : Int32} {I : pm_II} {J : pm_JJ} {r : Int32} {I2 : pm_II} {J2 : pm_JJ} (hk : 1 ≤ k) (hF : F_Ph_times u x1 x2 I J = some (r, I2, J2)) (hQ : Q (some (.int r)) (hp I2 J2 (pm_RT pa pb ga))) : Px k 176 m_Ph_times 0 [.ref 16, .int x1, .int x2] [] (hp I J (pm_RT pa pb ga)) Q := by
  obtain ⟨k, rfl⟩ : ∃ j, k = j + 1 := ⟨k - 1, by omega⟩
  unfold F_Ph_times at hF
  refine bk_Ph_times_0 ?_
  obtain ⟨r6, I6, J6, hC6, hF⟩ := bd_e hF
  refine fx_Wo_allow (by omega) hC6 ⟨rfl, ?_⟩
  refine bk_Ph_times_9 ?_
  exact ret_q (Q := fun a b c => Q (some (.int a)) (hp b c (pm_RT pa pb ga))) hF hQ
def F_Ph_drop (u : Nat) (x1 : Int32) (I : pm_II) (J : pm_JJ) : Option (Int32 × pm_II × pm_JJ) :=
  bd (F_Wo_remove u x1 I J) fun r5 I5 J5 =>
  some (r5, I5, J5)
theorem fx_Ph_drop {u k : Nat} {pa pb : Nat} {ga : Nat → Nat} {Q : Option Value → pm_H → Prop} {x1 : Int32} {I : pm_II} {J : pm_JJ} {r : Int32} {I2 : pm_II} {J2 : pm_JJ} (hk : 2 ≤ k) (hF : F_Ph_drop u x1 I J = some (r, I2, J2)) (hQ : Q (some (.int r)) (hp I2 J2 (pm_RT pa pb ga))) : Px k 176 m_Ph_drop 0 [.ref 16, .int x1] [] (hp I J (pm_RT pa pb ga)) Q := by
  obtain ⟨k, rfl⟩ : ∃ j, k = j + 1 := ⟨k - 1, by omega⟩
  unfold F_Ph_drop at hF
  refine bk_Ph_drop_0 ?_
  obtain ⟨r5, I5, J5, hC5, hF⟩ := bd_e hF
  refine fx_Wo_remove (by omega) hC5 ⟨rfl, ?_⟩
  refine bk_Ph_drop_8 ?_
  exact ret_q (Q := fun a b c => Q (some (.int a)) (hp b c (pm_RT pa pb ga))) hF hQ
def F_Ph_order (u : Nat) (x1 : Int32) (I : pm_II) (J : pm_JJ) : Option (Int32 × pm_II × pm_JJ) :=
  bd (F_Wo_jobAt u x1 I J) fun r5 I5 J5 =>
  some (r5, I5, J5)
theorem fx_Ph_order {u k : Nat} {pa pb : Nat} {ga : Nat → Nat} {Q : Option Value → pm_H → Prop} {x1 : Int32} {I : pm_II} {J : pm_JJ} {r : Int32} {I2 : pm_II} {J2 : pm_JJ} (hk : 16 ≤ k) (hF : F_Ph_order u x1 I J = some (r, I2, J2)) (hQ : Q (some (.int r)) (hp I2 J2 (pm_RT pa pb ga))) : Px k 176 m_Ph_order 0 [.ref 16, .int x1] [] (hp I J (pm_RT pa pb ga)) Q := by
  obtain ⟨k, rfl⟩ : ∃ j, k = j + 1 := ⟨k - 1, by omega⟩
  unfold F_Ph_order at hF
  refine bk_Ph_order_0 ?_
  obtain ⟨r5, I5, J5, hC5, hF⟩ := bd_e hF
  refine fx_Wo_jobAt (by omega) hC5 ⟨rfl, ?_⟩
  refine bk_Ph_order_8 ?_
  exact ret_q (Q := fun a b c => Q (some (.int a)) (hp b c (pm_RT pa pb ga))) hF hQ
def F_Ph_when (u : Nat) (x1 : Int32) (x2 : Int32) (I : pm_II) (J : pm_JJ) : Option (Int32 × pm_II × pm_JJ) :=
  bd (F_Wo_tell u x1 x2 I J) fun r6 I6 J6 =>
  some (r6, I6, J6)
theorem fx_Ph_when {u k : Nat} {pa pb : Nat} {ga : Nat → Nat} {Q : Option Value → pm_H → Prop} {x1 : Int32} {x2 : Int32} {I : pm_II} {J : pm_JJ} {r : Int32} {I2 : pm_II} {J2 : pm_JJ} (hk : 16 ≤ k) (hF : F_Ph_when u x1 x2 I J = some (r, I2, J2)) (hQ : Q (some (.int r)) (hp I2 J2 (pm_RT pa pb ga))) : Px k 176 m_Ph_when 0 [.ref 16, .int x1, .int x2] [] (hp I J (pm_RT pa pb ga)) Q := by
  obtain ⟨k, rfl⟩ : ∃ j, k = j + 1 := ⟨k - 1, by omega⟩
  unfold F_Ph_when at hF
  refine bk_Ph_when_0 ?_
  obtain ⟨r6, I6, J6, hC6, hF⟩ := bd_e hF
  refine fx_Wo_tell (by omega) hC6 ⟨rfl, ?_⟩
  refine bk_Ph_when_9 ?_
  exact ret_q (Q := fun a b c => Q (some (.int a)) (hp b c (pm_RT pa pb ga))) hF hQ
def F_Ph_count (u : Nat) (pa pb : Nat) (ga : Nat → Nat) (x1 : Int32) (I : pm_II) (J : pm_JJ) : Option (Int32 × pm_II × pm_JJ) :=
  if x1 = nI 0 then (
    bd (F_Wo_lateInAll u I J) fun r76 I76 J76 =>
    some (r76, I76, J76))
  else   if x1 = nI 1 then (
    bd (F_Wo_lastEnd u I J) fun r84 I84 J84 =>
    some (r84, I84, J84))
  else   if x1 = nI 2 then (
    bd (F_Wo_changesOfColour u I J) fun r92 I92 J92 =>
    some (r92, I92, J92))
  else   if x1 = nI 3 then (
    bd (F_Ro_inPlan u I J) fun r100 I100 J100 =>
    some (r100, I100, J100))
  else   if x1 = nI 4 then (
    bd (F_Ro_lostInAll u I J) fun r108 I108 J108 =>
    some (r108, I108, J108))
  else   if x1 = nI 5 then (
    bd (F_Fo_leaves u I J) fun r116 I116 J116 =>
    some (r116, I116, J116))
  else   if x1 = nI 6 then (
    bd (F_Fo_sheets u I J) fun r124 I124 J124 =>
    some (r124, I124, J124))
  else   if x1 = nI 7 then (
    bd (F_Pr_sheetsPrinted u I J) fun r132 I132 J132 =>
    some (r132, I132, J132))
  else   if x1 = nI 8 then (
    bd (F_Pr_sheetsGood u I J) fun r140 I140 J140 =>
    some (r140, I140, J140))
  else   if x1 = nI 9 then (
    bd (F_Ty_linesStanding u I J) fun r148 I148 J148 =>
    some (r148, I148, J148))
  else   if x1 = nI 10 then (
    bd (F_Pi_howMany u pa I J) fun r156 I156 J156 =>
    some (r156, I156, J156))
  else   if x1 = nI 11 then (
    bd (F_Ma_howMany u I J) fun r164 I164 J164 =>
    some (r164, I164, J164))
  else   if x1 = nI 12 then (
    bd (F_Bu_howMany u I J) fun r176 I176 J176 =>
    some (r176, I176, J176))
  else   if x1 = nI 13 then (
    bd (F_Wo_howMany u I J) fun r184 I184 J184 =>
    some (r184, I184, J184))
  else (
    some (((-1) : Int32), I, J))
theorem fx_Ph_count {u k : Nat} {pa pb : Nat} {ga : Nat → Nat} {Q : Option Value → pm_H → Prop} {x1 : Int32} {I : pm_II} {J : pm_JJ} {r : Int32} {I2 : pm_II} {J2 : pm_JJ} (hk : 16 ≤ k) (hpa : oP pa) (hpb : oP pb) (hga : ∀ j, j < 16 → oT (ga j)) (hF : F_Ph_count u pa pb ga x1 I J = some (r, I2, J2)) (hQ : Q (some (.int r)) (hp I2 J2 (pm_RT pa pb ga))) : Px k 176 m_Ph_count 0 [.ref 16, .int x1] [] (hp I J (pm_RT pa pb ga)) Q := by
  obtain ⟨k, rfl⟩ : ∃ j, k = j + 1 := ⟨k - 1, by omega⟩
  unfold F_Ph_count at hF
  refine bk_Ph_count_0 ?_
  refine ⟨fun z => ?_, fun z => ?_, fun z => ?_, fun z => ?_, fun z => ?_, fun z => ?_, fun z => ?_, fun z => ?_, fun z => ?_, fun z => ?_, fun z => ?_, fun z => ?_, fun z => ?_, fun z => ?_, fun z => ?_⟩
  · rw [if_pos z] at hF
    obtain ⟨r76, I76, J76, hC76, hF⟩ := bd_e hF
    refine fx_Wo_lateInAll (by omega) hC76 ⟨rfl, ?_⟩
    refine bk_Ph_count_79 ?_
    exact ret_q (Q := fun a b c => Q (some (.int a)) (hp b c (pm_RT pa pb ga))) hF hQ
  · rw [if_neg (by rw [z]; decide), if_pos z] at hF
    obtain ⟨r84, I84, J84, hC84, hF⟩ := bd_e hF
    refine fx_Wo_lastEnd (by omega) hC84 ⟨rfl, ?_⟩
    refine bk_Ph_count_87 ?_
    exact ret_q (Q := fun a b c => Q (some (.int a)) (hp b c (pm_RT pa pb ga))) hF hQ
  · rw [if_neg (by rw [z]; decide), if_neg (by rw [z]; decide), if_pos z] at hF
    obtain ⟨r92, I92, J92, hC92, hF⟩ := bd_e hF
    refine fx_Wo_changesOfColour (by omega) hC92 ⟨rfl, ?_⟩
    refine bk_Ph_count_95 ?_
    exact ret_q (Q := fun a b c => Q (some (.int a)) (hp b c (pm_RT pa pb ga))) hF hQ
  · rw [if_neg (by rw [z]; decide), if_neg (by rw [z]; decide), if_neg (by rw [z]; decide), if_pos z] at hF
    obtain ⟨r100, I100, J100, hC100, hF⟩ := bd_e hF
    refine fx_Ro_inPlan (by omega) hC100 ⟨rfl, ?_⟩
    refine bk_Ph_count_103 ?_
    exact ret_q (Q := fun a b c => Q (some (.int a)) (hp b c (pm_RT pa pb ga))) hF hQ
  · rw [if_neg (by rw [z]; decide), if_neg (by rw [z]; decide), if_neg (by rw [z]; decide), if_neg (by rw [z]; decide), if_pos z] at hF
    obtain ⟨r108, I108, J108, hC108, hF⟩ := bd_e hF
    refine fx_Ro_lostInAll (by omega) hC108 ⟨rfl, ?_⟩
    refine bk_Ph_count_111 ?_
    exact ret_q (Q := fun a b c => Q (some (.int a)) (hp b c (pm_RT pa pb ga))) hF hQ
  · rw [if_neg (by rw [z]; decide), if_neg (by rw [z]; decide), if_neg (by rw [z]; decide), if_neg (by rw [z]; decide), if_neg (by rw [z]; decide), if_pos z] at hF
    obtain ⟨r116, I116, J116, hC116, hF⟩ := bd_e hF
    refine fx_Fo_leaves (by omega) hC116 ⟨rfl, ?_⟩
    refine bk_Ph_count_119 ?_
    exact ret_q (Q := fun a b c => Q (some (.int a)) (hp b c (pm_RT pa pb ga))) hF hQ
  · rw [if_neg (by rw [z]; decide), if_neg (by rw [z]; decide), if_neg (by rw [z]; decide), if_neg (by rw [z]; decide), if_neg (by rw [z]; decide), if_neg (by rw [z]; decide), if_pos z] at hF
    obtain ⟨r124, I124, J124, hC124, hF⟩ := bd_e hF
    refine fx_Fo_sheets (by omega) hC124 ⟨rfl, ?_⟩
    refine bk_Ph_count_127 ?_
    exact ret_q (Q := fun a b c => Q (some (.int a)) (hp b c (pm_RT pa pb ga))) hF hQ
  · rw [if_neg (by rw [z]; decide), if_neg (by rw [z]; decide), if_neg (by rw [z]; decide), if_neg (by rw [z]; decide), if_neg (by rw [z]; decide), if_neg (by rw [z]; decide), if_neg (by rw [z]; decide), if_pos z] at hF
    obtain ⟨r132, I132, J132, hC132, hF⟩ := bd_e hF
    refine fx_Pr_sheetsPrinted (by omega) hC132 ⟨rfl, ?_⟩
    refine bk_Ph_count_135 ?_
    exact ret_q (Q := fun a b c => Q (some (.int a)) (hp b c (pm_RT pa pb ga))) hF hQ
  · rw [if_neg (by rw [z]; decide), if_neg (by rw [z]; decide), if_neg (by rw [z]; decide), if_neg (by rw [z]; decide), if_neg (by rw [z]; decide), if_neg (by rw [z]; decide), if_neg (by rw [z]; decide), if_neg (by rw [z]; decide), if_pos z] at hF
    obtain ⟨r140, I140, J140, hC140, hF⟩ := bd_e hF
    refine fx_Pr_sheetsGood (by omega) hC140 ⟨rfl, ?_⟩
    refine bk_Ph_count_143 ?_
    exact ret_q (Q := fun a b c => Q (some (.int a)) (hp b c (pm_RT pa pb ga))) hF hQ
  · rw [if_neg (by rw [z]; decide), if_neg (by rw [z]; decide), if_neg (by rw [z]; decide), if_neg (by rw [z]; decide), if_neg (by rw [z]; decide), if_neg (by rw [z]; decide), if_neg (by rw [z]; decide), if_neg (by rw [z]; decide), if_neg (by rw [z]; decide), if_pos z] at hF
    obtain ⟨r148, I148, J148, hC148, hF⟩ := bd_e hF
    refine fx_Ty_linesStanding (by omega) hC148 ⟨rfl, ?_⟩
    refine bk_Ph_count_151 ?_
    exact ret_q (Q := fun a b c => Q (some (.int a)) (hp b c (pm_RT pa pb ga))) hF hQ
  · rw [if_neg (by rw [z]; decide), if_neg (by rw [z]; decide), if_neg (by rw [z]; decide), if_neg (by rw [z]; decide), if_neg (by rw [z]; decide), if_neg (by rw [z]; decide), if_neg (by rw [z]; decide), if_neg (by rw [z]; decide), if_neg (by rw [z]; decide), if_neg (by rw [z]; decide), if_pos z] at hF
    refine ⟨oP_ob hpa, ?_⟩
    obtain ⟨r156, I156, J156, hC156, hF⟩ := bd_e hF
    refine fx_Pi_howMany (by omega) hpa hC156 ⟨rfl, ?_⟩
    refine bk_Ph_count_159 ?_
    exact ret_q (Q := fun a b c => Q (some (.int a)) (hp b c (pm_RT pa pb ga))) hF hQ
  · rw [if_neg (by rw [z]; decide), if_neg (by rw [z]; decide), if_neg (by rw [z]; decide), if_neg (by rw [z]; decide), if_neg (by rw [z]; decide), if_neg (by rw [z]; decide), if_neg (by rw [z]; decide), if_neg (by rw [z]; decide), if_neg (by rw [z]; decide), if_neg (by rw [z]; decide), if_neg (by rw [z]; decide), if_pos z] at hF
    obtain ⟨r164, I164, J164, hC164, hF⟩ := bd_e hF
    refine fx_Ma_howMany (by omega) hC164 ⟨rfl, ?_⟩
    refine bk_Ph_count_167 ?_
    exact ret_q (Q := fun a b c => Q (some (.int a)) (hp b c (pm_RT pa pb ga))) hF hQ
  · rw [if_neg (by rw [z]; decide), if_neg (by rw [z]; decide), if_neg (by rw [z]; decide), if_neg (by rw [z]; decide), if_neg (by rw [z]; decide), if_neg (by rw [z]; decide), if_neg (by rw [z]; decide), if_neg (by rw [z]; decide), if_neg (by rw [z]; decide), if_neg (by rw [z]; decide), if_neg (by rw [z]; decide), if_neg (by rw [z]; decide), if_pos z] at hF
    obtain ⟨r176, I176, J176, hC176, hF⟩ := bd_e hF
    refine fx_Bu_howMany (by omega) hC176 ⟨rfl, ?_⟩
    refine bk_Ph_count_179 ?_
    exact ret_q (Q := fun a b c => Q (some (.int a)) (hp b c (pm_RT pa pb ga))) hF hQ
  · rw [if_neg (by rw [z]; decide), if_neg (by rw [z]; decide), if_neg (by rw [z]; decide), if_neg (by rw [z]; decide), if_neg (by rw [z]; decide), if_neg (by rw [z]; decide), if_neg (by rw [z]; decide), if_neg (by rw [z]; decide), if_neg (by rw [z]; decide), if_neg (by rw [z]; decide), if_neg (by rw [z]; decide), if_neg (by rw [z]; decide), if_neg (by rw [z]; decide), if_pos z] at hF
    obtain ⟨r184, I184, J184, hC184, hF⟩ := bd_e hF
    refine fx_Wo_howMany (by omega) hC184 ⟨rfl, ?_⟩
    refine bk_Ph_count_187 ?_
    exact ret_q (Q := fun a b c => Q (some (.int a)) (hp b c (pm_RT pa pb ga))) hF hQ
  · rw [if_neg (sw_ne z (by decide) (by decide)), if_neg (sw_ne z (by decide) (by decide)), if_neg (sw_ne z (by decide) (by decide)), if_neg (sw_ne z (by decide) (by decide)), if_neg (sw_ne z (by decide) (by decide)), if_neg (sw_ne z (by decide) (by decide)), if_neg (sw_ne z (by decide) (by decide)), if_neg (sw_ne z (by decide) (by decide)), if_neg (sw_ne z (by decide) (by decide)), if_neg (sw_ne z (by decide) (by decide)), if_neg (sw_ne z (by decide) (by decide)), if_neg (sw_ne z (by decide) (by decide)), if_neg (sw_ne z (by decide) (by decide)), if_neg (sw_ne z (by decide) (by decide))] at hF
    exact ret_q (Q := fun a b c => Q (some (.int a)) (hp b c (pm_RT pa pb ga))) hF hQ
