/-! ===== all parts together ===== -/
theorem P1_rs {I : pm_II} : P1 (rs 1 I) ↔ P1 I := Iff.rfl
theorem P2_rs {I : pm_II} : P2 (rs 2 I) ↔ P2 I := Iff.rfl
theorem P3_rs {I : pm_II} : P3 (rs 3 I) ↔ P3 I := Iff.rfl
theorem P4_rs {I : pm_II} {J : pm_JJ} : P4 (rs 4 I) (rsJ 4 J) ↔ P4 I J := Iff.rfl
theorem P7_rs {t : Nat} {I : pm_II} {J : pm_JJ} : P7 t (rs 7 I) (rsJ 7 J) ↔ P7 t I J := Iff.rfl
theorem P8_rs {I : pm_II} : P8 (rs 8 I) ↔ P8 I := Iff.rfl
section Frames
variable {s t : Nat} {I I2 : pm_II} {J J2 : pm_JJ} {pa : Nat} {ga : Nat → Nat}
theorem P1_fr (h : P1 I) (f : Fr s I I2) (hs : 1 ≠ s) : P1 I2 := P1_rs.mp (by rw [rs_eq f (by omega) hs]; exact P1_rs.mpr h)
theorem P2_fr (h : P2 I) (f : Fr s I I2) (hs : 2 ≠ s) : P2 I2 := P2_rs.mp (by rw [rs_eq f (by omega) hs]; exact P2_rs.mpr h)
theorem P3_fr (h : P3 I) (f : Fr s I I2) (hs : 3 ≠ s) : P3 I2 := P3_rs.mp (by rw [rs_eq f (by omega) hs]; exact P3_rs.mpr h)
theorem P4_fr (h : P4 I J) (f : Fr s I I2) (g : Fr s J J2) (hs : 4 ≠ s) : P4 I2 J2 := P4_rs.mp (by rw [rs_eq f (by omega) hs, rsJ_eq g (by omega) hs]; exact P4_rs.mpr h)
theorem P7_fr (h : P7 t I J) (f : Fr s I I2) (g : Fr s J J2) (hs : 7 ≠ s) : P7 t I2 J2 := P7_rs.mp (by rw [rs_eq f (by omega) hs, rsJ_eq g (by omega) hs]; exact P7_rs.mpr h)
theorem P8_fr (h : P8 I) (f : Fr s I I2) (hs : 8 ≠ s) : P8 I2 := P8_rs.mp (by rw [rs_eq f (by omega) hs]; exact P8_rs.mpr h)
theorem P5_fr (h : P5 ga I) (f : Fr s I I2) (hs : 5 ≠ s) : P5 ga I2 := by
  have hk : ∀ c k, k5 c k → own c k = 5 := by
    intro c k z
    rcases z with z | z | ⟨rfl, h1, h2⟩
    · exact own5 (by omega)
    · exact own5 (by omega)
    · exact own120_5 k (by omega) h1
  have e : ∀ c k, k5 c k → I2 c k = I c k := fun c k z => f c k (by rw [hk c k z]; omega) (by rw [hk c k z]; exact hs)
  obtain ⟨hg, hS, g, g1, g2, g3, g4⟩ := h
  refine ⟨hg, fun k hk => ?_, g, g1, ?_, ?_, fun l hl => ?_⟩
  · rw [e 49 k (by unfold k5; omega), e 50 k (by unfold k5; omega), e 146 _ (by unfold k5; omega), e 147 _ (by unfold k5; omega)]
    exact hS k hk
  · rw [e 48 9 (by unfold k5; omega)]; exact g2
  · rw [e 120 56 (by unfold k5; omega)]; exact g3
  · have hr := oT_r (hg.1 l (by omega))
    exact (g4 l hl).c (fun k => e _ _ (by unfold k5; omega)) (fun k => e _ _ (by unfold k5; omega)) (fun k _ => e _ _ (by unfold k5; omega)) (fun k _ => e _ _ (by unfold k5; omega)) (e _ _ (by unfold k5; omega)) (e _ _ (by unfold k5; omega)) (e _ _ (by unfold k5; omega))
theorem own120_65 : own 120 65 = 6 := rfl
theorem P6_fr (ha : oP pa) (h : P6 pa I) (f : Fr s I I2) (hs : 6 ≠ s) : P6 pa I2 := by
  have hr : 110 ≤ pa ∧ pa + 4 ≤ 119 := by rcases ha with rfl | rfl <;> omega
  have e : ∀ c k, (110 ≤ c ∧ c ≤ 119 ∨ 154 ≤ c ∧ c ≤ 161) → I2 c k = I c k := fun c k z => f c k (by rw [own6 z]; omega) (by rw [own6 z]; exact hs)
  obtain ⟨m, m1, m2, m3, m4⟩ := h
  refine ⟨m, m1, ?_, ?_, fun k hk => ?_⟩
  · rw [e _ _ (by omega)]; exact m2
  · rw [f 120 65 (by rw [own120_65]; omega) (by rw [own120_65]; exact hs)]; exact m3
  · rw [e (pa + 1) k (by omega), e (pa + 2) k (by omega), e (pa + 3) k (by omega), e (pa + 4) k (by omega), e 154 k (by omega), e 155 k (by omega), e 156 k (by omega), e 157 k (by omega)]
    exact m4 k hk
end Frames
def Inv (t pa pb : Nat) (ga : Nat → Nat) (I : pm_II) (J : pm_JJ) : Prop := (Ptape I ∧ P1 I ∧ P2 I ∧ P3 I) ∧ (P4 I J ∧ P5 ga I ∧ P6 pa I) ∧ (P7 t I J ∧ P8 I) ∧ (oP pa ∧ oP pb ∧ pa ≠ pb)
section Invs
variable {t pa pb : Nat} {ga ga2 : Nat → Nat} {I I2 : pm_II} {J J2 : pm_JJ}
theorem Inv.s0 (h : Inv t pa pb ga I J) (hp : Ptape I2) (f : Fr 0 I I2) : Inv t pa pb ga I2 J := by
  obtain ⟨⟨p0, p1, p2, p3⟩, ⟨p4, p5, p6⟩, ⟨p7, p8⟩, o1, o2, o3⟩ := h
  exact ⟨⟨hp, P1_fr p1 f (by omega), P2_fr p2 f (by omega), P3_fr p3 f (by omega)⟩, ⟨P4_fr p4 f (Fr.refl _ _) (by omega), P5_fr p5 f (by omega), P6_fr o1 p6 f (by omega)⟩, ⟨P7_fr p7 f (Fr.refl _ _) (by omega), P8_fr p8 f (by omega)⟩, o1, o2, o3⟩
theorem Inv.s1 (h : Inv t pa pb ga I J) (hp : Ptape I2) (q : P1 I2) (f : Fr 1 I I2) : Inv t pa pb ga I2 J := by
  obtain ⟨⟨p0, p1, p2, p3⟩, ⟨p4, p5, p6⟩, ⟨p7, p8⟩, o1, o2, o3⟩ := h
  exact ⟨⟨hp, q, P2_fr p2 f (by omega), P3_fr p3 f (by omega)⟩, ⟨P4_fr p4 f (Fr.refl _ _) (by omega), P5_fr p5 f (by omega), P6_fr o1 p6 f (by omega)⟩, ⟨P7_fr p7 f (Fr.refl _ _) (by omega), P8_fr p8 f (by omega)⟩, o1, o2, o3⟩
theorem Inv.s2 (h : Inv t pa pb ga I J) (hp : Ptape I2) (q : P2 I2) (f : Fr 2 I I2) : Inv t pa pb ga I2 J := by
  obtain ⟨⟨p0, p1, p2, p3⟩, ⟨p4, p5, p6⟩, ⟨p7, p8⟩, o1, o2, o3⟩ := h
  exact ⟨⟨hp, P1_fr p1 f (by omega), q, P3_fr p3 f (by omega)⟩, ⟨P4_fr p4 f (Fr.refl _ _) (by omega), P5_fr p5 f (by omega), P6_fr o1 p6 f (by omega)⟩, ⟨P7_fr p7 f (Fr.refl _ _) (by omega), P8_fr p8 f (by omega)⟩, o1, o2, o3⟩
theorem Inv.s3 (h : Inv t pa pb ga I J) (hp : Ptape I2) (q : P3 I2) (f : Fr 3 I I2) : Inv t pa pb ga I2 J := by
  obtain ⟨⟨p0, p1, p2, p3⟩, ⟨p4, p5, p6⟩, ⟨p7, p8⟩, o1, o2, o3⟩ := h
  exact ⟨⟨hp, P1_fr p1 f (by omega), P2_fr p2 f (by omega), q⟩, ⟨P4_fr p4 f (Fr.refl _ _) (by omega), P5_fr p5 f (by omega), P6_fr o1 p6 f (by omega)⟩, ⟨P7_fr p7 f (Fr.refl _ _) (by omega), P8_fr p8 f (by omega)⟩, o1, o2, o3⟩
theorem Inv.s4 (h : Inv t pa pb ga I J) (hp : Ptape I2) (q : P4 I2 J2) (f : Fr 4 I I2) (g : Fr 4 J J2) : Inv t pa pb ga I2 J2 := by
  obtain ⟨⟨p0, p1, p2, p3⟩, ⟨p4, p5, p6⟩, ⟨p7, p8⟩, o1, o2, o3⟩ := h
  exact ⟨⟨hp, P1_fr p1 f (by omega), P2_fr p2 f (by omega), P3_fr p3 f (by omega)⟩, ⟨q, P5_fr p5 f (by omega), P6_fr o1 p6 f (by omega)⟩, ⟨P7_fr p7 f g (by omega), P8_fr p8 f (by omega)⟩, o1, o2, o3⟩
theorem Inv.s5 (h : Inv t pa pb ga I J) (hp : Ptape I2) (q : P5 ga2 I2) (f : Fr 5 I I2) : Inv t pa pb ga2 I2 J := by
  obtain ⟨⟨p0, p1, p2, p3⟩, ⟨p4, p5, p6⟩, ⟨p7, p8⟩, o1, o2, o3⟩ := h
  exact ⟨⟨hp, P1_fr p1 f (by omega), P2_fr p2 f (by omega), P3_fr p3 f (by omega)⟩, ⟨P4_fr p4 f (Fr.refl _ _) (by omega), q, P6_fr o1 p6 f (by omega)⟩, ⟨P7_fr p7 f (Fr.refl _ _) (by omega), P8_fr p8 f (by omega)⟩, o1, o2, o3⟩
theorem Inv.s6 {pa2 pb2 : Nat} (h : Inv t pa pb ga I J) (hp : Ptape I2) (q : P6 pa2 I2) (f : Fr 6 I I2) (q1 : oP pa2) (q2 : oP pb2) (q3 : pa2 ≠ pb2) : Inv t pa2 pb2 ga I2 J := by
  obtain ⟨⟨p0, p1, p2, p3⟩, ⟨p4, p5, p6⟩, ⟨p7, p8⟩, o1, o2, o3⟩ := h
  exact ⟨⟨hp, P1_fr p1 f (by omega), P2_fr p2 f (by omega), P3_fr p3 f (by omega)⟩, ⟨P4_fr p4 f (Fr.refl _ _) (by omega), P5_fr p5 f (by omega), q⟩, ⟨P7_fr p7 f (Fr.refl _ _) (by omega), P8_fr p8 f (by omega)⟩, q1, q2, q3⟩
theorem Inv.s7 {t2 : Nat} (h : Inv t pa pb ga I J) (hp : Ptape I2) (q : P7 t2 I2 J2) (f : Fr 7 I I2) (g : Fr 7 J J2) : Inv t2 pa pb ga I2 J2 := by
  obtain ⟨⟨p0, p1, p2, p3⟩, ⟨p4, p5, p6⟩, ⟨p7, p8⟩, o1, o2, o3⟩ := h
  exact ⟨⟨hp, P1_fr p1 f (by omega), P2_fr p2 f (by omega), P3_fr p3 f (by omega)⟩, ⟨P4_fr p4 f g (by omega), P5_fr p5 f (by omega), P6_fr o1 p6 f (by omega)⟩, ⟨q, P8_fr p8 f (by omega)⟩, o1, o2, o3⟩
theorem Inv.s8 (h : Inv t pa pb ga I J) (hp : Ptape I2) (q : P8 I2) (f : Fr 8 I I2) : Inv t pa pb ga I2 J := by
  obtain ⟨⟨p0, p1, p2, p3⟩, ⟨p4, p5, p6⟩, ⟨p7, p8⟩, o1, o2, o3⟩ := h
  exact ⟨⟨hp, P1_fr p1 f (by omega), P2_fr p2 f (by omega), P3_fr p3 f (by omega)⟩, ⟨P4_fr p4 f (Fr.refl _ _) (by omega), P5_fr p5 f (by omega), P6_fr o1 p6 f (by omega)⟩, ⟨P7_fr p7 f (Fr.refl _ _) (by omega), q⟩, o1, o2, o3⟩
theorem Inv.t1 (h : Inv t pa pb ga I J) : Inv (t + 1) pa pb ga I J := by
  obtain ⟨a, b, ⟨p7, p8⟩, o⟩ := h
  exact ⟨a, b, ⟨p7.mono (by omega), p8⟩, o⟩
end Invs
/-! ===== count ===== -/
theorem P8_find {u : Nat} {I : pm_II} {J : pm_JJ} (hu : 60000 ≤ u) (h : P8 I) : ∃ X, F_Mo_findOrder u I J = some ((), X, J) ∧ On kRm I X ∧ P8 X := by
  obtain ⟨n, col, pr, bi, du, ch, dr, hb, hc, hm, h14, h91⟩ := h
  obtain ⟨X, b1, b2, b3, b4, b5⟩ := m_findOrder (u := u) (J := J) hu hb hm h91
  have oH : On cHi I X := b5.mono (fun c k z => by unfold kRm at z; unfold cHi; omega)
  refine ⟨X, b1, b5, ⟨n, col, pr, bi, du, ch, dr, hb, hc.lo oH, b4, ?_, Or.inl ⟨b2, b3⟩⟩⟩
  rw [oH 101 14 (by unfold cHi; omega)]
  rcases h14 with ⟨q1, q2⟩ | q
  · exact Or.inl ⟨q1, q2.lo oH⟩
  · exact Or.inr q
def ls (I : pm_II) : Nat → Int32
  | 0 => 0
  | i + 1 => ls I i + lo5 (I 19 9) (fun k => I 28 (4 * i + k)) (I 20) 4
theorem ls_c {I X : pm_II} (h : ∀ c k, c < 120 → X c k = I c k) : ∀ i, ls X i = ls I i
  | 0 => rfl
  | i + 1 => by
    rw [ls, ls, ls_c h i, h 19 9 (by omega), lo5_c (a2 := fun k => I 28 (4 * i + k)) (b2 := I 20) 4 (fun k _ => ⟨h 28 _ (by omega), h 20 k (by omega)⟩)]
theorem c_lall {u P : Nat} {I : pm_II} {J : pm_JJ} (hu : 10 ≤ u) (hP : P ≤ 16) (h12 : I 19 12 = nI P) : ∀ (d i N : Nat), i + d = P → d < N → F_Ro_lostInAll_4 u N (ls I i) (nI i) I J = some (ls I P, I, J) := by
  intro d
  induction d with
  | zero =>
    intro i N hi hN
    obtain ⟨N, rfl⟩ : ∃ z, N = z + 1 := ⟨N - 1, by omega⟩
    obtain rfl : i = P := by omega
    rw [F_Ro_lostInAll_4, h12, if_pos (by rw [nI_leI (by omega) (by omega)]; omega)]
  | succ d ih =>
    intro i N hi hN
    obtain ⟨N, rfl⟩ : ∃ z, N = z + 1 := ⟨N - 1, by omega⟩
    have e1 := c_lost7 (u := u) (I := I) (J := J) (show i < 16 by omega) 4 0 u (by omega) (by omega)
    have e2 : F_Ro_lostOf u (nI i) I J = some (lo5 (I 19 9) (fun k => I 28 (4 * i + k)) (I 20) 4, I, J) := e1
    rw [F_Ro_lostInAll_4, h12, if_neg (by rw [nI_leI (by omega) (by omega)]; omega), e2, bd_s, nI_io1, nI_add]
    exact ih (i + 1) N (by omega) (by omega)
def swc (x S : Int32) (I : pm_II) (J : pm_JJ) : Option (Int32 × pm_II × pm_JJ) := if x = nI 0 then (some ((I 120 88), I, J)) else if x = nI 1 then (some ((I 120 89), I, J)) else if x = nI 2 then (some ((I 120 90), I, J)) else if x = nI 3 then (some ((I 120 15), I, J)) else if x = nI 4 then (some (S, I, J)) else if x = nI 5 then (some (((I 120 18) * (I 120 19)), I, J)) else if x = nI 6 then (some ((I 120 20), I, J)) else if x = nI 7 then (some ((I 120 37), I, J)) else if x = nI 8 then (some ((I 120 38), I, J)) else if x = nI 9 then (some ((I 120 56), I, J)) else if x = nI 10 then (some ((I 120 65), I, J)) else if x = nI 11 then (some ((I 120 73), I, J)) else if x = nI 12 then (some ((I 120 77), I, J)) else if x = nI 13 then (some ((I 120 85), I, J)) else (some (((-1) : Int32), I, J))
theorem m_c8 {u P : Nat} {I : pm_II} {J : pm_JJ} {x : Int32} (hu : 10 ≤ u) (h : P1 I) (hP : P ≤ 16) (h15 : I 120 15 = nI P) : ∀ (d i N : Nat), i + d = P → d < N → F_Mo_count_8 u N x (ls I i) (nI i) I J = swc x (ls I P) I J := by
  intro d
  induction d with
  | zero =>
    intro i N hi hN
    obtain ⟨N, rfl⟩ : ∃ z, N = z + 1 := ⟨N - 1, by omega⟩
    obtain rfl : i = P := by omega
    rw [F_Mo_count_8, if_pos (by rw [h15, nI_leI (by omega) (by omega)]; omega)]
    rfl
  | succ d ih =>
    intro i N hi hN
    obtain ⟨N, rfl⟩ : ∃ z, N = z + 1 := ⟨N - 1, by omega⟩
    obtain ⟨P2, q1, q2, q3, q4⟩ := both_lost (u := u) (J := J) (i := i) hu h
    rw [h15] at q3
    have e : P = P2 := (nI_eq (by omega) (by omega)).mp q3
    obtain ⟨v, v1, v2⟩ := q4 (by omega)
    have e1 := c_lost7 (u := u) (I := I) (J := J) (show i < 16 by omega) 4 0 u (by omega) (by omega)
    have e2 : F_Ro_lostOf u (nI i) I J = some (lo5 (I 19 9) (fun k => I 28 (4 * i + k)) (I 20) 4, I, J) := e1
    rw [e2] at v1
    injection v1 with v1
    injection v1 with v1
    subst v1
    rw [F_Mo_count_8, if_neg (by rw [h15, nI_leI (by omega) (by omega)]; omega), v2, bd_s, nI_io1, nI_add]
    exact ih (i + 1) N (by omega) (by omega)
theorem m_count {u : Nat} {I : pm_II} {J : pm_JJ} {x : Int32} (hu : 60000 ≤ u) (h1 : P1 I) (h8 : P8 I) : ∃ X P, F_Mo_count u x I J = swc x (ls I P) X J ∧ F_Mo_findOrder u I J = some ((), X, J) ∧ On kRm I X ∧ P8 X ∧ P ≤ 16 ∧ I 19 12 = nI P ∧ I 120 15 = nI P := by
  obtain ⟨X, x1, x2, x3⟩ := P8_find (u := u) (J := J) hu h8
  obtain ⟨P, p1, p2, p3, _⟩ := both_lost (u := u) (J := J) (i := 0) (by omega) h1
  have hX1 : P1 X := h1.on x2 (fun k _ => by unfold kRm; omega) (fun k _ => by unfold kRm; omega) (fun k => by unfold kRm; omega) (fun k => by unfold kRm; omega) (fun k => by unfold kRm; omega) (fun k => by unfold kRm; omega)
  have h8 := m_c8 (u := u) (J := J) (x := x) (by omega) hX1 p1 (by rw [x2 120 15 (by unfold kRm; omega)]; exact p3) P 0 u (by omega) (by omega)
  rw [ls_c (fun c k hc => x2 c k (by unfold kRm; omega)) P] at h8
  refine ⟨X, P, ?_, x1, x2, x3, p1, p2, p3⟩
  unfold F_Mo_count
  rw [x1, bd_s]
  exact h8
