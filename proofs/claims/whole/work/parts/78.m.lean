/-! ===== folding: all the folds, in class and model ===== -/
def gR (L : Nat → Int32) (R : Nat) : Nat → Nat
  | 0 => R
  | k + 1 => ngr (crb (L k)) (gR L R k)
def gC (L : Nat → Int32) (C : Nat) : Nat → Nat
  | 0 => C
  | k + 1 => ngc (crb (L k)) (gC L C k)
def SS (L : Nat → Int32) (R C : Nat) : Nat → Nat → PN
  | 0, p => (p / C, p % C, 0, false, false)
  | k + 1, p => fstep (crb (L k)) (lob (L k)) (gR L R k) (gC L C k) (2 ^ k) (SS L R C k p)
def vL (L : Nat → Int32) (R C m : Nat) : Prop := (∀ k, k < m → (L k = 108 ∨ L k = 114 ∨ L k = 116 ∨ L k = 98) ∧ okf (crb (L k)) (gR L R k) (gC L C k)) ∧ gR L R m = 1 ∧ gC L C m = 1
section FS
variable {u R C m : Nat} {L : Nat → Int32} {J : pm_JJ}
theorem c_28 {x3 : Int32} : ∀ (d k Nf : Nat) (I : pm_II), k + d = 64 → d < Nf → (∀ j, j < k → I 31 j = nI j ∧ I 34 j = 0 ∧ I 35 j = 0) → ∃ I2, F_Fo_foldSheet_28 u Nf x3 (nI k) I J = F_Fo_foldSheet_69 u u x3 0 I2 J ∧ (∀ j, j < 64 → I2 31 j = nI j ∧ I2 34 j = 0 ∧ I2 35 j = 0) ∧ On (fun c _ => c = 31 ∨ c = 34 ∨ c = 35) I I2 := by
  intro d
  induction d with
  | zero =>
    intro k Nf I hk hNf h
    obtain ⟨Nf, rfl⟩ : ∃ z, Nf = z + 1 := ⟨Nf - 1, by omega⟩
    have : k = 64 := by omega
    subst this
    refine ⟨I, ?_, h, On.refl _⟩
    rw [F_Fo_foldSheet_28, if_pos (by decide)]
  | succ d ih =>
    intro k Nf I hk hNf h
    obtain ⟨Nf, rfl⟩ : ∃ z, Nf = z + 1 := ⟨Nf - 1, by omega⟩
    obtain ⟨I2, i1, i2, i3⟩ := ih (k + 1) Nf (pm_up (pm_up (pm_up I 31 k (nI k)) 34 k 0) 35 k 0) (by omega) (by omega) (fun j hj => by
      by_cases q : j = k
      · subst q; simp [ur]
      · simp [ur, q, h j (by omega)])
    refine ⟨I2, ?_, i2, On.trans ?_ i3⟩
    · rw [F_Fo_foldSheet_28, nl_64, if_neg (by rw [nI_leI (by omega) (by omega)]; omega), vqT (show k < 64 by omega) (by omega), nI_clamp (by omega), nI_io1, nI_add]
      exact i1
    · refine On.up (On.up (On.up (On.refl _) ?_) ?_) ?_ <;> omega
theorem c_69 {I0 : pm_II} (hu : 100 ≤ u) (hm : m ≤ 6) (hv : vL L R C m) : ∀ (d k Nf : Nat) (I : pm_II), k + d = m → d < Nf → (∀ j, j < m → I 30 j = L j) → FI (R * C) (gR L R k) (gC L C k) (2 ^ k) (SS L R C k) I → ∃ I2, F_Fo_foldSheet_69 u Nf (nI m) (nI k) I J = F_Fo_foldSheet_99 u I2 J ∧ FI (R * C) 1 1 (2 ^ m) (SS L R C m) I2 ∧ On kF I I2 := by
  intro d
  induction d with
  | zero =>
    intro k Nf I hk hNf h30 hf
    obtain ⟨Nf, rfl⟩ : ∃ z, Nf = z + 1 := ⟨Nf - 1, by omega⟩
    have : k = m := by omega
    subst this
    rw [hv.2.1, hv.2.2] at hf
    refine ⟨I, ?_, hf, On.refl _⟩
    rw [F_Fo_foldSheet_69, if_pos (by rw [nI_leI (by omega) (by omega)]; omega)]
  | succ d ih =>
    intro k Nf I hk hNf h30 hf
    obtain ⟨Nf, rfl⟩ : ∃ z, Nf = z + 1 := ⟨Nf - 1, by omega⟩
    obtain ⟨v1, v2⟩ := hv.1 k (by omega)
    obtain ⟨I1, i1, i2, i3⟩ := c_foldOver (u := u) (J := J) hu v1 v2 hf
    have i2' : FI (R * C) (gR L R (k + 1)) (gC L C (k + 1)) (2 ^ (k + 1)) (SS L R C (k + 1)) I1 := by
      rw [Nat.pow_succ, Nat.mul_comm (2 ^ k)]; exact i2
    obtain ⟨I2, j1, j2, j3⟩ := ih (k + 1) Nf I1 (by omega) (by omega) (fun j hj => by rw [i3 30 j (by unfold kF; omega)]; exact h30 j hj) i2'
    refine ⟨I2, ?_, j2, i3.trans j3⟩
    rw [F_Fo_foldSheet_69, if_neg (by rw [nI_leI (by omega) (by omega)]; omega), show (6 : Int32) = nI 6 from rfl, if_neg (by rw [nI_leI (by omega) (by omega)]; omega), vqT (show k < 6 by omega) (by omega), cond_true, nI_clamp (by omega), h30 k (by omega), i1, bd_s, nI_io1, nI_add]
    exact j1
theorem c_102 {N : Nat} {S : Nat → PN} (hN : R * C = N) (hR : R ≤ 8) (hC : C ≤ 8) : ∀ (d k Nf : Nat) (I : pm_II), k + d = N → d < Nf → I 29 6 = nI R → I 29 7 = nI C → FI N 1 1 N S I → (∀ p, p < N → (S p).2.2.1 < k → I 33 p = nI (S p).2.2.1) → ∃ I2, F_Fo_foldSheet_102 u Nf (nI k) I J = some ((), I2, J) ∧ (∀ p, p < N → I2 33 p = nI (S p).2.2.1) ∧ On (fun c _ => c = 33) I I2 := by
  intro d
  induction d with
  | zero =>
    intro k Nf I hk hNf h6 h7 hf h33
    obtain ⟨Nf, rfl⟩ : ∃ z, Nf = z + 1 := ⟨Nf - 1, by omega⟩
    have h64 := hf.2.1
    refine ⟨I, ?_, fun p hp => h33 p hp (by have := (hf.2.2.2.2.2.2.2.2 p hp).2.2.1; omega), On.refl _⟩
    rw [F_Fo_foldSheet_102]
    unfold F_Fo_leaves
    rw [bd_s, h6, h7, pk_mul, if_pos (by rw [nI_leI (by omega) (by omega)]; omega)]; rfl
  | succ d ih =>
    intro k Nf I hk hNf h6 h7 hf h33
    obtain ⟨Nf, rfl⟩ : ∃ z, Nf = z + 1 := ⟨Nf - 1, by omega⟩
    have h64 := hf.2.1
    obtain ⟨q, hq, hqe⟩ := FI.sur hf k (by omega)
    obtain ⟨b1, b2, b3, b4, b5, b6⟩ := hf.2.2.2.2.2.2.2.2 q hq
    have epos : ∀ p, p < N → fpos 1 N (S p) = (S p).2.2.1 := by
      intro p hp
      obtain ⟨c1, c2, _⟩ := hf.2.2.2.2.2.2.2.2 p hp
      unfold fpos
      have e1 : (S p).1 = 0 := by omega
      have e2 : (S p).2.1 = 0 := by omega
      rw [e1, e2]; simp
    rw [hqe] at b4
    have huq : (S q).2.2.1 = k := by rw [← epos q hq]; exact hqe
    have o1 : On (fun c _ => c = 33) I (pm_up I 33 q (nI k)) := On.up (On.refl _) rfl
    obtain ⟨I2, i1, i2, i3⟩ := ih (k + 1) Nf (pm_up I 33 q (nI k)) (by omega) (by omega) h6 h7 hf (fun p hp hlt => by
      rw [ur]
      by_cases c : p = q
      · subst c; rw [if_pos ⟨rfl, rfl⟩, huq]
      · rw [if_neg (fun z => c z.2)]
        refine h33 p hp ?_
        by_cases e : (S p).2.2.1 = k
        · exfalso
          apply c
          apply FI.inj hf p q hp hq
          show fpos 1 N (S p) = fpos 1 N (S q)
          rw [epos p hp, epos q hq, e, huq]
        · omega)
    refine ⟨I2, ?_, i2, o1.trans i3⟩
    rw [F_Fo_foldSheet_102]
    unfold F_Fo_leaves
    rw [bd_s, h6, h7, pk_mul, if_neg (by rw [nI_leI (by omega) (by omega)]; omega), nl_64, if_neg (by rw [nI_leI (by omega) (by omega)]; omega), vqT (show k < 64 by omega) (by omega), nI_clamp (by omega), b4, vqT (show q < 64 by omega) (by omega), nI_clamp (by omega), nI_io1, nI_add]
    exact i1
theorem c_foldSheet {I : pm_II} (hu : 200 ≤ u) (hR : 1 ≤ R ∧ R ≤ 8) (hC : 1 ≤ C ∧ C ≤ 8) (hm : m ≤ 6) (h2m : 2 ^ m = R * C) (hv : vL L R C m) (h30 : ∀ j, j < m → I 30 j = L j) : ∃ I2, F_Fo_foldSheet u (nI R) (nI C) (nI m) I J = some ((), I2, J) ∧ I2 29 6 = nI R ∧ I2 29 7 = nI C ∧ (∀ p, p < R * C → I2 31 (SS L R C m p).2.2.1 = nI p ∧ (SS L R C m p).2.2.1 < R * C ∧ I2 33 p = nI (SS L R C m p).2.2.1 ∧ I2 34 p = b2i (SS L R C m p).2.2.2.1 ∧ I2 35 p = b2i (SS L R C m p).2.2.2.2) ∧ On (fun c k => (31 ≤ c ∧ c ≤ 35) ∨ (c = 29 ∧ 6 ≤ k ∧ k ≤ 10)) I I2 := by
  have h64 := rc_le hR.2 hC.2
  have hRC : 1 ≤ R * C := Nat.mul_pos hR.1 hC.1
  generalize hI0 : pm_up (pm_up (pm_up (pm_up (pm_up I 29 6 (nI R)) 29 7 (nI C)) 29 8 (nI R)) 29 9 (nI C)) 29 10 1 = I0
  have o0 : On (fun c k => (31 ≤ c ∧ c ≤ 35) ∨ (c = 29 ∧ 6 ≤ k ∧ k ≤ 10)) I I0 := by
    rw [← hI0]
    refine On.up (On.up (On.up (On.up (On.up (On.refl _) ?_) ?_) ?_) ?_) ?_ <;> omega
  obtain ⟨I1, i1, i2, i3⟩ := c_28 (u := u) (J := J) (x3 := nI m) 64 0 u I0 (by omega) (by omega) (fun j hj => by omega)
  have e29 : ∀ k, I1 29 k = I0 29 k := fun k => i3 29 k (by omega)
  have f0 : FI (R * C) (gR L R 0) (gC L C 0) (2 ^ 0) (SS L R C 0) I1 := by
    refine ⟨by show R * C * 1 = R * C; omega, h64, hR.1, hC.1, by decide, by rw [e29, ← hI0]; rfl, by rw [e29, ← hI0]; rfl, by rw [e29, ← hI0]; rfl, fun p hp => ?_⟩
    have hd : p / C * C + p % C = p := by rw [Nat.mul_comm]; exact Nat.div_add_mod _ _
    have h3 := i2 p (by omega)
    refine ⟨(Nat.div_lt_iff_lt_mul hC.1).mpr hp, Nat.mod_lt _ hC.1, Nat.zero_lt_one, ?_, h3.2.1, h3.2.2⟩
    show I1 31 ((p / C * C + p % C) * 1 + 0) = nI p
    rw [hd, Nat.mul_one, Nat.add_zero]
    exact h3.1
  obtain ⟨I2, j1, j2, j3⟩ := c_69 (u := u) (J := J) (I0 := I) (by omega) hm hv m 0 u I1 (by omega) (by omega) (fun j hj => by rw [i3 30 j (by omega), o0 30 j (by omega)]; exact h30 j hj) f0
  rw [h2m] at j2
  have q6 : I2 29 6 = nI R := by rw [j3 29 6 (by unfold kF; omega), e29, ← hI0]; rfl
  have q7 : I2 29 7 = nI C := by rw [j3 29 7 (by unfold kF; omega), e29, ← hI0]; rfl
  obtain ⟨I3, k1, k2, k3⟩ := c_102 (u := u) (J := J) rfl hR.2 hC.2 (R * C) 0 u I2 (by omega) (by omega) q6 q7 j2 (fun p _ hlt => by omega)
  refine ⟨I3, ?_, by rw [k3 29 6 (by omega)]; exact q6, by rw [k3 29 7 (by omega)]; exact q7, fun p hp => ?_, ((o0.trans (i3.mono (fun c k hc => by omega))).trans (j3.mono (fun c k hc => by unfold kF at hc; omega))).trans (k3.mono (fun c k hc => by omega))⟩
  · unfold F_Fo_foldSheet
    rw [hI0]
    exact i1.trans (j1.trans k1)
  · obtain ⟨b1, b2, b3, b4, b5, b6⟩ := j2.2.2.2.2.2.2.2.2 p hp
    have e : fpos 1 (R * C) (SS L R C m p) = (SS L R C m p).2.2.1 := by
      unfold fpos
      have e1 : (SS L R C m p).1 = 0 := by omega
      have e2 : (SS L R C m p).2.1 = 0 := by omega
      rw [e1, e2]; simp
    rw [e] at b4
    exact ⟨by rw [k3 31 _ (by omega)]; exact b4, b3, k2 p hp, by rw [k3 34 _ (by omega)]; exact b5, by rw [k3 35 _ (by omega)]; exact b6⟩
/-- the model: one fold of one panel -/
theorem m_99 {K17 : Int32 → Int32 → Int32 → pm_II → pm_JJ → Option (Unit × pm_II × pm_JJ)} {K65 : Int32 → Int32 → Int32 → Int32 → Int32 → Int32 → Int32 → Int32 → Int32 → Int32 → Int32 → Int32 → pm_II → pm_JJ → Option (Unit × pm_II × pm_JJ)} {x1 x2 x3 x12 x : Int32} {gr gc h : Nat} {s : PN} {I : pm_II} (hx : x = 108 ∨ x = 114 ∨ x = 116 ∨ x = 98) (ho : okf (crb x) gr gc) (hg : gr ≤ 64 ∧ gc ≤ 64) (hh : h ≤ 64) (h1 : s.1 < gr) (h2 : s.2.1 < gc) (h3 : s.2.2.1 < h) : F_Mo_turned_99 u K17 K65 x1 x2 x3 (nI s.1) (nI s.2.1) (nI gr) (nI gc) (nI s.2.2.1) (nI h) (b2i s.2.2.2.1) (b2i s.2.2.2.2) x12 x (b2i (crb x)) I J = K65 x1 x2 x3 (nI (fstep (crb x) (lob x) gr gc h s).1) (nI (fstep (crb x) (lob x) gr gc h s).2.1) (nI (ngr (crb x) gr)) (nI (ngc (crb x) gc)) (nI (fstep (crb x) (lob x) gr gc h s).2.2.1) (nI (h * 2)) (b2i (fstep (crb x) (lob x) gr gc h s).2.2.2.1) (b2i (fstep (crb x) (lob x) gr gc h s).2.2.2.2) (x12 + Int32.ofInt 1) I J := by
  obtain ⟨r, c, ud, ov, dn⟩ := s
  dsimp only at h1 h2 h3 ⊢
  unfold F_Mo_turned_99 F_Mo_turned_117 F_Mo_turned_131 F_Mo_turned_147 F_Mo_turned_174 F_Mo_turned_211 F_Mo_turned_225 F_Mo_turned_245 F_Mo_turned_269 fstep ngr ngc nat2 mvb
  have e2 : nI h * (2 : Int32) = nI (h * 2) := by rw [nl_2, pk_mul]
  have d1 : nI gc / (2 : Int32) = nI (gc / 2) := by rw [nl_2, dvI (by omega) (by omega) (by omega)]
  have d2 : nI gr / (2 : Int32) = nI (gr / 2) := by rw [nl_2, dvI (by omega) (by omega) (by omega)]
  have s1 : nI h - 1 - nI ud = nI (h - 1 - ud) := by rw [nl_1, pk_sub (by omega), pk_sub (by omega)]
  have s2 : nI ud + nI h = nI (ud + h) := nI_add _ _
  rw [e2, d1, d2, s1, s2]
  rcases hx with rfl | rfl | rfl | rfl
  · have q := ho.1 rfl
    have l1 : (nI (gc / 2) ≤ nI c) ↔ gc / 2 ≤ c := nI_leI (by omega) (by omega)
    by_cases g : c < gc / 2
    · have t1 : (2 : Int32) * nI (gc / 2) - 1 - nI c - nI (gc / 2) = nI (gc / 2 - 1 - c) := by
        rw [nl_2, pk_mul, nl_1, pk_sub (by omega), pk_sub (by omega), pk_sub (by omega)]; congr 1; omega
      simp (decide := true) only [l1, show ¬ gc / 2 ≤ c by omega, g, if_true, if_false, not_true, not_false, crb, lob, cond_true, cond_false, b2i, t1, or_true, true_or]
      cases ov <;> cases dn <;> rfl
    · have t1 : nI c - nI (gc / 2) = nI (c - gc / 2) := pk_sub (by omega)
      simp (decide := true) only [l1, show gc / 2 ≤ c by omega, g, if_true, if_false, not_true, not_false, crb, lob, cond_true, cond_false, b2i, t1, or_true, true_or]
      cases ov <;> cases dn <;> rfl
  · have q := ho.1 rfl
    have l1 : (nI c < nI (gc / 2)) ↔ c < gc / 2 := nI_ltI (by omega) (by omega)
    by_cases g : c < gc / 2
    · simp (decide := true) only [l1, show ¬ gc / 2 ≤ c by omega, g, if_true, if_false, not_true, not_false, crb, lob, cond_true, cond_false, b2i, or_true, or_false]
      cases ov <;> cases dn <;> rfl
    · have t1 : (2 : Int32) * nI (gc / 2) - 1 - nI c = nI (2 * (gc / 2) - 1 - c) := by
        rw [nl_2, pk_mul, nl_1, pk_sub (by omega), pk_sub (by omega)]
      simp (decide := true) only [l1, show gc / 2 ≤ c by omega, g, if_true, if_false, not_true, not_false, crb, lob, cond_true, cond_false, b2i, t1, or_true, or_false]
      cases ov <;> cases dn <;> rfl
  · have q := ho.2 rfl
    have l1 : (nI (gr / 2) ≤ nI r) ↔ gr / 2 ≤ r := nI_leI (by omega) (by omega)
    by_cases g : r < gr / 2
    · have t1 : (2 : Int32) * nI (gr / 2) - 1 - nI r - nI (gr / 2) = nI (gr / 2 - 1 - r) := by
        rw [nl_2, pk_mul, nl_1, pk_sub (by omega), pk_sub (by omega), pk_sub (by omega)]; congr 1; omega
      simp (decide := true) only [l1, show ¬ gr / 2 ≤ r by omega, g, if_true, if_false, not_true, not_false, crb, lob, cond_true, cond_false, b2i, t1, or_true, or_false]
      cases ov <;> cases dn <;> rfl
    · have t1 : nI r - nI (gr / 2) = nI (r - gr / 2) := pk_sub (by omega)
      simp (decide := true) only [l1, show gr / 2 ≤ r by omega, g, if_true, if_false, not_true, not_false, crb, lob, cond_true, cond_false, b2i, t1, or_true, or_false]
      cases ov <;> cases dn <;> rfl
  · have q := ho.2 rfl
    have l1 : (nI r < nI (gr / 2)) ↔ r < gr / 2 := nI_ltI (by omega) (by omega)
    by_cases g : r < gr / 2
    · simp (decide := true) only [l1, show ¬ gr / 2 ≤ r by omega, g, if_true, if_false, not_true, not_false, crb, lob, cond_true, cond_false, b2i, or_true, or_false]
      cases ov <;> cases dn <;> rfl
    · have t1 : (2 : Int32) * nI (gr / 2) - 1 - nI r = nI (2 * (gr / 2) - 1 - r) := by
        rw [nl_2, pk_mul, nl_1, pk_sub (by omega), pk_sub (by omega)]
      simp (decide := true) only [l1, show gr / 2 ≤ r by omega, g, if_true, if_false, not_true, not_false, crb, lob, cond_true, cond_false, b2i, t1, or_true, or_false]
      cases ov <;> cases dn <;> rfl
end FS
