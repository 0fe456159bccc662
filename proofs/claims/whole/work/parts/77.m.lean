/-! ===== folding: the class's loops ===== -/
def crb (x : Int32) : Bool := decide (x = 108 ∨ x = 114)
def lob (x : Int32) : Bool := decide (x = 108 ∨ x = 116)
section FO2
variable {u N gr gc h : Nat} {J : pm_JJ} {S : Nat → PN} {cr lo : Bool}
def kF (c k : Nat) : Prop := c = 31 ∨ c = 32 ∨ c = 34 ∨ c = 35 ∨ (c = 29 ∧ 8 ≤ k ∧ k ≤ 10)
theorem c_121 {K : Int32 → Int32 → Int32 → Int32 → Int32 → Int32 → pm_II → pm_JJ → Option (Unit × pm_II × pm_JJ)} {r : Nat} (hu : 100 ≤ u) (hN : gr * gc * h = N) (hN64 : N ≤ 64) (hg : gr ≤ 64 ∧ gc ≤ 64) (hh : 1 ≤ h) (ho : okf cr gr gc) (hS : ∀ p, p < N → (S p).1 < gr ∧ (S p).2.1 < gc ∧ (S p).2.2.1 < h) (hinj : injP (fun p => fpos gc h (S p)) N) (hr : r < ngr cr gr) : ∀ (e c Nf : Nat) (I : pm_II), c + e = ngc cr gc → e < Nf → AC N gr gc h S cr lo (r * ngc cr gc + c) I → ∃ I2, F_Fo_foldOver_121 u K Nf (b2i cr) (nI (ngr cr gr)) (nI (ngc cr gc)) (nI (cond (!cr && lo) (gr / 2) 0)) (nI (cond (cr && lo) (gc / 2) 0)) (nI r) (nI c) I J = K (b2i cr) (nI (ngr cr gr)) (nI (ngc cr gc)) (nI (cond (!cr && lo) (gr / 2) 0)) (nI (cond (cr && lo) (gc / 2) 0)) (nI (r + 1)) I2 J ∧ AC N gr gc h S cr lo ((r + 1) * ngc cr gc) I2 ∧ On (fun c _ => c = 31 ∨ c = 34 ∨ c = 35) I I2 := by
  have hgc : ngc cr gc ≤ 64 := by unfold ngc; cases cr <;> simp <;> omega
  have hgr : ngr cr gr ≤ 64 := by unfold ngr; cases cr <;> simp <;> omega
  intro e
  induction e with
  | zero =>
    intro c Nf I hc hNf ha
    obtain ⟨Nf, rfl⟩ : ∃ z, Nf = z + 1 := ⟨Nf - 1, by omega⟩
    refine ⟨I, ?_, ?_, On.refl _⟩
    · rw [F_Fo_foldOver_121, if_pos (by rw [nI_leI (by omega) (by omega)]; omega), nI_io1, nI_add]
    · have e1 : (r + 1) * ngc cr gc = r * ngc cr gc + c := by rw [Nat.succ_mul]; omega
      rw [e1]
      exact ha
  | succ e ih =>
    intro c Nf I hc hNf ha
    obtain ⟨Nf, rfl⟩ : ∃ z, Nf = z + 1 := ⟨Nf - 1, by omega⟩
    obtain ⟨I1, i1, i2, i3⟩ := c_cell (u := u) (J := J) (lo := lo) hu hN hN64 hh ho hS hinj hr (show c < ngc cr gc by omega) ha
    obtain ⟨I2, j1, j2, j3⟩ := ih (c + 1) Nf I1 (by omega) (by omega) i2
    refine ⟨I2, ?_, j2, i3.trans j3⟩
    rw [F_Fo_foldOver_121, if_neg (by rw [nI_leI (by omega) (by omega)]; omega), ha.1, ha.2.1]
    unfold F_Fo_foldOver_195
    have hro : cond (!cr && lo) (gr / 2) 0 ≤ 64 := by cases cr <;> cases lo <;> simp <;> omega
    have hco : cond (cr && lo) (gc / 2) 0 ≤ 64 := by cases cr <;> cases lo <;> simp <;> omega
    have hmul : (r + cond (!cr && lo) (gr / 2) 0) * gc ≤ 128 * 64 := Nat.mul_le_mul (by omega) (by omega)
    have est : nI r + nI (cond (!cr && lo) (gr / 2) 0) = nI (r + cond (!cr && lo) (gr / 2) 0) := nI_add _ _
    have e195 : ∀ X : Int32, X = nI (cmc cr lo gr gc r c) → (bd (F_Fo_layOver u X ((nI r + nI (cond (!cr && lo) (gr / 2) 0)) * nI gc + (nI c + nI (cond (cr && lo) (gc / 2) 0))) (nI r * nI (ngc cr gc) + nI c) (b2i cr) I J) fun _ I211 J211 => F_Fo_foldOver_121 u K Nf (b2i cr) (nI (ngr cr gr)) (nI (ngc cr gc)) (nI (cond (!cr && lo) (gr / 2) 0)) (nI (cond (cr && lo) (gc / 2) 0)) (nI r) (nI c + Int32.ofInt 1) I211 J211) = K (b2i cr) (nI (ngr cr gr)) (nI (ngc cr gc)) (nI (cond (!cr && lo) (gr / 2) 0)) (nI (cond (cr && lo) (gc / 2) 0)) (nI (r + 1)) I2 J := by
      intro X hX
      rw [hX, nI_add, nI_add, pk_mul, pk_mul, nI_add, nI_add]
      have es : (r + cond (!cr && lo) (gr / 2) 0) * gc + (c + cond (cr && lo) (gc / 2) 0) = stc cr lo gr gc r c := rfl
      rw [es, i1, bd_s, nI_io1, nI_add]
      exact j1
    cases cr
    · rw [if_pos (show b2i false = 0 from rfl)]
      apply e195
      have q := ho.2 rfl
      unfold ngr at hr
      have b := (mv_back (lo := lo) (half := gr / 2) hr).1
      unfold sta at b
      simp only [Bool.not_false, Bool.true_and, Bool.false_and, cond_false] at *
      unfold cmc
      simp only [Bool.not_false, Bool.true_and, Bool.false_and, cond_false]
      rw [nI_add, nI_add, nl_1, pk_sub (by omega), pk_sub (by omega), pk_mul, nI_add]
    · rw [if_neg (show ¬ b2i true = 0 by decide)]
      apply e195
      have q := ho.1 rfl
      have hc2 : c < gc / 2 := by unfold ngc at hc; simp only [cond_true] at hc; omega
      have b := (mv_back (lo := lo) (half := gc / 2) hc2).1
      unfold sta at b
      simp only [Bool.not_true, Bool.true_and, Bool.false_and, cond_false] at *
      unfold cmc
      simp only [Bool.not_true, Bool.true_and, Bool.false_and, cond_false, cond_true]
      rw [nI_add, nI_add, pk_mul, nI_add, nl_1, pk_sub (by omega), pk_sub (by omega)]
      congr 1
      omega
theorem c_111 (hu : 100 ≤ u) (hN : gr * gc * h = N) (hN64 : N ≤ 64) (hg : gr ≤ 64 ∧ gc ≤ 64) (hh : 1 ≤ h) (ho : okf cr gr gc) (hS : ∀ p, p < N → (S p).1 < gr ∧ (S p).2.1 < gc ∧ (S p).2.2.1 < h) (hinj : injP (fun p => fpos gc h (S p)) N) : ∀ (e r Nf : Nat) (I : pm_II), r + e = ngr cr gr → e < Nf → AC N gr gc h S cr lo (r * ngc cr gc) I → ∃ I2, F_Fo_foldOver_111 u Nf (b2i cr) (nI (ngr cr gr)) (nI (ngc cr gc)) (nI (cond (!cr && lo) (gr / 2) 0)) (nI (cond (cr && lo) (gc / 2) 0)) (nI r) I J = some ((), pm_up (pm_up (pm_up I2 29 8 (nI (ngr cr gr))) 29 9 (nI (ngc cr gc))) 29 10 (nI (2 * h)), J) ∧ AC N gr gc h S cr lo (ngr cr gr * ngc cr gc) I2 ∧ On (fun c _ => c = 31 ∨ c = 34 ∨ c = 35) I I2 := by
  have hgr : ngr cr gr ≤ 64 := by unfold ngr; cases cr <;> simp <;> omega
  have hgc : ngc cr gc ≤ 64 := by unfold ngc; cases cr <;> simp <;> omega
  intro e
  induction e with
  | zero =>
    intro r Nf I hr hNf ha
    obtain ⟨Nf, rfl⟩ : ∃ z, Nf = z + 1 := ⟨Nf - 1, by omega⟩
    have e1 : r = ngr cr gr := by omega
    refine ⟨I, ?_, by rw [← e1]; exact ha, On.refl _⟩
    rw [F_Fo_foldOver_111, if_pos (by rw [nI_leI (by omega) (by omega)]; omega), ha.2.2.1, nl_2, pk_mul, Nat.mul_comm h]
  | succ e ih =>
    intro r Nf I hr hNf ha
    obtain ⟨Nf, rfl⟩ : ∃ z, Nf = z + 1 := ⟨Nf - 1, by omega⟩
    obtain ⟨I1, i1, i2, i3⟩ := c_121 (u := u) (J := J) (lo := lo) (K := F_Fo_foldOver_111 u Nf) hu hN hN64 hg hh ho hS hinj (show r < ngr cr gr by omega) (ngc cr gc) 0 u I (by omega) (by omega) ha
    obtain ⟨I2, j1, j2, j3⟩ := ih (r + 1) Nf I1 (by omega) (by omega) i2
    refine ⟨I2, ?_, j2, i3.trans j3⟩
    rw [F_Fo_foldOver_111, if_neg (by rw [nI_leI (by omega) (by omega)]; omega)]
    exact i1.trans j1
theorem c_foldOver {x : Int32} {I : pm_II} (hu : 100 ≤ u) (hx : x = 108 ∨ x = 114 ∨ x = 116 ∨ x = 98) (ho : okf (crb x) gr gc) (f : FI N gr gc h S I) : ∃ I2, F_Fo_foldOver u x I J = some ((), I2, J) ∧ FI N (ngr (crb x) gr) (ngc (crb x) gc) (2 * h) (fun p => fstep (crb x) (lob x) gr gc h (S p)) I2 ∧ On kF I I2 := by
  have f0 := f
  obtain ⟨f1, f2, f3, f4, f5, f6, f7, f8, f9⟩ := f
  have hpos := fun p hp => FI.pos f0 (p := p) hp
  have hg : gr ≤ 64 ∧ gc ≤ 64 := by
    have a : 1 ≤ gc * h := Nat.mul_pos f4 f5
    have b : gr * 1 ≤ gr * (gc * h) := Nat.mul_le_mul_left _ a
    rw [← Nat.mul_assoc, f1] at b
    have a2 : 1 ≤ gr * h := Nat.mul_pos f3 f5
    have b2 : gc * 1 ≤ gc * (gr * h) := Nat.mul_le_mul_left _ a2
    rw [Nat.mul_left_comm, ← Nat.mul_assoc, f1] at b2
    omega
  generalize hI0 : cpI I 31 0 32 0 64 = I0
  have e32 : ∀ y, y < 64 → I0 32 y = I 31 y := by
    intro y hy
    rw [← hI0]
    show va_cpy (I 31) (I 32) 0 0 64 y = _
    unfold va_cpy
    rw [if_pos (by omega)]
    congr 1; omega
  have eo : ∀ c, c ≠ 32 → I0 c = I c := by
    intro c hc
    rw [← hI0]
    unfold cpI
    rw [nb_f hc]; rfl
  have oc : On kF I I0 := fun c k hk => by rw [eo c (fun z => hk (by unfold kF; omega))]
  have ha : AC N gr gc h S (crb x) (lob x) (0 * ngc (crb x) gc) I0 := by
    refine ⟨by rw [eo 29 (by omega)]; exact f6, by rw [eo 29 (by omega)]; exact f7, by rw [eo 29 (by omega)]; exact f8, fun p hp => ?_⟩
    obtain ⟨b1, b2, b3, b4, b5, b6⟩ := f9 p hp
    have := hpos p hp
    refine ⟨by rw [e32 _ (by omega)]; exact b4, fun z => by omega, ?_, ?_⟩
    · rw [eo 34 (by omega), decide_eq_false (by omega), Bool.and_false, Bool.xor_false]; exact b5
    · rw [eo 35 (by omega), decide_eq_false (by omega), Bool.and_false, Bool.false_and, Bool.xor_false]; exact b6
  have hng : ngr (crb x) gr ≤ gr := by
    unfold ngr
    cases crb x
    · exact Nat.div_le_self _ _
    · exact Nat.le_refl _
  obtain ⟨I2, i1, i2, i3⟩ := c_111 (u := u) (J := J) (lo := lob x) hu f1 f2 hg f5 ho (fun p hp => ⟨(f9 p hp).1, (f9 p hp).2.1, (f9 p hp).2.2.1⟩) (FI.inj f0) (ngr (crb x) gr) 0 u I0 (by omega) (by omega) ha
  refine ⟨pm_up (pm_up (pm_up I2 29 8 (nI (ngr (crb x) gr))) 29 9 (nI (ngc (crb x) gc))) 29 10 (nI (2 * h)), ?_, ⟨ngg ho f1, f2, ?_, ?_, by omega, rfl, rfl, rfl, fun p hp => ?_⟩, (oc.trans (i3.mono (fun c k hc => by unfold kF; omega))).trans ?_⟩
  · rw [← i1]
    unfold F_Fo_foldOver F_Fo_isAcross
    rw [hI0]
    have q8 : I0 29 8 = nI gr := ha.1
    have q9 : I0 29 9 = nI gc := ha.2.1
    unfold F_Fo_foldOver_37 F_Fo_foldOver_55 F_Fo_foldOver_74 F_Fo_foldOver_90
    rw [nl_2]
    rcases hx with rfl | rfl | rfl | rfl
    · show F_Fo_foldOver_111 u u 1 (I0 29 8) (I0 29 9 / nI 2) 0 (I0 29 9 / nI 2) 0 I0 J = _
      rw [q8, q9, dvI (by omega) (by omega) (by omega)]
      rfl
    · show F_Fo_foldOver_111 u u 1 (I0 29 8) (I0 29 9 / nI 2) 0 0 0 I0 J = _
      rw [q8, q9, dvI (by omega) (by omega) (by omega)]
      rfl
    · show F_Fo_foldOver_111 u u 0 (I0 29 8 / nI 2) (I0 29 9) (I0 29 8 / nI 2) 0 0 I0 J = _
      rw [q8, q9, dvI (by omega) (by omega) (by omega)]
      rfl
    · show F_Fo_foldOver_111 u u 0 (I0 29 8 / nI 2) (I0 29 9) 0 0 0 I0 J = _
      rw [q8, q9, dvI (by omega) (by omega) (by omega)]
      rfl
  · unfold ngr
    cases hc : crb x
    · exact (ho.2 hc).2
    · exact f3
  · unfold ngc
    cases hc : crb x
    · exact f4
    · exact (ho.1 hc).2
  · obtain ⟨b1, b2, b3, b4, b5, b6⟩ := f9 p hp
    obtain ⟨n1, n2, n3⟩ := fs_lt (lo := lob x) (h := h) ho b1 b2 b3
    obtain ⟨a1, a2, a3, a4⟩ := i2.2.2.2 p hp
    have hlt : ocl (crb x) (lob x) gr gc h (S p) < ngr (crb x) gr * ngc (crb x) gc := rc_lt n1 n2
    refine ⟨n1, n2, n3, a2 hlt, ?_, ?_⟩
    · refine Eq.trans ?_ (a3.trans ?_)
      · rfl
      · rw [decide_eq_true hlt, Bool.and_true]; rfl
    · refine Eq.trans ?_ (a4.trans ?_)
      · rfl
      · rw [decide_eq_true hlt, Bool.and_true]; rfl
  · refine On.up (On.up (On.up (On.refl _) ?_) ?_) ?_ <;> (unfold kF; omega)
end FO2
