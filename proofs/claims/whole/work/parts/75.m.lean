/-! ===== folding: one fold ===== -/
def mvb (lo : Bool) (half a : Nat) : Bool := cond lo (decide (a < half)) (decide (half ≤ a))
def nat2 (lo : Bool) (half a : Nat) : Nat := cond (mvb lo half a) (cond lo (half - 1 - a) (2 * half - 1 - a)) (cond lo (a - half) a)
def sta (lo : Bool) (half a : Nat) : Nat := a + cond lo half 0
theorem mv_facts {lo : Bool} {half a : Nat} (h : a < 2 * half) : nat2 lo half a < half ∧ (mvb lo half a = true → a = 2 * half - 1 - sta lo half (nat2 lo half a)) ∧ (mvb lo half a = false → a = sta lo half (nat2 lo half a)) := by
  unfold nat2 mvb sta
  cases lo
  · simp only [cond_false]
    by_cases c : half ≤ a
    · rw [decide_eq_true c]; simp only [cond_true]
      exact ⟨by omega, fun _ => by omega, (fun z => by cases z)⟩
    · rw [decide_eq_false c]; simp only [cond_false]
      exact ⟨by omega, (fun z => by cases z), fun _ => by omega⟩
  · simp only [cond_true]
    by_cases c : a < half
    · rw [decide_eq_true c]; simp only [cond_true]
      exact ⟨by omega, fun _ => by omega, (fun z => by cases z)⟩
    · rw [decide_eq_false c]; simp only [cond_false]
      exact ⟨by omega, (fun z => by cases z), fun _ => by omega⟩
theorem mv_back {lo : Bool} {half b : Nat} (h : b < half) : sta lo half b < 2 * half ∧ mvb lo half (sta lo half b) = false ∧ nat2 lo half (sta lo half b) = b ∧ mvb lo half (2 * half - 1 - sta lo half b) = true ∧ nat2 lo half (2 * half - 1 - sta lo half b) = b := by
  unfold nat2 mvb sta
  cases lo
  · simp only [cond_false]
    rw [decide_eq_false (show ¬ half ≤ b + 0 by omega), decide_eq_true (show half ≤ 2 * half - 1 - (b + 0) by omega)]
    simp only [cond_true, cond_false]
    exact ⟨by omega, trivial, by omega, trivial, by omega⟩
  · simp only [cond_true]
    rw [decide_eq_false (show ¬ b + half < half by omega), decide_eq_true (show 2 * half - 1 - (b + half) < half by omega)]
    simp only [cond_true, cond_false]
    exact ⟨by omega, trivial, by omega, trivial, by omega⟩
/-- where a panel is: row, column, depth; turned, tumbled -/
abbrev PN : Type := Nat × Nat × Nat × Bool × Bool
def fstep (cr lo : Bool) (gr gc h : Nat) (s : PN) : PN := (cond cr s.1 (nat2 lo (gr / 2) s.1), cond cr (nat2 lo (gc / 2) s.2.1) s.2.1, cond (cond cr (mvb lo (gc / 2) s.2.1) (mvb lo (gr / 2) s.1)) (h - 1 - s.2.2.1) (s.2.2.1 + h), Bool.xor s.2.2.2.1 (cond cr (mvb lo (gc / 2) s.2.1) (mvb lo (gr / 2) s.1)), Bool.xor s.2.2.2.2 (cond cr (mvb lo (gc / 2) s.2.1) (mvb lo (gr / 2) s.1) && !cr))
def fmvv (cr lo : Bool) (gr gc : Nat) (s : PN) : Bool := cond cr (mvb lo (gc / 2) s.2.1) (mvb lo (gr / 2) s.1)
def fpos (gc h : Nat) (s : PN) : Nat := (s.1 * gc + s.2.1) * h + s.2.2.1
/-- all the panels, and the class's stacks -/
def FI (N gr gc h : Nat) (S : Nat → PN) (I : pm_II) : Prop := gr * gc * h = N ∧ N ≤ 64 ∧ 1 ≤ gr ∧ 1 ≤ gc ∧ 1 ≤ h ∧ I 29 8 = nI gr ∧ I 29 9 = nI gc ∧ I 29 10 = nI h ∧ ∀ p, p < N → (S p).1 < gr ∧ (S p).2.1 < gc ∧ (S p).2.2.1 < h ∧ I 31 (fpos gc h (S p)) = nI p ∧ I 34 p = b2i (S p).2.2.2.1 ∧ I 35 p = b2i (S p).2.2.2.2
theorem fpos_lt {gr gc h : Nat} {s : PN} (h1 : s.1 < gr) (h2 : s.2.1 < gc) (h3 : s.2.2.1 < h) : fpos gc h s < gr * gc * h := by
  unfold fpos
  exact rc_lt (rc_lt h1 h2) h3
theorem FI.pos {N gr gc h : Nat} {S : Nat → PN} {I : pm_II} (f : FI N gr gc h S I) {p : Nat} (hp : p < N) : fpos gc h (S p) < N := by
  obtain ⟨a1, _, _, _, _, _, _, _, a2⟩ := f
  obtain ⟨b1, b2, b3, _⟩ := a2 p hp
  have := fpos_lt b1 b2 b3
  omega
theorem FI.inj {N gr gc h : Nat} {S : Nat → PN} {I : pm_II} (f : FI N gr gc h S I) : injP (fun p => fpos gc h (S p)) N := by
  intro p q hp hq e
  obtain ⟨_, a0, _, _, _, _, _, _, a2⟩ := f
  have h1 := (a2 p hp).2.2.2.1
  have h2 := (a2 q hq).2.2.2.1
  have e' : fpos gc h (S p) = fpos gc h (S q) := e
  rw [e', h2, nI_eq (by omega) (by omega)] at h1
  exact h1.symm
theorem FI.sur {N gr gc h : Nat} {S : Nat → PN} {I : pm_II} (f : FI N gr gc h S I) : ∀ x, x < N → ∃ p, p < N ∧ fpos gc h (S p) = x := onto_ex (inj_onto (fun k hk => f.pos hk) f.inj)
section Lay
variable {u N gr gc h : Nat} {J : pm_JJ} {S : Nat → PN}
theorem xor1 (t : Bool) : b2i t ^^^ (1 : Int32) = b2i (!t) := by cases t <;> rfl
/-- one pile laid over another, from depth d on -/
theorem c_lay {cr : Bool} {comes stays top : Nat} (hN : N ≤ 64) (hh : 1 ≤ h) (hc : comes * h + h ≤ N) (hs : stays * h + h ≤ N) (ht : top + 2 * h ≤ N) (hpos : ∀ p, p < N → fpos gc h (S p) < N) (hinj : injP (fun p => fpos gc h (S p)) N) (hsur : ∀ x, x < N → ∃ p, p < N ∧ fpos gc h (S p) = x) : ∀ (e d Nf : Nat) (T W : Nat → Bool) (I : pm_II), d + e = h → e < Nf → I 29 10 = nI h → (∀ p, p < N → I 32 (fpos gc h (S p)) = nI p) → (∀ p, p < N → I 34 p = b2i (T p) ∧ I 35 p = b2i (W p)) → ∃ I2, F_Fo_layOver_13 u Nf (nI comes) (nI stays) (b2i cr) (nI top) (nI d) I J = some ((), I2, J) ∧ (∀ k, d ≤ k → k < h → I2 31 (top + k) = I 32 (comes * h + (h - 1 - k)) ∧ I2 31 (top + h + k) = I 32 (stays * h + k)) ∧ (∀ x, x < top ∨ top + 2 * h ≤ x ∨ (top ≤ x ∧ x < top + d) ∨ (top + h ≤ x ∧ x < top + h + d) → I2 31 x = I 31 x) ∧ (∀ p, p < N → I2 34 p = b2i (Bool.xor (T p) (decide (comes * h ≤ fpos gc h (S p) ∧ fpos gc h (S p) < comes * h + (h - d)))) ∧ I2 35 p = b2i (Bool.xor (W p) (decide (comes * h ≤ fpos gc h (S p) ∧ fpos gc h (S p) < comes * h + (h - d)) && !cr))) ∧ On (fun c _ => c = 31 ∨ c = 34 ∨ c = 35) I I2 := by
  intro e
  induction e with
  | zero =>
    intro d Nf T W I hd hNf h10 h32 hT
    obtain ⟨Nf, rfl⟩ : ∃ z, Nf = z + 1 := ⟨Nf - 1, by omega⟩
    have hdh : d = h := by omega
    subst hdh
    refine ⟨I, ?_, fun k a b => by omega, fun x _ => rfl, fun p hp => ?_, On.refl _⟩
    · rw [F_Fo_layOver_13, h10, if_pos (by rw [nI_leI (by omega) (by omega)]; omega)]; rfl
    · rw [decide_eq_false (by omega), Bool.xor_false, Bool.false_and, Bool.xor_false]; exact hT p hp
  | succ e ih =>
    intro d Nf T W I hd hNf h10 h32 hT
    obtain ⟨Nf, rfl⟩ : ∃ z, Nf = z + 1 := ⟨Nf - 1, by omega⟩
    obtain ⟨q, hq, hqe⟩ := hsur (comes * h + (h - 1 - d)) (by omega)
    have ix : nI comes * nI h + nI h - 1 - nI d = nI (comes * h + (h - 1 - d)) := by
      rw [pk_mul, nI_add, nl_1, pk_sub (by omega), pk_sub (by omega)]; congr 1; omega
    have h32q : I 32 (comes * h + (h - 1 - d)) = nI q := by rw [← hqe]; exact h32 q hq
    obtain ⟨t1, t2⟩ := hT q hq
    generalize hI1 : pm_up (pm_up (cond cr (pm_up I 34 q (b2i (!T q))) (pm_up (pm_up I 34 q (b2i (!T q))) 35 q (b2i (!W q)))) 31 (top + d) (nI q)) 31 (top + h + d) (I 32 (stays * h + d)) = I1
    have o1 : On (fun c _ => c = 31 ∨ c = 34 ∨ c = 35) I I1 := by
      rw [← hI1]
      cases cr
      · refine On.up (On.up (On.up (On.up (On.refl _) ?_) ?_) ?_) ?_ <;> omega
      · refine On.up (On.up (On.up (On.refl _) ?_) ?_) ?_ <;> omega
    have hT1 : ∀ p, p < N → I1 34 p = b2i (if p = q then !T q else T p) ∧ I1 35 p = b2i (if p = q then Bool.xor (W q) (!cr) else W p) := by
      intro p hp
      rw [← hI1]
      by_cases c : p = q
      · subst c
        cases cr
        · simp [ur]
        · simp [ur, t2]
      · cases cr
        · simp [ur, c, hT p hp]
        · simp [ur, c, hT p hp]
    obtain ⟨I2, i1, i2, i3, i4, i5⟩ := ih (d + 1) Nf (fun p => if p = q then !T q else T p) (fun p => if p = q then Bool.xor (W q) (!cr) else W p) I1 (by omega) (by omega) (by rw [o1 29 10 (by omega)]; exact h10) (fun p hp => by rw [o1 32 _ (by omega)]; exact h32 p hp) hT1
    refine ⟨I2, ?_, fun k a b => ?_, fun x hx => ?_, fun p hp => ?_, o1.trans i5⟩
    · rw [F_Fo_layOver_13, h10, if_neg (by rw [nI_leI (by omega) (by omega)]; omega), nI_add, nI_add, nl_64, if_neg (by rw [nI_leI (by omega) (by omega)]; omega), ix, nI_clamp (by omega), h32q, vqT (show comes * h + (h - 1 - d) < 64 by omega) (by omega), vqT (show q < 64 by omega) (by omega), nI_clamp (by omega), t1, t2, xor1, xor1]
      unfold F_Fo_layOver_87
      have q10 : ∀ X : pm_II, X = pm_up I 34 q (b2i (!T q)) ∨ X = pm_up (pm_up I 34 q (b2i (!T q))) 35 q (b2i (!W q)) → X 29 10 = nI h := by
        intro X hX
        rcases hX with rfl | rfl <;> exact h10
      have q32 : ∀ (X : pm_II) x, X = pm_up I 34 q (b2i (!T q)) ∨ X = pm_up (pm_up I 34 q (b2i (!T q))) 35 q (b2i (!W q)) → X 32 x = I 32 x := by
        intro X x hX
        rcases hX with rfl | rfl <;> rfl
      rw [q10 _ (Or.inl rfl), q10 _ (Or.inr rfl), pk_mul, nI_add, nI_add, nI_add, nI_add, nI_clamp (by omega), nI_clamp (by omega), nI_clamp (by omega), vqT (show top + d < 64 by omega) (by omega), vqT (show stays * h + d < 64 by omega) (by omega), vqT (show top + h + d < 64 by omega) (by omega), q32 _ _ (Or.inl rfl), q32 _ _ (Or.inr rfl)]
      simp only [cond_true]
      rw [nI_io1, nI_add]
      cases cr
      · rw [if_neg (by decide)]
        have hI1' : pm_up (pm_up (pm_up (pm_up I 34 q (b2i (!T q))) 35 q (b2i (!W q))) 31 (top + d) (nI q)) 31 (top + h + d) (I 32 (stays * h + d)) = I1 := hI1
        rw [hI1']
        exact i1
      · rw [if_pos (by decide)]
        have hI1' : pm_up (pm_up (pm_up I 34 q (b2i (!T q))) 31 (top + d) (nI q)) 31 (top + h + d) (I 32 (stays * h + d)) = I1 := hI1
        rw [hI1']
        exact i1
    · by_cases c : k = d
      · subst c
        rw [i3 (top + k) (by omega), i3 (top + h + k) (by omega), h32q, ← hI1]
        constructor
        · rw [ur, if_neg (by omega), ur, if_pos ⟨rfl, rfl⟩]
        · rw [ur, if_pos ⟨rfl, rfl⟩]
      · have := i2 k (by omega) b
        rw [o1 32 _ (by omega), o1 32 _ (by omega)] at this
        exact this
    · rw [i3 x (by omega), ← hI1, ur, if_neg (by omega), ur, if_neg (by omega)]
      cases cr <;> rfl
    · obtain ⟨j1, j2⟩ := i4 p hp
      rw [j1, j2]
      by_cases c : p = q
      · subst c
        rw [if_pos rfl, if_pos rfl, hqe, decide_eq_false (by omega), decide_eq_true (by omega)]
        constructor
        · cases T p <;> rfl
        · cases W p <;> cases cr <;> rfl
      · have hne : fpos gc h (S p) ≠ comes * h + (h - 1 - d) := fun z => c (hinj p q hp hq (by show fpos gc h (S p) = fpos gc h (S q); rw [z, hqe]))
        rw [if_neg c, if_neg c]
        by_cases r : comes * h ≤ fpos gc h (S p) ∧ fpos gc h (S p) < comes * h + (h - (d + 1))
        · rw [decide_eq_true r, decide_eq_true (by omega)]; exact ⟨rfl, rfl⟩
        · rw [decide_eq_false r, decide_eq_false (by omega)]; exact ⟨rfl, rfl⟩
end Lay
