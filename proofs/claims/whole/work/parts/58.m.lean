/-! ===== ink: one sheet's step in a zone ===== -/
def ikB (A B k : Nat) : Nat := (A + 16 * k + 2 * B) / 3
def ikT (A B k s : Nat) : Nat := ikB A B k * s / 512
def ikA (A B k : Nat) : Nat := A + 16 * k + B - ikB A B k
def ikC (A B k s : Nat) : Nat := ikB A B k - ikT A B k s
theorem ik_le {A B k s : Nat} (hs : s ≤ 64) : ikB A B k ≤ A + 16 * k + B ∧ ikT A B k s ≤ ikB A B k ∧ ikA A B k + ikC A B k s + ikT A B k s = A + B + 16 * k := by
  have h1 : ikB A B k ≤ A + 16 * k + B := by unfold ikB; omega
  have h2 : ikT A B k s ≤ ikB A B k := by
    unfold ikT
    have : ikB A B k * s ≤ ikB A B k * 64 := Nat.mul_le_mul_left _ hs
    omega
  refine ⟨h1, h2, ?_⟩
  unfold ikA ikC
  omega
section Ink2
variable {u : Nat} {I : pm_II} {J : pm_JJ}
theorem fp32 {a d : Nat} (ha : a < 2 ^ 31) (hd : 0 < d) (hd2 : d < 2 ^ 31) : F_Jm_floorDiv_II u (nI a) (nI d) I J = some (nI (a / d), I, J) := by
  unfold F_Jm_floorDiv_II
  rw [if_pos (by rw [i0_iff hd2]; omega)]
  simp only [xs32, nI_toInt ha, nI_toInt hd2]
  rw [if_pos (by rw [decide_eq_false (by omega), decide_eq_false (by omega)]), pk_div ha hd hd2]
theorem s3 {a b c : Nat} (h : c ≤ a + b) : nI a - (nI c - nI b) = nI (a + b - c) := by
  have : nI a - (nI c - nI b) = nI a + nI b - nI c := by
    rw [Int32.sub_eq_add_neg, Int32.neg_sub, Int32.sub_eq_add_neg, ← Int32.add_assoc, ← Int32.sub_eq_add_neg]
  rw [this, nI_add, pk_sub h]
theorem a3 {b c : Nat} : nI b + (nI c - nI b) = nI c := by
  rw [Int32.add_comm, Int32.sub_add_cancel]
theorem c_ink {z A B k s P : Nat} (hz : z < 9) (h43 : I 43 z = nI A) (h44 : I 44 z = nI B) (h40 : I 40 z = nI k) (h42 : I 42 z = nI s) (h46 : I 46 z = nI P) (hs : s ≤ 64) (hAB : A + B + 16 * k < 2 ^ 25) : ∃ I2, F_Pr_ink u (nI z) I J = some ((), I2, J) ∧ I2 43 z = nI (ikA A B k) ∧ I2 44 z = nI (ikC A B k s) ∧ I2 45 z = nI (ikT A B k s) ∧ I2 46 z = nI (P + ikT A B k s) ∧ On (fun c j => (43 ≤ c ∧ c ≤ 46) ∧ j = z) I I2 := by
  obtain ⟨l1, l2, l3⟩ := ik_le (A := A) (B := B) (k := k) hs
  have hB1 : ikB A B k * s < 2 ^ 31 := by
    have : ikB A B k * s ≤ ikB A B k * 64 := Nat.mul_le_mul_left _ hs
    omega
  unfold F_Pr_ink
  rw [nI_clamp (by omega), vqT hz (by omega)]
  simp only [cond_true, ur, h43, h44, h40, h42, h46, and_true, true_and, if_true, Nat.reduceEqDiff, false_and, if_false, nl_16, pk_mul, nI_add]
  rw [fd32 (by omega) (by omega), bd_s]
  simp only [cond_true, ur, h43, h44, h40, h42, h46, and_true, true_and, if_true, Nat.reduceEqDiff, false_and, if_false]
  rw [show (A + 16 * k + 2 * B) / 3 = ikB A B k from rfl, s3 (by omega), a3, pk_mul, show (512 : Int32) = nI 512 from rfl, fp32 hB1 (by omega) (by omega), bd_s]
  simp only [cond_true, ur, h43, h44, h40, h42, h46, and_true, true_and, if_true, Nat.reduceEqDiff, false_and, if_false]
  rw [show ikB A B k * s / 512 = ikT A B k s from rfl, pk_sub l2, nI_add]
  refine ⟨_, rfl, ?_, ?_, ?_, ?_, ?_⟩
  · simp [ur, ikA]
  · simp [ur, ikC]
  · simp [ur]
  · simp [ur]
  · refine On.up (On.up (On.up (On.up (On.up (On.up (On.refl _) ?_) ?_) ?_) ?_) ?_) ?_ <;> simp
theorem ls3 {a b c : Nat} (h : c ≤ a + b) : lN a - (lN c - lN b) = lN (a + b - c) := by
  have : lN a - (lN c - lN b) = lN a + lN b - lN c := by
    rw [Int64.sub_eq_add_neg, Int64.neg_sub, Int64.sub_eq_add_neg, ← Int64.add_assoc, ← Int64.sub_eq_add_neg]
  rw [this, lN_add, lN_sub h]
theorem la3 {b c : Nat} : lN b + (lN c - lN b) = lN c := by
  rw [Int64.add_comm, Int64.sub_add_cancel]
theorem ldv {a d : Nat} (ha : a < 2 ^ 31) (hd : 0 < d) (hd2 : d < 2 ^ 31) : lN a / lN d = lN (a / d) := by
  apply Int64.toInt_inj.mp
  have h2 : a / d ≤ a := Nat.div_le_self _ _
  rw [lg_ldiv_nonneg (by rw [lN_toInt ha]; omega) (by rw [lN_toInt hd2]; omega), lN_toInt ha, lN_toInt hd2, lN_toInt (by omega)]
  rfl
theorem m_inked {z A B k cov zr : Nat} (hz : z < 8) (hA : J 120 46 = lN A) (hB : J 120 47 = lN B) (h140 : I 140 z = nI cov) (h33 : I 120 33 = nI zr) (hzr : 0 < zr) (hzr2 : zr ≤ 8) (hcov : cov < 2 ^ 20) (hs : cov / zr ≤ 64) (hk : k ≤ 255) (hAB : A + B + 16 * k < 2 ^ 25) : ∃ J2, F_Mo_inked u (nI k) (nI z) I J = some (lN (ikT A B k (cov / zr)), I, J2) ∧ J2 120 46 = lN (ikA A B k) ∧ J2 120 47 = lN (ikC A B k (cov / zr)) ∧ On (fun c j => c = 120 ∧ (j = 46 ∨ j = 47)) J J2 := by
  obtain ⟨l1, l2, l3⟩ := ik_le (A := A) (B := B) (k := k) hs
  have hB1 : ikB A B k * (cov / zr) < 2 ^ 31 := by
    have : ikB A B k * (cov / zr) ≤ ikB A B k * 64 := Nat.mul_le_mul_left _ hs
    omega
  unfold F_Mo_inked
  rw [hA, hB, nl_16, pk_mul, nI_l (by omega), lN_add, fd64 (by omega) (by omega), bd_s, nI_clamp (by omega), vqT hz (by omega), cond_true, h33, if_pos (by rw [i0_iff (by omega)]; omega), h140, pk_div (by omega) hzr (by omega), nI_l (by omega)]
  simp only [ur, hA, hB, and_true, true_and, if_true, Nat.reduceEqDiff, false_and, if_false]
  rw [show (A + 16 * k + 2 * B) / 3 = ikB A B k from rfl, ls3 (by omega), la3, lN_mul, show Int64.ofNat 512 = lN 512 from rfl, ldv hB1 (by omega) (by omega), show ikB A B k * (cov / zr) / 512 = ikT A B k (cov / zr) from rfl, lN_sub l2]
  refine ⟨_, rfl, ?_, ?_, ?_⟩
  · simp [ur, ikA]
  · simp [ur, ikC]
  · refine On.up (On.up (On.up (On.up (On.refl _) ?_) ?_) ?_) ?_ <;> simp
theorem m_shown {v : Nat} (hv : v < 2000000000) : F_Mo_shown u (lN v) I J = some (nI v, I, J) := by
  unfold F_Mo_shown F_Jm_min_JJ
  simp only [lg_cmp_gt]
  rw [show Int64.ofNat 2000000000 = lN 2000000000 from rfl, if_neg (by rw [lN_lt (by omega) (by omega)]; omega), bd_s, lN_i]
end Ink2
def allb (f : Nat → Bool) : Nat → Nat → Bool
  | 0, _ => true
  | d + 1, z => f z && allb f d (z + 1)
def zok (aim tol ZR : Nat) (key cov A B : Nat → Nat) (z : Nat) : Bool := decide (cov z = 0) || decide (max (ikT (A z) (B z) (key z) (cov z / ZR)) aim - min (ikT (A z) (B z) (key z) (cov z / ZR)) aim ≤ tol)
section Sheet
variable {u : Nat} {I : pm_II} {J : pm_JJ} {Z ZR aim tol : Nat} {key cov A B P : Nat → Nat}
theorem dv64 {c z : Nat} (h : c ≤ 64 * z) (hz : 0 < z) : c / z ≤ 64 := by
  have : c / z ≤ 64 * z / z := Nat.div_le_div_right h
  rw [Nat.mul_div_cancel _ hz] at this
  exact this
theorem j_absN {x y : Nat} (hx : x < 2 ^ 30) (hy : y < 2 ^ 30) : F_Jm_abs_I u (nI x - nI y) I J = some (nI (max x y - min x y), I, J) := by
  unfold F_Jm_abs_I
  have h1 : (nI x - nI y).toInt = (x : Int) - y := pk_sub_toInt (by omega) (by omega)
  by_cases c : y ≤ x
  · rw [pk_sub c, if_pos (Int32.not_lt.mp (nI_pos (by omega)))]
    congr 3
    omega
  · have : ¬ (0 : Int32) ≤ nI x - nI y := by
      rw [Int32.le_iff_toInt_le, h1]
      show ¬ (0 : Int) ≤ _
      omega
    rw [if_neg this, Int32.neg_sub, pk_sub (by omega)]
    congr 3
    omega
theorem c_sheet4 (hZ : Z ≤ 8) (hZR : 0 < ZR) (hZR2 : ZR ≤ 8) (haim : aim ≤ 4000) (htol : tol ≤ 400) : ∀ (d z N : Nat) (I : pm_II) (g : Bool), z + d = Z → d < N → I 39 8 = nI Z → I 39 9 = nI aim → I 39 10 = nI tol → (∀ y, y < Z → I 40 y = nI (key y) ∧ key y ≤ 255 ∧ I 41 y = nI (cov y) ∧ cov y ≤ 64 * ZR ∧ I 42 y = nI (cov y / ZR)) → (∀ y, z ≤ y → y < Z → I 43 y = nI (A y) ∧ I 44 y = nI (B y) ∧ I 46 y = nI (P y) ∧ A y + B y + P y + 16 * key y < 2 ^ 25) → ∃ I2 N2, 0 < N2 ∧ F_Pr_printSheet_4 u N (b2i g) (nI z) I J = F_Pr_printSheet_4 u N2 (b2i (g && allb (zok aim tol ZR key cov A B) d z)) (nI Z) I2 J ∧ (∀ y, z ≤ y → y < Z → I2 43 y = nI (ikA (A y) (B y) (key y)) ∧ I2 44 y = nI (ikC (A y) (B y) (key y) (cov y / ZR)) ∧ I2 45 y = nI (ikT (A y) (B y) (key y) (cov y / ZR)) ∧ I2 46 y = nI (P y + ikT (A y) (B y) (key y) (cov y / ZR))) ∧ On (fun c j => (43 ≤ c ∧ c ≤ 46) ∧ (z ≤ j ∧ j < Z)) I I2 := by
  intro d
  induction d with
  | zero =>
    intro z N I g hz hN h8 h9 h10 hk hf
    have : z = Z := by omega
    subst this
    refine ⟨I, N, hN, ?_, fun y a b => by omega, On.refl _⟩
    unfold allb
    rw [Bool.and_true]
  | succ d ih =>
    intro z N I g hz hN h8 h9 h10 hk hf
    obtain ⟨N, rfl⟩ : ∃ w, N = w + 1 := ⟨N - 1, by omega⟩
    obtain ⟨k1, k2, k3, k4, k5⟩ := hk z (by omega)
    obtain ⟨f1, f2, f3, f4⟩ := hf z (by omega) (by omega)
    have hs := dv64 k4 hZR
    obtain ⟨I1, e1, e2, e3, e4, e5, e6⟩ := c_ink (u := u) (J := J) (show z < 9 by omega) f1 f2 k1 k5 f3 hs (by omega)
    obtain ⟨l1, l2, l3⟩ := ik_le (A := A z) (B := B z) (k := key z) hs
    have o39 : ∀ k, I1 39 k = I 39 k := fun k => e6 39 k (by omega)
    have o4 : ∀ y, I1 40 y = I 40 y ∧ I1 41 y = I 41 y ∧ I1 42 y = I 42 y := fun y => ⟨e6 40 y (by omega), e6 41 y (by omega), e6 42 y (by omega)⟩
    obtain ⟨I2, N2, i0, i1, i2, i3⟩ := ih (z + 1) N I1 (g && zok aim tol ZR key cov A B z) (by omega) (by omega) (by rw [o39]; exact h8) (by rw [o39]; exact h9) (by rw [o39]; exact h10) (fun y hy => by rw [(o4 y).1, (o4 y).2.1, (o4 y).2.2]; exact hk y hy) (fun y a b => by
      rw [e6 43 y (by omega), e6 44 y (by omega), e6 46 y (by omega)]; exact hf y (by omega) b)
    refine ⟨I2, N2, i0, ?_, fun y a b => ?_, ?_⟩
    · rw [F_Pr_printSheet_4, h8, if_neg (by rw [nI_leI (by omega) (by omega)]; omega), e1, bd_s, vqT (show z < 9 by omega) (by omega), nI_clamp (by omega), cond_true, cond_true, (o4 z).2.1, k3, e4, o39, h9, j_absN (by omega) (by omega), bd_s, o39, h10]
      simp (disch := omega) only [nI_leI, i0_iff, nI_io1, nI_add]
      unfold allb
      rw [← Bool.and_assoc, ← i1]
      unfold zok
      by_cases c : cov z = 0
      · rw [if_pos c, decide_eq_true c]
        simp
      · rw [if_neg c, decide_eq_false c]
        by_cases c2 : max (ikT (A z) (B z) (key z) (cov z / ZR)) aim - min (ikT (A z) (B z) (key z) (cov z / ZR)) aim ≤ tol
        · rw [if_pos c2, decide_eq_true c2]; simp
        · rw [if_neg c2, decide_eq_false c2]; simp [b2i]
    · by_cases q : y = z
      · subst q
        rw [i3 43 y (by omega), i3 44 y (by omega), i3 45 y (by omega), i3 46 y (by omega)]
        exact ⟨e2, e3, e4, e5⟩
      · exact i2 y (by omega) b
    · refine On.trans (e6.mono (fun c k hc => ?_)) (i3.mono (fun c k hc => ?_))
      · exact ⟨hc.1, by omega⟩
      · exact ⟨hc.1, by omega⟩
end Sheet
