/-! ===== a sheet in the model ===== -/
section SheetM
variable {u : Nat} {I : pm_II} {J : pm_JJ} {Z ZR aim tol : Nat} {key cov A B P : Nat → Nat}
theorem j_absL {x y : Nat} (hx : x < 2 ^ 30) (hy : y < 2 ^ 30) : F_Jm_abs_J u (lN x - lN y) I J = some (lN (max x y - min x y), I, J) := by
  unfold F_Jm_abs_J
  have h1 : (lN x - lN y).toInt = (x : Int) - y := lsub_toInt (by omega) (by omega)
  simp only [lg_cmp_ge]
  have z0 : Int64.ofNat 0 = 0 := rfl
  rw [z0]
  by_cases c : y ≤ x
  · have : (0 : Int64) ≤ lN x - lN y := by
      rw [Int64.le_iff_toInt_le, h1]
      show (0 : Int) ≤ _
      omega
    rw [if_pos this, lN_sub c]
    congr 3
    omega
  · have : ¬ (0 : Int64) ≤ lN x - lN y := by
      rw [Int64.le_iff_toInt_le, h1]
      show ¬ (0 : Int) ≤ _
      omega
    rw [if_neg this, Int64.neg_sub, lN_sub (by omega)]
    congr 3
    omega
theorem m_sheet37 (hZ : Z ≤ 8) (hZR : 0 < ZR) (hZR2 : ZR ≤ 8) (haim : aim ≤ 4000) (htol : tol ≤ 400) : ∀ (d z N : Nat) (I : pm_II) (J : pm_JJ) (g : Bool), z + d = Z → d < N → I 120 32 = nI Z → I 120 33 = nI ZR → I 120 34 = nI aim → I 120 35 = nI tol → (∀ y, y < Z → I 139 y = nI (key y) ∧ key y ≤ 255 ∧ I 140 y = nI (cov y) ∧ cov y ≤ 64 * ZR) → (∀ y, z ≤ y → y < Z → J 143 y = lN (A y) ∧ J 144 y = lN (B y) ∧ J 145 y = lN (P y) ∧ A y + B y + P y + 16 * key y < 2 ^ 25) → ∃ I2 J2 N2, 0 < N2 ∧ F_Mo_sheet_37 u N (b2i g) (nI z) I J = F_Mo_sheet_37 u N2 (b2i (g && allb (zok aim tol ZR key cov A B) d z)) (nI Z) I2 J2 ∧ (∀ y, z ≤ y → y < Z → J2 143 y = lN (ikA (A y) (B y) (key y)) ∧ J2 144 y = lN (ikC (A y) (B y) (key y) (cov y / ZR)) ∧ I2 141 y = nI (ikT (A y) (B y) (key y) (cov y / ZR)) ∧ J2 145 y = lN (P y + ikT (A y) (B y) (key y) (cov y / ZR))) ∧ On (fun c j => c = 141 ∧ (z ≤ j ∧ j < Z)) I I2 ∧ On (fun c j => ((143 ≤ c ∧ c ≤ 145) ∧ (z ≤ j ∧ j < Z)) ∨ (c = 120 ∧ (j = 46 ∨ j = 47))) J J2 := by
  intro d
  induction d with
  | zero =>
    intro z N I J g hz hN h32 h33 h34 h35 hk hf
    have : z = Z := by omega
    subst this
    refine ⟨I, J, N, hN, ?_, fun y a b => by omega, On.refl _, On.refl _⟩
    unfold allb
    rw [Bool.and_true]
  | succ d ih =>
    intro z N I J g hz hN h32 h33 h34 h35 hk hf
    obtain ⟨N, rfl⟩ : ∃ w, N = w + 1 := ⟨N - 1, by omega⟩
    obtain ⟨k1, k2, k3, k4⟩ := hk z (by omega)
    obtain ⟨f1, f2, f3, f4⟩ := hf z (by omega) (by omega)
    have hs := dv64 k4 hZR
    obtain ⟨l1, l2, l3⟩ := ik_le (A := A z) (B := B z) (k := key z) hs
    generalize hT : ikT (A z) (B z) (key z) (cov z / ZR) = T at *
    obtain ⟨J1, e1, e2, e3, e4⟩ := m_inked (u := u) (I := I) (J := pm_up (pm_up J 120 46 (J 143 z)) 120 47 (J 144 z)) (z := z) (A := A z) (B := B z) (k := key z) (cov := cov z) (zr := ZR) (by omega) (by simp [ur, f1]) (by simp [ur, f2]) k3 h33 hZR hZR2 (by omega) hs k2 (by omega)
    rw [hT] at e1
    have o145 : J1 145 z = lN (P z) := by rw [e4 145 z (by omega)]; simp [ur, f3]
    generalize hJ2 : (pm_up (pm_up (pm_up J1 143 z (J1 120 46)) 144 z (J1 120 47)) 145 z ((J1 145 z) + lN T)) = J2
    have onJ : On (fun c j => ((143 ≤ c ∧ c ≤ 145) ∧ j = z) ∨ (c = 120 ∧ (j = 46 ∨ j = 47))) J J2 := by
      rw [← hJ2]
      refine On.up (On.up (On.up (On.trans ?_ (e4.mono (fun c k hc => Or.inr hc))) ?_) ?_) ?_
      · refine On.up (On.up (On.refl _) ?_) ?_ <;> simp
      · simp
      · simp
      · simp
    have r1 : J2 143 z = lN (ikA (A z) (B z) (key z)) := by rw [← hJ2]; simp [ur, e2]
    have r2 : J2 144 z = lN (ikC (A z) (B z) (key z) (cov z / ZR)) := by rw [← hJ2]; simp [ur, e3]
    have r3 : J2 145 z = lN (P z + T) := by rw [← hJ2]; simp only [ur, and_self, if_true]; rw [o145, lN_add]
    have onI : On (fun c j => c = 141 ∧ j = z) I (pm_up I 141 z (nI T)) := On.up (On.refl _) ⟨rfl, rfl⟩
    obtain ⟨I3, J3, N2, i0, i1, i2, i3, i4⟩ := ih (z + 1) N (pm_up I 141 z (nI T)) J2 (g && zok aim tol ZR key cov A B z) (by omega) (by omega) h32 h33 h34 h35 (fun y hy => hk y hy) (fun y a b => by
      rw [onJ 143 y (by omega), onJ 144 y (by omega), onJ 145 y (by omega)]; exact hf y (by omega) b)
    refine ⟨I3, J3, N2, i0, ?_, fun y a b => ?_, ?_, ?_⟩
    · rw [F_Mo_sheet_37, h32, if_neg (by rw [nI_leI (by omega) (by omega)]; omega), vqT (show z < 8 by omega) (by omega), nI_clamp (by omega)]
      simp only [cond_true]
      rw [k1, e1, bd_s, hJ2, m_shown (by omega), bd_s, h34, nI_l (by omega), j_absL (by omega) (by omega), bd_s, k3]
      have h35' : (pm_up I 141 z (nI T)) 120 35 = nI tol := h35
      rw [h35', nI_l (by omega)]
      simp (disch := omega) only [lg_cmp_gt, lN_lt, i0_iff, nI_io1, nI_add, b2i_if0]
      unfold allb
      rw [← Bool.and_assoc, ← i1]
      unfold zok
      rw [hT]
      cases g
      · rfl
      · by_cases c : cov z = 0
        · rw [if_pos c, decide_eq_true c]
          rfl
        · rw [if_neg c, decide_eq_false c]
          by_cases c2 : max T aim - min T aim ≤ tol
          · rw [if_neg (by omega), decide_eq_true c2]; rfl
          · rw [if_pos (by omega), decide_eq_false c2]; rfl
    · by_cases q : y = z
      · subst q
        rw [i4 143 y (by omega), i4 144 y (by omega), i4 145 y (by omega), i3 141 y (by omega), hT]
        refine ⟨r1, r2, ?_, r3⟩
        simp [ur]
      · exact i2 y (by omega) b
    · refine On.trans (onI.mono (fun c k hc => ?_)) (i3.mono (fun c k hc => ?_))
      · exact ⟨hc.1, by omega⟩
      · exact ⟨hc.1, by omega⟩
    · refine On.trans (onJ.mono (fun c k hc => ?_)) (i4.mono (fun c k hc => ?_))
      · rcases hc with hc | hc
        · exact Or.inl ⟨hc.1, by omega⟩
        · exact Or.inr hc
      · rcases hc with hc | hc
        · exact Or.inl ⟨hc.1, by omega⟩
        · exact Or.inr hc
end SheetM
