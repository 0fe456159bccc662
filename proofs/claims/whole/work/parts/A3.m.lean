/-! ===== rolls: the class counts the fewest patterns ===== -/
theorem k_4 {k : Nat} (h : k < 4) : k = 0 ∨ k = 1 ∨ k = 2 ∨ k = 3 := by omega
section Few
variable {u : Nat} {J : pm_JJ} {Kn R : Nat} {wid w : Nat → Nat}
/-- what the class has adopted -/
def RA (Kn R : Nat) (wid w : Nat → Nat) (X : pm_II) : Prop := X 19 9 = nI R ∧ X 19 10 = nI Kn ∧ ∀ k, k < 4 → X 20 k = nI (wid k) ∧ X 21 k = nI (w k) ∧ X 24 k = nI (sd w k)
def RB (Kn R : Nat) (wid w : Nat → Nat) : Prop := (1 ≤ Kn ∧ Kn ≤ 6) ∧ R ≤ 400 ∧ (∀ k, k < 4 → w k ≤ 9 ∧ wid k ≤ R ∧ (wid k = 0 → w k = 0)) ∧ s4 w ≤ 16
theorem RA.on {X Y : pm_II} {S : Nat → Nat → Prop} (h : RA Kn R wid w X) (o : On S X Y) (h9 : ¬ S 19 9) (h10 : ¬ S 19 10) (h20 : ∀ k, ¬ S 20 k) (h21 : ∀ k, ¬ S 21 k) (h24 : ∀ k, ¬ S 24 k) : RA Kn R wid w Y := ⟨by rw [o _ _ h9]; exact h.1, by rw [o _ _ h10]; exact h.2.1, fun k hk => by rw [o _ _ (h20 k), o _ _ (h21 k), o _ _ (h24 k)]; exact h.2.2 k hk⟩
theorem sd_le (h : RB Kn R wid w) : ∀ k, k < 4 → sd w k ≤ 1000 := by
  have a1 := (h.2.2.1 1 (by omega)).1
  have a2 := (h.2.2.1 2 (by omega)).1
  have a3 := (h.2.2.1 3 (by omega)).1
  have m1 : (w 3 + 1) * (w 2 + 1) ≤ 10 * 10 := Nat.mul_le_mul (by omega) (by omega)
  have m2 : (w 3 + 1) * (w 2 + 1) * (w 1 + 1) ≤ 10 * 10 * 10 := Nat.mul_le_mul m1 (by omega)
  intro k hk
  rcases k_4 hk with rfl | rfl | rfl | rfl
  · exact m2
  · show (w 3 + 1) * (w 2 + 1) ≤ 1000
    omega
  · show w 3 + 1 ≤ 1000
    omega
  · show 1 ≤ 1000
    omega
theorem c_adopt65 {X : pm_II} (hu : 10 ≤ u) (h : ∀ k, k < 4 → X 21 k = nI (w k)) : ∃ Y, F_Ro_adopt_65 u u (1 : Int32) (3 : Int32) X J = some ((), Y, J) ∧ On (fun c _ => c = 24) X Y ∧ ∀ k, k < 4 → Y 24 k = nI (sd w k) := by
  have step : ∀ (N s k : Nat) (Z : pm_II), k < 4 → Z 21 k = nI (w k) → F_Ro_adopt_65 u (N + 1) (nI s) (nI k) Z J = F_Ro_adopt_65 u N (nI (s * (w k + 1))) (nI k + Int32.ofInt (-1)) (pm_up Z 24 k (nI s)) J := by
    intro N s k Z hk hZ
    rw [F_Ro_adopt_65, if_neg (nI_pos (by omega)), vqT hk (by omega), nI_clamp (by omega), hZ, nI_1, pk_mul]
    rfl
  obtain ⟨N, rfl⟩ : ∃ z, u = z + 5 := ⟨u - 5, by omega⟩
  refine ⟨pm_up (pm_up (pm_up (pm_up X 24 3 (nI 1)) 24 2 (nI (1 * (w 3 + 1)))) 24 1 (nI (1 * (w 3 + 1) * (w 2 + 1)))) 24 0 (nI (1 * (w 3 + 1) * (w 2 + 1) * (w 1 + 1))), ?_, ?_, fun k hk => ?_⟩
  · have s3 := step (N + 4) 1 3 X (by omega) (h 3 (by omega))
    have s2 := step (N + 3) (1 * (w 3 + 1)) 2 (pm_up X 24 3 (nI 1)) (by omega) (h 2 (by omega))
    have s1 := step (N + 2) (1 * (w 3 + 1) * (w 2 + 1)) 1 (pm_up (pm_up X 24 3 (nI 1)) 24 2 (nI (1 * (w 3 + 1)))) (by omega) (h 1 (by omega))
    have s0 := step (N + 1) (1 * (w 3 + 1) * (w 2 + 1) * (w 1 + 1)) 0 (pm_up (pm_up (pm_up X 24 3 (nI 1)) 24 2 (nI (1 * (w 3 + 1)))) 24 1 (nI (1 * (w 3 + 1) * (w 2 + 1)))) (by omega) (h 0 (by omega))
    have e3 : nI 3 + Int32.ofInt (-1) = nI 2 := by decide
    have e2 : nI 2 + Int32.ofInt (-1) = nI 1 := by decide
    have e1 : nI 1 + Int32.ofInt (-1) = nI 0 := by decide
    rw [e3] at s3
    rw [e2] at s2
    rw [e1] at s1
    refine (s3.trans (s2.trans (s1.trans s0))).trans ?_
    rw [F_Ro_adopt_65, if_pos (by decide)]
  · refine On.up (On.up (On.up (On.up (On.refl _) ?_) ?_) ?_) ?_ <;> exact rfl
  · rcases k_4 hk with rfl | rfl | rfl | rfl <;> simp [ur, sd]
theorem c_adopt2 {K : Nat} {wd ww : Nat → Nat} (hu : 10 ≤ u) (hK : K ≤ 4) : ∀ (d k N : Nat) (X : pm_II), k + d = 4 → d < N → X 19 11 = nI K → (∀ j, j < K → X 22 j = nI (wd j) ∧ X 23 j = nI (ww j)) → (∀ j, j < k → X 20 j = nI (if j < K then wd j else 0) ∧ X 21 j = nI (if j < K then ww j else 0)) → ∃ Y, F_Ro_adopt_2 u N (nI k) X J = some ((), Y, J) ∧ On (fun c _ => c = 20 ∨ c = 21 ∨ c = 24) X Y ∧ ∀ j, j < 4 → Y 20 j = nI (if j < K then wd j else 0) ∧ Y 21 j = nI (if j < K then ww j else 0) ∧ Y 24 j = nI (sd (fun j => if j < K then ww j else 0) j) := by
  intro d
  induction d with
  | zero =>
    intro k N X hk hN h11 hD hR
    obtain ⟨N, rfl⟩ : ∃ z, N = z + 1 := ⟨N - 1, by omega⟩
    obtain rfl : k = 4 := by omega
    obtain ⟨Y, y1, y2, y3⟩ := c_adopt65 (u := u) (J := J) (X := X) (w := fun j => if j < K then ww j else 0) hu (fun j hj => (hR j hj).2)
    refine ⟨Y, ?_, y2.mono (fun c k z => Or.inr (Or.inr z)), fun j hj => ⟨?_, ?_, y3 j hj⟩⟩
    · rw [F_Ro_adopt_2, if_pos (by decide)]
      exact y1
    · rw [y2 20 j (by omega)]; exact (hR j hj).1
    · rw [y2 21 j (by omega)]; exact (hR j hj).2
  | succ d ih =>
    intro k N X hk hN h11 hD hR
    obtain ⟨N, rfl⟩ : ∃ z, N = z + 1 := ⟨N - 1, by omega⟩
    have hst : F_Ro_adopt_2 u (N + 1) (nI k) X J = F_Ro_adopt_2 u N (nI (k + 1)) (pm_up (pm_up X 20 k (nI (if k < K then wd k else 0))) 21 k (nI (if k < K then ww k else 0))) J := by
      rw [F_Ro_adopt_2, show (4 : Int32) = nI 4 from rfl, if_neg (by rw [nI_leI (by omega) (by omega)]; omega), h11]
      unfold F_Ro_adopt_30
      rw [h11, vqT (show k < 4 by omega) (by omega), nI_clamp (by omega), nI_io1, nI_add, cond_true, cond_true, cond_true, cond_true]
      by_cases c : k < K
      · rw [if_neg (by rw [nI_leI (by omega) (by omega)]; omega), if_neg (by rw [nI_leI (by omega) (by omega)]; omega), if_pos c, if_pos c, (hD k c).1, (hD k c).2]
        rfl
      · rw [if_pos (by rw [nI_leI (by omega) (by omega)]; omega), if_pos (by rw [nI_leI (by omega) (by omega)]; omega), if_neg c, if_neg c]
        rfl
    obtain ⟨Y, y1, y2, y3⟩ := ih (k + 1) N (pm_up (pm_up X 20 k (nI (if k < K then wd k else 0))) 21 k (nI (if k < K then ww k else 0))) (by omega) (by omega) h11 hD (by
      intro j hj
      simp only [ur]
      by_cases q : j = k
      · subst q; simp
      · simp [q]
        exact hR j (by omega))
    exact ⟨Y, hst.trans y1, On.trans (On.up (On.up (On.refl _) (Or.inl rfl)) (Or.inr (Or.inl rfl))) y2, y3⟩
theorem c_whole {X : pm_II} (hu : 10 ≤ u) (hB : RB Kn R wid w) (h : RA Kn R wid w X) : F_Ro_wholeState u X J = some (nI (ix w w), X, J) := by
  have hl := sd_le hB
  have step : ∀ (N s k : Nat), k < 4 → F_Ro_wholeState_4 u (N + 1) (nI s) (nI k) X J = F_Ro_wholeState_4 u N (nI (s + w k * sd w k)) (nI (k + 1)) X J := by
    intro N s k hk
    obtain ⟨h1, h2, h3⟩ := h.2.2 k hk
    rw [F_Ro_wholeState_4, show (4 : Int32) = nI 4 from rfl, if_neg (by rw [nI_leI (by omega) (by omega)]; omega), vqT hk (by omega), nI_clamp (by omega), h2, h3, pk_mul, nI_add, nI_io1, nI_add]
    rfl
  have h624 := ix_624 (fun k hk => (hB.2.2.1 k hk).1) hB.2.2.2 (le4.refl w)
  obtain ⟨N, rfl⟩ : ∃ z, u = z + 5 := ⟨u - 5, by omega⟩
  unfold F_Ro_wholeState
  have e : (((0 + w 0 * sd w 0) + w 1 * sd w 1) + w 2 * sd w 2) + w 3 * sd w 3 = ix w w := by
    unfold ix
    show (((0 + w 0 * ((w 3 + 1) * (w 2 + 1) * (w 1 + 1))) + w 1 * ((w 3 + 1) * (w 2 + 1))) + w 2 * (w 3 + 1)) + w 3 * 1 = _
    omega
  refine ((step (N + 4) 0 0 (by omega)).trans ((step (N + 3) _ 1 (by omega)).trans ((step (N + 2) _ 2 (by omega)).trans (step (N + 1) _ 3 (by omega))))).trans ?_
  rw [e, F_Ro_wholeState_4, if_pos (by decide), show (624 : Int32) = nI 624 from rfl, j_minN (by omega) (by omega), bd_s, show min (ix w w) 624 = ix w w by omega]
theorem On_25 {X Y : pm_II} (h : On (fun c _ => c = 25) X Y) {k : Nat} {v : Int32} : On (fun c _ => c = 25) X (pm_up Y 25 k v) := On.up h rfl
theorem c_step {X : pm_II} {y : Nat → Nat} (hu : 10 ≤ u) (hB : RB Kn R wid w) (h : RA Kn R wid w X) (hy : le4 y w) (h25 : ∀ k, k < 4 → X 25 k = nI (y k)) (hlt : ix w y < ix w w) : ∃ Y z, F_Ro_stepOpen u X J = some ((), Y, J) ∧ On (fun c _ => c = 25) X Y ∧ le4 z w ∧ (∀ k, k < 4 → Y 25 k = nI (z k)) ∧ ix w z = ix w y + 1 := by
  have hw9 : ∀ k, k < 4 → w k ≤ 9 := fun k hk => (hB.2.2.1 k hk).1
  have up : ∀ (N k : Nat) (Z : pm_II), k < 4 → Z 21 k = nI (w k) → Z 25 k = nI (y k) → y k = w k → F_Ro_stepOpen_2 u (N + 1) (nI k) Z J = F_Ro_stepOpen_2 u N (nI k + Int32.ofInt (-1)) (pm_up Z 25 k 0) J := by
    intro N k Z hk h1 h2 h3
    have := hw9 k hk
    rw [F_Ro_stepOpen_2, if_neg (nI_pos (by omega)), vqT hk (by omega), nI_clamp (by omega), h1, h2, cond_true, cond_true, if_pos (by rw [nI_leI (by omega) (by omega)]; omega), cond_true]
  have dn : ∀ (N k : Nat) (Z : pm_II), k < 4 → Z 21 k = nI (w k) → Z 25 k = nI (y k) → y k < w k → F_Ro_stepOpen_2 u (N + 1) (nI k) Z J = some ((), pm_up Z 25 k (nI (y k + 1)), J) := by
    intro N k Z hk h1 h2 h3
    have := hw9 k hk
    rw [F_Ro_stepOpen_2, if_neg (nI_pos (by omega)), vqT hk (by omega), nI_clamp (by omega), h1, h2, cond_true, cond_true, if_neg (by rw [nI_leI (by omega) (by omega)]; omega), nI_1, cond_true, cond_true]
  obtain ⟨N, rfl⟩ : ∃ z, u = z + 4 := ⟨u - 4, by omega⟩
  have w21 : ∀ k, k < 4 → X 21 k = nI (w k) := fun k hk => (h.2.2 k hk).2.1
  have y0 := hy 0 (by omega)
  have y1 := hy 1 (by omega)
  have y2 := hy 2 (by omega)
  have y3 := hy 3 (by omega)
  have e3 : nI 3 + Int32.ofInt (-1) = nI 2 := by decide
  have e2 : nI 2 + Int32.ofInt (-1) = nI 1 := by decide
  have e1 : nI 1 + Int32.ofInt (-1) = nI 0 := by decide
  have u3 := up (N + 3) 3 X (by omega) (w21 3 (by omega)) (h25 3 (by omega))
  have u2 := up (N + 2) 2 (pm_up X 25 3 0) (by omega) (w21 2 (by omega)) (h25 2 (by omega))
  have u1 := up (N + 1) 1 (pm_up (pm_up X 25 3 0) 25 2 0) (by omega) (w21 1 (by omega)) (h25 1 (by omega))
  rw [e3] at u3
  rw [e2] at u2
  rw [e1] at u1
  unfold F_Ro_stepOpen
  by_cases c3 : y 3 < w 3
  · refine ⟨_, fun k => if k = 3 then y 3 + 1 else y k, dn (N + 3) 3 X (by omega) (w21 3 (by omega)) (h25 3 (by omega)) c3, On.up (On.refl _) rfl, fun k hk => ?_, fun k hk => ?_, ?_⟩
    · rcases k_4 hk with rfl | rfl | rfl | rfl <;> simp <;> omega
    · rcases k_4 hk with rfl | rfl | rfl | rfl <;> simp [ur, h25]
    · unfold ix
      simp
      omega
  · have d3 : y 3 = w 3 := by omega
    by_cases c2 : y 2 < w 2
    · refine ⟨_, fun k => if k = 3 then 0 else if k = 2 then y 2 + 1 else y k, (u3 d3).trans (dn (N + 2) 2 (pm_up X 25 3 0) (by omega) (w21 2 (by omega)) (h25 2 (by omega)) c2), On_25 (On_25 (On.refl _)), fun k hk => ?_, fun k hk => ?_, ?_⟩
      · rcases k_4 hk with rfl | rfl | rfl | rfl <;> simp <;> omega
      · rcases k_4 hk with rfl | rfl | rfl | rfl <;> simp [ur, h25, nI_0]
      · unfold ix
        simp [Nat.add_mul, d3]
        omega
    · have d2 : y 2 = w 2 := by omega
      by_cases c1 : y 1 < w 1
      · refine ⟨_, fun k => if k = 3 then 0 else if k = 2 then 0 else if k = 1 then y 1 + 1 else y k, (u3 d3).trans ((u2 d2).trans (dn (N + 1) 1 (pm_up (pm_up X 25 3 0) 25 2 0) (by omega) (w21 1 (by omega)) (h25 1 (by omega)) c1)), On_25 (On_25 (On_25 (On.refl _))), fun k hk => ?_, fun k hk => ?_, ?_⟩
        · rcases k_4 hk with rfl | rfl | rfl | rfl <;> simp <;> omega
        · rcases k_4 hk with rfl | rfl | rfl | rfl <;> simp [ur, h25, nI_0]
        · rw [ix_h, ix_h]
          simp only [if_neg (show ¬ (0 = 3) by omega), if_neg (show ¬ (0 = 2) by omega), if_neg (show ¬ (0 = 1) by omega), if_neg (show ¬ (1 = 3) by omega), if_neg (show ¬ (1 = 2) by omega), if_neg (show ¬ (2 = 3) by omega), if_pos, d3, d2]
          have a : (y 0 * (w 1 + 1) + (y 1 + 1)) * (w 2 + 1) + 0 = (y 0 * (w 1 + 1) + y 1) * (w 2 + 1) + w 2 + 1 := by rw [← Nat.add_assoc, Nat.add_mul _ 1]; omega
          rw [a, Nat.add_mul _ 1]
          omega
      · have d1 : y 1 = w 1 := by omega
        have c0 : y 0 < w 0 := by
          apply Classical.byContradiction
          intro z
          have d0 : y 0 = w 0 := by omega
          have : ix w y = ix w w := by unfold ix; rw [d0, d1, d2, d3]
          omega
        refine ⟨_, fun k => if k = 0 then y 0 + 1 else 0, (u3 d3).trans ((u2 d2).trans ((u1 d1).trans (dn N 0 (pm_up (pm_up (pm_up X 25 3 0) 25 2 0) 25 1 0) (by omega) (w21 0 (by omega)) (h25 0 (by omega)) c0))), On_25 (On_25 (On_25 (On_25 (On.refl _)))), fun k hk => ?_, fun k hk => ?_, ?_⟩
        · rcases k_4 hk with rfl | rfl | rfl | rfl <;> simp <;> omega
        · rcases k_4 hk with rfl | rfl | rfl | rfl <;> simp [ur, nI_0]
        · rw [ix_h, ix_h]
          simp only [if_neg (show ¬ (1 = 0) by omega), if_neg (show ¬ (2 = 0) by omega), if_neg (show ¬ (3 = 0) by omega), if_pos, d3, d2, d1]
          have b0 : (y 0 + 1) * (w 1 + 1) + 0 = y 0 * (w 1 + 1) + w 1 + 1 := by rw [Nat.add_mul _ 1]; omega
          have a : (y 0 * (w 1 + 1) + w 1 + 1) * (w 2 + 1) + 0 = (y 0 * (w 1 + 1) + w 1) * (w 2 + 1) + w 2 + 1 := by rw [Nat.add_mul _ 1]; omega
          rw [b0, a, Nat.add_mul _ 1]
          omega
theorem c_one {X : pm_II} {y : Nat → Nat} (hu : 10 ≤ u) (h : RA Kn R wid w X) (hy9 : ∀ k, k < 4 → y k ≤ 9) (h25 : ∀ k, k < 4 → X 25 k = nI (y k)) (hpos : ¬ s4 y = 0) : ∃ j, j < 4 ∧ 1 ≤ y j ∧ F_Ro_onePiece u X J = some (nI (sd w j), X, J) := by
  have hit : ∀ (N k : Nat), k < 4 → 1 ≤ y k → F_Ro_onePiece_2 u (N + 1) (nI k) X J = some (nI (sd w k), X, J) := by
    intro N k hk hv
    have := hy9 k hk
    rw [F_Ro_onePiece_2, show (4 : Int32) = nI 4 from rfl, if_neg (by rw [nI_leI (by omega) (by omega)]; omega), vqT hk (by omega), nI_clamp (by omega), h25 k hk, (h.2.2 k hk).2.2, cond_true, if_neg (by rw [← nI_0, nI_leI (by omega) (by omega)]; omega), cond_true]
  have miss : ∀ (N k : Nat), k < 4 → ¬ 1 ≤ y k → F_Ro_onePiece_2 u (N + 1) (nI k) X J = F_Ro_onePiece_2 u N (nI (k + 1)) X J := by
    intro N k hk hv
    rw [F_Ro_onePiece_2, show (4 : Int32) = nI 4 from rfl, if_neg (by rw [nI_leI (by omega) (by omega)]; omega), vqT hk (by omega), nI_clamp (by omega), h25 k hk, cond_true, if_pos (by rw [← nI_0, nI_leI (by omega) (by omega)]; omega), nI_io1, nI_add]
  obtain ⟨N, rfl⟩ : ∃ z, u = z + 4 := ⟨u - 4, by omega⟩
  unfold F_Ro_onePiece
  unfold s4 at hpos
  by_cases c0 : 1 ≤ y 0
  · exact ⟨0, by omega, c0, hit (N + 3) 0 (by omega) c0⟩
  · by_cases c1 : 1 ≤ y 1
    · exact ⟨1, by omega, c1, (miss (N + 3) 0 (by omega) c0).trans (hit (N + 2) 1 (by omega) c1)⟩
    · by_cases c2 : 1 ≤ y 2
      · exact ⟨2, by omega, c2, (miss (N + 3) 0 (by omega) c0).trans ((miss (N + 2) 1 (by omega) c1).trans (hit (N + 1) 2 (by omega) c2))⟩
      · exact ⟨3, by omega, by omega, (miss (N + 3) 0 (by omega) c0).trans ((miss (N + 2) 1 (by omega) c1).trans ((miss (N + 1) 2 (by omega) c2).trans (hit N 3 (by omega) (by omega))))⟩
end Few
