/-! ===== ranges; piles: what is told of them ===== -/
theorem nI_leP {k m : Nat} (hk : k < 2 ^ 31) (hm : m < 2 ^ 31) : (nI k ≤ nI m - 1) ↔ k < m := by
  cases m with
  | zero =>
    have : nI 0 - 1 = (-1 : Int32) := rfl
    rw [this]
    constructor
    · intro h
      exfalso
      have h0 : ¬ nI k < 0 := nI_pos hk
      have : nI k < 0 := Int32.lt_of_le_of_lt h (by decide)
      exact h0 this
    · intro h; omega
  | succ m =>
    have : nI (m + 1) - 1 = nI m := by rw [nl_1, nI_sub2 (by omega)]; rfl
    rw [this, nI_leI (by omega) (by omega)]; omega
theorem in0 (x : Int32) {m : Nat} (hm : m < 2 ^ 31) : (∃ k, k < m ∧ x = nI k ∧ decide (0 ≤ x ∧ x < nI m) = true) ∨ decide (0 ≤ x ∧ x < nI m) = false := by
  by_cases c : 0 ≤ x ∧ x < nI m
  · obtain ⟨k, hk, rfl⟩ := nI_of (Int32.not_lt.mpr c.1)
    left
    have := c.2
    rw [nI_ltI (by omega) (by omega)] at this
    exact ⟨k, this, rfl, by simp [c]⟩
  · right; simpa using c
theorem m_is0 {u m : Nat} {I : pm_II} {J : pm_JJ} {x : Int32} (hm : m < 2 ^ 31) : F_Mo_is u x (0 : Int32) (nI m - (1 : Int32)) I J = some (b2i (decide (0 ≤ x ∧ x < nI m)), I, J) := by
  rw [m_is]
  have e : (decide (0 ≤ x ∧ x ≤ nI m - 1)) = decide (0 ≤ x ∧ x < nI m) := by
    congr 1
    apply propext
    constructor
    · intro ⟨a, b⟩
      refine ⟨a, ?_⟩
      obtain ⟨k, hk, rfl⟩ := nI_of (Int32.not_lt.mpr a)
      rw [nI_leP (by omega) (by omega)] at b
      rw [nI_ltI (by omega) (by omega)]; exact b
    · intro ⟨a, b⟩
      refine ⟨a, ?_⟩
      obtain ⟨k, hk, rfl⟩ := nI_of (Int32.not_lt.mpr a)
      rw [nI_ltI (by omega) (by omega)] at b
      rw [nI_leP (by omega) (by omega)]; exact b
  rw [e]
theorem vqT {k m : Nat} (h : k < m) (h2 : k < 2 ^ 31) : vq (nI k) m = true := by rw [vq_nI h2]; simpa using h
def P6 (pa : Nat) (I : pm_II) : Prop := ∃ m : Nat, m ≤ 31 ∧ I pa 4 = nI m ∧ I 120 65 = nI m ∧ ∀ k, k < m → I (pa + 1) k = I 154 k ∧ I (pa + 2) k = I 155 k ∧ I (pa + 3) k = I 156 k ∧ I (pa + 4) k = I 157 k
section Pile
variable {u : Nat} {I : pm_II} {J : pm_JJ} {pa m : Nat}
theorem pi_has {x : Int32} (hm : m ≤ 31) (h4 : I pa 4 = nI m) : F_Pi_has u pa x I J = some (b2i (decide (0 ≤ x ∧ x < nI m)), I, J) := by
  unfold F_Pi_has
  by_cases c : x < 0
  · rw [if_pos c]
    have : ¬ 0 ≤ x := Int32.not_le.mpr c
    simp [this, b2i]
  · obtain ⟨k, hk, rfl⟩ := nI_of c
    rw [if_neg c, h4]
    have h0 : (0 : Int32) ≤ nI k := Int32.not_lt.mp c
    simp (disch := omega) only [nI_1, nI_io1, nI_add, nI_leI, nI_ltI, nI_eq, i0_iff, nl_30]
    by_cases d : k < m
    · rw [if_neg (by omega), if_neg (by omega)]
      simp [d, b2i, h0]
    · rw [if_pos (by omega)]
      simp [d, b2i]
theorem st_piece {x y : Int32} (h : P6 pa I) : ∃ v, F_Pi_tell u pa x y I J = some (v, I, J) ∧ F_Mo_piece u x y I J = some (v, I, J) := by
  obtain ⟨m, hm, h4, h65, hr⟩ := h
  unfold F_Pi_tell F_Mo_piece
  rw [pi_has hm h4, bd_s, h65, m_is0 (by omega), bd_s]
  have t1 : ¬ b2i true = 0 := by decide
  rcases in0 x (m := m) (by omega) with ⟨k, hkm, rfl, e⟩ | e
  · obtain ⟨r1, r2, r3, r4⟩ := hr k hkm
    rw [e, if_pos t1, if_pos t1, nI_clamp (by omega), vqT (m := 31) (by omega) (by omega), vqT (m := 32) (by omega) (by omega), r1, r2, r3, r4]
    simp only [cond_true]
    split
    · exact ⟨_, rfl, rfl⟩
    · split
      · exact ⟨_, rfl, rfl⟩
      · split
        · exact ⟨_, rfl, rfl⟩
        · split
          · exact ⟨_, rfl, rfl⟩
          · exact ⟨_, rfl, rfl⟩
  · rw [e, if_neg (fun z => z rfl), if_neg (fun z => z rfl)]
    exact ⟨_, rfl, rfl⟩
theorem on_loop {x y : Int32} (hm : m ≤ 31) (h4 : I pa 4 = nI m) (h65 : I 120 65 = nI m) (hr : ∀ k, k < m → I (pa + 1) k = I 154 k ∧ I (pa + 2) k = I 155 k ∧ I (pa + 3) k = I 156 k ∧ I (pa + 4) k = I 157 k) : ∀ (d k N N2 : Nat), k + d = m → d < N → d < N2 → ∃ v, F_Pi_pieceAt_2 u N pa x y (nI k) I J = some (v, I, J) ∧ F_Mo_on_2 u N2 x y (nI k) I J = some (v, I, J) := by
  intro d
  induction d with
  | zero =>
    intro k N N2 hk hN hN2
    obtain ⟨N, rfl⟩ : ∃ z, N = z + 1 := ⟨N - 1, by omega⟩
    obtain ⟨N2, rfl⟩ : ∃ z, N2 = z + 1 := ⟨N2 - 1, by omega⟩
    rw [F_Pi_pieceAt_2, F_Mo_on_2, h4, h65, if_pos (by rw [nI_leI (by omega) (by omega)]; omega), if_pos (by rw [nI_leI (by omega) (by omega)]; omega)]
    exact ⟨_, rfl, rfl⟩
  | succ d ih =>
    intro k N N2 hk hN hN2
    obtain ⟨N, rfl⟩ : ∃ z, N = z + 1 := ⟨N - 1, by omega⟩
    obtain ⟨N2, rfl⟩ : ∃ z, N2 = z + 1 := ⟨N2 - 1, by omega⟩
    obtain ⟨r1, r2, r3, r4⟩ := hr k (by omega)
    obtain ⟨v, i1, i2⟩ := ih (k + 1) N N2 (by omega) (by omega) (by omega)
    have a1 : ¬ nI m ≤ nI k := by rw [nI_leI (by omega) (by omega)]; omega
    have a2 : ¬ (30 : Int32) < nI k := by rw [nl_30, nI_ltI (by omega) (by omega)]; omega
    rw [F_Pi_pieceAt_2, F_Mo_on_2, h4, h65, if_neg a1, if_neg a1, if_neg a2]
    unfold F_Pi_pieceAt_48
    simp only [nI_io1, nI_add, nI_clamp (show k < 2 ^ 31 by omega), vqT (m := 31) (show k < 31 by omega) (by omega), vqT (m := 32) (show k < 32 by omega) (by omega), r1, r2, r3, r4, cond_true, i1, i2]
    by_cases c1 : x < I 154 k
    · rw [if_pos c1, if_pos c1, if_pos trivial]
      exact ⟨_, rfl, rfl⟩
    · rw [if_neg c1, if_neg c1]
      by_cases c2 : I 154 k + I 156 k ≤ x
      · rw [if_pos c2, if_pos c2, if_pos trivial]
        exact ⟨_, rfl, rfl⟩
      · rw [if_neg c2, if_neg c2, if_neg (by decide)]
        by_cases c3 : y < I 155 k
        · rw [if_pos c3]
          exact ⟨_, rfl, rfl⟩
        · rw [if_neg c3]
          by_cases c4 : I 155 k + I 157 k ≤ y
          · rw [if_pos c4]
            exact ⟨_, rfl, rfl⟩
          · rw [if_neg c4]
            exact ⟨_, rfl, rfl⟩
theorem st_on {x y : Int32} (hu : 40 ≤ u) (h : P6 pa I) : ∃ v, F_Pi_pieceAt u pa x y I J = some (v, I, J) ∧ F_Mo_on u x y I J = some (v, I, J) := by
  obtain ⟨m, hm, h4, h65, hr⟩ := h
  exact on_loop hm h4 h65 hr m 0 u u (by omega) (by omega) (by omega)
end Pile
