/-! ===== folding: the model's turned ===== -/
section MT
variable {u R C m : Nat} {L : Nat → Int32} {J : pm_JJ}
theorem gR_le : ∀ k, gR L R k ≤ R
  | 0 => Nat.le_refl _
  | k + 1 => by
    have := gR_le k
    rw [gR]
    unfold ngr
    cases crb (L k)
    · have : gR L R k / 2 ≤ gR L R k := Nat.div_le_self _ _
      simp only [cond_false]; omega
    · exact this
theorem gC_le : ∀ k, gC L C k ≤ C
  | 0 => Nat.le_refl _
  | k + 1 => by
    have := gC_le k
    rw [gC]
    unfold ngc
    cases crb (L k)
    · exact this
    · have : gC L C k / 2 ≤ gC L C k := Nat.div_le_self _ _
      simp only [cond_true]; omega
theorem SS_lt (hC : 1 ≤ C) (hv : vL L R C m) {p : Nat} (hp : p < R * C) : ∀ k, k ≤ m → (SS L R C k p).1 < gR L R k ∧ (SS L R C k p).2.1 < gC L C k ∧ (SS L R C k p).2.2.1 < 2 ^ k
  | 0, _ => ⟨(Nat.div_lt_iff_lt_mul hC).mpr hp, Nat.mod_lt _ hC, Nat.zero_lt_one⟩
  | k + 1, hk => by
    obtain ⟨a, b, c⟩ := SS_lt hC hv hp k (by omega)
    have := fs_lt (lo := lob (L k)) (h := 2 ^ k) (hv.1 k (by omega)).2 a b c
    rw [Nat.pow_succ, Nat.mul_comm (2 ^ k)]
    exact this
theorem crb_if {α : Type} {x : Int32} (hx : x = 108 ∨ x = 114 ∨ x = 116 ∨ x = 98) (f : Int32 → α) : (if x = 108 then f 1 else if ¬ x = 114 then f 0 else f 1) = f (b2i (crb x)) := by
  rcases hx with rfl | rfl | rfl | rfl <;> rfl
theorem m_65 {K17 : Int32 → Int32 → Int32 → pm_II → pm_JJ → Option (Unit × pm_II × pm_JJ)} {p : Nat} {I : pm_II} (hR : 1 ≤ R ∧ R ≤ 8) (hC : 1 ≤ C ∧ C ≤ 8) (hm : m ≤ 6) (hv : vL L R C m) (hp : p < R * C) (h19 : I 120 19 = nI C) (h131 : ∀ j, j < m → I 131 j = L j) : ∀ (d k Nf : Nat), k + d = m → d < Nf → F_Mo_turned_65 u K17 Nf (nI m) (nI (R * C)) (nI p) (nI (SS L R C k p).1) (nI (SS L R C k p).2.1) (nI (gR L R k)) (nI (gC L C k)) (nI (SS L R C k p).2.2.1) (nI (2 ^ k)) (b2i (SS L R C k p).2.2.2.1) (b2i (SS L R C k p).2.2.2.2) (nI k) I J = K17 (nI m) (nI (R * C)) (nI (p + 1)) (pm_up (pm_up (pm_up I 132 (8 * (p / C) + p % C) (nI (SS L R C m p).2.2.1)) 133 (8 * (p / C) + p % C) (b2i (SS L R C m p).2.2.2.1)) 134 (8 * (p / C) + p % C) (b2i (SS L R C m p).2.2.2.2)) J := by
  have h64 := rc_le hR.2 hC.2
  intro d
  induction d with
  | zero =>
    intro k Nf hk hNf
    obtain ⟨Nf, rfl⟩ : ∃ z, Nf = z + 1 := ⟨Nf - 1, by omega⟩
    have : k = m := by omega
    subst this
    have n0 : ¬ nI C = 0 := by rw [i0_iff (by omega)]; omega
    have d1 : p / C < R := (Nat.div_lt_iff_lt_mul hC.1).mpr hp
    have d2 : p % C < C := Nat.mod_lt _ hC.1
    rw [F_Mo_turned_65, if_pos (by rw [nI_leI (by omega) (by omega)]; omega), h19, dvI (by omega) (by omega) (by omega), rmI (by omega) (by omega) (by omega), nl_8, pk_mul, nI_add, vqT (show 8 * (p / C) + p % C < 64 by omega) (by omega), nI_clamp (by omega)]
    simp only [n0, not_false_eq_true, if_true, cond_true, b2i_01, nI_io1, nI_add]
  | succ d ih =>
    intro k Nf hk hNf
    obtain ⟨Nf, rfl⟩ : ∃ z, Nf = z + 1 := ⟨Nf - 1, by omega⟩
    obtain ⟨v1, v2⟩ := hv.1 k (by omega)
    obtain ⟨a, b, c⟩ := SS_lt hC.1 hv hp k (by omega)
    have g1 := gR_le (L := L) (R := R) k
    have g2 := gC_le (L := L) (C := C) k
    have hpw : 2 ^ k ≤ 2 ^ 6 := Nat.pow_le_pow_right (by omega) (by omega)
    rw [F_Mo_turned_65, if_neg (by rw [nI_leI (by omega) (by omega)]; omega), vqT (show k < 6 by omega) (by omega), cond_true, nI_clamp (by omega), h131 k (by omega)]
    refine (crb_if v1 (fun z => F_Mo_turned_99 u K17 (F_Mo_turned_65 u K17 Nf) (nI m) (nI (R * C)) (nI p) (nI (SS L R C k p).1) (nI (SS L R C k p).2.1) (nI (gR L R k)) (nI (gC L C k)) (nI (SS L R C k p).2.2.1) (nI (2 ^ k)) (b2i (SS L R C k p).2.2.2.1) (b2i (SS L R C k p).2.2.2.2) (nI k) (L k) z I J)).trans ?_
    rw [m_99 v1 v2 (by omega) (by omega) a b c, nI_io1, nI_add]
    exact ih (k + 1) Nf (by omega) (by omega)
theorem m_turned {I : pm_II} (hu : 100 ≤ u) (hR : 1 ≤ R ∧ R ≤ 8) (hC : 1 ≤ C ∧ C ≤ 8) (hm : m ≤ 6) (hv : vL L R C m) (h18 : I 120 18 = nI R) (h19 : I 120 19 = nI C) (h27 : I 120 27 = nI m) (h131 : ∀ j, j < m → I 131 j = L j) : ∃ I2, F_Mo_turned u I J = some ((), I2, J) ∧ (∀ r c, r < R → c < C → I2 132 (8 * r + c) = nI (SS L R C m (r * C + c)).2.2.1 ∧ I2 133 (8 * r + c) = b2i (SS L R C m (r * C + c)).2.2.2.1 ∧ I2 134 (8 * r + c) = b2i (SS L R C m (r * C + c)).2.2.2.2) ∧ On (fun c _ => 132 ≤ c ∧ c ≤ 134) I I2 := by
  have h64 := rc_le hR.2 hC.2
  have loop : ∀ (d p Nf : Nat) (X : pm_II), p + d = R * C → d < Nf → On (fun c _ => 132 ≤ c ∧ c ≤ 134) I X → (∀ r c, r < R → c < C → r * C + c < p → X 132 (8 * r + c) = nI (SS L R C m (r * C + c)).2.2.1 ∧ X 133 (8 * r + c) = b2i (SS L R C m (r * C + c)).2.2.2.1 ∧ X 134 (8 * r + c) = b2i (SS L R C m (r * C + c)).2.2.2.2) → ∃ I2, F_Mo_turned_17 u Nf (nI m) (nI (R * C)) (nI p) X J = some ((), I2, J) ∧ (∀ r c, r < R → c < C → I2 132 (8 * r + c) = nI (SS L R C m (r * C + c)).2.2.1 ∧ I2 133 (8 * r + c) = b2i (SS L R C m (r * C + c)).2.2.2.1 ∧ I2 134 (8 * r + c) = b2i (SS L R C m (r * C + c)).2.2.2.2) ∧ On (fun c _ => 132 ≤ c ∧ c ≤ 134) I I2 := by
    intro d
    induction d with
    | zero =>
      intro p Nf X hp hNf oX hX
      obtain ⟨Nf, rfl⟩ : ∃ z, Nf = z + 1 := ⟨Nf - 1, by omega⟩
      refine ⟨X, ?_, fun r c hr hc => hX r c hr hc (by have := rc_lt hr hc; omega), oX⟩
      rw [F_Mo_turned_17, if_pos (by rw [nI_leI (by omega) (by omega)]; omega)]
    | succ d ih =>
      intro p Nf X hp hNf oX hX
      obtain ⟨Nf, rfl⟩ : ∃ z, Nf = z + 1 := ⟨Nf - 1, by omega⟩
      have n0 : ¬ nI C = 0 := by rw [i0_iff (by omega)]; omega
      have x18 : X 120 18 = nI R := by rw [oX 120 18 (by omega)]; exact h18
      have x19 : X 120 19 = nI C := by rw [oX 120 19 (by omega)]; exact h19
      have d1 : p / C < R := (Nat.div_lt_iff_lt_mul hC.1).mpr (by omega)
      have d2 : p % C < C := Nat.mod_lt _ hC.1
      have hd : p / C * C + p % C = p := by rw [Nat.mul_comm]; exact Nat.div_add_mod _ _
      have h65 := m_65 (u := u) (J := J) (K17 := F_Mo_turned_17 u Nf) (I := X) hR hC hm hv (show p < R * C by omega) x19 (fun j hj => by rw [oX 131 j (by omega)]; exact h131 j hj) m 0 u (by omega) (by omega)
      rw [F_Mo_turned_17, if_neg (by rw [nI_leI (by omega) (by omega)]; omega), x18, x19, if_pos n0, if_pos n0, dvI (by omega) (by omega) (by omega), rmI (by omega) (by omega) (by omega)]
      obtain ⟨I2, i1, i2, i3⟩ := ih (p + 1) Nf (pm_up (pm_up (pm_up X 132 (8 * (p / C) + p % C) (nI (SS L R C m p).2.2.1)) 133 (8 * (p / C) + p % C) (b2i (SS L R C m p).2.2.2.1)) 134 (8 * (p / C) + p % C) (b2i (SS L R C m p).2.2.2.2)) (by omega) (by omega) (by refine On.up (On.up (On.up oX ?_) ?_) ?_ <;> omega) (fun r c hr hc hlt => by
        simp only [ur, Nat.reduceEqDiff, false_and, if_false, true_and]
        by_cases q : 8 * r + c = 8 * (p / C) + p % C
        · have e1 : r = p / C ∧ c = p % C := by omega
          have e2 : r * C + c = p := by rw [e1.1, e1.2]; exact hd
          rw [if_pos q, if_pos q, if_pos q, e2]
          exact ⟨rfl, rfl, rfl⟩
        · rw [if_neg q, if_neg q, if_neg q]
          refine hX r c hr hc ?_
          by_cases e : r * C + c = p
          · exfalso
            rw [← hd] at e
            obtain ⟨e1, e2⟩ := dm_inj hc d2 e
            omega
          · omega)
      exact ⟨I2, h65.trans i1, i2, i3⟩
  unfold F_Mo_turned
  rw [h27, h18, h19, pk_mul]
  exact loop (R * C) 0 u I (by omega) (by omega) (On.refl _) (fun r c _ _ h => by omega)
end MT
