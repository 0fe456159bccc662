/-! ===== rolls: the state both have; pattern ===== -/
def P1 (I : pm_II) : Prop := ∃ K P, (K ≤ 4 ∧ P ≤ 16) ∧ (I 19 11 = nI K ∧ I 120 14 = nI K ∧ I 19 12 = nI P ∧ I 120 15 = nI P ∧ I 19 9 = I 120 12) ∧ (∀ i, i < P → ∀ k, k < 4 → I 28 (4 * i + k) = I 127 (4 * i + k)) ∧ (∀ k, k < K → I 20 k = I 123 k) ∧ ∀ k, K ≤ k → k < 4 → I 20 k = 0
def lo5 (r : Int32) (a b : Nat → Int32) : Nat → Int32
  | 0 => r
  | k + 1 => lo5 r a b k - a k * b k
theorem lo5_0 {r : Int32} {a b : Nat → Int32} {K : Nat} : ∀ d, (∀ k, K ≤ k → k < K + d → b k = 0) → lo5 r a b (K + d) = lo5 r a b K
  | 0, _ => rfl
  | d + 1, h => by
    have h1 := lo5_0 (r := r) (a := a) d (fun k h1 h2 => h k h1 (by omega))
    have e : lo5 r a b (K + (d + 1)) = lo5 r a b (K + d) - a (K + d) * b (K + d) := rfl
    rw [e, h (K + d) (by omega) (by omega), h1, Int32.mul_zero, Int32.sub_zero]
theorem lo5_c {r : Int32} {a b a2 b2 : Nat → Int32} : ∀ n, (∀ k, k < n → a k = a2 k ∧ b k = b2 k) → lo5 r a b n = lo5 r a2 b2 n
  | 0, _ => rfl
  | n + 1, h => by
    rw [lo5, lo5, lo5_c n (fun k hk => h k (by omega)), (h n (by omega)).1, (h n (by omega)).2]
section Pat
variable {u : Nat} {I : pm_II} {J : pm_JJ}
theorem c_lost7 {i : Nat} (hi : i < 16) : ∀ (d k N : Nat), k + d = 4 → d < N → F_Ro_lostOf_7 u N (nI i) (lo5 (I 19 9) (fun k => I 28 (4 * i + k)) (I 20) k) (nI k) I J = some (lo5 (I 19 9) (fun k => I 28 (4 * i + k)) (I 20) 4, I, J) := by
  intro d
  induction d with
  | zero =>
    intro k N hk hN
    obtain ⟨N, rfl⟩ : ∃ z, N = z + 1 := ⟨N - 1, by omega⟩
    obtain rfl : k = 4 := by omega
    rw [F_Ro_lostOf_7, if_pos (by decide)]
  | succ d ih =>
    intro k N hk hN
    obtain ⟨N, rfl⟩ : ∃ z, N = z + 1 := ⟨N - 1, by omega⟩
    rw [F_Ro_lostOf_7, show (4 : Int32) = nI 4 from rfl, if_neg (by rw [nI_leI (by omega) (by omega)]; omega), pk_mul, nI_add, vqT (show i * 4 + k < 64 by omega) (by omega), vqT (show k < 4 by omega) (by omega), nI_clamp (by omega), nI_clamp (by omega), nI_io1, nI_add, show i * 4 + k = 4 * i + k by omega]
    exact ih (k + 1) N (by omega) (by omega)
theorem m_waste7 {i K : Nat} (hi : i < 16) (hK : K ≤ 4) (h14 : I 120 14 = nI K) : ∀ (d k N : Nat), k + d = K → d < N → F_Mo_waste_7 u N (nI i) (lo5 (I 120 12) (fun k => I 127 (4 * i + k)) (I 123) k) (nI k) I J = some (lo5 (I 120 12) (fun k => I 127 (4 * i + k)) (I 123) K, I, J) := by
  intro d
  induction d with
  | zero =>
    intro k N hk hN
    obtain ⟨N, rfl⟩ : ∃ z, N = z + 1 := ⟨N - 1, by omega⟩
    obtain rfl : k = K := by omega
    rw [F_Mo_waste_7, h14, if_pos (by rw [nI_leI (by omega) (by omega)]; omega)]
  | succ d ih =>
    intro k N hk hN
    obtain ⟨N, rfl⟩ : ∃ z, N = z + 1 := ⟨N - 1, by omega⟩
    rw [F_Mo_waste_7, h14, if_neg (by rw [nI_leI (by omega) (by omega)]; omega), show (4 : Int32) = nI 4 from rfl, pk_mul, nI_add, vqT (show 4 * i + k < 64 by omega) (by omega), vqT (show k < 4 by omega) (by omega), nI_clamp (by omega), nI_clamp (by omega), nI_io1, nI_add]
    exact ih (k + 1) N (by omega) (by omega)
theorem both_lost {i : Nat} (hu : 10 ≤ u) (h : P1 I) : ∃ P, P ≤ 16 ∧ I 19 12 = nI P ∧ I 120 15 = nI P ∧ (i < P → ∃ v, F_Ro_lostOf u (nI i) I J = some (v, I, J) ∧ F_Mo_waste u (nI i) I J = some (v, I, J)) := by
  obtain ⟨K, P, ⟨h1, h2⟩, ⟨a1, a2, a3, a4, a5⟩, b1, b2, b3⟩ := h
  refine ⟨P, h2, a3, a4, fun hi => ?_⟩
  have e1 := c_lost7 (u := u) (I := I) (J := J) (show i < 16 by omega) 4 0 u (by omega) (by omega)
  have e2 := m_waste7 (u := u) (I := I) (J := J) (show i < 16 by omega) h1 a2 K 0 u (by omega) (by omega)
  refine ⟨_, e1, ?_⟩
  have e3 : lo5 (I 19 9) (fun k => I 28 (4 * i + k)) (I 20) 4 = lo5 (I 120 12) (fun k => I 127 (4 * i + k)) (I 123) K := by
    have h0 := lo5_0 (r := I 19 9) (a := fun k => I 28 (4 * i + k)) (b := I 20) (K := K) (4 - K) (fun k k1 k2 => b3 k k1 (by omega))
    rw [show K + (4 - K) = 4 by omega] at h0
    rw [h0, a5]
    exact lo5_c K (fun k hk => ⟨b1 i hi k (by omega), b2 k hk⟩)
  rw [e3]
  exact e2
theorem st_pattern {x y : Int32} (hu : 10 ≤ u) (h : P1 I) : ∃ v, F_Ro_tell u x y I J = some (v, I, J) ∧ F_Mo_pattern u x y I J = some (v, I, J) := by
  have hP := h
  obtain ⟨K, P, ⟨h1, h2⟩, ⟨a1, a2, a3, a4, a5⟩, b1, b2, b3⟩ := h
  unfold F_Ro_tell F_Mo_pattern
  rw [a3, a4, rng_if, m_isB, bd_s, b2i_if0, rgb_rng (by omega)]
  show ∃ v, cond (rng x P) _ _ = _ ∧ _
  cases hx : rng x P with
  | false => exact ⟨-1, rfl, rfl⟩
  | true =>
    obtain ⟨i, hi, rfl⟩ := rng_n (by omega) hx
    rw [cond_true, cond_true, a1, a2, m_isB, bd_s, b2i_ifn]
    have hlt : (y < nI K) ↔ (y ≤ nI K - 1) := by
      rw [Int32.lt_iff_toInt_lt, Int32.le_iff_toInt_le, nl_1, pk_sub_toInt (by omega) (by omega), nI_toInt (by omega)]
      omega
    by_cases c1 : y < -1
    · rw [if_pos c1]
      have : rgb y (-1) (nI K - 1) = false := by
        unfold rgb
        rw [decide_eq_false_iff_not]
        exact fun z => absurd c1 (Int32.not_lt.mpr z.1)
      rw [this]
      exact ⟨-1, rfl, rfl⟩
    · rw [if_neg c1]
      by_cases c2 : y < nI K
      · have : rgb y (-1) (nI K - 1) = true := by
          unfold rgb
          rw [decide_eq_true_eq]
          exact ⟨Int32.not_lt.mp c1, hlt.mp c2⟩
        rw [if_pos c2, this, cond_true]
        by_cases c3 : y = -1
        · rw [if_neg (by simpa using c3), if_neg (by simpa using c3)]
          obtain ⟨P2, p1, p2, p3, p4⟩ := both_lost (u := u) (J := J) (i := i) hu hP
          rw [a3] at p2
          have e : P = P2 := (nI_eq (by omega) (by omega)).mp p2
          obtain ⟨v, v1, v2⟩ := p4 (by omega)
          rw [v1, v2, bd_s]
          exact ⟨v, rfl, rfl⟩
        · rw [if_pos c3, if_pos c3]
          have c4 : ¬ y < 0 := by
            intro z
            have z1 := Int32.lt_iff_toInt_lt.mp z
            have z2 := Int32.not_lt.mp c1
            have z3 := Int32.le_iff_toInt_le.mp z2
            have e0 : ((0 : Int32)).toInt = 0 := rfl
            have e1 : ((-1 : Int32)).toInt = -1 := by decide
            apply c3
            apply Int32.toInt_inj.mp
            omega
          obtain ⟨k, hk, rfl⟩ := nI_of c4
          rw [nI_ltI (by omega) (by omega)] at c2
          rw [show (4 : Int32) = nI 4 from rfl, pk_mul, pk_mul, nI_add, nI_add, vqT (show i * 4 + k < 64 by omega) (by omega), vqT (show 4 * i + k < 64 by omega) (by omega), nI_clamp (by omega), nI_clamp (by omega)]
          refine ⟨I 28 (i * 4 + k), rfl, ?_⟩
          have := b1 i hi k (by omega)
          rw [show i * 4 + k = 4 * i + k by omega, this]
          rfl
      · have : rgb y (-1) (nI K - 1) = false := by
          unfold rgb
          rw [decide_eq_false_iff_not]
          exact fun z => c2 (hlt.mpr z.2)
        rw [if_neg c2, this]
        exact ⟨-1, rfl, rfl⟩
end Pat
