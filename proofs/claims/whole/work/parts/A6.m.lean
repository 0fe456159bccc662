/-! ===== rolls: the model's digits and patterns ===== -/
def dg (c : Nat) : Nat → Nat
  | 0 => c / 1000
  | 1 => c / 100 % 10
  | 2 => c / 10 % 10
  | _ => c % 10
theorem dg_9 {c : Nat} (hc : c < 10000) : ∀ k, k < 4 → dg c k ≤ 9 := by
  intro k hk
  rcases k_4 hk with rfl | rfl | rfl | rfl
  · show c / 1000 ≤ 9
    omega
  · show c / 100 % 10 ≤ 9
    omega
  · show c / 10 % 10 ≤ 9
    omega
  · show c % 10 ≤ 9
    omega
theorem cod_dg (c : Nat) : cod (dg c) = c := by
  show 1000 * (c / 1000) + 100 * (c / 100 % 10) + 10 * (c / 10 % 10) + c % 10 = c
  omega
theorem dg_cod {q : Nat → Nat} (h : ∀ k, k < 4 → q k ≤ 9) : ∀ k, k < 4 → dg (cod q) k = q k := by
  have a0 := h 0 (by omega)
  have a1 := h 1 (by omega)
  have a2 := h 2 (by omega)
  have a3 := h 3 (by omega)
  intro k hk
  rcases k_4 hk with rfl | rfl | rfl | rfl
  · show (1000 * q 0 + 100 * q 1 + 10 * q 2 + q 3) / 1000 = q 0
    omega
  · show (1000 * q 0 + 100 * q 1 + 10 * q 2 + q 3) / 100 % 10 = q 1
    omega
  · show (1000 * q 0 + 100 * q 1 + 10 * q 2 + q 3) / 10 % 10 = q 2
    omega
  · show (1000 * q 0 + 100 * q 1 + 10 * q 2 + q 3) % 10 = q 3
    omega
theorem cod_le {p q : Nat → Nat} (h : le4 p q) : cod p ≤ cod q := by
  have a0 := h 0 (by omega)
  have a1 := h 1 (by omega)
  have a2 := h 2 (by omega)
  have a3 := h 3 (by omega)
  unfold cod
  omega
theorem dg_le {a c : Nat} (h : le4 (dg a) (dg c)) : a ≤ c := by
  have := cod_le h
  rw [cod_dg, cod_dg] at this
  exact this
theorem dg_sub {a c : Nat} (hc : c < 10000) (h : le4 (dg a) (dg c)) : ∀ k, k < 4 → dg (c - a) k = sb (dg c) (dg a) k := by
  have e : c - a = cod (sb (dg c) (dg a)) := by
    have h1 := cod_dg c
    have h2 := cod_dg a
    have a0 := h 0 (by omega)
    have a1 := h 1 (by omega)
    have a2 := h 2 (by omega)
    have a3 := h 3 (by omega)
    unfold cod sb at *
    omega
  rw [e]
  exact dg_cod (fun k hk => Nat.le_trans (Nat.sub_le _ _) (dg_9 hc k hk))
section Dig
variable {u : Nat} {J : pm_JJ} {Y : pm_II}
theorem m_digit {c k : Nat} (hc : c < 10000) (hk : k < 4) : F_Mo_digit u (nI c) (nI k) Y J = some (nI (dg c k), Y, J) := by
  unfold F_Mo_digit
  have d10 : ∀ a, a < 10000 → nI a - nI a / 10 * 10 = nI (a % 10) := fun a ha => by
    rw [show (10 : Int32) = nI 10 from rfl]
    exact pk_rem (by omega) (by omega) (by omega)
  rcases k_4 hk with rfl | rfl | rfl | rfl
  · rw [if_neg (by decide), show (1000 : Int32) = nI 1000 from rfl, pk_div (by omega) (by omega) (by omega)]
    rfl
  · rw [if_pos (by decide), if_neg (by decide), show (100 : Int32) = nI 100 from rfl, pk_div (by omega) (by omega) (by omega), d10 _ (by omega)]
    rfl
  · rw [if_pos (by decide), if_pos (by decide), if_neg (by decide)]
    have e : nI c / 10 = nI (c / 10) := by rw [show (10 : Int32) = nI 10 from rfl, pk_div (by omega) (by omega) (by omega)]
    rw [e, d10 _ (by omega)]
    rfl
  · rw [if_pos (by decide), if_pos (by decide), if_pos (by decide), d10 _ hc]
    rfl
def wt (a c : Nat) : Bool := ((decide (dg a 0 ≤ dg c 0) && decide (dg a 1 ≤ dg c 1)) && decide (dg a 2 ≤ dg c 2)) && decide (dg a 3 ≤ dg c 3)
theorem wt_iff {a c : Nat} : wt a c = true ↔ le4 (dg a) (dg c) := by
  unfold wt
  simp only [Bool.and_eq_true, decide_eq_true_eq]
  constructor
  · rintro ⟨⟨⟨h0, h1⟩, h2⟩, h3⟩ k hk
    rcases k_4 hk with rfl | rfl | rfl | rfl <;> assumption
  · intro h
    exact ⟨⟨⟨h 0 (by omega), h 1 (by omega)⟩, h 2 (by omega)⟩, h 3 (by omega)⟩
theorem m_within {a c : Nat} (hu : 10 ≤ u) (ha : a < 10000) (hc : c < 10000) : F_Mo_isWithin u (nI a) (nI c) Y J = some (b2i (wt a c), Y, J) := by
  have step : ∀ (N k : Nat) (t : Bool), k < 4 → F_Mo_isWithin_4 u (N + 1) (nI a) (nI c) (b2i t) (nI k) Y J = F_Mo_isWithin_4 u N (nI a) (nI c) (b2i (t && decide (dg a k ≤ dg c k))) (nI (k + 1)) Y J := by
    intro N k t hk
    have h1 := dg_9 ha k hk
    have h2 := dg_9 hc k hk
    rw [F_Mo_isWithin_4, show (4 : Int32) = nI 4 from rfl, if_neg (by rw [nI_leI (by omega) (by omega)]; omega), nI_io1, nI_add]
    cases t with
    | false => rw [if_pos (by decide)]; rfl
    | true =>
      rw [if_neg (by decide), m_digit ha hk, bd_s, m_digit hc hk, bd_s]
      by_cases q : dg a k ≤ dg c k
      · rw [if_neg (by rw [nI_ltI (by omega) (by omega)]; omega), decide_eq_true q]
        rfl
      · rw [if_pos (by rw [nI_ltI (by omega) (by omega)]; omega), decide_eq_false q]
        rfl
  obtain ⟨N, rfl⟩ : ∃ z, u = z + 5 := ⟨u - 5, by omega⟩
  unfold F_Mo_isWithin
  refine ((step (N + 4) 0 true (by omega)).trans ((step (N + 3) 1 _ (by omega)).trans ((step (N + 2) 2 _ (by omega)).trans (step (N + 1) 3 _ (by omega))))).trans ?_
  rw [F_Mo_isWithin_4, if_pos (by decide), if_pos b2i_01]
  rfl
/-- what the model has taken -/
def MA (Kn R K : Nat) (wid w : Nat → Nat) (Y : pm_II) : Prop := (Y 120 12 = nI R ∧ Y 120 13 = nI Kn ∧ Y 120 14 = nI K ∧ K ≤ 4) ∧ (∀ k, k < K → Y 123 k = nI (wid k)) ∧ (∀ k, K ≤ k → k < 4 → wid k = 0) ∧ ∀ k, k < 4 → Y 124 k = nI (w k)
theorem MA.on {Kn R K : Nat} {wid w : Nat → Nat} {X Y : pm_II} {S : Nat → Nat → Prop} (h : MA Kn R K wid w X) (o : On S X Y) (h1 : ∀ k, k < 15 → ¬ S 120 k) (h2 : ∀ k, ¬ S 123 k) (h3 : ∀ k, ¬ S 124 k) : MA Kn R K wid w Y := ⟨⟨by rw [o _ _ (h1 12 (by omega))]; exact h.1.1, by rw [o _ _ (h1 13 (by omega))]; exact h.1.2.1, by rw [o _ _ (h1 14 (by omega))]; exact h.1.2.2.1, h.1.2.2.2⟩, fun k hk => by rw [o _ _ (h2 k)]; exact h.2.1 k hk, h.2.2.1, fun k hk => by rw [o _ _ (h3 k)]; exact h.2.2.2 k hk⟩
/-- a pattern, as a number -/
def patb (Kn R : Nat) (wid : Nat → Nat) (p a : Nat) : Bool := wt p a && (decide (0 < s4 (dg p)) && (decide (s4 (dg p) ≤ Kn) && decide (w4 wid (dg p) ≤ R)))
theorem pat_iff {Kn R : Nat} {wid : Nat → Nat} {p a : Nat} : patb Kn R wid p a = true ↔ le4 (dg p) (dg a) ∧ 0 < s4 (dg p) ∧ okp Kn R wid (dg p) := by
  unfold patb okp
  rw [Bool.and_eq_true, wt_iff]
  simp
theorem m_pattern {Kn R K p a : Nat} {wid w : Nat → Nat} (hu : 10 ≤ u) (hp : p < 10000) (ha : a < 10000) (hK6 : Kn ≤ 6) (hR : R ≤ 400) (hw : ∀ k, k < 4 → wid k ≤ R) (h : MA Kn R K wid w Y) : F_Mo_isPattern u (nI p) (nI a) Y J = some (b2i (patb Kn R wid p a), Y, J) := by
  obtain ⟨⟨h1, h2, h3, h4⟩, h5, h6, h7⟩ := h
  have step : ∀ (N k s t : Nat), k < 4 → F_Mo_isPattern_8 u (N + 1) (nI p) (nI a) (nI s) (nI t) (nI k) Y J = if dg p k ≤ dg a k then F_Mo_isPattern_8 u N (nI p) (nI a) (nI (s + dg p k)) (nI (t + dg p k * wid k)) (nI (k + 1)) Y J else some (0, Y, J) := by
    intro N k s t hk
    have d1 := dg_9 hp k hk
    have d2 := dg_9 ha k hk
    rw [F_Mo_isPattern_8, show (4 : Int32) = nI 4 from rfl, if_neg (by rw [nI_leI (by omega) (by omega)]; omega), m_digit hp hk, bd_s, m_digit ha hk, bd_s]
    by_cases c : dg p k ≤ dg a k
    · rw [if_pos (by rw [nI_leI (by omega) (by omega)]; exact c), if_pos c, m_digit hp hk, bd_s, h3, nI_add]
      by_cases c2 : k < K
      · rw [if_neg (by rw [nI_leI (by omega) (by omega)]; omega), m_digit hp hk, bd_s, vqT hk (by omega), nI_clamp (by omega), h5 k c2, pk_mul, nI_add, nI_io1, nI_add]
        rfl
      · rw [if_pos (by rw [nI_leI (by omega) (by omega)]; omega), h6 k (by omega) hk, Nat.mul_zero, show (0 : Int32) = nI 0 from rfl, nI_add, nI_io1, nI_add]
    · rw [if_neg (by rw [nI_leI (by omega) (by omega)]; exact c), if_neg c]
  obtain ⟨N, rfl⟩ : ∃ z, u = z + 5 := ⟨u - 5, by omega⟩
  unfold F_Mo_isPattern
  have s0 := step (N + 4) 0 0 0 (by omega)
  have s1 := step (N + 3) 1 (0 + dg p 0) (0 + dg p 0 * wid 0) (by omega)
  have s2 := step (N + 2) 2 (0 + dg p 0 + dg p 1) (0 + dg p 0 * wid 0 + dg p 1 * wid 1) (by omega)
  have s3 := step (N + 1) 3 (0 + dg p 0 + dg p 1 + dg p 2) (0 + dg p 0 * wid 0 + dg p 1 * wid 1 + dg p 2 * wid 2) (by omega)
  have z0 : F_Mo_isPattern_8 (N + 5) (N + 5) (nI p) (nI a) 0 0 0 Y J = F_Mo_isPattern_8 (N + 5) (N + 4 + 1) (nI p) (nI a) (nI 0) (nI 0) (nI 0) Y J := rfl
  rw [z0, s0]
  unfold patb wt
  by_cases c0 : dg p 0 ≤ dg a 0
  · rw [if_pos c0, decide_eq_true c0, s1]
    by_cases c1 : dg p 1 ≤ dg a 1
    · rw [if_pos c1, decide_eq_true c1, s2]
      by_cases c2 : dg p 2 ≤ dg a 2
      · rw [if_pos c2, decide_eq_true c2, s3]
        by_cases c3 : dg p 3 ≤ dg a 3
        · rw [if_pos c3, decide_eq_true c3]
          have es : 0 + dg p 0 + dg p 1 + dg p 2 + dg p 3 = s4 (dg p) := by unfold s4; omega
          have ew : 0 + dg p 0 * wid 0 + dg p 1 * wid 1 + dg p 2 * wid 2 + dg p 3 * wid 3 = w4 wid (dg p) := by unfold w4; omega
          have hsl : s4 (dg p) ≤ 36 := by
            have := dg_9 hp 0 (by omega)
            have := dg_9 hp 1 (by omega)
            have := dg_9 hp 2 (by omega)
            have := dg_9 hp 3 (by omega)
            unfold s4
            omega
          have hwl : w4 wid (dg p) ≤ 14400 := by
            have m : ∀ k, k < 4 → dg p k * wid k ≤ 9 * 400 := fun k hk => Nat.mul_le_mul (dg_9 hp k hk) (Nat.le_trans (hw k hk) hR)
            have := m 0 (by omega)
            have := m 1 (by omega)
            have := m 2 (by omega)
            have := m 3 (by omega)
            unfold w4
            omega
          rw [es, ew, F_Mo_isPattern_8, if_pos (by decide), h1, h2]
          by_cases b1 : 0 < s4 (dg p)
          · rw [if_neg (by rw [← nI_0, nI_leI (by omega) (by omega)]; omega), decide_eq_true b1]
            by_cases b2 : s4 (dg p) ≤ Kn
            · rw [if_neg (by rw [nI_ltI (by omega) (by omega)]; omega), decide_eq_true b2]
              by_cases b3 : w4 wid (dg p) ≤ R
              · rw [if_neg (by rw [nI_ltI (by omega) (by omega)]; omega), decide_eq_true b3]
                rfl
              · rw [if_pos (by rw [nI_ltI (by omega) (by omega)]; omega), decide_eq_false b3]
                rfl
            · rw [if_pos (by rw [nI_ltI (by omega) (by omega)]; omega), decide_eq_false b2]
              rfl
          · rw [if_pos (by rw [← nI_0, nI_leI (by omega) (by omega)]; omega), decide_eq_false b1]
            rfl
        · rw [if_neg c3, decide_eq_false c3]
          rfl
      · rw [if_neg c2, decide_eq_false c2]
        rfl
    · rw [if_neg c1, decide_eq_false c1]
      rfl
  · rw [if_neg c0, decide_eq_false c0]
    rfl
end Dig
