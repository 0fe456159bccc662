/-! ===== letters: the drafts ===== -/
def adk (s : LTt) (dc : Nat → Nat) (dm : Nat → Int64) : Nat → LTt
  | 0 => s
  | i + 1 => adl (adk s dc dm i) (dc i) (dm i)
section Drafts
variable {u : Nat} {s : LTt} {dc : Nat → Nat} {dm : Nat → Int64}
theorem okl_adk (ho : okl s) : ∀ i, (∀ j, j < i → dc j < 100000) → okl (adk s dc dm i)
  | 0, _ => ho
  | i + 1, h => okl_adl (okl_adk ho i (fun j hj => h j (by omega))) (h i (by omega))
theorem adk_mem : ∀ i (c : Nat) (m : Int64), inl (adk s dc dm i) c m = true ↔ inl s c m = true ∨ ∃ d, d < i ∧ dc d = c ∧ dm d = m
  | 0, c, m => ⟨fun h => Or.inl h, fun h => by
      rcases h with h | ⟨d, hd, _⟩
      · exact h
      · omega⟩
  | i + 1, c, m => by
    have ih := adk_mem i
    rw [adk]
    cases hi : inl (adk s dc dm i) (dc i) (dm i) with
    | true =>
      have e : adl (adk s dc dm i) (dc i) (dm i) = adk s dc dm i := by unfold adl; rw [hi]; rfl
      rw [e, ih c m]
      constructor
      · rintro (h | ⟨d, hd, e2⟩)
        · exact Or.inl h
        · exact Or.inr ⟨d, by omega, e2⟩
      · rintro (h | ⟨d, hd, e2⟩)
        · exact Or.inl h
        · by_cases q : d = i
          · subst q
            have := (ih (dc d) (dm d)).mp hi
            rw [e2.1, e2.2] at this
            exact this
          · exact Or.inr ⟨d, by omega, e2⟩
    | false =>
      obtain ⟨e1, e2, e3⟩ := lky_adl hi
      have key : inl (adl (adk s dc dm i) (dc i) (dm i)) c m = true ↔ inl (adk s dc dm i) c m = true ∨ (dc i = c ∧ dm i = m) := by
        unfold inl
        rw [decide_eq_true_eq, decide_eq_true_eq, e1]
        constructor
        · rintro ⟨j, hj, e⟩
          by_cases q : j = (adk s dc dm i).1
          · rw [q, e3] at e; exact Or.inr (ky_eq.mp e)
          · rw [e2 j (by omega)] at e; exact Or.inl ⟨j, by omega, e⟩
        · rintro (⟨j, hj, e⟩ | e)
          · exact ⟨j, by omega, by rw [e2 j hj]; exact e⟩
          · exact ⟨(adk s dc dm i).1, by omega, by rw [e3]; exact ky_eq.mpr e⟩
      rw [key, ih c m]
      constructor
      · rintro ((h | ⟨d, hd, e4⟩) | h)
        · exact Or.inl h
        · exact Or.inr ⟨d, by omega, e4⟩
        · exact Or.inr ⟨i, by omega, h⟩
      · rintro (h | ⟨d, hd, e4⟩)
        · exact Or.inl (Or.inl h)
        · by_cases q : d = i
          · subst q; exact Or.inr e4
          · exact Or.inl (Or.inr ⟨d, by omega, e4⟩)
theorem adk_s (i : Nat) : (adk s dc dm (i + 1)).1 = (adk s dc dm i).1 + (!inl (adk s dc dm i) (dc i) (dm i)).toNat := by
  rw [adk]
  cases hi : inl (adk s dc dm i) (dc i) (dm i) with
  | true =>
    have e : adl (adk s dc dm i) (dc i) (dm i) = adk s dc dm i := by unfold adl; rw [hi]; rfl
    rw [e]; rfl
  | false => rw [(lky_adl hi).1]; rfl
theorem adk_le (i : Nat) : s.1 ≤ (adk s dc dm i).1 ∧ (adk s dc dm i).1 ≤ s.1 + i := by
  induction i with
  | zero => exact ⟨Nat.le_refl _, Nat.le_refl _⟩
  | succ i ih =>
    rw [adk_s]
    cases inl (adk s dc dm i) (dc i) (dm i) <;> simp <;> omega
theorem adk_c {dc2 : Nat → Nat} {dm2 : Nat → Int64} : ∀ i, (∀ j, j < i → dc j = dc2 j ∧ dm j = dm2 j) → adk s dc dm i = adk s dc2 dm2 i
  | 0, _ => rfl
  | i + 1, h => by rw [adk, adk, adk_c i (fun j hj => h j (by omega)), (h i (by omega)).1, (h i (by omega)).2]
def DR (k : Nat) (dc : Nat → Nat) (dm : Nat → Int64) (I : pm_II) (J : pm_JJ) : Prop := k ≤ 40 ∧ I 89 5 = nI k ∧ ∀ j, j < k → I 93 j = nI (dc j) ∧ J 94 j = dm j ∧ dc j < 100000
theorem l_ahead {I : pm_II} {J : pm_JJ} {k i : Nat} (hd : DR k dc dm I J) (hi : i < k) : ∀ (d j N : Nat), j + d = i → d < N → (∀ x, x < j → ¬ (dc x = dc i ∧ dm x = dm i)) → ∃ g : Bool, F_Ma_standsAhead_2 u N (nI i) (nI j) I J = some (b2i g, I, J) ∧ (g = true ↔ ∃ x, x < i ∧ dc x = dc i ∧ dm x = dm i) := by
  have h40 := hd.1
  obtain ⟨b1, b2, b3⟩ := hd.2.2 i hi
  intro d
  induction d with
  | zero =>
    intro j N hj hN hno
    obtain ⟨N, rfl⟩ : ∃ z, N = z + 1 := ⟨N - 1, by omega⟩
    refine ⟨false, ?_, ⟨(fun z => by cases z), fun ⟨x, hx, e⟩ => absurd e (hno x (by omega))⟩⟩
    rw [F_Ma_standsAhead_2, if_pos (by rw [nI_leI (by omega) (by omega)]; omega)]; rfl
  | succ d ih =>
    intro j N hj hN hno
    obtain ⟨N, rfl⟩ : ∃ z, N = z + 1 := ⟨N - 1, by omega⟩
    obtain ⟨a1, a2, a3⟩ := hd.2.2 j (by omega)
    rw [F_Ma_standsAhead_2, if_neg (by rw [nI_leI (by omega) (by omega)]; omega), vqT (show j < 40 by omega) (by omega), vqT (show i < 40 by omega) (by omega), nI_clamp (by omega), nI_clamp (by omega), a1, b1, a2, b2]
    simp (disch := omega) only [cond_true, nI_eq, lg_cmp_eq, nI_io1, nI_add]
    by_cases z : dc j = dc i ∧ dm j = dm i
    · rw [if_neg (by simpa using z.1), if_neg (by simpa using z.2)]
      exact ⟨true, rfl, ⟨fun _ => ⟨j, by omega, z⟩, fun _ => rfl⟩⟩
    · have go := ih (j + 1) N (by omega) (by omega) (fun x hx => by
        by_cases q : x = j
        · subst q; exact z
        · exact hno x (by omega))
      by_cases z1 : dc j = dc i
      · rw [if_neg (by simpa using z1), if_pos (fun y => z ⟨z1, y⟩)]; exact go
      · rw [if_pos z1]; exact go
theorem l_new {I : pm_II} {J : pm_JJ} {cm : Nat → Nat} {K k : Nat} (hu : 200 ≤ u) (ho : okl s) (h : LC s cm K I J) (hd : DR k dc dm I J) : ∀ (d i N : Nat), i + d = k → d < N → F_Ma_newcomers_4 u N (nI ((adk s dc dm i).1 - s.1)) (nI i) I J = some (nI ((adk s dc dm k).1 - s.1), I, J) := by
  have h40 := hd.1
  intro d
  induction d with
  | zero =>
    intro i N hi hN
    obtain ⟨N, rfl⟩ : ∃ z, N = z + 1 := ⟨N - 1, by omega⟩
    have : i = k := by omega
    subst this
    rw [F_Ma_newcomers_4, hd.2.1, if_pos (by rw [nI_leI (by omega) (by omega)]; omega)]; rfl
  | succ d ih =>
    intro i N hi hN
    obtain ⟨N, rfl⟩ : ∃ z, N = z + 1 := ⟨N - 1, by omega⟩
    obtain ⟨a1, a2, a3⟩ := hd.2.2 i (by omega)
    obtain ⟨g, g1, g2⟩ := l_ahead (u := u) hd (show i < k by omega) i 0 u (by omega) (by omega) (fun x hx => by omega)
    have g1' : F_Ma_standsAhead u (nI i) I J = some (b2i g, I, J) := g1
    have hle := adk_le (s := s) (dc := dc) (dm := dm) i
    have ih' := ih (i + 1) N (by omega) (by omega)
    rw [adk_s] at ih'
    rw [F_Ma_newcomers_4, hd.2.1, if_neg (by rw [nI_leI (by omega) (by omega)]; omega), nl_40, if_neg (by rw [nI_leI (by omega) (by omega)]; omega), vqT (show i < 40 by omega) (by omega), nI_clamp (by omega), a1, a2]
    simp only [cond_true]
    rw [l_isThere hu ho h a3, bd_s, b2i_ifn, g1', bd_s, b2i_ifn, nI_io1, nI_add, nI_add]
    have hm := adk_mem (s := s) (dc := dc) (dm := dm) i (dc i) (dm i)
    cases h1 : inl s (dc i) (dm i) with
    | true =>
      rw [hm.mpr (Or.inl h1)] at ih'
      exact ih'
    | false =>
      cases hg : g with
      | true =>
        rw [hm.mpr (Or.inr (g2.mp hg))] at ih'
        exact ih'
      | false =>
        have : inl (adk s dc dm i) (dc i) (dm i) = false := by
          cases hh : inl (adk s dc dm i) (dc i) (dm i) with
          | false => rfl
          | true =>
            rcases hm.mp hh with q | q
            · rw [h1] at q; cases q
            · rw [g2.mpr q] at hg; cases hg
        rw [this] at ih'
        have e : (adk s dc dm i).1 + (!false).toNat - s.1 = (adk s dc dm i).1 - s.1 + 1 := by show (adk s dc dm i).1 + 1 - s.1 = _; omega
        rw [e] at ih'
        exact ih'
theorem l_ins {cm : Nat → Nat} {K0 k : Nat} (hu : 200 ≤ u) (ho : okl s) (hL : (adk s dc dm k).1 ≤ 120) (hK0 : K0 + k < 2 ^ 20) : ∀ (d i N K : Nat) (cm : Nat → Nat) (I : pm_II) (J : pm_JJ), i + d = k → d < N → K ≤ K0 + i → DR k dc dm I J → LC (adk s dc dm i) cm K I J → ∃ I2 J2 cm2 K2, F_Ma_takeText_101 u N (nI i) I J = some (nI (adk s dc dm k).1, I2, J2) ∧ LC (adk s dc dm k) cm2 K2 I2 J2 ∧ K2 ≤ K0 + k ∧ On kLI I I2 ∧ On kLJ J J2 := by
  intro d
  induction d with
  | zero =>
    intro i N K cm I J hi hN hK hd hc
    obtain ⟨N, rfl⟩ : ∃ z, N = z + 1 := ⟨N - 1, by omega⟩
    have : i = k := by omega
    subst this
    have h40 := hd.1
    refine ⟨I, J, cm, K, ?_, hc, hK, On.refl _, On.refl _⟩
    rw [F_Ma_takeText_101, hd.2.1, if_pos (by rw [nI_leI (by omega) (by omega)]; omega), hc.2.2.2.2.1]
  | succ d ih =>
    intro i N K cm I J hi hN hK hd hc
    obtain ⟨N, rfl⟩ : ∃ z, N = z + 1 := ⟨N - 1, by omega⟩
    have h40 := hd.1
    obtain ⟨a1, a2, a3⟩ := hd.2.2 i (by omega)
    have hok := okl_adk (dc := dc) (dm := dm) ho i (fun j hj => (hd.2.2 j (by omega)).2.2)
    have hL1 : (adk s dc dm (i + 1)).1 ≤ 120 := by
      have : (adk s dc dm (i + 1)).1 ≤ (adk s dc dm k).1 := by
        have mono : ∀ e, (adk s dc dm (i + 1)).1 ≤ (adk s dc dm (i + 1 + e)).1 := by
          intro e
          induction e with
          | zero => exact Nat.le_refl _
          | succ e ih2 =>
            have h := adk_s (s := s) (dc := dc) (dm := dm) (i + 1 + e)
            rw [← Nat.add_assoc]; omega
        have := mono d
        rw [show i + 1 + d = k by omega] at this
        exact this
      omega
    obtain ⟨I1, J1, cm1, K1, e1, e2, e3, e4, e5⟩ := l_insert (u := u) hu hok hc a3 hL1 (by omega)
    have hd1 : DR k dc dm I1 J1 := ⟨hd.1, by rw [e4 89 5 (by unfold kLI; omega)]; exact hd.2.1, fun j hj => by rw [e4 93 j (by unfold kLI; omega), e5 94 j (by unfold kLJ; omega)]; exact hd.2.2 j hj⟩
    obtain ⟨I2, J2, cm2, K2, f1, f2, f3, f4, f5⟩ := ih (i + 1) N K1 cm1 I1 J1 (by omega) (by omega) (by omega) hd1 e2
    refine ⟨I2, J2, cm2, K2, ?_, f2, f3, e4.trans f4, e5.trans f5⟩
    rw [F_Ma_takeText_101, hd.2.1, if_neg (by rw [nI_leI (by omega) (by omega)]; omega), vqT (show i < 40 by omega) (by omega), nI_clamp (by omega), a1, a2]
    simp only [cond_true]
    rw [e1, bd_s, nI_io1, nI_add]
    exact f1
end Drafts
