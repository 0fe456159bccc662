/-! ===== bundles: the model's order ===== -/
def rkl (s : LTt) (k : Nat) : Nat := rkn (lky s) s.1 (lky s k)
noncomputable def oL (s : LTt) (i : Nat) : Nat := Classical.epsilon (fun k => k < s.1 ∧ rkl s k = i)
noncomputable def gL (s : LTt) (i : Nat) : Nat := s.2.1 (oL s i)
section Ord
variable {u : Nat} {J : pm_JJ} {s : LTt}
theorem oL_h {i : Nat} (ho : okl s) (hi : i < s.1) : oL s i < s.1 ∧ rkl s (oL s i) = i := Classical.epsilon_spec (rk_sur ho.1 i hi)
theorem oL_r {k : Nat} (ho : okl s) (hk : k < s.1) : oL s (rkl s k) = k := by
  have hr : rkl s k < s.1 := rk_lt hk
  obtain ⟨h1, h2⟩ := oL_h ho hr
  exact rk_inj ho.1 _ _ h1 hk h2
theorem gL_lt {i : Nat} (ho : okl s) (hi : i < s.1) : gL s i < 100000 := ho.2 _ (oL_h ho hi).1
theorem gL_mo {p q : Nat} (ho : okl s) (h : p ≤ q) (hq : q < s.1) : gL s p ≤ gL s q := by
  obtain ⟨a1, a2⟩ := oL_h ho (show p < s.1 by omega)
  obtain ⟨b1, b2⟩ := oL_h ho hq
  unfold gL
  by_cases c : p = q
  · rw [c]; exact Nat.le_refl _
  · have h1 : lky s (oL s p) < lky s (oL s q) := (rk_iff (κ := lky s) (L := s.1) a1).mpr (by
      show rkl s (oL s p) < rkl s (oL s q)
      omega)
    rcases ky_lt.mp h1 with z | z
    · omega
    · omega
theorem LC_g {cm : Nat → Nat} {K : Nat} {I : pm_II} (ho : okl s) (h : LC s cm K I J) {p : Nat} (hp : p < s.1) : I 90 p = nI (gL s p) ∧ J 91 p = s.2.2 (oL s p) ∧ I 92 p = nI (cm (oL s p)) := by
  obtain ⟨a1, a2⟩ := oL_h ho hp
  obtain ⟨b1, b2, b3⟩ := h.2.2.2.2.2.2 _ a1
  have e : rkn (lky s) s.1 (lky s (oL s p)) = p := a2
  rw [e] at b1 b2 b3
  exact ⟨b1, b2, b3⟩
theorem m_ahead {j i : Nat} {I : pm_II} (ho : okl s) (hL : s.1 ≤ 120) (h : LM s I J) (hj : j < s.1) (hi : i < s.1) : F_Mo_isAhead u (nI j) (nI i) I J = some (b2i (decide (lky s j < lky s i)), I, J) := by
  have e2 : (lky s j < lky s i) ↔ (s.2.1 j < s.2.1 i ∨ (s.2.1 j = s.2.1 i ∧ s.2.2 j < s.2.2 i)) := ky_lt
  have c1 := ho.2 j hj
  have c2 := ho.2 i hi
  unfold F_Mo_isAhead
  rw [vqT (show j < 161 by omega) (by omega), vqT (show i < 161 by omega) (by omega), nI_clamp (by omega), nI_clamp (by omega), (h j hj).1, (h i hi).1, (h j hj).2, (h i hi).2]
  simp (disch := omega) only [cond_true, nI_ltI, nI_eq, lg_cmp_ge]
  by_cases q1 : s.2.1 j < s.2.1 i
  · rw [if_pos q1, decide_eq_true (e2.mpr (Or.inl q1))]; rfl
  · rw [if_neg q1]
    by_cases q2 : s.2.1 j = s.2.1 i
    · rw [if_neg (by simpa using q2)]
      by_cases q3 : s.2.2 i ≤ s.2.2 j
      · rw [if_pos q3, decide_eq_false]; rfl
        intro z
        rcases e2.mp z with z | z
        · omega
        · rw [Int64.lt_iff_toInt_lt] at z
          rw [Int64.le_iff_toInt_le] at q3
          omega
      · rw [if_neg q3, decide_eq_true]; rfl
        rw [Int64.le_iff_toInt_le] at q3
        exact e2.mpr (Or.inr ⟨q2, by rw [Int64.lt_iff_toInt_lt]; omega⟩)
    · rw [if_pos q2, decide_eq_false]; rfl
      intro z
      rcases e2.mp z with z | z
      · omega
      · exact q2 z.1
theorem m_b14 {i : Nat} {I : pm_II} {K2 : Int32 → pm_II → pm_JJ → Option (Unit × pm_II × pm_JJ)} (ho : okl s) (hL : s.1 ≤ 120) (h : LM s I J) (h73 : I 120 73 = nI s.1) (hi : i < s.1) : ∀ (d j N : Nat), j + d = s.1 → d < N → F_Mo_bundled_14 u K2 N (nI i) (nI (cnt (fun j => decide (lky s j < lky s i)) j)) (nI j) I J = K2 (nI (i + 1)) (pm_up (pm_up I 164 (rkl s i) (nI i)) 163 (rkl s i) (-1)) J := by
  have hr : rkl s i < s.1 := rk_lt hi
  intro d
  induction d with
  | zero =>
    intro j N hj hN
    obtain ⟨N, rfl⟩ : ∃ z, N = z + 1 := ⟨N - 1, by omega⟩
    have : j = s.1 := by omega
    subst this
    have e : cnt (fun j => decide (lky s j < lky s i)) s.1 = rkl s i := rfl
    rw [F_Mo_bundled_14, h73, if_pos (by rw [nI_leI (by omega) (by omega)]; omega), e, vqT (show rkl s i < 121 by omega) (by omega), nI_clamp (by omega), nI_io1, nI_add]
    rfl
  | succ d ih =>
    intro j N hj hN
    obtain ⟨N, rfl⟩ : ∃ z, N = z + 1 := ⟨N - 1, by omega⟩
    have hc : cnt (fun j => decide (lky s j < lky s i)) (j + 1) = cnt (fun j => decide (lky s j < lky s i)) j + (decide (lky s j < lky s i)).toNat := rfl
    rw [F_Mo_bundled_14, h73, if_neg (by rw [nI_leI (by omega) (by omega)]; omega), m_ahead ho hL h (by omega) hi, bd_s, b2i_if0]
    rw [← ih (j + 1) N (by omega) (by omega), hc]
    cases decide (lky s j < lky s i) with
    | false => rw [cond_false, nI_io1, nI_add, show (0 : Int32) = nI 0 from rfl, nI_add]; rfl
    | true => rw [cond_true, nI_io1, nI_add, nl_1, nI_add]; rfl
def kMO (c k : Nat) : Prop := kMB c k ∨ c = 164
theorem m_bundled {I : pm_II} {most least : Nat} (hu : 400 ≤ u) (ho : okl s) (hL : s.1 ≤ 120) (h1 : 1 ≤ least) (h2 : least ≤ most) (h30 : most ≤ 30) (h : LM s I J) (h73 : I 120 73 = nI s.1) (h75 : I 120 75 = nI least) (h76 : I 120 76 = nI most) : ∃ I2, F_Mo_bundled u I J = some ((), I2, J) ∧ MX s.1 (bun s.1 most least (gL s)) I2 ∧ wfM s.1 most least (gL s) (oL s) I2 ∧ On kMO I I2 := by
  have lp : ∀ (d i N : Nat) (I1 : pm_II), i + d = s.1 → d < N → On kMO I I1 → I1 120 77 = I 120 77 → (∀ k, k < i → I1 164 (rkl s k) = nI k ∧ I1 163 (rkl s k) = -1) → ∃ I2 N2, F_Mo_bundled_2 u N (nI i) I1 J = F_Mo_bundled_2 u (N2 + 1) (nI s.1) I2 J ∧ On kMO I I2 ∧ I2 120 77 = I 120 77 ∧ ∀ k, k < s.1 → I2 164 (rkl s k) = nI k ∧ I2 163 (rkl s k) = -1 := by
    intro d
    induction d with
    | zero =>
      intro i N I1 hi hN o1 h77 hr
      obtain ⟨N, rfl⟩ : ∃ z, N = z + 1 := ⟨N - 1, by omega⟩
      have : i = s.1 := by omega
      subst this
      exact ⟨I1, N, rfl, o1, h77, hr⟩
    | succ d ih =>
      intro i N I1 hi hN o1 h77 hr
      obtain ⟨N, rfl⟩ : ∃ z, N = z + 1 := ⟨N - 1, by omega⟩
      have hi1 : i < s.1 := by omega
      have o2 : On kMO I (pm_up (pm_up I1 164 (rkl s i) (nI i)) 163 (rkl s i) (-1)) := On.up (On.up o1 (by unfold kMO; omega)) (by unfold kMO kMB; omega)
      have hLM : LM s I1 J := fun k hk => by rw [o1 162 k (by unfold kMO kMB; omega)]; exact h k hk
      have h731 : I1 120 73 = nI s.1 := by rw [o1 120 73 (by unfold kMO kMB; omega)]; exact h73
      obtain ⟨I2, N2, a1, a2, a3, a4⟩ := ih (i + 1) N _ (by omega) (by omega) o2 (by rw [ur, if_neg (by omega), ur, if_neg (by omega)]; exact h77) (fun k hk => by
        by_cases c : k = i
        · subst c
          rw [ur, if_neg (by omega), ur, if_pos ⟨rfl, rfl⟩, ur, if_pos ⟨rfl, rfl⟩]
          exact ⟨rfl, rfl⟩
        · have hne : ¬ rkl s k = rkl s i := fun z => c (rk_inj ho.1 k i (by omega) hi1 z)
          rw [ur, if_neg (by omega), ur, if_neg (fun z => hne z.2), ur, if_neg (fun z => hne z.2), ur, if_neg (by omega)]
          exact hr k (by omega))
      refine ⟨I2, N2, ?_, a2, a3, a4⟩
      have e14 := m_b14 (u := u) (J := J) (i := i) (I := I1) (K2 := F_Mo_bundled_2 u N) ho hL hLM h731 hi1 s.1 0 u (by omega) (by omega)
      rw [F_Mo_bundled_2, h731, if_neg (by rw [nI_leI (by omega) (by omega)]; omega)]
      exact e14.trans a1
  obtain ⟨I1, N2, a1, a2, a3, a4⟩ := lp s.1 0 u I (by omega) (by omega) (On.refl _) rfl (fun k hk => absurd hk (Nat.not_lt_zero _))
  have h731 : I1 120 73 = nI s.1 := by rw [a2 120 73 (by unfold kMO kMB; omega)]; exact h73
  have hw : wfM s.1 most least (gL s) (oL s) I1 := by
    refine ⟨h731, fun p hp => ?_, by rw [a2 120 75 (by unfold kMO kMB; omega)]; exact h75, by rw [a2 120 76 (by unfold kMO kMB; omega)]; exact h76⟩
    obtain ⟨b1, b2⟩ := oL_h ho hp
    have := (a4 _ b1).1
    rw [b2] at this
    exact ⟨this, by omega, by rw [a2 162 _ (by unfold kMO kMB; omega)]; exact (h _ b1).1⟩
  obtain ⟨I2, c1, c2, c3, c4, _⟩ := m_stages (u := u) (J := J) hu hL h1 h2 h30 (fun p hp => gL_lt ho hp) (fun p q hpq hq => gL_mo ho hpq hq) hw (fun p hp => by
    obtain ⟨b1, b2⟩ := oL_h ho hp
    have := (a4 _ b1).2
    rw [b2] at this
    exact this)
  refine ⟨I2, ?_, c2, c3, a2.trans (On.mono c4 (fun c k z => Or.inl z))⟩
  have e0 : F_Mo_bundled u I J = F_Mo_bundled_2 u u (nI 0) I J := rfl
  rw [e0, a1, F_Mo_bundled_2, h731, if_pos (by rw [nI_leI (by omega) (by omega)]; omega)]
  exact c1
end Ord
/-- the mail: list and bundles of class and model -/
def Q7 (t : Nat) (s : LTt) (cm : Nat → Nat) (K most least : Nat) (I : pm_II) (J : pm_JJ) : Prop := (okl s ∧ K ≤ 40 * t ∧ 1 ≤ least ∧ least ≤ most ∧ most ≤ 30) ∧ LC s cm K I J ∧ LM s I J ∧ (I 95 5 = nI least ∧ I 95 6 = nI most) ∧ (¬ I 95 8 = 0 ∨ CX s.1 (bun s.1 most least (gL s)) I) ∧ MX s.1 (bun s.1 most least (gL s)) I ∧ wfM s.1 most least (gL s) (oL s) I
def P7 (t : Nat) (I : pm_II) (J : pm_JJ) : Prop := ∃ s cm K most least, Q7 t s cm K most least I J
theorem P7.mono {t t2 : Nat} {I : pm_II} {J : pm_JJ} (h : P7 t I J) (ht : t ≤ t2) : P7 t2 I J := by
  obtain ⟨s, cm, K, most, least, ⟨a1, a2, a3⟩, b⟩ := h
  exact ⟨s, cm, K, most, least, ⟨a1, by omega, a3⟩, b⟩
theorem Q7.wf {t : Nat} {s : LTt} {cm : Nat → Nat} {K most least : Nat} {I : pm_II} {J : pm_JJ} (h : Q7 t s cm K most least I J) : wfC s.1 most least (gL s) I := by
  obtain ⟨⟨a1, a2, a3⟩, b, c, d, e⟩ := h
  exact ⟨b.2.2.2.2.1, fun p hp => (LC_g a1 b hp).1, d.1, d.2⟩
