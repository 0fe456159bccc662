/-! ===== mount ===== -/
theorem cnt_add {f : Nat → Bool} : ∀ m n, cnt f (m + n) = cnt f m + cnt (fun i => f (m + i)) n
  | m, 0 => rfl
  | m, n + 1 => by
    rw [← Nat.add_assoc, cnt, cnt_add m n, cnt]
    omega
theorem cnt_0 {f : Nat → Bool} : ∀ n, (∀ i, i < n → f i = false) → cnt f n = 0
  | 0, _ => rfl
  | n + 1, h => by rw [cnt, cnt_0 n (fun i hi => h i (by omega)), h n (by omega)]; rfl
theorem Q2_c {I I1 : pm_II} {R C s wy cal : Nat} {lf sk : Nat → Nat} {tn tb : Nat → Bool} (h : Q2 R C s wy cal lf sk tn tb I) (o : ∀ c k, (29 ≤ c ∧ c ≤ 35) ∨ (132 ≤ c ∧ c ≤ 134) ∨ (c = 120 ∧ 18 ≤ k ∧ k ≤ 22) → I1 c k = I c k) : Q2 R C s wy cal lf sk tn tb I1 := by
  obtain ⟨a, ⟨b1, b2, b3, b4, b5⟩, ⟨c1, c2, c3, c4, c5⟩, d, e, f⟩ := h
  refine ⟨a, ⟨?_, ?_, ?_, ?_, ?_⟩, ⟨?_, ?_, ?_, ?_, ?_⟩, fun p hp => ?_, fun k hk => ?_, fun r c hr hc => ?_⟩
  · rw [o _ _ (by omega)]; exact b1
  · rw [o _ _ (by omega)]; exact b2
  · rw [o _ _ (by omega)]; exact b3
  · rw [o _ _ (by omega)]; exact b4
  · rw [o _ _ (by omega)]; exact b5
  · rw [o _ _ (by omega)]; exact c1
  · rw [o _ _ (by omega)]; exact c2
  · rw [o _ _ (by omega)]; exact c3
  · rw [o _ _ (by omega)]; exact c4
  · rw [o _ _ (by omega)]; exact c5
  · rw [o 33 _ (by omega), o 34 _ (by omega), o 35 _ (by omega)]; exact d p hp
  · rw [o 31 _ (by omega)]; exact e k hk
  · rw [o 132 _ (by omega), o 133 _ (by omega), o 134 _ (by omega)]; exact f r c hr hc
def tf (T : Nat → Int32) (R C s wy : Nat) (lf : Nat → Nat) (tn tb : Nat → Bool) (t d z i : Nat) : Bool := ink T (pgo R C s wy lf tn t d (i / 64 * C + colf C d z)) (tb (i / 64 * C + colf C d z)) (i % 8) (i % 64 / 8)
section Mount
variable {u : Nat} {I : pm_II} {J : pm_JJ} {R C s wy cal : Nat} {lf sk : Nat → Nat} {tn tb : Nat → Bool}
theorem c_io5 {pg : Nat} {dn : Bool} (hpg : pg < 32) : ∀ (d i N : Nat), i + d = 64 → d < N → F_Pl_inkedOf_5 u N (nI pg) (b2i dn) (nI (cnt (fun i => ink (I 37) pg dn (i % 8) (i / 8)) i)) (nI i) I J = some (nI (cnt (fun i => ink (I 37) pg dn (i % 8) (i / 8)) 64), I, J) := by
  intro d
  induction d with
  | zero =>
    intro i N hi hN
    obtain ⟨N, rfl⟩ : ∃ z, N = z + 1 := ⟨N - 1, by omega⟩
    have : i = 64 := by omega
    subst this
    rw [F_Pl_inkedOf_5, if_pos (by decide)]; rfl
  | succ d ih =>
    intro i N hi hN
    obtain ⟨N, rfl⟩ : ∃ z, N = z + 1 := ⟨N - 1, by omega⟩
    rw [F_Pl_inkedOf_5, nl_64, if_neg (by rw [nI_leI (by omega) (by omega)]; omega), nl_32, if_neg (by rw [nI_leI (by omega) (by omega)]; omega), nl_8, pk_rem (by omega) (by omega) (by omega), pk_div (by omega) (by omega) (by omega), c_inked (by omega) (by omega) (by omega), bd_s, b2i_if0, nI_io1, nI_add, nI_add]
    have := ih (i + 1) N (by omega) (by omega)
    rw [cnt] at this
    cases hk : ink (I 37) pg dn (i % 8) (i / 8)
    · rw [hk] at this; exact this
    · rw [hk] at this; exact this
theorem c_inkedOf {pg : Nat} {dn : Bool} (hu : 100 ≤ u) (hpg : pg < 2000) : F_Pl_inkedOf u (nI pg) (b2i dn) I J = some (nI (cnt (fun i => ink (I 37) pg dn (i % 8) (i / 8)) 64), I, J) := by
  unfold F_Pl_inkedOf
  by_cases c : pg < 32
  · exact c_io5 c 64 0 u (by omega) (by omega)
  · obtain ⟨N, rfl⟩ : ∃ z, u = z + 1 := ⟨u - 1, by omega⟩
    have e : F_Pl_inkedOf_5 (N + 1) (N + 1) (nI pg) (b2i dn) 0 0 I J = some (0, I, J) := by
      rw [F_Pl_inkedOf_5, if_neg (by decide), nl_32, if_pos (by rw [nI_leI (by omega) (by omega)]; omega)]; rfl
    rw [e, cnt_0 64 (fun i hi => by unfold ink; rw [decide_eq_false c]; rfl)]; rfl
theorem c_cov15 {t d z : Nat} (hu : 100 ≤ u) (h : Q2 R C s wy cal lf sk tn tb I) (ht : t < s) (hd : d ≤ 1) (hz : z < C) : ∀ (e r N : Nat), r + e = R → e < N → F_Pl_coverageOf_15 u N (nI t) (nI d) (nI (colf C d z)) (nI (cnt (tf (I 37) R C s wy lf tn tb t d z) (64 * r))) (nI r) I J = some (nI (cnt (tf (I 37) R C s wy lf tn tb t d z) (64 * R)), I, J) := by
  have b := h.1
  have hcl := colf_lt (d := d) hz
  intro e
  induction e with
  | zero =>
    intro r N hr hN
    obtain ⟨N, rfl⟩ : ∃ z, N = z + 1 := ⟨N - 1, by omega⟩
    have : r = R := by omega
    subst this
    rw [F_Pl_coverageOf_15]
    unfold F_Fo_rows
    rw [bd_s, h.2.1.1, if_pos (by rw [nI_leI (by omega) (by omega)]; omega)]
  | succ e ih =>
    intro r N hr hN
    obtain ⟨N, rfl⟩ : ∃ z, N = z + 1 := ⟨N - 1, by omega⟩
    have hrR : r < R := by omega
    rw [F_Pl_coverageOf_15]
    unfold F_Fo_rows
    rw [bd_s, h.2.1.1, if_neg (by rw [nI_leI (by omega) (by omega)]; omega), c_pageOn h ht hd hrR hcl, bd_s, c_upside h hrR hcl, bd_s, c_inkedOf hu (pgo_lt h ht (rc_lt hrR hcl)), bd_s, nI_add, nI_io1, nI_add]
    have e1 : cnt (tf (I 37) R C s wy lf tn tb t d z) (64 * r) + cnt (fun i => ink (I 37) (pgo R C s wy lf tn t d (r * C + colf C d z)) (tb (r * C + colf C d z)) (i % 8) (i / 8)) 64 = cnt (tf (I 37) R C s wy lf tn tb t d z) (64 * (r + 1)) := by
      rw [Nat.mul_succ, cnt_add]
      congr 1
      apply cnt_c
      intro i hi
      unfold tf
      have q1 : (64 * r + i) / 64 = r := by omega
      have q2 : (64 * r + i) % 8 = i % 8 := by omega
      have q3 : (64 * r + i) % 64 / 8 = i / 8 := by omega
      rw [q1, q2, q3]
    rw [e1]
    exact ih (r + 1) N (by omega) (by omega)
theorem c_coverage {t d z : Nat} (hu : 100 ≤ u) (h : Q2 R C s wy cal lf sk tn tb I) (ht : t < s) (hd : d ≤ 1) (hz : z < C) : F_Pl_coverageOf u (nI t) (nI d) (nI z) I J = some (nI (cnt (tf (I 37) R C s wy lf tn tb t d z) (64 * R)), I, J) := by
  unfold F_Pl_coverageOf
  rw [c_col h hd hz, bd_s]
  have b := h.1
  exact c_cov15 hu h ht hd hz R 0 u (by omega) (by omega)
theorem c_mount33 {t d : Nat} (hu : 100 ≤ u) (ht : t < s) (hd : d ≤ 1) (T : Nat → Int32) : ∀ (e z N : Nat) (I : pm_II), Q2 R C s wy cal lf sk tn tb I → I 37 = T → z + e = C → e < N → ∃ I2, F_Ph_mount_33 u N (nI t) (nI d) (nI C) (nI z) I J = some (nI C, I2, J) ∧ (∀ y, z ≤ y → y < C → I2 41 y = nI (cnt (tf T R C s wy lf tn tb t d y) (64 * R)) ∧ I2 42 y = nI (cnt (tf T R C s wy lf tn tb t d y) (64 * R) / R) ∧ I2 43 y = 0 ∧ I2 44 y = 0 ∧ I2 45 y = 0 ∧ I2 46 y = 0) ∧ On (fun c k => (41 ≤ c ∧ c ≤ 46) ∧ (z ≤ k ∧ k < C)) I I2 := by
  intro e
  induction e with
  | zero =>
    intro z N I h hT hz hN
    obtain ⟨N, rfl⟩ : ∃ w, N = w + 1 := ⟨N - 1, by omega⟩
    have b := h.1
    refine ⟨I, ?_, fun y a b => by omega, On.refl _⟩
    rw [F_Ph_mount_33, if_pos (by rw [nI_leI (by omega) (by omega)]; omega)]
  | succ e ih =>
    intro z N I h hT hz hN
    obtain ⟨N, rfl⟩ : ∃ w, N = w + 1 := ⟨N - 1, by omega⟩
    have b := h.1
    have hcz : cnt (tf T R C s wy lf tn tb t d z) (64 * R) ≤ 64 * R := cnt_le _
    generalize hcv : cnt (tf T R C s wy lf tn tb t d z) (64 * R) = cv at hcz
    generalize hI1 : (pm_up (pm_up (pm_up (pm_up (pm_up (pm_up I 41 z (nI cv)) 42 z (nI (cv / R))) 43 z 0) 44 z 0) 45 z 0) 46 z 0) = I1
    have o1 : On (fun c k => (41 ≤ c ∧ c ≤ 46) ∧ k = z) I I1 := by
      rw [← hI1]
      refine On.up (On.up (On.up (On.up (On.up (On.up (On.refl _) ?_) ?_) ?_) ?_) ?_) ?_ <;> simp
    obtain ⟨I2, i1, i2, i3⟩ := ih (z + 1) N I1 (Q2_c h (fun c k hc => o1 c k (by omega))) (by rw [← hT]; funext k; exact o1 37 k (by omega)) (by omega) (by omega)
    refine ⟨I2, ?_, fun y a b => ?_, (o1.mono (fun c k hc => by omega)).trans (i3.mono (fun c k hc => by omega))⟩
    · rw [F_Ph_mount_33, if_neg (by rw [nI_leI (by omega) (by omega)]; omega), c_coverage hu h ht hd (by omega), bd_s, hT, hcv]
      unfold F_Fo_rows
      rw [bd_s, h.2.1.1]
      unfold F_Pr_cover F_Pr_cover_35 F_Pr_cleanFilms
      rw [if_neg (nI_pos (by omega)), nl_8, if_neg (by rw [nI_leI (by omega) (by omega)]; omega), nl_0, if_neg (by rw [nI_leI (by omega) (by omega)]; omega), if_pos (by rw [nI_eq (by omega) (by omega)]; omega), pk_div (by omega) (by omega) (by omega), vqT (show z < 9 by omega) (by omega), nI_clamp (by omega)]
      simp only [cond_true, bd_s]
      rw [← nl_0, hI1, nI_io1, nI_add]
      exact i1
    · by_cases q : y = z
      · subst q
        rw [i3 41 y (by omega), i3 42 y (by omega), i3 43 y (by omega), i3 44 y (by omega), i3 45 y (by omega), i3 46 y (by omega), hcv, ← hI1]
        simp [ur]
      · exact i2 y (by omega) b
theorem c_clear22 : ∀ (e k N : Nat) (g : Nat → Int32), k + e = 126 → e < N → F_Pr_clear_22 u N (nI k) (sr I 47 (zr g k)) J = some ((), sr I 47 (zr g 126), J) := by
  intro e
  induction e with
  | zero =>
    intro k N g hk hN
    obtain ⟨N, rfl⟩ : ∃ w, N = w + 1 := ⟨N - 1, by omega⟩
    have : k = 126 := by omega
    subst this
    rw [F_Pr_clear_22, ofN, if_pos (by decide)]
  | succ e ih =>
    intro k N g hk hN
    obtain ⟨N, rfl⟩ : ∃ w, N = w + 1 := ⟨N - 1, by omega⟩
    rw [F_Pr_clear_22, ofN, if_neg (by rw [nI_leI (by omega) (by omega)]; omega), vqT (show k < 126 by omega) (by omega), cond_true, nI_clamp (by omega), sr_up, zr_s, nI_io1, nI_add]
    exact ih (k + 1) N g (by omega) (by omega)
/-- the model: a row of points of a zone -/
theorem m_m103 {K39 : Int32 → Int32 → Int32 → pm_II → pm_JJ → Option (Int32 × pm_II × pm_JJ)} {K85 : Int32 → Int32 → Int32 → Int32 → pm_II → pm_JJ → Option (Int32 × pm_II × pm_JJ)} {t d z y : Nat} (h : Q2 R C s wy cal lf sk tn tb I) (h3 : P3 I) (ht : t < s) (hd : d ≤ 1) (hz : z < C) (hy : y < 8 * R) : ∀ (e j N : Nat), j + e = 8 → e < N → F_Mo_mount_103 u K39 K85 N (nI t) (nI d) (nI z) (nI y) (nI (8 * z + j)) (pm_up I 140 z (nI (cnt (tf (I 37) R C s wy lf tn tb t d z) (8 * y + j)))) J = K85 (nI t) (nI d) (nI z) (nI (y + 1)) (pm_up I 140 z (nI (cnt (tf (I 37) R C s wy lf tn tb t d z) (8 * (y + 1))))) J := by
  have b := h.1
  intro e
  induction e with
  | zero =>
    intro j N hj hN
    obtain ⟨N, rfl⟩ : ∃ w, N = w + 1 := ⟨N - 1, by omega⟩
    have : j = 8 := by omega
    subst this
    rw [F_Mo_mount_103, nl_8, pk_mul, nI_add, if_pos (by rw [nI_leI (by omega) (by omega)]; omega), nI_io1, nI_add]
    rfl
  | succ e ih =>
    intro j N hj hN
    obtain ⟨N, rfl⟩ : ∃ w, N = w + 1 := ⟨N - 1, by omega⟩
    rw [F_Mo_mount_103, nl_8, pk_mul, nI_add, if_neg (by rw [nI_leI (by omega) (by omega)]; omega), vqT (show z < 8 by omega) (by omega), nI_clamp (by omega)]
    simp only [cond_true]
    have h' : Q2 R C s wy cal lf sk tn tb (pm_up I 140 z (nI (cnt (tf (I 37) R C s wy lf tn tb t d z) (8 * y + j)))) := h
    have h3' : P3 (pm_up I 140 z (nI (cnt (tf (I 37) R C s wy lf tn tb t d z) (8 * y + j)))) := h3
    rw [m_pointAt h' h3' ht hd (by omega) hy, bd_s]
    have q0 : (pm_up I 140 z (nI (cnt (tf (I 37) R C s wy lf tn tb t d z) (8 * y + j)))) 37 = I 37 := rfl
    have q1 : (8 * z + j) / 8 = z := by omega
    have q2 : (8 * z + j) % 8 = j := by omega
    rw [q0, q1, q2]
    have q3 : tf (I 37) R C s wy lf tn tb t d z (8 * y + j) = ink (I 37) (pgo R C s wy lf tn t d (y / 8 * C + colf C d z)) (tb (y / 8 * C + colf C d z)) j (y % 8) := by
      unfold tf
      have r1 : (8 * y + j) / 64 = y / 8 := by omega
      have r2 : (8 * y + j) % 8 = j := by omega
      have r3 : (8 * y + j) % 64 / 8 = y % 8 := by omega
      rw [r1, r2, r3]
    rw [← q3, nI_io1, nI_add]
    have q4 : pm_up (pm_up I 140 z (nI (cnt (tf (I 37) R C s wy lf tn tb t d z) (8 * y + j)))) 140 z ((pm_up I 140 z (nI (cnt (tf (I 37) R C s wy lf tn tb t d z) (8 * y + j)))) 140 z + b2i (tf (I 37) R C s wy lf tn tb t d z (8 * y + j))) = pm_up I 140 z (nI (cnt (tf (I 37) R C s wy lf tn tb t d z) (8 * y + (j + 1)))) := by
      rw [← Nat.add_assoc, cnt, ur, if_pos ⟨rfl, rfl⟩]
      have : b2i (tf (I 37) R C s wy lf tn tb t d z (8 * y + j)) = nI (tf (I 37) R C s wy lf tn tb t d z (8 * y + j)).toNat := by cases tf (I 37) R C s wy lf tn tb t d z (8 * y + j) <;> rfl
      rw [this, nI_add]
      funext c k
      simp only [ur]
      by_cases q : c = 140 ∧ k = z
      · rw [if_pos q, if_pos q]
      · rw [if_neg q, if_neg q, if_neg q]
    rw [q4]
    exact ih (j + 1) N (by omega) (by omega)
theorem m_m85 {K39 : Int32 → Int32 → Int32 → pm_II → pm_JJ → Option (Int32 × pm_II × pm_JJ)} {t d z : Nat} (hu : 100 ≤ u) (h : Q2 R C s wy cal lf sk tn tb I) (h3 : P3 I) (ht : t < s) (hd : d ≤ 1) (hz : z < C) : ∀ (e y N : Nat), y + e = 8 * R → e < N → F_Mo_mount_85 u K39 N (nI t) (nI d) (nI z) (nI y) (pm_up I 140 z (nI (cnt (tf (I 37) R C s wy lf tn tb t d z) (8 * y)))) J = K39 (nI t) (nI d) (nI (z + 1)) (pm_up I 140 z (nI (cnt (tf (I 37) R C s wy lf tn tb t d z) (64 * R)))) J := by
  have b := h.1
  intro e
  induction e with
  | zero =>
    intro y N hy hN
    obtain ⟨N, rfl⟩ : ∃ w, N = w + 1 := ⟨N - 1, by omega⟩
    have h18 : (pm_up I 140 z (nI (cnt (tf (I 37) R C s wy lf tn tb t d z) (8 * y)))) 120 18 = nI R := h.2.2.1.1
    rw [F_Mo_mount_85, h18, nl_8, pk_mul, if_pos (by rw [nI_leI (by omega) (by omega)]; omega), nI_io1, nI_add]
    have : 8 * y = 64 * R := by omega
    rw [this]
  | succ e ih =>
    intro y N hy hN
    obtain ⟨N, rfl⟩ : ∃ w, N = w + 1 := ⟨N - 1, by omega⟩
    have h18 : (pm_up I 140 z (nI (cnt (tf (I 37) R C s wy lf tn tb t d z) (8 * y)))) 120 18 = nI R := h.2.2.1.1
    rw [F_Mo_mount_85, h18, nl_8, pk_mul, if_neg (by rw [nI_leI (by omega) (by omega)]; omega), pk_mul]
    refine (m_m103 (u := u) h h3 ht hd hz (by omega) 8 0 u (by omega) (by omega)).trans ?_
    exact ih (y + 1) N (by omega) (by omega)
end Mount
