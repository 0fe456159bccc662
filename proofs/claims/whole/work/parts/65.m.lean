/-! ===== settled ===== -/
def tr (s k : Nat) : Nat → Nat × Nat × Nat
  | 0 => (0, 0, 0)
  | n + 1 => (ikA (tr s k n).1 (tr s k n).2.1 k, ikC (tr s k n).1 (tr s k n).2.1 k s, ikT (tr s k n).1 (tr s k n).2.1 k s)
theorem ik_mono {A B k A2 B2 k2 s : Nat} (hA : A ≤ A2) (hB : B ≤ B2) (hk : k ≤ k2) (hs : s ≤ 64) : ikA A B k ≤ ikA A2 B2 k2 ∧ ikC A B k s ≤ ikC A2 B2 k2 s ∧ ikT A B k s ≤ ikT A2 B2 k2 s := by
  have h1 : ikB A B k ≤ ikB A2 B2 k2 := by unfold ikB; omega
  have h2 : ikT A B k s ≤ ikT A2 B2 k2 s := by
    unfold ikT
    exact Nat.div_le_div_right (Nat.mul_le_mul_right _ h1)
  refine ⟨by unfold ikA ikB; omega, ?_, h2⟩
  unfold ikC ikT
  obtain ⟨d, hd⟩ : ∃ d, ikB A2 B2 k2 = ikB A B k + d := ⟨ikB A2 B2 k2 - ikB A B k, by omega⟩
  rw [hd, Nat.add_mul]
  have : d * s ≤ d * 64 := Nat.mul_le_mul_left _ hs
  omega
theorem tr_mono {s k k2 : Nat} (hk : k ≤ k2) (hs : s ≤ 64) : ∀ n, (tr s k n).1 ≤ (tr s k2 n).1 ∧ (tr s k n).2.1 ≤ (tr s k2 n).2.1 ∧ (tr s k n).2.2 ≤ (tr s k2 n).2.2
  | 0 => ⟨Nat.le_refl _, Nat.le_refl _, Nat.le_refl _⟩
  | n + 1 => by
    have := tr_mono hk hs n
    exact ik_mono this.1 this.2.1 hk hs
theorem tr_le {s k : Nat} (hk : k ≤ 255) (hs : s ≤ 64) : ∀ n, (tr s k n).1 + (tr s k n).2.1 ≤ 4080 * n ∧ (tr s k n).2.2 ≤ 4080 * n
  | 0 => ⟨Nat.le_refl _, Nat.le_refl _⟩
  | n + 1 => by
    have h := tr_le hk hs n
    obtain ⟨l1, l2, l3⟩ := ik_le (A := (tr s k n).1) (B := (tr s k n).2.1) (k := k) hs
    show ikA (tr s k n).1 (tr s k n).2.1 k + ikC (tr s k n).1 (tr s k n).2.1 k s ≤ 4080 * (n + 1) ∧ ikT (tr s k n).1 (tr s k n).2.1 k s ≤ 4080 * (n + 1)
    omega
section Settled
variable {u : Nat} {I : pm_II} {J : pm_JJ}
theorem c_tr16 {s k : Nat} (hk : k ≤ 255) (hs : s ≤ 64) : ∀ (e n N P : Nat) (I : pm_II), n + e = 40 → e < N → P ≤ 4080 * n * n → I 40 8 = nI k → I 42 8 = nI s → I 43 8 = nI (tr s k n).1 → I 44 8 = nI (tr s k n).2.1 → I 45 8 = nI (tr s k n).2.2 → I 46 8 = nI P → ∃ I2, F_Pr_trialDensity_16 u N (nI n) I J = some (nI (tr s k 40).2.2, I2, J) ∧ On (fun c j => (43 ≤ c ∧ c ≤ 46) ∧ j = 8) I I2 := by
  intro e
  induction e with
  | zero =>
    intro n N P I hn hN hP h40 h42 h43 h44 h45 h46
    obtain ⟨N, rfl⟩ : ∃ z, N = z + 1 := ⟨N - 1, by omega⟩
    have : n = 40 := by omega
    subst this
    refine ⟨I, ?_, On.refl _⟩
    rw [F_Pr_trialDensity_16, if_pos (by decide), h45]
  | succ e ih =>
    intro n N P I hn hN hP h40 h42 h43 h44 h45 h46
    obtain ⟨N, rfl⟩ : ∃ z, N = z + 1 := ⟨N - 1, by omega⟩
    have hb := tr_le hk hs n
    obtain ⟨I1, e1, e2, e3, e4, e5, e6⟩ := c_ink (u := u) (J := J) (show 8 < 9 by omega) h43 h44 h40 h42 h46 hs (by omega)
    have l2 := tr_le hk hs (n + 1)
    have hPn : P + ikT (tr s k n).1 (tr s k n).2.1 k s ≤ 4080 * (n + 1) * (n + 1) := by
      have h5 : ikT (tr s k n).1 (tr s k n).2.1 k s ≤ 4080 * (n + 1) := l2.2
      have h6 : 4080 * (n + 1) * (n + 1) = 4080 * (n + 1) * n + 4080 * (n + 1) := Nat.mul_succ _ _
      have h7 : 4080 * n * n ≤ 4080 * (n + 1) * n := Nat.mul_le_mul_right _ (by omega)
      omega
    obtain ⟨I2, i1, i2⟩ := ih (n + 1) N _ I1 (by omega) (by omega) hPn (by rw [e6 40 8 (by omega)]; exact h40) (by rw [e6 42 8 (by omega)]; exact h42) e2 e3 e4 e5
    refine ⟨I2, ?_, e6.trans i2⟩
    have e8 : F_Pr_ink u (8 : Int32) I J = F_Pr_ink u (nI 8) I J := rfl
    rw [F_Pr_trialDensity_16, nl_40, if_neg (by rw [nI_leI (by omega) (by omega)]; omega), e8, e1, bd_s, nI_io1, nI_add]
    exact i1
theorem c_trial {s k : Nat} (hu : 100 ≤ u) (hk : k ≤ 255) (hs : s ≤ 64) (h42 : I 42 8 = nI s) : ∃ I2, F_Pr_trialDensity u (nI k) I J = some (nI (tr s k 40).2.2, I2, J) ∧ On (fun c j => (c = 40 ∨ (43 ≤ c ∧ c ≤ 46)) ∧ j = 8) I I2 := by
  unfold F_Pr_trialDensity F_Pr_cleanFilms
  have v8 : vq (8 : Int32) 9 = true := by decide
  have c8 : (8 : Int32).toNatClampNeg = 8 := by decide
  rw [v8, c8]
  simp only [cond_true, bd_s]
  obtain ⟨I2, i1, i2⟩ := c_tr16 (u := u) (J := J) hk hs 40 0 u 0 (pm_up (pm_up (pm_up (pm_up (pm_up I 40 8 (nI k)) 43 8 0) 44 8 0) 45 8 0) 46 8 0) (by omega) (by omega) (by omega) rfl h42 rfl rfl rfl rfl
  refine ⟨I2, i1, On.trans ?_ (i2.mono (fun c j hc => by omega))⟩
  refine On.up (On.up (On.up (On.up (On.up (On.refl _) ?_) ?_) ?_) ?_) ?_ <;> omega
def fst (aim s v : Nat) : Prop := v ≤ 255 ∧ (∀ k, k < v → (tr s k 40).2.2 < aim) ∧ (v = 255 ∨ aim ≤ (tr s v 40).2.2)
theorem fst_u {aim s v w : Nat} (h : fst aim s v) (h2 : fst aim s w) : v = w := by
  obtain ⟨a1, a2, a3⟩ := h
  obtain ⟨b1, b2, b3⟩ := h2
  by_cases c : v < w
  · have := b2 v c
    rcases a3 with q | q <;> omega
  · by_cases c2 : w < v
    · have := a2 w c2
      rcases b3 with q | q <;> omega
    · omega
theorem c_set47 {s aim : Nat} (hu : 100 ≤ u) (hs : s ≤ 64) (ha : aim ≤ 4000) : ∀ (e h N lo hi : Nat) (I : pm_II), h + e = 8 → e < N → lo ≤ hi → hi ≤ 255 → hi - lo < 2 ^ e → (∀ k, k < lo → (tr s k 40).2.2 < aim) → (hi = 255 ∨ aim ≤ (tr s hi 40).2.2) → I 42 8 = nI s → I 39 9 = nI aim → ∃ v I2, fst aim s v ∧ F_Pr_settledKey_47 u N (nI lo) (nI hi) (nI h) I J = some (nI v, I2, J) ∧ On (fun c j => (c = 40 ∨ (43 ≤ c ∧ c ≤ 46)) ∧ j = 8) I I2 := by
  intro e
  induction e with
  | zero =>
    intro h N lo hi I hh hN hl hh2 hw h1 h2 h42 h39
    obtain ⟨N, rfl⟩ : ∃ z, N = z + 1 := ⟨N - 1, by omega⟩
    have e1 : hi = lo := by omega
    subst e1
    refine ⟨hi, I, ⟨hh2, h1, h2⟩, ?_, On.refl _⟩
    rw [F_Pr_settledKey_47, nl_8, if_pos (by rw [nI_leI (by omega) (by omega)]; omega)]; rfl
  | succ e ih =>
    intro h N lo hi I hh hN hl hh2 hw h1 h2 h42 h39
    obtain ⟨N, rfl⟩ : ∃ z, N = z + 1 := ⟨N - 1, by omega⟩
    rw [F_Pr_settledKey_47, nl_8, if_neg (by rw [nI_leI (by omega) (by omega)]; omega)]
    by_cases q : hi ≤ lo
    · have e1 : hi = lo := by omega
      subst e1
      refine ⟨hi, I, ⟨hh2, h1, h2⟩, ?_, On.refl _⟩
      rw [if_pos (by rw [nI_leI (by omega) (by omega)]; omega)]; rfl
    · obtain ⟨I1, e1, e2⟩ := c_trial (u := u) (J := J) (k := (lo + hi) / 2) hu (by omega) hs h42
      have hT := (tr_le (s := s) (k := (lo + hi) / 2) (by omega) hs 40).2
      have o42 : I1 42 8 = nI s := by rw [e2 42 8 (by omega)]; exact h42
      have o39 : I1 39 9 = nI aim := by rw [e2 39 9 (by omega)]; exact h39
      rw [if_neg (by rw [nI_leI (by omega) (by omega)]; omega), nI_add, nl_2, pk_div (by omega) (by omega) (by omega), e1, bd_s, o39, nI_1, nI_io1, nI_add]
      have hpw : 2 ^ (e + 1) = 2 * 2 ^ e := by rw [Nat.pow_succ]; omega
      by_cases g : (tr s ((lo + hi) / 2) 40).2.2 < aim
      · rw [if_pos (by rw [nI_ltI (by omega) (by omega)]; exact g)]
        obtain ⟨v, I2, a1, a2, a3⟩ := ih (h + 1) N ((lo + hi) / 2 + 1) hi I1 (by omega) (by omega) (by omega) hh2 (by omega) (fun k hk => by
          have := (tr_mono (s := s) (k := k) (k2 := (lo + hi) / 2) (by omega) hs 40).2.2
          omega) h2 o42 o39
        exact ⟨v, I2, a1, a2, e2.trans a3⟩
      · rw [if_neg (by rw [nI_ltI (by omega) (by omega)]; exact g)]
        obtain ⟨v, I2, a1, a2, a3⟩ := ih (h + 1) N lo ((lo + hi) / 2) I1 (by omega) (by omega) (by omega) (by omega) (by omega) h1 (Or.inr (by omega)) o42 o39
        exact ⟨v, I2, a1, a2, e2.trans a3⟩
theorem m_set45 {K : Int32 → Int32 → pm_II → pm_JJ → Option (Int32 × pm_II × pm_JJ)} {z k cov zr aim : Nat} (hz : z < 8) (h140 : I 140 z = nI cov) (h33 : I 120 33 = nI zr) (h34 : I 120 34 = nI aim) (ha : aim ≤ 4000) (hzr : 0 < zr) (hzr2 : zr ≤ 8) (hcov : cov < 2 ^ 20) (hs : cov / zr ≤ 64) (hk : k ≤ 255) : ∀ (e n N : Nat) (J : pm_JJ), n + e = 40 → e < N → J 120 46 = lN (tr (cov / zr) k n).1 → J 120 47 = lN (tr (cov / zr) k n).2.1 → ∃ J2, F_Mo_settled_45 u K N (nI z) (nI k) (lN (tr (cov / zr) k n).2.2) (nI n) I J = (if (tr (cov / zr) k 40).2.2 < aim then K (nI z) (nI (k + 1)) I J2 else some (nI k, I, J2)) ∧ On (fun c j => c = 120 ∧ (j = 46 ∨ j = 47)) J J2 := by
  intro e
  induction e with
  | zero =>
    intro n N J hn hN hA hB
    obtain ⟨N, rfl⟩ : ∃ z, N = z + 1 := ⟨N - 1, by omega⟩
    have : n = 40 := by omega
    subst this
    have hT := (tr_le (s := cov / zr) (k := k) (by omega) hs 40).2
    refine ⟨J, ?_, On.refl _⟩
    rw [F_Mo_settled_45, if_pos (by decide), h34, nI_l (by omega), nI_io1, nI_add]
    simp (disch := omega) only [lg_cmp_lt, lN_lt]
  | succ e ih =>
    intro n N J hn hN hA hB
    obtain ⟨N, rfl⟩ : ∃ z, N = z + 1 := ⟨N - 1, by omega⟩
    have hT := tr_le (s := cov / zr) (k := k) (by omega) hs n
    obtain ⟨J1, e1, e2, e3, e4⟩ := m_inked (u := u) (I := I) (J := J) (z := z) hz hA hB h140 h33 hzr hzr2 hcov hs hk (by omega)
    obtain ⟨J2, i1, i2⟩ := ih (n + 1) N J1 (by omega) (by omega) e2 e3
    refine ⟨J2, ?_, e4.trans i2⟩
    rw [F_Mo_settled_45, nl_40, if_neg (by rw [nI_leI (by omega) (by omega)]; omega), e1, bd_s, nI_io1, nI_add]
    rw [← i1, tr]
theorem m_set23 {z cov zr aim : Nat} (hu : 100 ≤ u) (hz : z < 8) (h140 : I 140 z = nI cov) (h33 : I 120 33 = nI zr) (h34 : I 120 34 = nI aim) (ha : aim ≤ 4000) (hzr : 0 < zr) (hzr2 : zr ≤ 8) (hcov : cov < 2 ^ 20) (hs : cov / zr ≤ 64) : ∀ (e k N : Nat) (J : pm_JJ), k + e = 256 → e < N → (∀ j, j < k → (tr (cov / zr) j 40).2.2 < aim) → ∃ v J2, fst aim (cov / zr) v ∧ F_Mo_settled_23 u N (nI z) (nI k) I J = some (nI v, I, J2) ∧ On (fun c j => c = 120 ∧ (j = 46 ∨ j = 47)) J J2 := by
  intro e
  induction e with
  | zero =>
    intro k N J hk hN h1
    obtain ⟨N, rfl⟩ : ∃ z, N = z + 1 := ⟨N - 1, by omega⟩
    have : k = 256 := by omega
    subst this
    refine ⟨255, J, ⟨by omega, fun j hj => h1 j (by omega), Or.inl rfl⟩, ?_, On.refl _⟩
    rw [F_Mo_settled_23, if_pos (by decide)]; rfl
  | succ e ih =>
    intro k N J hk hN h1
    obtain ⟨N, rfl⟩ : ∃ z, N = z + 1 := ⟨N - 1, by omega⟩
    rw [F_Mo_settled_23, nl_256, if_neg (by rw [nI_leI (by omega) (by omega)]; omega)]
    obtain ⟨J1, e1, e2⟩ := m_set45 (u := u) (K := F_Mo_settled_23 u N) (k := k) hz h140 h33 h34 ha hzr hzr2 hcov hs (by omega) 40 0 u (pm_up (pm_up J 120 46 (Int64.ofNat 0)) 120 47 (Int64.ofNat 0)) (by omega) (by omega) rfl rfl
    have o1 : On (fun c j => c = 120 ∧ (j = 46 ∨ j = 47)) J J1 := by
      refine On.trans ?_ e2
      refine On.up (On.up (On.refl _) ?_) ?_ <;> simp
    have e1' : F_Mo_settled_45 u (F_Mo_settled_23 u N) u (nI z) (nI k) (Int64.ofNat 0) 0 I (pm_up (pm_up J 120 46 (Int64.ofNat 0)) 120 47 (Int64.ofNat 0)) = (if (tr (cov / zr) k 40).2.2 < aim then F_Mo_settled_23 u N (nI z) (nI (k + 1)) I J1 else some (nI k, I, J1)) := e1
    rw [e1']
    by_cases g : (tr (cov / zr) k 40).2.2 < aim
    · rw [if_pos g]
      obtain ⟨v, J2, a1, a2, a3⟩ := ih (k + 1) N J1 (by omega) (by omega) (fun j hj => by
        by_cases q : j = k
        · rw [q]; exact g
        · exact h1 j (by omega))
      exact ⟨v, J2, a1, a2, o1.trans a3⟩
    · rw [if_neg g]
      exact ⟨k, J1, ⟨by omega, h1, Or.inr (by omega)⟩, rfl, o1⟩
theorem st_settled {x : Int32} (hu : 1000 ≤ u) (h : P4 I J) : St4 u (F_Pr_settledKey u x) (F_Mo_settled u x) I J := by
  have hP := h
  obtain ⟨Z, ZR, aim, tol, spo, key, cov, s, hb, hc, hm⟩ := h
  have hZ := hb.1.1
  have e1 : F_Pr_settledKey u x I J = cond (rng x Z) (cond (vq x 9) (if ¬ (I 41 (x.toNatClampNeg)) = 0 then (cond (vq x 9) (F_Pr_settledKey_47 u u (0 : Int32) (255 : Int32) (0 : Int32) (pm_up I 42 8 (I 42 (x.toNatClampNeg))) J) none) else (some ((0 : Int32), I, J))) none) (some (-1, I, J)) := by
    unfold F_Pr_settledKey
    rw [rng_if3, hc.1.1]; rfl
  have e2 : ∀ I1, QM Z ZR aim tol spo key cov s I1 J → F_Mo_settled u x I1 J = cond (rng x Z) (cond (vq x 8) (if ¬ (I1 140 (x.toNatClampNeg)) = 0 then (F_Mo_settled_23 u u x (0 : Int32) I1 J) else (some ((0 : Int32), I1, J))) none) (some (-1, I1, J)) := by
    intro I1 hM
    unfold F_Mo_settled
    rw [m_isZone hZ hM.1.1, bd_s, b2i_ifn]
  cases hx : rng x Z with
  | false =>
    rw [hx] at e1
    exact st4_same hP e1 (by rw [e2 I hm, hx]; rfl)
  | true =>
    obtain ⟨z, hz, rfl⟩ := rng_n (by omega) hx
    have hZR : 0 < ZR := hb.1.2.1 (by omega)
    have hZR8 := hb.1.2.2.1
    have hcv := hb.2.2.1 z hz
    have hs := dv64 hcv hZR
    have hcv2 : cov z < 2 ^ 20 := by
      have : 64 * ZR ≤ 64 * 8 := Nat.mul_le_mul_left _ hZR8
      omega
    rw [hx, nI_clamp (by omega), vqT (show z < 9 by omega) (by omega), (hc.2.2.1 z hz).1, (hc.2.2.1 z hz).2] at e1
    simp only [cond_true] at e1
    by_cases q : cov z = 0
    · have q' : ¬ ¬ nI (cov z) = 0 := by rw [i0_iff (by omega)]; omega
      rw [if_neg q'] at e1
      refine st4_same hP e1 ?_
      rw [e2 I hm, hx, nI_clamp (by omega), vqT (show z < 8 by omega) (by omega), hm.2.2.1 z hz]
      simp only [cond_true]
      rw [if_neg q']
    · have q' : ¬ nI (cov z) = 0 := by rw [i0_iff (by omega)]; omega
      rw [if_pos q'] at e1
      obtain ⟨v, I1, a1, a2, a3⟩ := c_set47 (u := u) (J := J) (s := cov z / ZR) (aim := aim) (by omega) hs hb.1.2.2.2.1 8 0 u 0 255 (pm_up I 42 8 (nI (cov z / ZR))) (by omega) (by omega) (by omega) (by omega) (by omega) (fun k hk => by omega) (Or.inl rfl) rfl hc.1.2.1
      have o1 : On (fun c j => (40 ≤ c ∧ c ≤ 46) ∧ j = 8) I I1 := (On.up (On.refl _) (by simp)).trans (a3.mono (fun c j hc => by omega))
      have hm1 : QM Z ZR aim tol spo key cov s I1 J := hm.on (o1.mono (fun c k z => by unfold cLo; omega))
      obtain ⟨w, J2, b1, b2, b3⟩ := m_set23 (u := u) (I := I1) (z := z) (cov := cov z) (zr := ZR) (aim := aim) (by omega) (by omega) (hm1.2.2.1 z hz) hm1.1.2.1 hm1.1.2.2.1 hb.1.2.2.2.1 hZR hZR8 hcv2 hs 256 0 u J (by omega) (by omega) (fun j hj => by omega)
      have hvw := fst_u a1 b1
      subst hvw
      have o2 : On k4 I I1 := o1.mono (fun c k hc => by unfold k4; omega)
      refine ⟨nI v, I1, I1, J2, e1.trans a2, ?_, ⟨Z, ZR, aim, tol, spo, key, cov, s, hb, ?_, ?_⟩, o2.fr (fun c k z => k4_own z), On.fr b3 (fun c k z => k4_own (by unfold k4; omega)), Ptape_k4 o2⟩
      · rw [e2 I1 hm1, hx, nI_clamp (by omega), vqT (show z < 8 by omega) (by omega), hm1.2.2.1 z hz]
        simp only [cond_true]
        rw [if_pos q']
        exact b2
      · obtain ⟨⟨h1, h2, h3, h4, h5, h6⟩, hk, hcc, hf, hbit⟩ := hc
        have e39 : ∀ k, I1 39 k = I 39 k := fun k => o1 39 k (by omega)
        refine ⟨⟨?_, ?_, ?_, ?_, ?_, ?_⟩, fun y hy => ?_, fun y hy => ?_, fun y hy => ?_, fun w i hw hi => ?_⟩
        · rw [e39]; exact h1
        · rw [e39]; exact h2
        · rw [e39]; exact h3
        · rw [e39]; exact h4
        · rw [e39]; exact h5
        · rw [e39]; exact h6
        · rw [o1 40 y (by omega)]; exact hk y hy
        · rw [o1 41 y (by omega), o1 42 y (by omega)]; exact hcc y hy
        · rw [o1 43 y (by omega), o1 44 y (by omega), o1 45 y (by omega), o1 46 y (by omega)]; exact hf y hy
        · rw [o1 47 w (by omega)]; exact hbit w i hw hi
      · obtain ⟨g1, g2, g3, g4, g5⟩ := hm1
        refine ⟨g1, g2, g3, fun y hy => ?_, g5⟩
        rw [b3 143 y (by omega), b3 144 y (by omega), b3 145 y (by omega)]
        exact g4 y hy
end Settled
