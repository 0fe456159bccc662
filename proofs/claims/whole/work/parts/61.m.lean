/-! ===== the press: key, aim, zone, print, good ===== -/
def P4 (I : pm_II) (J : pm_JJ) : Prop := ∃ Z ZR aim tol spo key cov s, QB Z ZR aim tol spo key cov s ∧ QC Z ZR aim tol spo key cov s I ∧ QM Z ZR aim tol spo key cov s I J
def cLo (c _k : Nat) : Prop := c < 120
def cHi (c _k : Nat) : Prop := 120 ≤ c
section Press
variable {u : Nat} {I : pm_II} {J : pm_JJ} {Z ZR aim tol spo : Nat} {key cov : Nat → Nat} {s : PS}
theorem QM.on {I1 : pm_II} (h : QM Z ZR aim tol spo key cov s I J) (o : On cLo I I1) : QM Z ZR aim tol spo key cov s I1 J := by
  have e : ∀ c k, 120 ≤ c → I1 c k = I c k := fun c k hc => o c k (fun z => by unfold cLo at z; omega)
  obtain ⟨⟨h1, h2, h3, h4, h5, h6, h7⟩, hk, hc, hf, hn⟩ := h
  refine ⟨⟨?_, ?_, ?_, ?_, ?_, ?_, ?_⟩, fun y hy => ?_, fun y hy => ?_, fun y hy => ?_, fun k a b => ?_⟩
  · rw [e _ _ (by omega)]; exact h1
  · rw [e _ _ (by omega)]; exact h2
  · rw [e _ _ (by omega)]; exact h3
  · rw [e _ _ (by omega)]; exact h4
  · rw [e _ _ (by omega)]; exact h5
  · rw [e _ _ (by omega)]; exact h6
  · rw [e _ _ (by omega)]; exact h7
  · rw [e _ _ (by omega)]; exact hk y hy
  · rw [e _ _ (by omega)]; exact hc y hy
  · rw [e _ _ (by omega)]; exact hf y hy
  · rw [e _ _ (by omega)]; exact hn k a b
theorem QC.on {I1 : pm_II} (h : QC Z ZR aim tol spo key cov s I) (o : On cHi I I1) : QC Z ZR aim tol spo key cov s I1 := by
  have e : ∀ c, c < 120 → I1 c = I c := fun c hc => funext fun k => o c k (fun z => by unfold cHi at z; omega)
  unfold QC
  rw [e 39 (by omega), e 40 (by omega), e 41 (by omega), e 42 (by omega), e 43 (by omega), e 44 (by omega), e 45 (by omega), e 46 (by omega), e 47 (by omega)]
  exact h
theorem pr_loop {n x2 : Nat} (hu : 20 ≤ u) (hZ : 0 < Z) (hn : n ≤ 500) : ∀ (d k : Nat) (s : PS) (I : pm_II) (N N2 : Nat), k + d = n → d < N → d < N2 → s.2.2.2.2.2.1 + d ≤ 4000 → QB Z ZR aim tol spo key cov s → QC Z ZR aim tol spo key cov s I → ∃ s' I1, F_Pr_printMany_45 u N (nI n) (nI x2) (nI k) I J = some (nI s'.2.2.2.2.2.2 - nI x2, I1, J) ∧ QB Z ZR aim tol spo key cov s' ∧ QC Z ZR aim tol spo key cov s' I1 ∧ On (fun c _ => 39 ≤ c ∧ c ≤ 47) I I1 ∧ ∀ (M : pm_II) (JM : pm_JJ), QM Z ZR aim tol spo key cov s M JM → ∃ M1 J1, F_Mo_print_45 u N2 (nI n) (nI x2) (nI k) M JM = some (nI s'.2.2.2.2.2.2 - nI x2, M1, J1) ∧ QM Z ZR aim tol spo key cov s' M1 J1 ∧ On (fun c k => (c = 120 ∧ (k = 37 ∨ k = 38)) ∨ c = 141 ∨ c = 142) M M1 ∧ On (fun c k => (143 ≤ c ∧ c ≤ 145) ∨ (c = 120 ∧ (k = 46 ∨ k = 47))) JM J1 := by
  intro d
  induction d with
  | zero =>
    intro k s I N N2 hk hN hN2 hp hb hc
    obtain ⟨N, rfl⟩ : ∃ w, N = w + 1 := ⟨N - 1, by omega⟩
    obtain ⟨N2, rfl⟩ : ∃ w, N2 = w + 1 := ⟨N2 - 1, by omega⟩
    have c0 : nI n ≤ nI k := by rw [nI_leI (by omega) (by omega)]; omega
    refine ⟨s, I, ?_, hb, hc, On.refl _, fun M JM hM => ⟨M, JM, ?_, hM, On.refl _, On.refl _⟩⟩
    · rw [F_Pr_printMany_45, if_pos c0, hc.1.2.2.2.2.2]
    · rw [F_Mo_print_45, if_pos c0, hM.1.2.2.2.2.2.2]
  | succ d ih =>
    intro k s I N N2 hk hN hN2 hp hb hc
    obtain ⟨N, rfl⟩ : ∃ w, N = w + 1 := ⟨N - 1, by omega⟩
    obtain ⟨N2, rfl⟩ : ∃ w, N2 = w + 1 := ⟨N2 - 1, by omega⟩
    have c0 : ¬ nI n ≤ nI k := by rw [nI_leI (by omega) (by omega)]; omega
    obtain ⟨I1, e1, e2, e3⟩ := c_sheet (u := u) (J := J) hu hb hc hZ (by omega)
    obtain ⟨s', I2, i1, i2, i3, i4, i5⟩ := ih (k + 1) (nxt Z ZR aim tol spo key cov s) I1 N N2 (by omega) (by omega) (by omega) (by show s.2.2.2.2.2.1 + 1 + d ≤ 4000; omega) (QB_nxt hb hZ (by omega)) e2
    refine ⟨s', I2, ?_, i2, i3, e3.trans i4, fun M JM hM => ?_⟩
    · rw [F_Pr_printMany_45, if_neg c0, e1, bd_s, nI_io1, nI_add]; exact i1
    · obtain ⟨M1, J1, f1, f2, f3, f4⟩ := m_sheet (u := u) hu hb hM hZ (by omega)
      obtain ⟨M2, J2, g1, g2, g3, g4⟩ := i5 M1 J1 f2
      refine ⟨M2, J2, ?_, g2, f3.trans g3, f4.trans g4⟩
      rw [F_Mo_print_45, if_neg c0, f1, bd_s, nI_io1, nI_add]; exact g1
theorem cnt_mono {G H : Nat → Bool} {n : Nat} (h : ∀ k, k < n → G k = H k) : cnt G n ≤ cnt H (n + 1) := by
  rw [cnt, cnt_c n h]; omega
theorem gd_loop {n x2 : Nat} (hu : 20 ≤ u) (hZ : 0 < Z) (hn : n ≤ 200) (hx : x2 ≤ 4001) : ∀ (d k : Nat) (s : PS) (I : pm_II) (N N2 : Nat), k + d = 500 → d < N → d < N2 → x2 ≤ s.2.2.2.2.2.2 → QB Z ZR aim tol spo key cov s → QC Z ZR aim tol spo key cov s I → ∃ v s' I1, F_Pr_printTill_31 u N (nI n) (nI x2) (nI k) I J = some (v, I1, J) ∧ QB Z ZR aim tol spo key cov s' ∧ QC Z ZR aim tol spo key cov s' I1 ∧ On (fun c _ => 39 ≤ c ∧ c ≤ 47) I I1 ∧ ∀ (M : pm_II) (JM : pm_JJ), QM Z ZR aim tol spo key cov s M JM → ∃ M1 J1, F_Mo_good_30 u N2 (nI n) (nI x2) (nI k) M JM = some (v, M1, J1) ∧ QM Z ZR aim tol spo key cov s' M1 J1 ∧ On (fun c k => (c = 120 ∧ (k = 37 ∨ k = 38)) ∨ c = 141 ∨ c = 142) M M1 ∧ On (fun c k => (143 ≤ c ∧ c ≤ 145) ∨ (c = 120 ∧ (k = 46 ∨ k = 47))) JM J1 := by
  intro d
  induction d with
  | zero =>
    intro k s I N N2 hk hN hN2 hp hb hc
    obtain ⟨N, rfl⟩ : ∃ w, N = w + 1 := ⟨N - 1, by omega⟩
    obtain ⟨N2, rfl⟩ : ∃ w, N2 = w + 1 := ⟨N2 - 1, by omega⟩
    have c0 : (500 : Int32) ≤ nI k := by rw [nl_500, nI_leI (by omega) (by omega)]; omega
    refine ⟨nI k, s, I, ?_, hb, hc, On.refl _, fun M JM hM => ⟨M, JM, ?_, hM, On.refl _, On.refl _⟩⟩
    · rw [F_Pr_printTill_31, if_pos c0]; rfl
    · rw [F_Mo_good_30, if_pos c0]; rfl
  | succ d ih =>
    intro k s I N N2 hk hN hN2 hp hb hc
    obtain ⟨N, rfl⟩ : ∃ w, N = w + 1 := ⟨N - 1, by omega⟩
    obtain ⟨N2, rfl⟩ : ∃ w, N2 = w + 1 := ⟨N2 - 1, by omega⟩
    have c0 : ¬ (500 : Int32) ≤ nI k := by rw [nl_500, nI_leI (by omega) (by omega)]; omega
    have hpr := hb.2.2.2.1
    have hgd : s.2.2.2.2.2.2 ≤ 4001 := by
      have := cnt_le (G := s.2.2.2.2.1) (s.2.2.2.2.2.1 + 1)
      have := hb.2.2.2.2.2.1
      omega
    have c1 : ((4000 : Int32) ≤ nI s.2.2.2.2.2.1) ↔ 4000 ≤ s.2.2.2.2.2.1 := by rw [show (4000 : Int32) = nI 4000 from rfl, nI_leI (by omega) (by omega)]
    have c2 : (nI n ≤ nI s.2.2.2.2.2.2 - nI x2) ↔ n + x2 ≤ s.2.2.2.2.2.2 := by rw [pk_sub hp, nI_leI (by omega) (by omega)]; omega
    have c3 : (nI x2 + nI n ≤ nI s.2.2.2.2.2.2) ↔ n + x2 ≤ s.2.2.2.2.2.2 := by rw [nI_add, nI_leI (by omega) (by omega)]; omega
    have stop : (4000 ≤ s.2.2.2.2.2.1 ∨ n + x2 ≤ s.2.2.2.2.2.2) → ∃ v s' I1, F_Pr_printTill_31 u (N + 1) (nI n) (nI x2) (nI k) I J = some (v, I1, J) ∧ QB Z ZR aim tol spo key cov s' ∧ QC Z ZR aim tol spo key cov s' I1 ∧ On (fun c _ => 39 ≤ c ∧ c ≤ 47) I I1 ∧ ∀ (M : pm_II) (JM : pm_JJ), QM Z ZR aim tol spo key cov s M JM → ∃ M1 J1, F_Mo_good_30 u (N2 + 1) (nI n) (nI x2) (nI k) M JM = some (v, M1, J1) ∧ QM Z ZR aim tol spo key cov s' M1 J1 ∧ On (fun c k => (c = 120 ∧ (k = 37 ∨ k = 38)) ∨ c = 141 ∨ c = 142) M M1 ∧ On (fun c k => (143 ≤ c ∧ c ≤ 145) ∨ (c = 120 ∧ (k = 46 ∨ k = 47))) JM J1 := by
      intro hor
      refine ⟨nI k, s, I, ?_, hb, hc, On.refl _, fun M JM hM => ⟨M, JM, ?_, hM, On.refl _, On.refl _⟩⟩
      · rw [F_Pr_printTill_31, if_neg c0, hc.1.2.2.2.2.1, hc.1.2.2.2.2.2]
        simp only [c1, c2]
        unfold F_Pr_printTill_68
        rcases hor with q | q
        · rw [if_pos q]
        · rw [if_pos q, ite_self]
      · rw [F_Mo_good_30, if_neg c0, hM.1.2.2.2.2.2.1, hM.1.2.2.2.2.2.2]
        simp only [c1, c3]
        unfold F_Mo_good_68
        rcases hor with q | q
        · rw [if_pos q]
        · rw [if_pos q, ite_self]
    by_cases q1 : 4000 ≤ s.2.2.2.2.2.1
    · exact stop (Or.inl q1)
    · by_cases q2 : n + x2 ≤ s.2.2.2.2.2.2
      · exact stop (Or.inr q2)
      · obtain ⟨I1, e1, e2, e3⟩ := c_sheet (u := u) (J := J) hu hb hc hZ (by omega)
        obtain ⟨v, s', I2, i1, i2, i3, i4, i5⟩ := ih (k + 1) (nxt Z ZR aim tol spo key cov s) I1 N N2 (by omega) (by omega) (by omega) (by show x2 ≤ s.2.2.2.2.2.2 + _; omega) (QB_nxt hb hZ (by omega)) e2
        refine ⟨v, s', I2, ?_, i2, i3, e3.trans i4, fun M JM hM => ?_⟩
        · rw [F_Pr_printTill_31, if_neg c0, hc.1.2.2.2.2.1, hc.1.2.2.2.2.2]
          simp only [c1, c2]
          rw [if_neg q1, if_neg q2, e1, bd_s, nI_io1, nI_add]; exact i1
        · obtain ⟨M1, J1, f1, f2, f3, f4⟩ := m_sheet (u := u) hu hb hM hZ (by omega)
          obtain ⟨M2, J2, g1, g2, g3, g4⟩ := i5 M1 J1 f2
          refine ⟨M2, J2, ?_, g2, f3.trans g3, f4.trans g4⟩
          rw [F_Mo_good_30, if_neg c0, hM.1.2.2.2.2.2.1, hM.1.2.2.2.2.2.2]
          simp only [c1, c3]
          rw [if_neg q1, if_neg q2, f1, bd_s, nI_io1, nI_add]; exact g1
end Press
def St4 (u : Nat) (fc fm : pm_II → pm_JJ → Option (Int32 × pm_II × pm_JJ)) (I : pm_II) (J : pm_JJ) : Prop := ∃ v I1 I2 J2, fc I J = some (v, I1, J) ∧ fm I1 J = some (v, I2, J2) ∧ P4 I2 J2 ∧ Fr 4 I I2 ∧ Fr 4 J J2 ∧ (Ptape I → Ptape I2)
theorem Ptape.on {S : Nat → Nat → Prop} {I I2 : pm_II} (o : On S I I2) (h1 : ¬ S 17 1) (h2 : ¬ S 120 2) (h3 : ∀ j, ¬ S 18 j) (h4 : ∀ j, ¬ S 121 j) (h : Ptape I) : Ptape I2 := by
  obtain ⟨n, a, b, c, d, e⟩ := h
  refine ⟨n, a, by rw [o 17 1 h1]; exact b, by rw [o 120 2 h2]; exact c, fun j hj => by rw [o 18 j (h3 j), o 121 j (h4 j)]; exact d j hj, fun j hj => by rw [o 121 j (h4 j)]; exact e j hj⟩
def k4 (c k : Nat) : Prop := (39 ≤ c ∧ c ≤ 47) ∨ (139 ≤ c ∧ c ≤ 145) ∨ (c = 120 ∧ 32 ≤ k ∧ k ≤ 47)
theorem own120_4 : ∀ k, k < 48 → 32 ≤ k → own 120 k = 4 := by decide +kernel
theorem k4_own {c k : Nat} (h : k4 c k) : own c k = 0 ∨ own c k = 4 := by
  rcases h with h | h | ⟨rfl, h1, h2⟩
  · exact Or.inr (own4 (by omega))
  · exact Or.inr (own4 (by omega))
  · exact Or.inr (own120_4 k (by omega) h1)
theorem Ptape_k4 {I I2 : pm_II} (o : On k4 I I2) (h : Ptape I) : Ptape I2 := Ptape.on o (by unfold k4; omega) (by unfold k4; omega) (fun j => by unfold k4; omega) (fun j => by unfold k4; omega) h
section PressS
variable {u : Nat} {I : pm_II} {J : pm_JJ}
theorem st4_same {fc fm : pm_II → pm_JJ → Option (Int32 × pm_II × pm_JJ)} (h : P4 I J) {v : Int32} (h1 : fc I J = some (v, I, J)) (h2 : fm I J = some (v, I, J)) : St4 u fc fm I J := ⟨v, I, I, J, h1, h2, h, Fr.refl _ _, Fr.refl _ _, id⟩
theorem st_print {x : Int32} (hu : 1000 ≤ u) (h : P4 I J) : St4 u (F_Pr_printMany u x) (F_Mo_print u x) I J := by
  have hP := h
  obtain ⟨Z, ZR, aim, tol, spo, key, cov, s, hb, hc, hm⟩ := h
  have e1 : F_Pr_printMany u x I J = cond (rgb x 0 500) (if ¬ nI Z = 0 then (if nI s.2.2.2.2.2.1 + x ≤ 4000 then F_Pr_printMany_45 u u x (nI s.2.2.2.2.2.2) 0 I J else some (-4, I, J)) else some (-3, I, J)) (some (-1, I, J)) := by
    unfold F_Pr_printMany
    rw [rgb_if2, hc.1.1, hc.1.2.2.2.2.1, hc.1.2.2.2.2.2]
  have e2 : ∀ I1, QM Z ZR aim tol spo key cov s I1 J → F_Mo_print u x I1 J = cond (rgb x 0 500) (if ¬ nI Z = 0 then (if nI s.2.2.2.2.2.1 + x ≤ 4000 then F_Mo_print_45 u u x (nI s.2.2.2.2.2.2) 0 I1 J else some (-4, I1, J)) else some (-3, I1, J)) (some (-1, I1, J)) := by
    intro I1 hM
    unfold F_Mo_print
    rw [m_isB, bd_s, b2i_ifn, hM.1.1, hM.1.2.2.2.2.2.1, hM.1.2.2.2.2.2.2]
  have hpr := hb.2.2.2.1
  cases hx : rgb x 0 500 with
  | false =>
    rw [hx] at e1
    exact st4_same hP e1 (by rw [e2 I hm, hx]; rfl)
  | true =>
    obtain ⟨n, _, hn, rfl⟩ := rgb_n (lo := 0) (hi := 500) (by omega) (by omega) hx
    have hZ8 := hb.1.1
    by_cases q : Z = 0
    · have q' : ¬ ¬ nI Z = 0 := by rw [i0_iff (by omega)]; omega
      rw [hx, cond_true, if_neg q'] at e1
      exact st4_same hP e1 (by rw [e2 I hm, hx, cond_true, if_neg q'])
    · have q' : ¬ nI Z = 0 := by rw [i0_iff (by omega)]; omega
      by_cases q2 : s.2.2.2.2.2.1 + n ≤ 4000
      · have q3 : nI s.2.2.2.2.2.1 + nI n ≤ 4000 := by rw [nI_add, show (4000 : Int32) = nI 4000 from rfl, nI_leI (by omega) (by omega)]; exact q2
        rw [hx, cond_true, if_pos q', if_pos q3] at e1
        obtain ⟨s', I1, i1, i2, i3, i4, i5⟩ := pr_loop (u := u) (J := J) (n := n) (x2 := s.2.2.2.2.2.2) (by omega) (by omega) hn n 0 s I u u (by omega) (by omega) (by omega) q2 hb hc
        have hm1 : QM Z ZR aim tol spo key cov s I1 J := hm.on (i4.mono (fun c k z => by unfold cLo; omega))
        obtain ⟨M1, J1, g1, g2, g3, g4⟩ := i5 I1 J hm1
        have o2 : On k4 I M1 := (i4.mono (fun c k z => by unfold k4; omega)).trans (g3.mono (fun c k z => by unfold k4; omega))
        refine ⟨_, I1, M1, J1, e1.trans i1, ?_, ⟨Z, ZR, aim, tol, spo, key, cov, s', i2, i3.on (g3.mono (fun c k z => by unfold cHi; omega)), g2⟩, o2.fr (fun c k z => k4_own z), On.fr g4 (fun c k z => k4_own (by unfold k4; omega)), Ptape_k4 o2⟩
        rw [e2 I1 hm1, hx, cond_true, if_pos q', if_pos q3]
        exact g1
      · have q3 : ¬ nI s.2.2.2.2.2.1 + nI n ≤ 4000 := by rw [nI_add, show (4000 : Int32) = nI 4000 from rfl, nI_leI (by omega) (by omega)]; exact q2
        rw [hx, cond_true, if_pos q', if_neg q3] at e1
        exact st4_same hP e1 (by rw [e2 I hm, hx, cond_true, if_pos q', if_neg q3])
theorem st_good {x : Int32} (hu : 1000 ≤ u) (h : P4 I J) : St4 u (F_Pr_printTill u x) (F_Mo_good u x) I J := by
  have hP := h
  obtain ⟨Z, ZR, aim, tol, spo, key, cov, s, hb, hc, hm⟩ := h
  have e1 : F_Pr_printTill u x I J = cond (rgb x 1 200) (if ¬ nI Z = 0 then F_Pr_printTill_31 u u x (nI s.2.2.2.2.2.2) 0 I J else some (-3, I, J)) (some (-1, I, J)) := by
    unfold F_Pr_printTill
    rw [rgb_if2, hc.1.1, hc.1.2.2.2.2.2]
  have e2 : ∀ I1, QM Z ZR aim tol spo key cov s I1 J → F_Mo_good u x I1 J = cond (rgb x 1 200) (if ¬ nI Z = 0 then F_Mo_good_30 u u x (nI s.2.2.2.2.2.2) 0 I1 J else some (-3, I1, J)) (some (-1, I1, J)) := by
    intro I1 hM
    unfold F_Mo_good
    rw [m_isB, bd_s, b2i_ifn, hM.1.1, hM.1.2.2.2.2.2.2]
  have hgd : s.2.2.2.2.2.2 ≤ 4001 := by
    have := cnt_le (G := s.2.2.2.2.1) (s.2.2.2.2.2.1 + 1)
    have := hb.2.2.2.2.2.1
    have := hb.2.2.2.1
    omega
  cases hx : rgb x 1 200 with
  | false =>
    rw [hx] at e1
    exact st4_same hP e1 (by rw [e2 I hm, hx]; rfl)
  | true =>
    obtain ⟨n, _, hn, rfl⟩ := rgb_n (lo := 1) (hi := 200) (by omega) (by omega) hx
    have hZ8 := hb.1.1
    by_cases q : Z = 0
    · have q' : ¬ ¬ nI Z = 0 := by rw [i0_iff (by omega)]; omega
      rw [hx, cond_true, if_neg q'] at e1
      exact st4_same hP e1 (by rw [e2 I hm, hx, cond_true, if_neg q'])
    · have q' : ¬ nI Z = 0 := by rw [i0_iff (by omega)]; omega
      rw [hx, cond_true, if_pos q'] at e1
      obtain ⟨v, s', I1, i1, i2, i3, i4, i5⟩ := gd_loop (u := u) (J := J) (n := n) (x2 := s.2.2.2.2.2.2) (by omega) (by omega) hn hgd 500 0 s I u u (by omega) (by omega) (by omega) (by omega) hb hc
      have hm1 : QM Z ZR aim tol spo key cov s I1 J := hm.on (i4.mono (fun c k z => by unfold cLo; omega))
      obtain ⟨M1, J1, g1, g2, g3, g4⟩ := i5 I1 J hm1
      have o2 : On k4 I M1 := (i4.mono (fun c k z => by unfold k4; omega)).trans (g3.mono (fun c k z => by unfold k4; omega))
      refine ⟨_, I1, M1, J1, e1.trans i1, ?_, ⟨Z, ZR, aim, tol, spo, key, cov, s', i2, i3.on (g3.mono (fun c k z => by unfold cHi; omega)), g2⟩, o2.fr (fun c k z => k4_own z), On.fr g4 (fun c k z => k4_own (by unfold k4; omega)), Ptape_k4 o2⟩
      rw [e2 I1 hm1, hx, cond_true, if_pos q']
      exact g1
end PressS
