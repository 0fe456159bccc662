/-! ===== fold: the text ===== -/
theorem gR_c {L L2 : Nat → Int32} {R : Nat} : ∀ k, (∀ j, j < k → L j = L2 j) → gR L R k = gR L2 R k
  | 0, _ => rfl
  | k + 1, h => by rw [gR, gR, gR_c k (fun j hj => h j (by omega)), h k (by omega)]
theorem gC_c {L L2 : Nat → Int32} {C : Nat} : ∀ k, (∀ j, j < k → L j = L2 j) → gC L C k = gC L2 C k
  | 0, _ => rfl
  | k + 1, h => by rw [gC, gC, gC_c k (fun j hj => h j (by omega)), h k (by omega)]
def VLs (L : Nat → Int32) (R C k a b : Nat) : Prop := (∀ j, j < k → (L j = 108 ∨ L j = 114 ∨ L j = 116 ∨ L j = 98) ∧ okf (crb (L j)) (gR L R j) (gC L C j)) ∧ gR L R k = 2 ^ a ∧ gC L C k = 2 ^ b
theorem VLs_c {L L2 : Nat → Int32} {R C k a b : Nat} (h : VLs L R C k a b) (e : ∀ j, j < k → L j = L2 j) : VLs L2 R C k a b := by
  refine ⟨fun j hj => ?_, by rw [← gR_c k e]; exact h.2.1, by rw [← gC_c k e]; exact h.2.2⟩
  rw [← e j hj, ← gR_c j (fun i hi => e i (by omega)), ← gC_c j (fun i hi => e i (by omega))]
  exact h.1 j hj
theorem VLs_s {L : Nat → Int32} {R C k a b : Nat} {x : Int32} (h : VLs L R C k a b) (hx : (x = 108 ∨ x = 114) ∧ 1 ≤ b ∨ (x = 116 ∨ x = 98) ∧ 1 ≤ a) : VLs (fun j => if j = k then x else L j) R C (k + 1) (if crb x = true then a else a - 1) (if crb x = true then b - 1 else b) := by
  have e : ∀ j, j < k → L j = (fun j => if j = k then x else L j) j := fun j hj => by dsimp only; rw [if_neg (by omega)]
  have h1 := VLs_c h e
  have g1 := h1.2.1
  have g2 := h1.2.2
  have ex : (fun j => if j = k then x else L j) k = x := by dsimp only; rw [if_pos rfl]
  generalize (fun j => if j = k then x else L j) = L2 at *
  have hh : ∀ q, 1 ≤ q → 2 ^ q = 2 * (2 ^ q / 2) ∧ 2 ^ q / 2 = 2 ^ (q - 1) ∧ 1 ≤ 2 ^ q / 2 := by
    intro q hq
    obtain ⟨z, rfl⟩ : ∃ z, q = z + 1 := ⟨q - 1, by omega⟩
    have hp : 0 < 2 ^ z := Nat.pow_pos (by omega)
    rw [Nat.pow_succ, Nat.add_sub_cancel]
    omega
  have hok : okf (crb x) (gR L2 R k) (gC L2 C k) := by
    rw [g1, g2]
    rcases hx with ⟨hx, hb⟩ | ⟨hx, ha⟩
    · have : crb x = true := by unfold crb; rw [decide_eq_true]; exact hx
      rw [this]
      exact ⟨fun _ => ⟨(hh b hb).1, (hh b hb).2.2⟩, fun z => by cases z⟩
    · have : crb x = false := by unfold crb; rw [decide_eq_false]; rcases hx with rfl | rfl <;> decide
      rw [this]
      exact ⟨(fun z => by cases z), fun _ => ⟨(hh a ha).1, (hh a ha).2.2⟩⟩
  refine ⟨fun j hj => ?_, ?_, ?_⟩
  · by_cases c : j = k
    · subst c
      rw [ex]
      refine ⟨?_, hok⟩
      rcases hx with ⟨hx, _⟩ | ⟨hx, _⟩
      · rcases hx with q | q
        · exact Or.inl q
        · exact Or.inr (Or.inl q)
      · exact Or.inr (Or.inr hx)
    · exact h1.1 j (by omega)
  · rw [gR, ex, g1]
    unfold ngr
    rcases hx with ⟨hx, hb⟩ | ⟨hx, ha⟩
    · have : crb x = true := by unfold crb; rw [decide_eq_true]; exact hx
      rw [this]; rfl
    · have : crb x = false := by unfold crb; rw [decide_eq_false]; rcases hx with rfl | rfl <;> decide
      rw [this]
      exact (hh a ha).2.1
  · rw [gC, ex, g2]
    unfold ngc
    rcases hx with ⟨hx, hb⟩ | ⟨hx, ha⟩
    · have : crb x = true := by unfold crb; rw [decide_eq_true]; exact hx
      rw [this]
      exact (hh b hb).2.1
    · have : crb x = false := by unfold crb; rw [decide_eq_false]; rcases hx with rfl | rfl <;> decide
      rw [this]; rfl
section FT
variable {u : Nat} {J : pm_JJ} {b : Nat → Int32} {n : Nat}
theorem t_takesL {I : pm_II} {p f : Nat} (hp : p ≤ n) (hb : Tb b n I) (hx : p < n) : F_Ta_takes u (b p) (tc I p f none) J = some (1, tc I (p + 1) f none, J) := by
  rw [t_takes (Ok_0 hp) hb]
  have : q_tk b n p none (b p) = true := by unfold q_tk; rw [decide_eq_true]; exact ⟨rfl, hx, rfl⟩
  rw [this]; rfl
theorem fl_loop {R C : Nat} (hu : 100 ≤ u) : ∀ (d a c k p f N N2 A B : Nat) (I : pm_II), a + c = d → A + B = k + d → k + d ≤ 6 → d + 1 < N → d + 2 < N2 → Tb b n I → p ≤ n → VLs (I 30) R C k a c → ∃ I1 k1 pp ff ee, Ok n pp ee ∧ F_Fo_readFolds_9 u N (nI A) (nI B) (nI a) (nI c) (nI k) (tc I p f none) J = some (nI k1, tc I1 pp ff ee, J) ∧ On (fun c _ => c = 30) I I1 ∧ (ee = none → k1 = k + d ∧ VLs (I1 30) R C (k + d) 0 0) ∧ ∀ (M : pm_II) (x1 x2 : Int32), Mb b n M → (∀ j, j < k → I 30 j = M 135 j) → ∃ M1 p3 k2, Om n p3 ee ∧ (ee = none → p3 = pp ∧ k2 = k + d ∧ ∀ j, j < k + d → I1 30 j = M1 135 j) ∧ On (fun c _ => c = 135) M M1 ∧ F_Mo_fold_102 u N2 x1 x2 (nI c) (nI a) (nI k) (mc M p none) J = F_Mo_fold_238 u x1 x2 (nI k2) (mc M1 p3 ee) J := by
  intro d
  induction d with
  | zero =>
    intro a c k p f N N2 A B I hac hAB hk6 hN hN2 hb hp hv
    obtain ⟨N, rfl⟩ : ∃ z, N = z + 1 := ⟨N - 1, by omega⟩
    obtain ⟨N2, rfl⟩ : ∃ z, N2 = z + 1 := ⟨N2 - 1, by omega⟩
    have ha0 : a = 0 := by omega
    have hc0 : c = 0 := by omega
    subst ha0 hc0
    refine ⟨I, k, p, f, none, Ok_0 hp, ?_, On.refl _, fun _ => ⟨rfl, hv⟩, fun M x1 x2 hM hR => ⟨M, p, k, (Ok_0 hp).m, fun _ => ⟨rfl, rfl, hR⟩, On.refl _, ?_⟩⟩
    · rw [F_Fo_readFolds_9, nI_add, if_pos (show nI (A + B) ≤ nI k by rw [nI_leI (by omega) (by omega)]; omega), ite_self]; rfl
    · rw [F_Mo_fold_102, m_bad0 (Ok_0 hp).m hM, bd_s, if_neg (by decide), if_pos (by decide)]
  | succ d ih =>
    intro a c k p f N N2 A B I hac hAB hk6 hN hN2 hb hp hv
    obtain ⟨N, rfl⟩ : ∃ z, N = z + 1 := ⟨N - 1, by omega⟩
    obtain ⟨N2, rfl⟩ : ∃ z, N2 = z + 1 := ⟨N2 - 1, by omega⟩
    have hn := hb.2.2
    have ho : Ok n p none := Ok_0 hp
    have la : (nI a ≤ (0 : Int32)) ↔ a = 0 := by rw [nl_0, nI_leI (by omega) (by omega)]; omega
    have lc : (nI c ≤ (0 : Int32)) ↔ c = 0 := by rw [nl_0, nI_leI (by omega) (by omega)]; omega
    have hcls : F_Fo_readFolds_9 u (N + 1) (nI A) (nI B) (nI a) (nI c) (nI k) (tc I p f none) J = bd (F_Fo_isAcross u (h_re b n p) (tc I p f none) J) fun r39 I39 J39 => if r39 = 0 then F_Fo_readFolds_56 u (F_Fo_readFolds_9 u N) (nI A) (nI B) (nI a) (nI c) (nI k) (h_re b n p) I39 J39 else if nI c ≤ 0 then F_Fo_readFolds_56 u (F_Fo_readFolds_9 u N) (nI A) (nI B) (nI a) (nI c) (nI k) (h_re b n p) I39 J39 else F_Fo_readFolds_83 u (F_Fo_readFolds_9 u N) (nI A) (nI B) (nI a) (nI c + Int32.ofInt (-1)) (nI k) (h_re b n p) I39 J39 := by
      rw [F_Fo_readFolds_9, show (6 : Int32) = nI 6 from rfl, if_neg (by rw [nI_leI (by omega) (by omega)]; omega), nI_add, if_neg (by rw [nI_leI (by omega) (by omega)]; omega), t_ir0 ho hb, bd_s, if_neg (by decide), t_next ho hb, bd_s, h_re_q]
    have hmdl : ∀ (M : pm_II) (x1 x2 : Int32), Mb b n M → F_Mo_fold_102 u (N2 + 1) x1 x2 (nI c) (nI a) (nI k) (mc M p none) J = if h_re b n p = 108 then F_Mo_fold_136 u (F_Mo_fold_102 u N2) x1 x2 (nI c) (nI a) (nI k) (h_re b n p) (mc M p none) J else if ¬ h_re b n p = 114 then (if h_re b n p = 116 then F_Mo_fold_162 u (F_Mo_fold_102 u N2) x1 x2 (nI c) (nI a) (nI k) (h_re b n p) (mc M p none) J else if ¬ h_re b n p = 98 then F_Mo_fold_172 u (F_Mo_fold_102 u N2) x1 x2 (nI c) (nI a) (nI k) (h_re b n p) 0 (mc M p none) J else F_Mo_fold_162 u (F_Mo_fold_102 u N2) x1 x2 (nI c) (nI a) (nI k) (h_re b n p) (mc M p none) J) else F_Mo_fold_136 u (F_Mo_fold_102 u N2) x1 x2 (nI c) (nI a) (nI k) (h_re b n p) (mc M p none) J := by
      intro M x1 x2 hM
      rw [F_Mo_fold_102, m_bad0 ho.m hM, bd_s, if_neg (by decide), nI_add, nl_0, if_neg (by rw [nI_leI (by omega) (by omega)]; omega), m_here ho.m hM, bd_s]
    generalize hL : h_re b n p = lt at *
    -- what a good letter does
    have good : ∀ (a2 c2 : Nat), a2 + c2 = d → p < n → lt = b p → VLs (fun j => if j = k then lt else I 30 j) R C (k + 1) a2 c2 → F_Fo_readFolds_9 u (N + 1) (nI A) (nI B) (nI a) (nI c) (nI k) (tc I p f none) J = F_Fo_readFolds_83 u (F_Fo_readFolds_9 u N) (nI A) (nI B) (nI a2) (nI c2) (nI k) lt (tc I p f none) J → (∀ (M : pm_II) (x1 x2 : Int32), Mb b n M → F_Mo_fold_102 u (N2 + 1) x1 x2 (nI c) (nI a) (nI k) (mc M p none) J = F_Mo_fold_102 u N2 x1 x2 (nI c2) (nI a2) (nI (k + 1)) (mc (pm_up M 135 k lt) (p + 1) none) J) → ∃ I1 k1 pp ff ee, Ok n pp ee ∧ F_Fo_readFolds_9 u (N + 1) (nI A) (nI B) (nI a) (nI c) (nI k) (tc I p f none) J = some (nI k1, tc I1 pp ff ee, J) ∧ On (fun c _ => c = 30) I I1 ∧ (ee = none → k1 = k + (d + 1) ∧ VLs (I1 30) R C (k + (d + 1)) 0 0) ∧ ∀ (M : pm_II) (x1 x2 : Int32), Mb b n M → (∀ j, j < k → I 30 j = M 135 j) → ∃ M1 p3 k2, Om n p3 ee ∧ (ee = none → p3 = pp ∧ k2 = k + (d + 1) ∧ ∀ j, j < k + (d + 1) → I1 30 j = M1 135 j) ∧ On (fun c _ => c = 135) M M1 ∧ F_Mo_fold_102 u (N2 + 1) x1 x2 (nI c) (nI a) (nI k) (mc M p none) J = F_Mo_fold_238 u x1 x2 (nI k2) (mc M1 p3 ee) J := by
      intro a2 c2 hac2 hpn hlt hv2 hc1 hm1
      have hb2 : Tb b n (pm_up I 30 k lt) := hb.put (by omega) (by omega)
      have hv2' : VLs ((pm_up I 30 k lt) 30) R C (k + 1) a2 c2 := by rw [pm_up_eq]; exact hv2
      obtain ⟨I1, k1, pp, ff, ee, i1, i2, i3, i4, i5⟩ := ih a2 c2 (k + 1) (p + 1) f N N2 A B (pm_up I 30 k lt) hac2 (by omega) (by omega) (by omega) (by omega) hb2 hpn hv2'
      have ek : k + 1 + d = k + (d + 1) := by omega
      rw [ek] at i4
      refine ⟨I1, k1, pp, ff, ee, i1, ?_, (On.up (S := fun c _ => c = 30) (On.refl _) rfl).trans i3, i4, fun M x1 x2 hM hR => ?_⟩
      · rw [hc1]
        unfold F_Fo_readFolds_83
        rw [hlt, t_takesL hp hb hpn, bd_s, vqT (show k < 6 by omega) (by omega), cond_true, nI_clamp (by omega), T3_o (by omega), nI_io1, nI_add, ← hlt]
        exact i2
      · obtain ⟨M1, p3, k2, j1, j2, j3, j4⟩ := i5 (pm_up M 135 k lt) x1 x2 (hM.put (by omega) (by omega)) (fun j hj => by
          rw [ur, ur]
          by_cases q : j = k
          · rw [if_pos ⟨rfl, q⟩, if_pos ⟨rfl, q⟩]
          · rw [if_neg (fun z => q z.2), if_neg (fun z => q z.2)]; exact hR j (by omega))
        rw [ek] at j2
        exact ⟨M1, p3, k2, j1, j2, (On.up (S := fun c _ => c = 135) (On.refl _) rfl).trans j3, by rw [hm1 M x1 x2 hM]; exact j4⟩
    have bad : F_Fo_readFolds_9 u (N + 1) (nI A) (nI B) (nI a) (nI c) (nI k) (tc I p f none) J = F_Fo_readFolds_75 u (F_Fo_readFolds_9 u N) (nI A) (nI B) (nI a) (nI c) (nI k) lt (tc I p f none) J → (∀ (M : pm_II) (x1 x2 : Int32), Mb b n M → F_Mo_fold_102 u (N2 + 1) x1 x2 (nI c) (nI a) (nI k) (mc M p none) J = F_Mo_fold_172 u (F_Mo_fold_102 u N2) x1 x2 (nI c) (nI a) (nI k) lt 0 (mc M p none) J) → ∃ I1 k1 pp ff ee, Ok n pp ee ∧ F_Fo_readFolds_9 u (N + 1) (nI A) (nI B) (nI a) (nI c) (nI k) (tc I p f none) J = some (nI k1, tc I1 pp ff ee, J) ∧ On (fun c _ => c = 30) I I1 ∧ (ee = none → k1 = k + (d + 1) ∧ VLs (I1 30) R C (k + (d + 1)) 0 0) ∧ ∀ (M : pm_II) (x1 x2 : Int32), Mb b n M → (∀ j, j < k → I 30 j = M 135 j) → ∃ M1 p3 k2, Om n p3 ee ∧ (ee = none → p3 = pp ∧ k2 = k + (d + 1) ∧ ∀ j, j < k + (d + 1) → I1 30 j = M1 135 j) ∧ On (fun c _ => c = 135) M M1 ∧ F_Mo_fold_102 u (N2 + 1) x1 x2 (nI c) (nI a) (nI k) (mc M p none) J = F_Mo_fold_238 u x1 x2 (nI k2) (mc M1 p3 ee) J := by
      intro hc1 hm1
      have hoS : Ok n p (some p) := ho.s hp
      have hb2 : Tb b n (pm_up I 30 k lt) := hb.put (by omega) (by omega)
      obtain ⟨N, rfl⟩ : ∃ z, N = z + 1 := ⟨N - 1, by omega⟩
      obtain ⟨N2, rfl⟩ : ∃ z, N2 = z + 1 := ⟨N2 - 1, by omega⟩
      refine ⟨pm_up I 30 k lt, k + 1, p, f, some p, hoS, ?_, On.up (On.refl _) rfl, (fun z => by cases z), fun M x1 x2 hM hR => ⟨M, p, k, hoS.m, (fun z => by cases z), On.refl _, ?_⟩⟩
      · rw [hc1]
        unfold F_Fo_readFolds_75 F_Fo_readFolds_83 F_Ta_place
        have e2 : (tc I p f none) 17 2 = nI p := rfl
        have tkS : q_tk b n p (some p) lt = false := by unfold q_tk; rw [decide_eq_false]; intro z; cases z.1
        rw [e2, bd_s, t_blame ho hb, bd_s]
        rw [show q_bl none p = some p from rfl, t_takes hoS hb, bd_s, tkS, if_neg (by decide), vqT (show k < 6 by omega) (by omega), cond_true, nI_clamp (by omega), T3_o (by omega), nI_io1, nI_add, F_Fo_readFolds_9, t_irS hoS hb2, bd_s, if_pos rfl]
        unfold F_Fo_readFolds_105
        rw [ite_self, ite_self]
      · have h4 : (mc M p none) 120 4 = nI p := rfl
        rw [hm1 M x1 x2 hM]
        unfold F_Mo_fold_172
        rw [if_neg (by decide), h4, m_fail0 ho.m hM, bd_s, F_Mo_fold_102, m_badS hoS.m hM, bd_s, if_pos (by decide)]
    have hbp : (lt = 108 ∨ lt = 114 ∨ lt = 116 ∨ lt = 98) → p < n ∧ lt = b p := by
      intro h
      unfold h_re at hL
      by_cases q : p < n
      · rw [if_pos q] at hL; exact ⟨q, hL.symm⟩
      · rw [if_neg q] at hL
        rw [← hL] at h
        rcases h with h | h | h | h <;> exact absurd h (by decide)
    have mgood : ∀ (M : pm_II) (x1 x2 : Int32) (K : Int32 → Int32 → Int32 → Int32 → Int32 → pm_II → pm_JJ → Option (Int32 × pm_II × pm_JJ)), (lt = 108 ∨ lt = 114) → F_Mo_fold_172 u K x1 x2 (nI c) (nI a) (nI k) lt 1 (mc M p none) J = K x1 x2 (nI c + Int32.ofInt (-1)) (nI a) (nI (k + 1)) (mc (pm_up M 135 k lt) (p + 1) none) J := by
      intro M x1 x2 K hl
      unfold F_Mo_fold_172
      have h4 : (mc M p none) 120 4 = nI p := rfl
      rw [if_pos (by decide), vqT (show k < 6 by omega) (by omega), cond_true, nI_clamp (by omega), h4, nI_1, M2_o (by omega), M2_a, nI_io1, nI_add]
      rcases hl with rfl | rfl <;> rfl
    have mgood2 : ∀ (M : pm_II) (x1 x2 : Int32) (K : Int32 → Int32 → Int32 → Int32 → Int32 → pm_II → pm_JJ → Option (Int32 × pm_II × pm_JJ)), (lt = 116 ∨ lt = 98) → F_Mo_fold_172 u K x1 x2 (nI c) (nI a) (nI k) lt 1 (mc M p none) J = K x1 x2 (nI c) (nI a + Int32.ofInt (-1)) (nI (k + 1)) (mc (pm_up M 135 k lt) (p + 1) none) J := by
      intro M x1 x2 K hl
      unfold F_Mo_fold_172
      have h4 : (mc M p none) 120 4 = nI p := rfl
      rw [if_pos (by decide), vqT (show k < 6 by omega) (by omega), cond_true, nI_clamp (by omega), h4, nI_1, M2_o (by omega), M2_a, nI_io1, nI_add]
      rcases hl with rfl | rfl <;> rfl
    have pred : ∀ q, 1 ≤ q → nI q + Int32.ofInt (-1) = nI (q - 1) := by
      intro q hq
      rw [nI_iom1, ← Int32.sub_eq_add_neg, nl_1, pk_sub hq]
    by_cases hx : lt = 108 ∨ lt = 114
    · have ecr : crb lt = true := by unfold crb; rw [decide_eq_true]; exact hx
      obtain ⟨hpn, hlb⟩ := hbp (by rcases hx with q | q; exact Or.inl q; exact Or.inr (Or.inl q))
      have eac : F_Fo_isAcross u lt (tc I p f none) J = some (1, tc I p f none, J) := by rcases hx with rfl | rfl <;> rfl
      have edn : F_Fo_isDown u lt (tc I p f none) J = some (0, tc I p f none, J) := by rcases hx with rfl | rfl <;> rfl
      have em : ∀ (M : pm_II) (x1 x2 : Int32), Mb b n M → F_Mo_fold_102 u (N2 + 1) x1 x2 (nI c) (nI a) (nI k) (mc M p none) J = F_Mo_fold_136 u (F_Mo_fold_102 u N2) x1 x2 (nI c) (nI a) (nI k) lt (mc M p none) J := by
        intro M x1 x2 hM
        rw [hmdl M x1 x2 hM]
        rcases hx with rfl | rfl <;> rfl
      rw [eac, bd_s, if_neg (by decide)] at hcls
      by_cases hc0 : c = 0
      · rw [if_pos (lc.mpr hc0)] at hcls
        refine bad ?_ (fun M x1 x2 hM => ?_)
        · rw [hcls]
          unfold F_Fo_readFolds_56
          rw [edn, bd_s, if_pos rfl]
        · rw [em M x1 x2 hM]
          unfold F_Mo_fold_136
          rw [if_pos (lc.mpr hc0)]
      · rw [if_neg (fun z => hc0 (lc.mp z)), pred c (by omega)] at hcls
        have hv2 := VLs_s (x := lt) hv (Or.inl ⟨hx, by omega⟩)
        rw [ecr, if_pos rfl, if_pos rfl] at hv2
        refine good a (c - 1) (by omega) hpn hlb hv2 hcls (fun M x1 x2 hM => ?_)
        rw [em M x1 x2 hM]
        unfold F_Mo_fold_136
        rw [if_neg (fun z => hc0 (lc.mp z)), mgood M x1 x2 _ hx, pred c (by omega)]
    · have eac : F_Fo_isAcross u lt (tc I p f none) J = some (0, tc I p f none, J) := by
        unfold F_Fo_isAcross
        rw [if_neg (fun z => hx (Or.inl z)), if_pos (fun z => hx (Or.inr z))]
      rw [eac, bd_s, if_pos rfl] at hcls
      by_cases hy : lt = 116 ∨ lt = 98
      · have ecr : crb lt = false := by unfold crb; rw [decide_eq_false]; exact hx
        obtain ⟨hpn, hlb⟩ := hbp (Or.inr (Or.inr hy))
        have edn : F_Fo_isDown u lt (tc I p f none) J = some (1, tc I p f none, J) := by rcases hy with rfl | rfl <;> rfl
        have em : ∀ (M : pm_II) (x1 x2 : Int32), Mb b n M → F_Mo_fold_102 u (N2 + 1) x1 x2 (nI c) (nI a) (nI k) (mc M p none) J = F_Mo_fold_162 u (F_Mo_fold_102 u N2) x1 x2 (nI c) (nI a) (nI k) lt (mc M p none) J := by
          intro M x1 x2 hM
          rw [hmdl M x1 x2 hM]
          rcases hy with rfl | rfl <;> rfl
        unfold F_Fo_readFolds_56 at hcls
        rw [edn, bd_s, if_neg (by decide)] at hcls
        by_cases ha0 : a = 0
        · rw [if_pos (la.mpr ha0)] at hcls
          refine bad hcls (fun M x1 x2 hM => ?_)
          rw [em M x1 x2 hM]
          unfold F_Mo_fold_162
          rw [if_pos (la.mpr ha0)]
        · rw [if_neg (fun z => ha0 (la.mp z)), pred a (by omega)] at hcls
          have hv2 := VLs_s (x := lt) hv (Or.inr ⟨hy, by omega⟩)
          rw [ecr, if_neg (by decide), if_neg (by decide)] at hv2
          refine good (a - 1) c (by omega) hpn hlb hv2 hcls (fun M x1 x2 hM => ?_)
          rw [em M x1 x2 hM]
          unfold F_Mo_fold_162
          rw [if_neg (fun z => ha0 (la.mp z)), mgood2 M x1 x2 _ hy, pred a (by omega)]
      · have edn : F_Fo_isDown u lt (tc I p f none) J = some (0, tc I p f none, J) := by
          unfold F_Fo_isDown
          rw [if_neg (fun z => hy (Or.inl z)), if_pos (fun z => hy (Or.inr z))]
        unfold F_Fo_readFolds_56 at hcls
        rw [edn, bd_s, if_pos rfl] at hcls
        refine bad hcls (fun M x1 x2 hM => ?_)
        rw [hmdl M x1 x2 hM, if_neg (fun z => hx (Or.inl z)), if_pos (fun z => hx (Or.inr z)), if_neg (fun z => hy (Or.inl z)), if_pos (fun z => hy (Or.inr z))]
end FT
