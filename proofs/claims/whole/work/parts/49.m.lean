/-! ===== pile: a text of cuts ===== -/
def cutC (a0 m k : Nat) (r d : Int32) (I : pm_II) : pm_II := pm_up (if r ≤ 0 then pm_up (pm_up (pm_up (pm_up (pm_up I (a0 + 1) m (I (a0 + 1) k + r)) (a0 + 2) m (I (a0 + 2) k + d)) (a0 + 3) m (I (a0 + 3) k - r)) (a0 + 4) m (I (a0 + 4) k - d)) (a0 + 4) k d else pm_up (pm_up (pm_up (pm_up (pm_up I (a0 + 1) m (I (a0 + 1) k + r)) (a0 + 2) m (I (a0 + 2) k + d)) (a0 + 3) m (I (a0 + 3) k - r)) (a0 + 4) m (I (a0 + 4) k - d)) (a0 + 3) k r) a0 4 (nI (m + 1))
def Rp (a0 m : Nat) (I M : pm_II) : Prop := I a0 4 = nI m ∧ ∀ j, j < m → I (a0 + 1) j = M 158 j ∧ I (a0 + 2) j = M 159 j ∧ I (a0 + 3) j = M 160 j ∧ I (a0 + 4) j = M 161 j
def cutM (m k : Nat) (cr : Bool) (c : Int32) (M : pm_II) : pm_II := cond cr (pm_up (pm_up (pm_up (pm_up (pm_up (pm_up M 158 m (M 158 k + c)) 159 m (M 159 k)) 160 m (M 160 k - c)) 161 m (M 161 k)) 160 k c) 161 k (M 161 k)) (pm_up (pm_up (pm_up (pm_up (pm_up (pm_up M 158 m (M 158 k)) 159 m (M 159 k + c)) 160 m (M 160 k)) 161 m (M 161 k - c)) 160 k (M 160 k)) 161 k c)
section PileT
variable {u : Nat} {I M : pm_II} {J : pm_JJ} {b : Nat → Int32} {n p f a0 m k : Nat} {e : Option Nat}
theorem pi_cutOff {r d : Int32} (hpa : oP a0) (hk : k < m) (hm : m ≤ 30) (h4 : I a0 4 = nI m) : F_Pi_cutOff u a0 (nI k) r d (tc I p f e) J = some ((), tc (cutC a0 m k r d I) p f e, J) := by
  unfold F_Pi_cutOff
  have hne : k ≠ m := by omega
  rcases hpa with rfl | rfl
  all_goals
    simp (disch := omega) only [ur, tcr, h4, nI_clamp, vqT (show k < 31 by omega) (show k < 2 ^ 31 by omega), vqT (show m < 31 by omega) (show m < 2 ^ 31 by omega), cond_true, Nat.reduceAdd, Nat.reduceEqDiff, false_and, if_false, nI_io1, nI_add, and_false, and_true, true_and, hne, hne.symm]
    unfold cutC
    by_cases c : r ≤ 0
    · simp (disch := omega) only [c, if_true, T3_o, ur, h4, nI_clamp, Nat.reduceAdd, nI_1]
    · simp (disch := omega) only [c, if_false, T3_o, ur, h4, nI_clamp, Nat.reduceAdd, nI_1]
theorem Rp_cut {r d : Int32} {cr : Bool} {c : Int32} (hpa : oP a0) (hk : k < m) (hm : m ≤ 30) (hR : Rp a0 m I M) (hc : (cr = true ∧ r = c ∧ d = 0 ∧ ¬ r ≤ 0) ∨ (cr = false ∧ r = 0 ∧ d = c)) : Rp a0 (m + 1) (cutC a0 m k r d I) (cutM m k cr c M) := by
  obtain ⟨h4, hr⟩ := hR
  obtain ⟨k1, k2, k3, k4⟩ := hr k hk
  have hne : k ≠ m := by omega
  constructor
  · unfold cutC
    rw [ur, if_pos ⟨rfl, rfl⟩]
  · intro j hj
    have hjm : ¬ j = m → I (a0 + 1) j = M 158 j ∧ I (a0 + 2) j = M 159 j ∧ I (a0 + 3) j = M 160 j ∧ I (a0 + 4) j = M 161 j := fun h => hr j (by omega)
    rcases hc with ⟨rfl, rfl, rfl, h0⟩ | ⟨rfl, rfl, rfl⟩
    · unfold cutC cutM
      rw [if_neg h0]
      simp only [cond_true, ur, Nat.reduceEqDiff, false_and, if_false, true_and, Nat.add_left_cancel_iff, Nat.left_eq_add, Nat.add_eq_left, k1, k2, k3, k4, Int32.add_zero, Int32.sub_zero]
      by_cases g : j = m
      · subst g
        have : ¬ j = k := by omega
        simp [this]
      · obtain ⟨j1, j2, j3, j4⟩ := hjm g
        by_cases g2 : j = k
        · subst g2
          simp [g, k1, k2, k3, k4]
        · simp [g, g2, j1, j2, j3, j4]
    · unfold cutC cutM
      rw [if_pos (by decide)]
      simp only [cond_false, ur, Nat.reduceEqDiff, false_and, if_false, true_and, Nat.add_left_cancel_iff, Nat.left_eq_add, Nat.add_eq_left, k1, k2, k3, k4, Int32.add_zero, Int32.sub_zero]
      by_cases g : j = m
      · subst g
        have : ¬ j = k := by omega
        simp [this]
      · obtain ⟨j1, j2, j3, j4⟩ := hjm g
        by_cases g2 : j = k
        · subst g2
          simp [g, k1, k2, k3, k4]
        · simp [g, g2, j1, j2, j3, j4]
theorem cutM_On {cr : Bool} {c : Int32} : On (fun c _ => 158 ≤ c ∧ c ≤ 161) M (cutM m k cr c M) := by
  unfold cutM
  cases cr
  · exact On.up (On.up (On.up (On.up (On.up (On.up (On.refl _) (by decide)) (by decide)) (by decide)) (by decide)) (by decide)) (by decide)
  · exact On.up (On.up (On.up (On.up (On.up (On.up (On.refl _) (by decide)) (by decide)) (by decide)) (by decide)) (by decide)) (by decide)
theorem pm_cut {K : Int32 → pm_II → pm_JJ → Option (Int32 × pm_II × pm_JJ)} {cr : Bool} {c : Int32} (hk : k < m) (hm : m ≤ 30) : (if (b2i cr) = 0 then (cond (vq (nI k) 32) (F_Mo_pile_226 u K (nI m) (b2i cr) (nI k) c (nI m) ((mc M p e) 158 ((nI k : Int32).toNatClampNeg)) (mc M p e) J) none) else (cond (vq (nI k) 32) (F_Mo_pile_226 u K (nI m) (b2i cr) (nI k) c (nI m) (((mc M p e) 158 ((nI k : Int32).toNatClampNeg)) + c) (mc M p e) J) none)) = K (nI (m + 1)) (mc (cutM m k cr c M) p e) J := by
  have hne : k ≠ m := by omega
  have v1 := vqT (show k < 32 by omega) (show k < 2 ^ 31 by omega)
  have v2 := vqT (show m < 32 by omega) (show m < 2 ^ 31 by omega)
  unfold F_Mo_pile_226 F_Mo_pile_257 F_Mo_pile_288 F_Mo_pile_319 F_Mo_pile_343 cutM
  cases cr
  · simp (disch := omega) only [b2i, cond_true, cond_false, if_true, ur, mcr, nI_clamp, v1, v2, Nat.reduceEqDiff, false_and, if_false, true_and, hne, M2_o, nI_io1, nI_add]
  · simp (disch := omega) only [b2i, cond_true, cond_false, if_true, ur, mcr, nI_clamp, v1, v2, Nat.reduceEqDiff, false_and, if_false, true_and, hne, M2_o, nI_io1, nI_add, show ¬ ((1 : Int32) = 0) by decide]
theorem pl_17 {dn : Bool} (hu : 2000 ≤ u) (hpa : oP a0) (hb : Tb b n I) (h4 : I a0 4 = nI m) (hm1 : 1 ≤ m) (hm : m ≤ 30) (hp : p ≤ n) :
    (∃ x p' f', x ≤ n ∧ p' ≤ n ∧ F_Pi_readCut_17 u a0 (b2i dn) (tc I p f none) J = some ((), tc I p' f' (some x), J) ∧ ∀ M K, Mb b n M → Rp a0 m I M → ∃ p2, p2 ≤ n + 1 ∧ F_Mo_pile_128 u K (nI m) (b2i !dn) (mc M p none) J = K (nI m) (mc M p2 (some x)) J) ∨
    (∃ k r d c p' f', k < m ∧ p' ≤ n ∧ (((!dn) = true ∧ r = c ∧ d = 0 ∧ ¬ r ≤ 0) ∨ ((!dn) = false ∧ r = 0 ∧ d = c)) ∧ F_Pi_readCut_17 u a0 (b2i dn) (tc I p f none) J = some ((), tc (cutC a0 m k r d I) p' f' none, J) ∧ ∀ M K, Mb b n M → Rp a0 m I M → F_Mo_pile_128 u K (nI m) (b2i !dn) (mc M p none) J = K (nI (m + 1)) (mc (cutM m k (!dn) c M) p' none) J) := by
  have ho : Ok n p none := Ok_0 hp
  have hn := hb.2.2
  have ne17 : ∀ i, i ≤ 4 → a0 + i ≠ 17 := fun i hi => by rcases hpa with rfl | rfl <;> omega
  have r4 : ∀ q g e, (tc I q g e) a0 4 = nI m := fun q g e => by rw [tc_r (show a0 ≠ 17 from ne17 0 (by omega))]; exact h4
  have ho2 : Ok n (nnP b n p none) (nnE b n p none 0 (nI m - 1)) := Ok_nn ho
  unfold F_Pi_readCut_17
  rw [r4, t_nn (by omega) ho hb, bd_s, pi_has (by omega) (r4 _ _ _), bd_s, r4]
  have hv := nnV_lt (b := b) (n := n) (p := p) (e := none)
  have l30 : nI m ≤ (30 : Int32) := by rw [nl_30, nI_leI (by omega) (by omega)]; exact hm
  cases hE : nnE b n p none 0 (nI m - 1) with
  | some x =>
    rw [hE] at ho2
    left
    have hx : x ≤ n := ho2.2 x rfl
    have mdl : ∀ M K, Mb b n M → Rp a0 m I M → ∃ p2, p2 ≤ n + 1 ∧ F_Mo_pile_128 u K (nI m) (b2i !dn) (mc M p none) J = K (nI m) (mc M p2 (some x)) J := by
      intro M K hM hR
      refine ⟨nnP b n p none, by have := ho2.1; omega, ?_⟩
      unfold F_Mo_pile_128
      have hoM : Om n (nnP b n p none) (some x) := ho2.m
      rw [m_nn (by omega) ho.m hM, bd_s, hE, m_badS hoM hM, bd_s, if_neg (by decide)]
      unfold F_Mo_pile_178
      rw [m_needS (by decide) hoM hM, bd_s, m_badS hoM hM, bd_s, if_neg (by decide)]
    by_cases g : nnV b n p none < m
    · have d1 : decide (0 ≤ nI (nnV b n p none) ∧ nI (nnV b n p none) < nI m) = true := by
        simp (disch := omega) only [nI_ltI, decide_eq_true_eq]
        exact ⟨Int32.not_lt.mp (nI_pos (by omega)), g⟩
      rw [d1, if_neg (by decide), if_pos l30]
      have e69 : ∀ (s1 s2 : Int32), F_Pi_readCut_69 u a0 (b2i dn) (nI (nnV b n p none)) s1 s2 (tc I (nnP b n p none) (nnF b n p none) (some x)) J = some ((), tc I (nnP b n p none) (nnP b n p none) (some x), J) := by
        intro s1 s2
        unfold F_Pi_readCut_69
        rw [t_nnS (by omega) ho2 hb, bd_s, t_exS ho2 hb, bd_s, t_irS ho2 hb, bd_s, if_pos rfl]
        rfl
      rw [vqT (show nnV b n p none < 31 by omega) (by omega), cond_true, cond_true, e69, e69, ite_self]
      exact ⟨x, _, _, hx, ho2.1, rfl, mdl⟩
    · have d1 : decide (0 ≤ nI (nnV b n p none) ∧ nI (nnV b n p none) < nI m) = false := by
        simp (disch := omega) only [nI_ltI, decide_eq_false_iff_not]
        omega
      rw [d1, if_pos (show b2i false = 0 from rfl)]
      exact ⟨x, _, _, hx, ho2.1, rfl, mdl⟩
  | none =>
    rw [hE] at ho2
    have hok := (nnE_ok hE).2
    have g : nnV b n p none < m := by have := hok.2; rw [nI_leP (by omega) (by omega)] at this; exact this
    have d1 : decide (0 ≤ nI (nnV b n p none) ∧ nI (nnV b n p none) < nI m) = true := by
      simp (disch := omega) only [nI_ltI, decide_eq_true_eq]
      exact ⟨Int32.not_lt.mp (nI_pos (by omega)), g⟩
    rw [d1, if_neg (by decide), if_pos l30, vqT (show nnV b n p none < 31 by omega) (by omega), cond_true, cond_true, nI_clamp (by omega), tc_r (ne17 3 (by omega)), tc_r (ne17 4 (by omega))]
    generalize hk : nnV b n p none = k at *
    have hW : ∃ W, (if b2i dn = 0 then F_Pi_readCut_69 u a0 (b2i dn) (nI k) 1 (I (a0 + 3) k) (tc I (nnP b n p none) (nnF b n p none) none) J else F_Pi_readCut_69 u a0 (b2i dn) (nI k) 1 (I (a0 + 4) k) (tc I (nnP b n p none) (nnF b n p none) none) J) = F_Pi_readCut_69 u a0 (b2i dn) (nI k) 1 W (tc I (nnP b n p none) (nnF b n p none) none) J ∧ ∀ M K, Mb b n M → Rp a0 m I M → F_Mo_pile_128 u K (nI m) (b2i !dn) (mc M p none) J = F_Mo_pile_173 u K (nI m) (b2i !dn) (nI k) 1 W (mc M (nnP b n p none) none) J := by
      have mdl : ∀ M K, Mb b n M → Rp a0 m I M → F_Mo_pile_128 u K (nI m) (b2i !dn) (mc M p none) J = if b2i (!dn) = 0 then F_Mo_pile_173 u K (nI m) (b2i !dn) (nI k) 1 (M 161 k) (mc M (nnP b n p none) none) J else F_Mo_pile_173 u K (nI m) (b2i !dn) (nI k) 1 (M 160 k) (mc M (nnP b n p none) none) J := by
        intro M K hM hR
        unfold F_Mo_pile_128
        rw [m_nn (by omega) ho.m hM, bd_s, hE, m_bad0 ho2.m hM, bd_s, if_pos rfl, hk, nI_clamp (by omega), vqT (show k < 32 by omega) (by omega), cond_true, cond_true, mc_r (by omega), mc_r (by omega)]
      cases dn
      · refine ⟨I (a0 + 3) k, rfl, fun M K hM hR => ?_⟩
        rw [mdl M K hM hR, (hR.2 k g).2.2.1]
        rfl
      · refine ⟨I (a0 + 4) k, rfl, fun M K hM hR => ?_⟩
        rw [mdl M K hM hR, (hR.2 k g).2.2.2]
        rfl
    obtain ⟨W, hW, hMW⟩ := hW
    rw [hW]
    unfold F_Pi_readCut_69
    have ho3 : Ok n (nnP b n (nnP b n p none) none) (nnE b n (nnP b n p none) none 1 (W - 1)) := Ok_nn ho2
    have ho4 := Ok_ex (b := b) (c := 10) ho3
    have hv2 := nnV_lt (b := b) (n := n) (p := nnP b n p none) (e := none)
    rw [t_nn (by omega) ho2 hb, bd_s, t_expect ho3 hb, bd_s]
    cases hE4 : q_exE b n (nnP b n (nnP b n p none) none) (nnE b n (nnP b n p none) none 1 (W - 1)) 10 with
    | some x =>
      rw [hE4] at ho4
      rw [t_irS ho4 hb, bd_s, if_pos rfl]
      left
      refine ⟨x, _, _, ho4.2 x rfl, ho4.1, rfl, fun M K hM hR => ⟨q_exP b n (nnP b n (nnP b n p none) none) (nnE b n (nnP b n p none) none 1 (W - 1)) 10, by have := ho4.1; omega, ?_⟩⟩
      rw [hMW M K hM hR]
      unfold F_Mo_pile_173 F_Mo_pile_178
      rw [m_nn (by omega) ho2.m hM, bd_s, m_need (by decide) ho3.m hM, bd_s, hE4, m_badS ho4.m hM, bd_s, if_neg (by decide)]
    | none =>
      rw [hE4] at ho4
      rw [t_ir0 ho4 hb, bd_s, if_neg (by decide)]
      right
      have hE3 : nnE b n (nnP b n p none) none 1 (W - 1) = none := q_exE_ok hE4
      have hfar := (nnE_ok hE3).2.1
      generalize hfv : nnV b n (nnP b n p none) none = fv at *
      have hf1 : 1 ≤ fv := by rw [nl_1, nI_leI (by omega) (by omega)] at hfar; exact hfar
      have mdl : ∀ M K, Mb b n M → Rp a0 m I M → F_Mo_pile_128 u K (nI m) (b2i !dn) (mc M p none) J = K (nI (m + 1)) (mc (cutM m k (!dn) (nI fv) M) (q_exP b n (nnP b n (nnP b n p none) none) (nnE b n (nnP b n p none) none 1 (W - 1)) 10) none) J := by
        intro M K hM hR
        rw [hMW M K hM hR]
        unfold F_Mo_pile_173 F_Mo_pile_178
        rw [m_nn (by omega) ho2.m hM, bd_s, m_need (by decide) ho3.m hM, bd_s, hE4, m_bad0 ho4.m hM, bd_s, if_pos rfl, hfv]
        exact pm_cut g hm
      cases dn
      · refine ⟨k, nI fv, 0, nI fv, _, nnF b n (nnP b n p none) none, g, ho4.1, Or.inl ⟨rfl, rfl, rfl, ?_⟩, ?_, mdl⟩
        · rw [nl_0, nI_leI (by omega) (by omega)]; omega
        · unfold F_Pi_readCut_101 F_Pi_readCut_111 F_Pi_readCut_114
          rw [if_pos (show b2i false = 0 from rfl), if_pos (show b2i false = 0 from rfl), pi_cutOff hpa g hm h4, bd_s]
      · refine ⟨k, 0, nI fv, nI fv, _, nnF b n (nnP b n p none) none, g, ho4.1, Or.inr ⟨rfl, rfl, rfl⟩, ?_, mdl⟩
        unfold F_Pi_readCut_101 F_Pi_readCut_111 F_Pi_readCut_114
        rw [if_neg (by decide), if_neg (by decide), pi_cutOff hpa g hm h4, bd_s]
theorem pl_58 {N : Nat} {K : Int32 → pm_II → pm_JJ → Option (Int32 × pm_II × pm_JJ)} (hu : 2000 ≤ u) (hm1 : 1 ≤ m) (hm : m ≤ 30) (hp : p < n) (hM : Mb b n M) (hK : K = F_Mo_pile_58 u N) : (q_wd b n p (pm_txt 10) = true → q_wd b n p (pm_txt 9) = false → F_Mo_pile_58 u (N + 1) (nI m) (mc M p none) J = F_Mo_pile_128 u K (nI m) 0 (mc M (p + 1) none) J) ∧ (q_wd b n p (pm_txt 9) = true → F_Mo_pile_58 u (N + 1) (nI m) (mc M p none) J = F_Mo_pile_128 u K (nI m) 1 (mc M (p + 1) none) J) ∧ (q_wd b n p (pm_txt 10) = false → q_wd b n p (pm_txt 9) = false → F_Mo_pile_58 u (N + 1) (nI m) (mc M p none) J = K (nI m) (mc M p (some p)) J) := by
  subst hK
  have hn := hM.2.2
  have ho : Ok n p none := Ok_0 (by omega)
  have hoS : Om n p (some p) := ho.m.s (by omega)
  have h3 : (mc M p none) 120 3 = nI n := hM.2.1
  have h4 : (mc M p none) 120 4 = nI p := rfl
  have c1 : ¬ nI n ≤ nI p := by rw [nI_leI (by omega) (by omega)]; omega
  have c2 : ¬ (31 : Int32) ≤ nI m := by rw [nl_31, nI_leI (by omega) (by omega)]; omega
  have c3 : ¬ nI m = (31 : Int32) := by rw [nl_31, nI_eq (by omega) (by omega)]; omega
  refine ⟨fun g g2 => ?_, fun g => ?_, fun g g2 => ?_⟩
  · rw [F_Mo_pile_58, m_bad0 ho.m hM, bd_s, if_neg (by decide), h3, h4, if_neg c1, if_neg c2, m_w0 (by omega) (by omega) (by decide) hM g2, bd_s, if_pos rfl]
    unfold F_Mo_pile_97
    rw [if_neg c3, if_neg (by decide), m_w1 (by omega) (by omega) (by decide) hM g, bd_s, if_pos (by decide)]
    rfl
  · rw [F_Mo_pile_58, m_bad0 ho.m hM, bd_s, if_neg (by decide), h3, h4, if_neg c1, if_neg c2, m_w1 (by omega) (by omega) (by decide) hM g, bd_s, if_neg (by decide)]
    unfold F_Mo_pile_97
    rw [if_neg c3, if_pos (by decide)]
    rfl
  · rw [F_Mo_pile_58, m_bad0 ho.m hM, bd_s, if_neg (by decide), h3, h4, if_neg c1, if_neg c2, m_w0 (by omega) (by omega) (by decide) hM g2, bd_s, if_pos rfl]
    unfold F_Mo_pile_97 F_Mo_pile_120 F_Mo_pile_128 F_Mo_pile_178
    rw [if_neg c3, if_neg (by decide), m_w0 (by omega) (by omega) (by decide) hM g, bd_s, if_neg (by decide), h4, m_fail0 ho.m hM, bd_s, m_nnS (by omega) hoS hM, bd_s, m_badS hoS hM, bd_s, if_neg (by decide), m_needS (by decide) hoS hM, bd_s, m_badS hoS hM, bd_s, if_neg (by decide)]
theorem pl_step (hu : 2000 ≤ u) (hpa : oP a0) (hb : Tb b n I) (h4 : I a0 4 = nI m) (hm1 : 1 ≤ m) (hm : m ≤ 30) (hp : p < n) :
    (∃ x p' f', x ≤ n ∧ p' ≤ n ∧ F_Pi_readCut u a0 (tc I p f none) J = some ((), tc I p' f' (some x), J) ∧ ∀ M N, Mb b n M → Rp a0 m I M → ∃ p2, p2 ≤ n + 1 ∧ F_Mo_pile_58 u (N + 1) (nI m) (mc M p none) J = F_Mo_pile_58 u N (nI m) (mc M p2 (some x)) J) ∨
    (∃ k r d c cr p' f', k < m ∧ p' ≤ n ∧ ((cr = true ∧ r = c ∧ d = 0 ∧ ¬ r ≤ 0) ∨ (cr = false ∧ r = 0 ∧ d = c)) ∧ F_Pi_readCut u a0 (tc I p f none) J = some ((), tc (cutC a0 m k r d I) p' f' none, J) ∧ ∀ M N, Mb b n M → Rp a0 m I M → F_Mo_pile_58 u (N + 1) (nI m) (mc M p none) J = F_Mo_pile_58 u N (nI (m + 1)) (mc (cutM m k cr c M) p' none) J) := by
  have hn := hb.2.2
  have ho : Ok n p none := Ok_0 (by omega)
  obtain ⟨w1, w2, w3⟩ := t_ei (u := u) (J := J) (f := f) (a1 := 9) (a2 := 10) (by omega) (by decide) (by decide) (by decide) (by decide) (by decide) (by decide) ho hb
  unfold F_Pi_readCut
  cases hy : q_wd b n p (pm_txt 10) with
  | true =>
    have hx : q_wd b n p (pm_txt 9) = false := by
      cases hx : q_wd b n p (pm_txt 9) with
      | false => rfl
      | true => exact absurd (wd_ne hx hy (by decide)).1 (by decide)
    have hl := q_wd_le (by omega) hy
    have hl1 : (pm_txt 10).length = 1 := rfl
    rw [hl1] at hl
    rw [w1 hy, bd_s, if_neg (by decide), hl1]
    rcases pl_17 (u := u) (J := J) (f := p) (dn := true) hu hpa hb h4 hm1 hm hl with ⟨x, p', f', q1, q2, q3, q4⟩ | ⟨k, r, d, c, p', f', q1, q2, q3, q4, q5⟩
    · left
      refine ⟨x, p', f', q1, q2, q3, fun M N hM hR => ?_⟩
      rw [(pl_58 hu hm1 hm hp hM rfl).1 hy hx]
      exact q4 M _ hM hR
    · right
      refine ⟨k, r, d, c, _, p', f', q1, q2, q3, q4, fun M N hM hR => ?_⟩
      rw [(pl_58 hu hm1 hm hp hM rfl).1 hy hx]
      exact q5 M _ hM hR
  | false =>
    cases hx : q_wd b n p (pm_txt 9) with
    | true =>
      have hl := q_wd_le (by omega) hx
      have hl1 : (pm_txt 9).length = 1 := rfl
      rw [hl1] at hl
      rw [w2 hy hx, bd_s, if_pos (by decide), hl1]
      rcases pl_17 (u := u) (J := J) (f := p) (dn := false) hu hpa hb h4 hm1 hm hl with ⟨x, p', f', q1, q2, q3, q4⟩ | ⟨k, r, d, c, p', f', q1, q2, q3, q4, q5⟩
      · left
        refine ⟨x, p', f', q1, q2, q3, fun M N hM hR => ?_⟩
        rw [(pl_58 hu hm1 hm hp hM rfl).2.1 hx]
        exact q4 M _ hM hR
      · right
        refine ⟨k, r, d, c, _, p', f', q1, q2, q3, q4, fun M N hM hR => ?_⟩
        rw [(pl_58 hu hm1 hm hp hM rfl).2.1 hx]
        exact q5 M _ hM hR
    | false =>
      obtain ⟨p', hp', w⟩ := w3 hy hx
      rw [w, bd_s, if_pos (by decide)]
      left
      have ho2 : Ok n p' (some p) := (Ok_0 hp').s (by omega)
      have ne17 : ∀ i, i ≤ 4 → a0 + i ≠ 17 := fun i hi => by rcases hpa with rfl | rfl <;> omega
      have r4 : ∀ q g e, (tc I q g e) a0 4 = nI m := fun q g e => by rw [tc_r (show a0 ≠ 17 from ne17 0 (by omega))]; exact h4
      refine ⟨p, p', p', by omega, hp', ?_, fun M N hM hR => ⟨p, by omega, ?_⟩⟩
      · unfold F_Pi_readCut_17 F_Pi_readCut_69
        have d1 : decide (0 ≤ nI 0 ∧ nI 0 < nI m) = true := by
          simp (disch := omega) only [nI_ltI, decide_eq_true_eq]
          exact ⟨by decide, by omega⟩
        have l30 : nI m ≤ (30 : Int32) := by rw [nl_30, nI_leI (by omega) (by omega)]; exact hm
        rw [t_nnS (by omega) ho2 hb, bd_s, pi_has (by omega) (r4 _ _ _), bd_s, d1, if_neg (by decide), r4, if_pos l30, if_pos rfl, vqT (by omega) (by omega), cond_true, t_nnS (by omega) ho2 hb, bd_s, t_exS ho2 hb, bd_s, t_irS ho2 hb, bd_s, if_pos rfl]
        rfl
      · exact (pl_58 hu hm1 hm hp hM rfl).2.2 hy hx
theorem cutC_On {r d : Int32} : On (fun c _ => a0 ≤ c ∧ c ≤ a0 + 4) I (cutC a0 m k r d I) := by
  unfold cutC
  split
  · refine On.up (On.up (On.up (On.up (On.up (On.up (On.refl _) ?_) ?_) ?_) ?_) ?_) ?_ <;> constructor <;> omega
  · refine On.up (On.up (On.up (On.up (On.up (On.up (On.refl _) ?_) ?_) ?_) ?_) ?_) ?_ <;> constructor <;> omega
theorem Tb.on {S : Nat → Nat → Prop} {I2 : pm_II} (h : Tb b n I) (ho : On S I I2) (h17 : ¬ S 17 1) (h18 : ∀ j, ¬ S 18 j) : Tb b n I2 := ⟨fun j hj => by rw [ho 18 j (h18 j)]; exact h.1 j hj, by rw [ho 17 1 h17]; exact h.2.1, h.2.2⟩
theorem Mb.on {S : Nat → Nat → Prop} {I2 : pm_II} (h : Mb b n I) (ho : On S I I2) (h17 : ¬ S 120 3) (h18 : ∀ j, ¬ S 122 j) : Mb b n I2 := ⟨fun j hj => by rw [ho 122 j (h18 j)]; exact h.1 j hj, by rw [ho 120 3 h17]; exact h.2.1, h.2.2⟩
theorem pl_loop (hu : 2000 ≤ u) (hpa : oP a0) : ∀ (d m : Nat) (I : pm_II) (p f N N2 : Nat), m + d = 31 → 1 ≤ m → d + 1 < N → d + 2 < N2 → Tb b n I → I a0 4 = nI m → p ≤ n →
    ∃ I1 m1 pp ff ee, Ok n pp ee ∧ Tb b n I1 ∧ F_Pi_takeText_36 u N a0 (nI (m - 1)) (tc I p f none) J = some (nI m1, tc I1 pp ff ee, J) ∧ m1 ≤ 31 ∧ 1 ≤ m1 ∧ I1 a0 4 = nI m1 ∧ On (fun c _ => a0 ≤ c ∧ c ≤ a0 + 4) I I1 ∧ ∀ M, Mb b n M → Rp a0 m I M → ∃ M1 p3 m2, Om n p3 ee ∧ Mb b n M1 ∧ On (fun c _ => 158 ≤ c ∧ c ≤ 161) M M1 ∧ (ee = none → Rp a0 m1 I1 M1 ∧ m2 = m1) ∧ F_Mo_pile_58 u N2 (nI m) (mc M p none) J = F_Mo_pile_374 u (nI m2) (mc M1 p3 ee) J := by
  intro d
  have ne17 : ∀ i, i ≤ 4 → a0 + i ≠ 17 := fun i hi => by rcases hpa with rfl | rfl <;> omega
  have c61 : ∀ (I : pm_II) (p f m : Nat) (e : Option Nat), Tb b n I → I a0 4 = nI m → Ok n p e → F_Pi_takeText_61 u a0 (tc I p f e) J = some (nI m, tc I p f (q_fi n p e), J) := by
    intro I p f m e hb h4 ho
    unfold F_Pi_takeText_61
    rw [t_finish ho hb, bd_s, tc_r (show a0 ≠ 17 from ne17 0 (by omega)), h4]
  have base : ∀ (m : Nat) (I : pm_II) (p f N2 : Nat), m ≤ 31 → 1 ≤ m → 2 < N2 → Tb b n I → I a0 4 = nI m → p ≤ n → (m = 31 ∨ p = n) → ∃ I1 m1 pp ff ee, Ok n pp ee ∧ Tb b n I1 ∧ F_Pi_takeText_61 u a0 (tc I p f none) J = some (nI m1, tc I1 pp ff ee, J) ∧ m1 ≤ 31 ∧ 1 ≤ m1 ∧ I1 a0 4 = nI m1 ∧ On (fun c _ => a0 ≤ c ∧ c ≤ a0 + 4) I I1 ∧ ∀ M, Mb b n M → Rp a0 m I M → ∃ M1 p3 m2, Om n p3 ee ∧ Mb b n M1 ∧ On (fun c _ => 158 ≤ c ∧ c ≤ 161) M M1 ∧ (ee = none → Rp a0 m1 I1 M1 ∧ m2 = m1) ∧ F_Mo_pile_58 u N2 (nI m) (mc M p none) J = F_Mo_pile_374 u (nI m2) (mc M1 p3 ee) J := by
    intro m I p f N2 hm hm1 hN2 hb h4 hp hor
    have ho : Ok n p none := Ok_0 hp
    have hn := hb.2.2
    refine ⟨I, m, p, f, q_fi n p none, Ok_fi ho, hb, c61 I p f m none hb h4 ho, hm, hm1, h4, On.refl _, fun M hM hR => ?_⟩
    obtain ⟨N2, rfl⟩ : ∃ z, N2 = z + 2 := ⟨N2 - 2, by omega⟩
    have h3 : (mc M p none) 120 3 = nI n := hM.2.1
    have h4' : (mc M p none) 120 4 = nI p := rfl
    by_cases c : p = n
    · refine ⟨M, p, m, (Ok_fi ho).m, hM, On.refl _, fun _ => ⟨hR, rfl⟩, ?_⟩
      rw [F_Mo_pile_58, m_bad0 ho.m hM, bd_s, if_neg (by decide), h3, h4', if_pos (by rw [nI_leI (by omega) (by omega)]; omega)]
      unfold q_fi
      rw [if_neg (by omega)]
    · have e1 : q_fi n p none = some p := by unfold q_fi; rw [if_pos (by omega)]; rfl
      rw [e1]
      have hoS : Om n p (some p) := ho.m.s (by omega)
      refine ⟨M, p, m, hoS, hM, On.refl _, (fun z => by cases z), ?_⟩
      have m31 : m = 31 := by omega
      subst m31
      rw [F_Mo_pile_58, m_bad0 ho.m hM, bd_s, if_neg (by decide), h3, h4', if_neg (by rw [nI_leI (by omega) (by omega)]; omega), if_pos (by decide)]
      unfold F_Mo_pile_97 F_Mo_pile_120 F_Mo_pile_128 F_Mo_pile_178
      rw [if_pos (by decide), h4', m_fail0 ho.m hM, bd_s, m_nnS (by omega) hoS hM, bd_s, m_badS hoS hM, bd_s, if_neg (by decide), m_needS (by decide) hoS hM, bd_s, m_badS hoS hM, bd_s, if_neg (by decide), F_Mo_pile_58, m_badS hoS hM, bd_s, if_pos (by decide)]
  induction d with
  | zero =>
    intro m I p f N N2 hmd hm1 hN hN2 hb h4 hp
    obtain ⟨N, rfl⟩ : ∃ z, N = z + 1 := ⟨N - 1, by omega⟩
    rw [F_Pi_takeText_36, if_pos (by rw [nl_30, nI_leI (by omega) (by omega)]; omega)]
    exact base m I p f N2 (by omega) hm1 (by omega) hb h4 hp (Or.inl (by omega))
  | succ d ih =>
    intro m I p f N N2 hmd hm1 hN hN2 hb h4 hp
    have hn := hb.2.2
    obtain ⟨N, rfl⟩ : ∃ z, N = z + 1 := ⟨N - 1, by omega⟩
    rw [F_Pi_takeText_36, if_neg (by rw [nl_30, nI_leI (by omega) (by omega)]; omega)]
    by_cases c : p = n
    · rw [t_hm0 c hb, bd_s, if_pos rfl]
      exact base m I p f N2 (by omega) hm1 (by omega) hb h4 hp (Or.inr c)
    · rw [t_hm1 (by omega) hb, bd_s, if_neg (by decide)]
      obtain ⟨N2, rfl⟩ : ∃ z, N2 = z + 1 := ⟨N2 - 1, by omega⟩
      have em : nI (m - 1) + Int32.ofInt 1 = nI m := by rw [nI_io1, nI_add]; congr 1; omega
      rcases pl_step (u := u) (J := J) (f := f) hu hpa hb h4 hm1 (show m ≤ 30 by omega) (show p < n by omega) with ⟨x, p', f', q1, q2, q3, q4⟩ | ⟨k, r, dd, cc, cr, p', f', q1, q2, q3, q4, q5⟩
      · rw [q3, bd_s, em]
        have ho : Ok n p' (some x) := (Ok_0 q2).s q1
        obtain ⟨N, rfl⟩ : ∃ z, N = z + 1 := ⟨N - 1, by omega⟩
        have e1 : F_Pi_takeText_36 u (N + 1) a0 (nI m) (tc I p' f' (some x)) J = some (nI m, tc I p' f' (some x), J) := by
          rw [F_Pi_takeText_36, t_hmS ho hb, bd_s, if_pos rfl, c61 I p' f' m _ hb h4 ho, fi_some, ite_self]
        rw [e1]
        refine ⟨I, m, p', f', some x, ho, hb, rfl, by omega, hm1, h4, On.refl _, fun M hM hR => ?_⟩
        obtain ⟨p2, q6, q7⟩ := q4 M N2 hM hR
        obtain ⟨N2, rfl⟩ : ∃ z, N2 = z + 1 := ⟨N2 - 1, by omega⟩
        have hoS : Om n p2 (some x) := ⟨q6, (fun z => by cases z), fun y hy => by cases hy; exact q1⟩
        refine ⟨M, p2, m, hoS, hM, On.refl _, (fun z => by cases z), ?_⟩
        rw [q7, F_Mo_pile_58, m_badS hoS hM, bd_s, if_pos (by decide)]
      · rw [q4, bd_s, em]
        have hOn : On (fun c _ => a0 ≤ c ∧ c ≤ a0 + 4) I (cutC a0 m k r dd I) := cutC_On
        have hb2 : Tb b n (cutC a0 m k r dd I) := hb.on hOn (by rcases hpa with rfl | rfl <;> omega) (fun j => by rcases hpa with rfl | rfl <;> omega)
        have h42 : (cutC a0 m k r dd I) a0 4 = nI (m + 1) := by unfold cutC; rw [ur, if_pos ⟨rfl, rfl⟩]
        obtain ⟨I1, m1, pp, ff, ee, s1, s2, s3, s4, s5, s6, s7, s8⟩ := ih (m + 1) (cutC a0 m k r dd I) p' f' N N2 (by omega) (by omega) (by omega) (by omega) hb2 h42 q2
        have e2 : m + 1 - 1 = m := by omega
        rw [e2] at s3
        refine ⟨I1, m1, pp, ff, ee, s1, s2, s3, s4, s5, s6, hOn.trans s7, fun M hM hR => ?_⟩
        have hM2 : Mb b n (cutM m k cr cc M) := hM.on cutM_On (by omega) (fun j => by omega)
        obtain ⟨M1, p3, m2, z1, z2, z3, z4, z5⟩ := s8 _ hM2 (Rp_cut hpa q1 (by omega) hR q3)
        exact ⟨M1, p3, m2, z1, z2, cutM_On.trans z3, z4, by rw [q5 M N2 hM hR]; exact z5⟩
end PileT
