/-! ===== letters: a line of the text ===== -/
def dgp (b : Nat → Int32) (n p : Nat) : Prop := p < n ∧ dig (b p)
theorem dgp_nx {b : Nat → Int32} {n p : Nat} : (48 ≤ h_re b n p ∧ h_re b n p ≤ 57) ↔ dgp b n p := by
  unfold h_re dgp dig
  by_cases c : p < n
  · rw [if_pos c]; exact ⟨fun h => ⟨c, h⟩, fun h => h.2⟩
  · rw [if_neg c]
    constructor
    · intro h; exact absurd h.1 (by decide)
    · intro h; exact absurd h.1 c
section Code
variable {u : Nat} {I M : pm_II} {J : pm_JJ} {b : Nat → Int32} {n p f : Nat}
theorem c_codeS {z : Nat} (ho : Ok n p (some z)) (hb : Tb b n I) : ∀ (d k N : Nat) (x : Int32), k + d = 5 → d < N → ∃ v, F_Ma_readCode_4 u N x (nI k) (tc I p f (some z)) J = some (v, tc I p f (some z), J) := by
  intro d
  induction d with
  | zero =>
    intro k N x hk hN
    obtain ⟨N, rfl⟩ : ∃ q, N = q + 1 := ⟨N - 1, by omega⟩
    refine ⟨x, ?_⟩
    rw [F_Ma_readCode_4, nl_5, if_pos (by rw [nI_leI (by omega) (by omega)]; omega)]
  | succ d ih =>
    intro k N x hk hN
    obtain ⟨N, rfl⟩ : ∃ q, N = q + 1 := ⟨N - 1, by omega⟩
    have nx : q_nx b n p (some z) = -1 := by unfold q_nx; rw [if_neg (fun h => by cases h.1)]
    have tk : q_tk b n p (some z) (-1) = false := by unfold q_tk; rw [decide_eq_false]; intro h; cases h.1
    obtain ⟨v, hv⟩ := ih (k + 1) N (x * 10 + -1 - 48) (by omega) (by omega)
    refine ⟨v, ?_⟩
    have e2 : (tc I p f (some z)) 17 2 = nI p := rfl
    rw [F_Ma_readCode_4, nl_5, if_neg (by rw [nI_leI (by omega) (by omega)]; omega), t_next ho hb, bd_s, nx, if_pos (by decide)]
    unfold F_Ma_readCode_26 F_Ta_place F_Ma_readCode_34
    rw [e2, bd_s, t_blame ho hb, bd_s]
    rw [show q_bl (some z) p = some z from rfl, t_takes ho hb, bd_s, tk, if_neg (by decide), nI_io1, nI_add]
    exact hv
theorem c_code (hu : 20 ≤ u) (hb : Tb b n I) (hp : p ≤ n) : ((∀ j, j < 5 → dgp b n (p + j)) ∧ F_Ma_readCode u (tc I p f none) J = some (nI (r_vn b p 5), tc I (p + 5) f none, J) ∧ ∀ M (JM : pm_JJ) (K : Int32 → pm_II → pm_JJ → Option (Int32 × pm_II × pm_JJ)) (x1 : Int32), Mb b n M → F_Mo_letters_50 u K x1 (mc M p none) JM = F_Mo_letters_113 u K x1 (nI (r_vn b p 5)) (mc M (p + 5) none) JM) ∨ (∃ g v, g < 5 ∧ p + g ≤ n ∧ F_Ma_readCode u (tc I p f none) J = some (v, tc I (p + g) f (some (p + g)), J) ∧ ∀ M (JM : pm_JJ) (K : Int32 → pm_II → pm_JJ → Option (Int32 × pm_II × pm_JJ)) (x1 : Int32), Mb b n M → ∃ w, F_Mo_letters_50 u K x1 (mc M p none) JM = F_Mo_letters_113 u K x1 w (mc M (p + g + 1) (some (p + g))) JM) := by
  have hn := hb.2.2
  have key : ∀ (d k N N2 : Nat), k + d = 5 → d < N → d + 1 < N2 → p + k ≤ n → (∀ j, j < k → dgp b n (p + j)) → ((∀ j, j < 5 → dgp b n (p + j)) ∧ F_Ma_readCode_4 u N (nI (r_vn b p k)) (nI k) (tc I (p + k) f none) J = some (nI (r_vn b p 5), tc I (p + 5) f none, J) ∧ ∀ M (JM : pm_JJ) (K : Int32 → pm_II → pm_JJ → Option (Int32 × pm_II × pm_JJ)) (x1 : Int32), Mb b n M → F_Mo_letters_54 u K N2 x1 (nI (r_vn b p k)) (nI k) (mc M (p + k) none) JM = F_Mo_letters_113 u K x1 (nI (r_vn b p 5)) (mc M (p + 5) none) JM) ∨ (∃ g v, g < 5 ∧ p + g ≤ n ∧ F_Ma_readCode_4 u N (nI (r_vn b p k)) (nI k) (tc I (p + k) f none) J = some (v, tc I (p + g) f (some (p + g)), J) ∧ ∀ M (JM : pm_JJ) (K : Int32 → pm_II → pm_JJ → Option (Int32 × pm_II × pm_JJ)) (x1 : Int32), Mb b n M → ∃ w, F_Mo_letters_54 u K N2 x1 (nI (r_vn b p k)) (nI k) (mc M (p + k) none) JM = F_Mo_letters_113 u K x1 w (mc M (p + g + 1) (some (p + g))) JM) := by
    intro d
    induction d with
    | zero =>
      intro k N N2 hk hN hN2 hpk hd
      obtain ⟨N, rfl⟩ : ∃ q, N = q + 1 := ⟨N - 1, by omega⟩
      obtain ⟨N2, rfl⟩ : ∃ q, N2 = q + 1 := ⟨N2 - 1, by omega⟩
      have : k = 5 := by omega
      subst this
      left
      refine ⟨hd, ?_, fun M JM K x1 hM => ?_⟩
      · rw [F_Ma_readCode_4, if_pos (by decide)]
      · rw [F_Mo_letters_54, if_pos (by decide)]
    | succ d ih =>
      intro k N N2 hk hN hN2 hpk hd
      obtain ⟨N, rfl⟩ : ∃ q, N = q + 1 := ⟨N - 1, by omega⟩
      obtain ⟨N2, rfl⟩ : ∃ q, N2 = q + 1 := ⟨N2 - 1, by omega⟩
      have ho : Ok n (p + k) none := Ok_0 hpk
      have c5 : ¬ (5 : Int32) ≤ nI k := by rw [nl_5, nI_leI (by omega) (by omega)]; omega
      have nx : q_nx b n (p + k) none = h_re b n (p + k) := h_re_q.symm
      by_cases c : dgp b n (p + k)
      · obtain ⟨c1, c2⟩ := c
        obtain ⟨e1, e2⟩ := dig_nI c2
        have hh : h_re b n (p + k) = b (p + k) := by unfold h_re; rw [if_pos c1]
        have stp : nI (r_vn b p k) * 10 + b (p + k) - 48 = nI (r_vn b p (k + 1)) := by rw [e1]; exact nI_step
        have stp2 : 10 * nI (r_vn b p k) + b (p + k) - 48 = nI (r_vn b p (k + 1)) := by rw [e1]; exact nI_step2
        have ec : F_Ma_readCode_4 u (N + 1) (nI (r_vn b p k)) (nI k) (tc I (p + k) f none) J = F_Ma_readCode_4 u N (nI (r_vn b p (k + 1))) (nI (k + 1)) (tc I (p + (k + 1)) f none) J := by
          have tk : q_tk b n (p + k) none (b (p + k)) = true := by unfold q_tk; rw [decide_eq_true]; exact ⟨rfl, c1, rfl⟩
          rw [F_Ma_readCode_4, if_neg c5, t_next ho hb, bd_s, nx, hh, if_neg (Int32.not_lt.mpr c2.1), if_pos c2.2]
          unfold F_Ma_readCode_34
          rw [t_takes ho hb, bd_s, tk, if_pos rfl, stp, nI_io1, nI_add]
          rfl
        have em : ∀ M (JM : pm_JJ) (K : Int32 → pm_II → pm_JJ → Option (Int32 × pm_II × pm_JJ)) (x1 : Int32), Mb b n M → F_Mo_letters_54 u K (N2 + 1) x1 (nI (r_vn b p k)) (nI k) (mc M (p + k) none) JM = F_Mo_letters_54 u K N2 x1 (nI (r_vn b p (k + 1))) (nI (k + 1)) (mc M (p + (k + 1)) none) JM := by
          intro M JM K x1 hM
          have h4 : (mc M (p + k) none) 120 4 = nI (p + k) := rfl
          have hdc : decide (48 ≤ b (p + k) ∧ b (p + k) ≤ 57) = true := decide_eq_true c2
          rw [F_Mo_letters_54, if_neg c5, m_bad0 ho.m hM, bd_s, if_neg (by decide), m_here ho.m hM, bd_s, m_isDigit, bd_s, hh, hdc, if_pos (by decide)]
          unfold F_Mo_letters_84
          rw [m_here ho.m hM, bd_s, hh, stp2, h4, nI_1, M2_a, nI_io1, nI_add]
          rfl
        have hd2 : ∀ j, j < k + 1 → dgp b n (p + j) := by
          intro j hj
          by_cases q : j = k
          · subst q; exact ⟨c1, c2⟩
          · exact hd j (by omega)
        rcases ih (k + 1) N N2 (by omega) (by omega) (by omega) (by omega) hd2 with ⟨a1, a2, a3⟩ | ⟨g, v, a1, a2, a3, a4⟩
        · left
          exact ⟨a1, ec.trans a2, fun M JM K x1 hM => (em M JM K x1 hM).trans (a3 M JM K x1 hM)⟩
        · right
          refine ⟨g, v, a1, a2, ec.trans a3, fun M JM K x1 hM => ?_⟩
          obtain ⟨w, hw⟩ := a4 M JM K x1 hM
          exact ⟨w, (em M JM K x1 hM).trans hw⟩
      · right
        have hoS : Ok n (p + k) (some (p + k)) := ho.s hpk
        have hh := fun z => c (dgp_nx.mp z)
        obtain ⟨v, hv⟩ := c_codeS (u := u) (J := J) (f := f) hoS hb d (k + 1) N (nI (r_vn b p k) * 10 + h_re b n (p + k) - 48) (by omega) (by omega)
        refine ⟨k, v, by omega, hpk, ?_, fun M JM K x1 hM => ?_⟩
        · have e2 : (tc I (p + k) f none) 17 2 = nI (p + k) := rfl
          have e26 : F_Ma_readCode_26 u (F_Ma_readCode_4 u N) (nI (r_vn b p k)) (nI k) (h_re b n (p + k)) (tc I (p + k) f none) J = some (v, tc I (p + k) f (some (p + k)), J) := by
            have tk : q_tk b n (p + k) (some (p + k)) (h_re b n (p + k)) = false := by unfold q_tk; rw [decide_eq_false]; intro h; cases h.1
            unfold F_Ma_readCode_26 F_Ta_place F_Ma_readCode_34
            rw [e2, bd_s, t_blame ho hb, bd_s]
            rw [show q_bl none (p + k) = some (p + k) from rfl, t_takes hoS hb, bd_s, tk, if_neg (by decide), nI_io1, nI_add]
            exact hv
          rw [F_Ma_readCode_4, if_neg c5, t_next ho hb, bd_s, nx]
          by_cases q1 : h_re b n (p + k) < 48
          · rw [if_pos q1]; exact e26
          · rw [if_neg q1, if_neg (fun z => hh ⟨Int32.not_lt.mp q1, z⟩)]; exact e26
        · have h4 : (mc M (p + k) none) 120 4 = nI (p + k) := rfl
          have h4S : (mc M (p + k) (some (p + k))) 120 4 = nI (p + k) := rfl
          have hdc : decide (48 ≤ h_re b n (p + k) ∧ h_re b n (p + k) ≤ 57) = false := decide_eq_false hh
          have hoS2 : Om n (p + k + 1) (some (p + k)) := ⟨by omega, (fun z => by cases z), fun x hx => by cases hx; exact hpk⟩
          obtain ⟨N2, rfl⟩ : ∃ q, N2 = q + 1 := ⟨N2 - 1, by omega⟩
          rw [F_Mo_letters_54, if_neg c5, m_bad0 ho.m hM, bd_s, if_neg (by decide), m_here ho.m hM, bd_s, m_isDigit, bd_s, hdc, if_neg (by decide), h4, m_fail0 ho.m hM, bd_s]
          unfold F_Mo_letters_84
          rw [m_here hoS.m hM, bd_s, h4S, nI_1, M2_a, nI_io1, nI_add]
          refine ⟨10 * nI (r_vn b p k) + h_re b n (p + k) - 48, ?_⟩
          have e54 : ∀ y : Int32, F_Mo_letters_54 u K (N2 + 1) x1 y (nI (k + 1)) (mc M (p + k + 1) (some (p + k))) JM = F_Mo_letters_113 u K x1 y (mc M (p + k + 1) (some (p + k))) JM := by
            intro y
            rw [F_Mo_letters_54, m_badS hoS2 hM, bd_s, if_pos (show ¬ (1 : Int32) = 0 by decide), ite_self]
          exact e54 _
  rcases key 5 0 u u (by omega) (by omega) (by omega) (by omega) (fun j hj => by omega) with h | h
  · left; exact h
  · right; exact h
end Code
