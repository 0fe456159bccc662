/-- heaps that are the same as far as cells go -/
def hw (h h2 : pm_H) : Prop := h.1 = h2.1 ∧ h.2.1 = h2.2.1 ∧ h.2.2.1 = h2.2.2.1 ∧ ∀ a k, 16 ≤ a → a < h.1 → k < nR a → h.2.2.2 a k = h2.2.2.2 a k
def pm_he (P : pm_J) : Prop := ∀ k N Y pc L st h h2 Q, hw h h2 → P k N Y pc L st h2 Q → P k N Y pc L st h Q
theorem hw_rd {h h2 : pm_H} (w : hw h h2) {t a k : Nat} (e : h.2.2.2 a k = h2.2.2.2 a k) : pm_rd t h a k = pm_rd t h2 a k := by
  unfold pm_rd
  rw [w.2.1, w.2.2.1, e]
theorem nR_o {i : Nat} (h : (pm_sh i).1 < 100) : nR i = pm_cN (pm_sh i).1 := by
  unfold nR
  rw [show Nat.blt (pm_sh i).1 100 = true from Nat.ble_eq_true_of_le h]; rfl
theorem nR_a {i : Nat} (h : (pm_sh i).1 = 103) : nR i = (pm_sh i).2 := by
  unfold nR
  rw [h]; rfl
theorem hw_val {h h2 : pm_H} (w : hw h h2) {i k : Nat} (hi : 16 ≤ i) (hi2 : i < h.1) (hk : (pm_sh i).1 < 100 → k < pm_cN (pm_sh i).1) (hk2 : (pm_sh i).1 = 103 → k < (pm_sh i).2) : pm_val h i k = pm_val h2 i k := by
  unfold pm_val
  by_cases h1 : (pm_sh i).1 < 100
  · rw [if_pos h1, if_pos h1]
    exact hw_rd w (w.2.2.2 i k hi hi2 (by rw [nR_o h1]; exact hk h1))
  · rw [if_neg h1, if_neg h1]
    by_cases h3 : (pm_sh i).1 = 103
    · have h4 : ¬ (pm_sh i).1 = 102 := by omega
      rw [if_neg h4, if_neg h4, if_pos h3, if_pos h3]
      exact w.2.2.2 i k hi hi2 (by rw [nR_a h3]; exact hk2 h3)
    · rw [if_neg h3, if_neg h3, w.2.1, w.2.2.1]
theorem arrV_to {cA : ClassId} {n : Nat} {f f2 : Nat → Value} (h : ∀ k, k < n → f k = f2 k) : arrV cA n f = arrV cA n f2 := by
  unfold arrV
  rw [show (fun j : Fin n => f j.val) = fun j : Fin n => f2 j.val from funext fun j => h j.val j.isLt]
theorem hw_Rep {g : pm_G} {h h2 : pm_H} {H : Heap} (w : hw h h2) (hR : pm_Rep g h H) : pm_Rep g h2 H := by
  obtain ⟨a1, a2, a3, ⟨a4, a5⟩, a6⟩ := hR
  refine ⟨by rw [← w.1]; exact a1, by rw [← w.1]; exact a2, a3, ⟨by rw [← w.2.1]; exact a4, by rw [← w.2.2.1]; exact a5⟩, fun i hi hi2 => ?_⟩
  have hi3 : i < h.1 := by rw [w.1]; exact hi2
  have c := a6 i hi hi3
  unfold pm_cell at c ⊢
  by_cases h1 : (pm_sh i).1 < 100
  · rw [if_pos h1] at c ⊢
    exact c.to (fun k hk => congrArg (pm_rv g) (hw_val w hi hi3 (fun _ => hk) (fun z => absurd z (by omega))))
  · rw [if_neg h1] at c ⊢
    rw [c]
    exact congrArg some (arrV_to (fun k hk => congrArg (pm_rv g) (hw_val w hi hi3 (fun z => absurd z h1) (fun _ => hk))))
theorem sim_he (g : pm_G) (l : Launch) : pm_he (pm_Sim g l) := by
  intro k N Y pc L st h h2 Q w hP p e R s m args below meth c H locs ls n0 Qw hC hR hL hn hlo hret
  rw [w.1]
  exact hP p e R s m args below meth c H locs ls n0 Qw hC (hw_Rep w hR) hL (by rw [← w.1]; exact hn) hlo hret

section LawPre
variable {P : pm_J} {k N : Nat} {Y : pm_M} {pc : Nat} {L st : List Value} {h : pm_H} {Q : Option Value → pm_H → Prop}
theorem p_s (hP : pm_Cl P) (q : Nat) {i : Instr} {len : Nat} {x : Nat × Nat × Nat} {st' : List Value} (hi : pm_ins Y pc = some (i, len, x)) (hs : pm_stk i st = some st') (hq : pc + len = q) (hk : P k N Y q L st' h Q) : P k N Y pc L st h Q := by
  subst hq; exact hP.1.2.1 _ _ _ _ _ _ _ _ _ _ _ _ hi hs hk
theorem p_t (hP : pm_Cl P) (q : Nat) {i : Instr} {len : Nat} {x : Nat × Nat × Nat} {st' L' : List Value} (hi : pm_ins Y pc = some (i, len, x)) (hs : pm_sto i st L = some (st', L')) (hq : pc + len = q) (hk : P k N Y q L' st' h Q) : P k N Y pc L st h Q := by
  subst hq; exact hP.1.2.2.2.1 _ _ _ _ _ _ _ _ _ _ _ _ _ hi hs hk
theorem p_nw (hP : pm_Cl P) (q : Nat) {idx len ci : Nat} {x : Nat × Nat} (hi : pm_ins Y pc = some (.new idx, len, ci, x)) (hs : pm_sh h.1 = (ci, pm_cN ci)) (hK : pm_K ≤ h.1) (hN : h.1 + 1 ≤ N) (hq : pc + len = q) (hk : P k N Y q L (.ref h.1 :: st) (pm_z h) Q) : P k N Y pc L st h Q := by
  subst hq; exact hP.2.2.1.2.2.2.2.2.2.2.2.2.1 _ _ _ _ _ _ _ _ _ _ _ _ hi hs hK hN hk
theorem p_ci (hP : pm_Cl P) {N' idx len z : Nat} {x : Nat × Nat} {Y' : pm_M} {As rest : List Value} {b : Nat} (hi : pm_ins Y pc = some (.invokespecial idx, len, z, x)) (hz : pm_mz z = some Y') (hk : pm_kd Y' = 2) (hl : As.length = pm_np Y') (hc : pm_cats rest ≤ 8) (hfit : (List.flatMap pm_sl1 (.ref b :: As)).length ≤ pm_ml Y') (hN : h.1 ≤ N') (hN' : N' ≤ N) (hst : As.reverse ++ .ref b :: rest = st)
    (kk : Px k N' Y' 0 (pm_ent (pm_ml Y') (.ref b :: As)) [] h (fun r h' => h'.1 = N' ∧ P (k + 1) N Y (pc + 3) L (r.toList ++ rest) h' Q)) : P (k + 1) N Y pc L st h Q := by
  subst hst
  exact hP.2.2.2.2.2.1 _ _ _ _ _ _ _ _ _ _ _ _ _ _ _ _ hi hz hk hl hc hfit hN hN' (kk P hP)
end LawPre
theorem law_pre {P : pm_J} (hP : pm_Cl P) {xs : Nat → Int32} {n : Nat} {Q : Option Value → pm_H → Prop} {h1 h2 : EH} (e1 : ini1 = some (none, h1)) (n1 : h1.1 = 120) (w1 : enew h1 = true) (e2 : ini2 h1 = some (none, h2)) (n2 : h2.1 = 176) (kk : P 800 176 m_La_law 18 (lL 0) [] (ab xs n h2) Q) : P 800 176 m_La_law 0 [.ref 0, .null, .null, .null] [] (pm_h0 xs n) Q := by
  show P 800 176 m_La_law 0 [.ref 0, .null, .null, .null] [] (ab xs n (16, [], [])) Q
  refine p_nw hP 3 rfl rfl (Nat.le_refl _) (Nat.le_of_ble_eq_true rfl) rfl ?_
  rw [ab_z (Nat.le_refl _) rfl rfl]
  refine p_s hP 4 rfl rfl rfl ?_
  refine p_ci hP (k := 799) (N' := 120) (As := []) (b := 16) rfl at_Ph_init rfl rfl (Nat.le_of_ble_eq_true rfl) (Nat.le_of_ble_eq_true rfl) (Nat.le_of_ble_eq_true rfl) (Nat.le_of_ble_eq_true rfl) rfl ?_
  refine (evx_ok _ 797 _ _ _ _ _ _ _ e1).2 120 _ (Nat.le_of_eq n1) ⟨n1, ?_⟩
  refine p_t hP 8 rfl rfl rfl ?_
  refine p_nw hP 11 rfl (by show pm_sh h1.1 = _; rw [n1]; rfl) (by show 16 ≤ h1.1; rw [n1]; exact Nat.le_of_ble_eq_true rfl) (by show h1.1 + 1 ≤ _; rw [n1]; exact Nat.le_of_ble_eq_true rfl) rfl ?_
  obtain ⟨u1, u2, u3⟩ := enew_1 w1
  rw [ab_z u1 u2 u3]
  rw [show (ab xs n h1).1 = 120 from n1, n1]
  refine p_s hP 12 rfl rfl rfl ?_
  refine p_ci hP (k := 799) (N' := 176) (As := []) (b := 120) rfl at_Mo_init rfl rfl (Nat.le_of_ble_eq_true rfl) (Nat.le_of_ble_eq_true rfl) (Nat.le_of_ble_eq_true rfl) (Nat.le_of_ble_eq_true rfl) rfl ?_
  refine (evx_ok _ 797 _ _ _ _ _ _ _ e2).2 176 _ (Nat.le_of_eq n2) ⟨n2, ?_⟩
  refine p_t hP 16 rfl rfl rfl ?_
  refine p_s hP 17 rfl rfl rfl ?_
  refine p_t hP 18 rfl rfl rfl ?_
  exact kk
theorem law_all (hI : ∀ (xs : Nat → Int32) (n : Nat), Inv 0 110 115 g0 (abI xs iniE) (abJ n)) (P : pm_J) (hP : pm_Cl P) (he : pm_he P) (xs : Nat → Int32) (n : Nat) (hn : n ≤ 384) : P 800 176 m_La_law 0 [.ref 0, .null, .null, .null] [] (pm_h0 xs n) (fun r h => r = some (.int 1) ∧ h.1 = 176) := by
  obtain ⟨h1, h2, e1, n1, w1, e2, n2, c1, c2⟩ := ini_run
  refine law_pre hP e1 n1 w1 e2 n2 ?_
  refine he _ _ _ _ _ _ (ab xs n h2) (hp (abI xs iniE) (abJ n) (pm_RT 110 115 g0)) _ ⟨n2, ?_, rfl, fun a k ha ha2 hk => eqR_eq c2 ha (by rw [← n2]; exact ha2) hk⟩ ?_
  · funext a k
    show abI xs h2.2.1 a k = abI xs iniE a k
    by_cases h0 : a = 0
    · subst h0
      exact (show xs k = xs k from rfl)
    · unfold abI
      rw [nb_f h0]
      exact eqI_eq c1 a k
  · exact law_loop (u := 60000) (Nat.le_refl _) hn 64 0 0 110 115 g0 _ _ (by omega) (by omega) (by omega) (hI xs n) rfl P hP
