/-! ===== rolls: cut ===== -/
def kZ1 (c k : Nat) : Prop := c = 17 ∨ (19 ≤ c ∧ c ≤ 28) ∨ (c = 120 ∧ k ≤ 15) ∨ c = 122 ∨ (123 ≤ c ∧ c ≤ 130)
theorem own120_1 : ∀ k, k < 16 → 6 ≤ k → own 120 k = 1 := by decide +kernel
theorem kZ1_own {c k : Nat} (h : kZ1 c k) : own c k = 0 ∨ own c k = 1 := by
  rcases h with rfl | h | ⟨rfl, h⟩ | rfl | h
  · exact Or.inl own17
  · exact Or.inr (own1 (by omega))
  · by_cases q : k ≤ 5
    · exact Or.inl (own120 q)
    · exact Or.inr (own120_1 k (by omega) (by omega))
  · exact Or.inl ((own_c (by omega)).trans rfl)
  · exact Or.inr (own1 (by omega))
theorem P1.on {S : Nat → Nat → Prop} {I I2 : pm_II} (h : P1 I) (o : On S I I2) (h1 : ∀ k, k = 9 ∨ k = 11 ∨ k = 12 → ¬ S 19 k) (h2 : ∀ k, k = 12 ∨ k = 14 ∨ k = 15 → ¬ S 120 k) (h3 : ∀ k, ¬ S 28 k) (h4 : ∀ k, ¬ S 127 k) (h5 : ∀ k, ¬ S 20 k) (h6 : ∀ k, ¬ S 123 k) : P1 I2 := by
  obtain ⟨K, P, a, ⟨a1, a2, a3, a4, a5⟩, b1, b2, b3⟩ := h
  refine ⟨K, P, a, ⟨?_, ?_, ?_, ?_, ?_⟩, fun i hi k hk => ?_, fun k hk => ?_, fun k h1 h2 => ?_⟩
  · rw [o _ _ (h1 11 (by omega))]; exact a1
  · rw [o _ _ (h2 14 (by omega))]; exact a2
  · rw [o _ _ (h1 12 (by omega))]; exact a3
  · rw [o _ _ (h2 15 (by omega))]; exact a4
  · rw [o _ _ (h1 9 (by omega)), o _ _ (h2 12 (by omega))]; exact a5
  · rw [o _ _ (h3 _), o _ _ (h4 _)]; exact b1 i hi k hk
  · rw [o _ _ (h5 _), o _ _ (h6 _)]; exact b2 k hk
  · rw [o _ _ (h5 _)]; exact b3 k h1 h2
section Cut
variable {u : Nat} {J : pm_JJ} {b : Nat → Int32} {n : Nat}
theorem c37S {ro kn p f y N : Nat} {X : pm_II} (hu : 2000 ≤ u) (ho : Ok n p (some y)) (hb : Tb b n X) : ∃ X2 f2, F_Ro_takeText_37 u (N + 1) (nI ro) (nI kn) (0 : Int32) (16 : Int32) (tc X p f (some y)) J = some (-1, tc X2 p f2 (some y), J) ∧ On (fun c _ => c = 22 ∨ c = 23) X X2 := by
  have hb2 : Tb b n (pm_up X 22 0 (nI 0)) := hb.put (by decide) (by decide)
  have hb3 : Tb b n (pm_up (pm_up X 22 0 (nI 0)) 23 0 (nI 0)) := hb2.put (by decide) (by decide)
  have h22 := rl_22 (u := u) (J := J) (b := b) (n := n) (i := 0) (p := p) (f := p) (fr := 16) (V := 0) (wd := fun _ => 0) (X := pm_up X 22 0 (nI 0)) (by omega) (by omega) ho.1 (by omega) (by omega) (fun k hk => by omega) hb2 (fun k hk => by omega) rfl 0 0 u (some y) (by omega) (by omega) ho
  have hd : dup (fun _ => 0) 0 p 0 0 (some y) = some y := rfl
  have hns := nn_some (b := b) (n := n) (p := p) (x := y) (lo := 1) (hi := nI (min 9 16))
  rw [hd, hns.1, hns.2.1, hns.2.2, ex_some.1, ex_some.2] at h22
  have hrl : F_Ro_readLine u (0 : Int32) (nI ro) (16 : Int32) (tc X p f (some y)) J = some ((), tc (pm_up (pm_up X 22 0 (nI 0)) 23 0 (nI 0)) p (nnF b n p (some y)) (some y), J) := by
    unfold F_Ro_readLine
    rw [t_kwS (by omega) (by decide) (by decide) ho hb, bd_s, t_nnS (by omega) ho hb, bd_s, T3_o (by decide)]
    exact h22
  refine ⟨pm_up (pm_up X 22 0 (nI 0)) 23 0 (nI 0), nnF b n p (some y), ?_, On.up (On.up (On.refl _) (Or.inl rfl)) (Or.inr rfl)⟩
  rw [F_Ro_takeText_37, hrl, bd_s, if_neg (by decide), t_hmS ho hb3, bd_s, if_neg (by decide)]
  have e1 : (0 : Int32) + Int32.ofInt 1 = nI 1 := rfl
  rw [e1, c_75 (b := b) (n := n) ho hb3, fi_some]
  rfl
theorem m_278 {K : Nat} {wd ww : Nat → Nat} (hK : K ≤ 4) : ∀ (d k N : Nat) (Y : pm_II), k + d = 4 → d < N → (∀ j, j < K → Y 125 j = nI (wd j) ∧ Y 126 j = nI (ww j)) → (∀ j, j < k → (j < K → Y 123 j = nI (wd j)) ∧ Y 124 j = nI (if j < K then ww j else 0)) → ∃ Z, F_Mo_cut_278 u N (nI K) (nI k) Y J = (bd (F_Mo_planned u Z J) fun _ I329 J329 => some ((I329 120 15), I329, J329)) ∧ On (fun c _ => c = 123 ∨ c = 124) Y Z ∧ ∀ j, j < 4 → (j < K → Z 123 j = nI (wd j)) ∧ Z 124 j = nI (if j < K then ww j else 0) := by
  intro d
  induction d with
  | zero =>
    intro k N Y hk hN hD hR
    obtain ⟨N, rfl⟩ : ∃ z, N = z + 1 := ⟨N - 1, by omega⟩
    obtain rfl : k = 4 := by omega
    exact ⟨Y, by rw [F_Mo_cut_278, if_pos (by decide)], On.refl _, hR⟩
  | succ d ih =>
    intro k N Y hk hN hD hR
    obtain ⟨N, rfl⟩ : ∃ z, N = z + 1 := ⟨N - 1, by omega⟩
    have hst : F_Mo_cut_278 u (N + 1) (nI K) (nI k) Y J = F_Mo_cut_278 u N (nI K) (nI (k + 1)) (pm_up (pm_up Y 123 k (Y 125 k)) 124 k (nI (if k < K then ww k else 0))) J := by
      rw [F_Mo_cut_278, show (4 : Int32) = nI 4 from rfl, if_neg (by rw [nI_leI (by omega) (by omega)]; omega), vqT (show k < 4 by omega) (by omega), nI_clamp (by omega), nI_io1, nI_add, cond_true, cond_true, cond_true]
      by_cases c : k < K
      · rw [if_neg (by rw [nI_leI (by omega) (by omega)]; omega), if_pos c, (hD k c).2]
        rfl
      · rw [if_pos (by rw [nI_leI (by omega) (by omega)]; omega), if_neg c]
        rfl
    obtain ⟨Z, z1, z2, z3⟩ := ih (k + 1) N (pm_up (pm_up Y 123 k (Y 125 k)) 124 k (nI (if k < K then ww k else 0))) (by omega) (by omega) hD (by
      intro j hj
      simp only [ur]
      by_cases q : j = k
      · subst q
        simp
        exact fun hjk => (hD j hjk).1
      · simp [q]
        exact hR j (by omega))
    exact ⟨Z, hst.trans z1, On.trans (On.up (On.up (On.refl _) (Or.inl rfl)) (Or.inr rfl)) z2, z3⟩
theorem sum_s4 {K : Nat} {ww : Nat → Nat} (h1 : 1 ≤ K) (hK : K ≤ 4) : s4 (fun j => if j < K then ww j else 0) = sumN ww K := by
  have : K = 1 ∨ K = 2 ∨ K = 3 ∨ K = 4 := by omega
  rcases this with rfl | rfl | rfl | rfl <;> simp [s4, sumN]
end Cut
theorem st_cut {u : Nat} {I : pm_II} {J : pm_JJ} (hu : 20000 ≤ u) (ht : Ptape I) (h : P1 I) : ∃ v I1 I2, F_Ph_cut u I J = some (v, I1, J) ∧ F_Mo_cut u I1 J = some (v, I2, J) ∧ Ptape I2 ∧ P1 I2 ∧ Fr 1 I I2 := by
  obtain ⟨b, n, hb, h2, h121, hbb⟩ := ht.bn
  have hn := hb.2.2
  obtain ⟨N, rfl⟩ : ∃ z, u = z + 1 := ⟨u - 1, by omega⟩
  -- the first word
  have hkw : ∃ p1 f1 e1, Ok n p1 e1 ∧ F_Ta_readKeyword (N + 1) 3 (tc I 0 0 none) J = some ((), tc I p1 f1 e1, J) ∧ (e1 = none ∨ e1 = some 0) ∧ ∀ M, Mb b n M → ∃ pm, Ok n pm e1 ∧ (e1 = none → pm = p1) ∧ (bd (F_Mo_isWord (N + 1) 3 (mc M 0 none) J) fun r17 I17 J17 => if ¬ r17 = 0 then (F_Mo_cut_28 (N + 1) (0 : Int32) (0 : Int32) I17 J17) else (bd (F_Mo_fail (N + 1) (0 : Int32) I17 J17) fun _ I25 J25 => F_Mo_cut_28 (N + 1) (0 : Int32) (0 : Int32) I25 J25)) = F_Mo_cut_28 (N + 1) (0 : Int32) (0 : Int32) (mc M pm e1) J := by
    cases hw : q_wd b n 0 (pm_txt 3) with
    | true =>
      have hl := q_wd_le (Nat.zero_le n) hw
      have hk := t_kw1 (u := N + 1) (I := I) (J := J) (f := 0) (a := 3) (by omega) (by decide) (by decide) (by decide) (Ok_0 (Nat.zero_le n)) hb hw
      refine ⟨_, _, none, Ok_0 hl, hk, Or.inl rfl, fun M hM => ⟨_, Ok_0 hl, fun _ => rfl, ?_⟩⟩
      rw [m_w1 (by omega) (Nat.zero_le n) (by decide) hM hw, bd_s, if_pos (by decide)]
    | false =>
      obtain ⟨p', g1, g2⟩ := t_kw0 (u := N + 1) (I := I) (J := J) (f := 0) (a := 3) (by omega) (by decide) (by decide) (by decide) (Ok_0 (Nat.zero_le n)) hb hw
      refine ⟨p', _, some 0, (Ok_0 g1).s (Nat.zero_le _), g2, Or.inr rfl, fun M hM => ⟨0, (Ok_0 (Nat.zero_le n)).s (Nat.zero_le _), (fun z => by cases z), ?_⟩⟩
      have hf := m_fail0 (u := N + 1) (J := J) (y := 0) (Ok_0 (Nat.zero_le n)).m hM
      rw [m_w0 (by omega) (Nat.zero_le n) (by decide) hM hw, bd_s, if_neg (by decide)]
      rw [show (0 : Int32) = nI 0 from rfl, hf, bd_s]
  obtain ⟨p1, f1, e1, o1, c1, he1, hm1⟩ := hkw
  have o2 : Ok n (nnP b n p1 e1) (nnE b n p1 e1 50 400) := Ok_nn o1
  have o3 : Ok n (nnP b n (nnP b n p1 e1) (nnE b n p1 e1 50 400)) (nnE b n (nnP b n p1 e1) (nnE b n p1 e1 50 400) 1 6) := Ok_nn o2
  have o4 : Ok n (q_exP b n (nnP b n (nnP b n p1 e1) (nnE b n p1 e1 50 400)) (nnE b n (nnP b n p1 e1) (nnE b n p1 e1 50 400) 1 6) 10) (q_exE b n (nnP b n (nnP b n p1 e1) (nnE b n p1 e1 50 400)) (nnE b n (nnP b n p1 e1) (nnE b n p1 e1 50 400) 1 6) 10) := Ok_ex o3
  have hcls : F_Ph_cut (N + 1) I J = bd (F_Ro_takeText_37 (N + 1) (N + 1) (nI (nnV b n p1 e1)) (nI (nnV b n (nnP b n p1 e1) (nnE b n p1 e1 50 400))) (0 : Int32) (16 : Int32) (tc I (q_exP b n (nnP b n (nnP b n p1 e1) (nnE b n p1 e1 50 400)) (nnE b n (nnP b n p1 e1) (nnE b n p1 e1 50 400) 1 6) 10) (nnF b n (nnP b n p1 e1) (nnE b n p1 e1 50 400)) (q_exE b n (nnP b n (nnP b n p1 e1) (nnE b n p1 e1 50 400)) (nnE b n (nnP b n p1 e1) (nnE b n p1 e1 50 400) 1 6) 10)) J) fun r19 I19 J19 => bd (F_Ta_close (N + 1) r19 I19 J19) fun r22 I22 J22 => some (r22, I22, J22) := by
    unfold F_Ph_cut F_Ro_takeText
    rw [t_open, bd_s, c1, bd_s, t_nn (by omega) o1 hb, bd_s, t_nn (by omega) o2 hb, bd_s, t_expect o3 hb, bd_s]
  -- the model up to its loop
  have hmod : ∀ I1 : pm_II, I1 120 2 = nI n → (∀ j, j < n → I1 121 j = b j) → (e1 = none → F_Mo_cut (N + 1) I1 J = F_Mo_cut_52 (N + 1) (N + 1) (nI (nnV b n p1 e1)) (nI (nnV b n (nnP b n p1 e1) (nnE b n p1 e1 50 400))) (0 : Int32) (0 : Int32) (mc (TK I1 n) (q_exP b n (nnP b n (nnP b n p1 e1) (nnE b n p1 e1 50 400)) (nnE b n (nnP b n p1 e1) (nnE b n p1 e1 50 400) 1 6) 10) (q_exE b n (nnP b n (nnP b n p1 e1) (nnE b n p1 e1 50 400)) (nnE b n (nnP b n p1 e1) (nnE b n p1 e1 50 400) 1 6) 10)) J) ∧ (e1 = some 0 → ∃ p3, Om n p3 (some 0) ∧ F_Mo_cut (N + 1) I1 J = F_Mo_cut_244 (N + 1) (nI 0) (nI 0) (0 : Int32) (mc (TK I1 n) p3 (some 0)) J) := by
    intro I1 g1 g2
    have hm : Mb b n (TK I1 n) := TK_Mb hn g2
    obtain ⟨pm, om, hpm, hk⟩ := hm1 (TK I1 n) hm
    have h0 : F_Mo_cut (N + 1) I1 J = F_Mo_cut_28 (N + 1) (0 : Int32) (0 : Int32) (mc (TK I1 n) pm e1) J := by
      unfold F_Mo_cut
      rw [m_take (by omega) hn g1, bd_s]
      exact hk
    refine ⟨fun hz => ?_, fun hz => ?_⟩
    · have e := hpm hz
      subst e
      rw [h0]
      unfold F_Mo_cut_28
      rw [m_nn (by omega) o1.m hm, bd_s, m_nn (by omega) o2.m hm, bd_s, m_need (by decide) o3.m hm, bd_s]
    · subst hz
      refine ⟨pm, om.m, ?_⟩
      rw [h0]
      unfold F_Mo_cut_28
      rw [m_nnS (by omega) om.m hm, bd_s, m_nnS (by omega) om.m hm, bd_s, m_needS (by decide) om.m hm, bd_s, m_52e om.m hm]
  -- a fault
  have hfault : ∀ (X2 : pm_II) (pp ff y : Nat) (M2 : pm_II) (p3 : Nat) (x1 x2 x3 : Int32), On (fun c _ => c = 22 ∨ c = 23) I X2 → Ok n pp (some y) → Om n p3 (some y) → On (fun c _ => c = 125 ∨ c = 126) (TK (tc (pm_up X2 17 1 0) pp ff (some y)) n) M2 → F_Ph_cut (N + 1) I J = bd (some ((-1 : Int32), tc X2 pp ff (some y), J)) (fun r19 I19 J19 => bd (F_Ta_close (N + 1) r19 I19 J19) fun r22 I22 J22 => some (r22, I22, J22)) → F_Mo_cut (N + 1) (tc (pm_up X2 17 1 0) pp ff (some y)) J = F_Mo_cut_244 (N + 1) x1 x2 x3 (mc M2 p3 (some y)) J → ∃ v I1 I2, F_Ph_cut (N + 1) I J = some (v, I1, J) ∧ F_Mo_cut (N + 1) I1 J = some (v, I2, J) ∧ Ptape I2 ∧ P1 I2 ∧ Fr 1 I I2 := by
    intro X2 pp ff y M2 p3 x1 x2 x3 oX ok om oM hc hm
    have hbX : Tb b n X2 := hb.on oX (by omega) (fun j => by omega)
    have g2 : ∀ j, j < n → (tc (pm_up X2 17 1 0) pp ff (some y)) 121 j = b j := fun j hj => (oX 121 j (by omega)).trans (h121 j hj)
    have hM2 : Mb b n M2 := (TK_Mb hn g2).on oM (by omega) (fun j => by omega)
    have o1 : On (fun c k => c = 17 ∨ c = 22 ∨ c = 23 ∨ (c = 120 ∧ k ≤ 5) ∨ c = 122 ∨ c = 125 ∨ c = 126) I (mc M2 p3 (some y)) := On_M2 (On.trans (On_TK (On_T3 (On.up (oX.mono (fun c k z => by omega)) (Or.inl rfl)) (fun k => Or.inl rfl)) (by omega) (by omega) (fun j => by omega)) (oM.mono (fun c k z => by omega))) (by omega) (by omega)
    refine ⟨ansW (some y) (-1), tc (pm_up X2 17 1 0) pp ff (some y), mc M2 p3 (some y), ?_, ?_, Ptape.zero ?_ ?_, h.on o1 (fun k hk => by omega) (fun k hk => by omega) (fun k => by omega) (fun k => by omega) (fun k => by omega) (fun k => by omega), o1.fr (fun c k z => kZ1_own (by unfold kZ1; omega))⟩
    · rw [hc, bd_s, t_close2 ok hbX, bd_s]
    · rw [hm]
      unfold F_Mo_cut_244
      rw [m_badS om hM2, bd_s, if_neg (by decide)]
      rfl
    · show M2 17 1 = 0
      rw [oM 17 1 (by omega)]
      rfl
    · show M2 120 2 = 0
      rw [oM 120 2 (by omega)]
      rfl
  rcases he1 with he | he
  · subst he
    cases hE4 : q_exE b n (nnP b n (nnP b n p1 none) (nnE b n p1 none 50 400)) (nnE b n (nnP b n p1 none) (nnE b n p1 none 50 400) 1 6) 10 with
    | some y =>
      rw [hE4] at o4 hcls
      obtain ⟨X2, f2, k1, k2⟩ := c37S (u := N + 1) (J := J) (N := N) (ro := nnV b n p1 none) (kn := nnV b n (nnP b n p1 none) (nnE b n p1 none 50 400)) (f := nnF b n (nnP b n p1 none) (nnE b n p1 none 50 400)) (by omega) o4 hb
      rw [k1] at hcls
      have hm := (hmod (tc (pm_up X2 17 1 0) (q_exP b n (nnP b n (nnP b n p1 none) (nnE b n p1 none 50 400)) (nnE b n (nnP b n p1 none) (nnE b n p1 none 50 400) 1 6) 10) f2 (some y)) ((k2 120 2 (by omega)).trans h2) (fun j hj => (k2 121 j (by omega)).trans (h121 j hj))).1 rfl
      rw [hE4] at hm
      have hMb : Mb b n (TK (tc (pm_up X2 17 1 0) (q_exP b n (nnP b n (nnP b n p1 none) (nnE b n p1 none 50 400)) (nnE b n (nnP b n p1 none) (nnE b n p1 none 50 400) 1 6) 10) f2 (some y)) n) := TK_Mb hn (fun j hj => (k2 121 j (by omega)).trans (h121 j hj))
      exact hfault X2 _ f2 y _ _ _ _ _ k2 o4 o4.m (On.refl _) hcls (hm.trans (m_52e o4.m hMb))
    | none =>
      rw [hE4] at o4 hcls
      have hx1 := q_exE_ok hE4
      obtain ⟨hx2, hk1, hk2⟩ := nnE_ok hx1
      obtain ⟨hx3, hr1, hr2⟩ := nnE_ok hx2
      have v1 : nnV b n p1 none < 1000000 := nnV_lt
      have v2 : nnV b n (nnP b n p1 none) (nnE b n p1 none 50 400) < 1000000 := nnV_lt
      rw [nl_1, nI_leI (by omega) (by omega)] at hk1
      rw [show (6 : Int32) = nI 6 from rfl, nI_leI (by omega) (by omega)] at hk2
      rw [show (50 : Int32) = nI 50 from rfl, nI_leI (by omega) (by omega)] at hr1
      rw [show (400 : Int32) = nI 400 from rfl, nI_leI (by omega) (by omega)] at hr2
      generalize hro : nnV b n p1 none = ro at *
      generalize hkn : nnV b n (nnP b n p1 none) (nnE b n p1 none 50 400) = kn at *
      obtain ⟨X2, pp, ff, ee, K, wd, ww, i1, i2, i3, i4, i5⟩ := cut_loop (u := N + 1) (J := J) (b := b) (n := n) (ro := ro) (kn := kn) (by omega) (by omega) 3 0 _ (nnF b n (nnP b n p1 none) (nnE b n p1 none 50 400)) 0 (N + 1) (N + 1) I (fun _ => 0) (fun _ => 0) (by omega) (by omega) (by omega) o4.1 (Or.inl rfl) hb (fun j hj => by omega) ⟨fun j hj => by omega, Nat.zero_le _⟩ rfl
      have i1' : F_Ro_takeText_37 (N + 1) (N + 1) (nI ro) (nI kn) (0 : Int32) (16 : Int32) (tc I (q_exP b n (nnP b n (nnP b n p1 none) (nnE b n p1 none 50 400)) (nnE b n (nnP b n p1 none) (nnE b n p1 none 50 400) 1 6) 10) (nnF b n (nnP b n p1 none) (nnE b n p1 none 50 400)) none) J = T75 (N + 1) ro kn K X2 pp ff ee J := i1
      rw [i1'] at hcls
      have hmod2 : ∀ I1 : pm_II, I1 120 2 = nI n → (∀ j, j < n → I1 121 j = b j) → ∃ M2 p3 K2, F_Mo_cut (N + 1) I1 J = F_Mo_cut_244 (N + 1) (nI ro) (nI kn) (nI K2) (mc M2 p3 ee) J ∧ Om n p3 ee ∧ On (fun c _ => c = 125 ∨ c = 126) (TK I1 n) M2 ∧ (ee = none → K2 = K ∧ ∀ j, j < K → M2 125 j = nI (wd j) ∧ M2 126 j = nI (ww j)) := by
        intro I1 g1 g2
        have hm := (hmod I1 g1 g2).1 rfl
        rw [hE4] at hm
        obtain ⟨M2, p3, K2, k1, k2, k3, k4⟩ := i5 (TK I1 n) (TK_Mb hn g2) (fun j hj => by omega)
        exact ⟨M2, p3, K2, hm.trans k1, k2, k3, k4⟩
      cases hee : ee with
      | some y =>
        subst hee
        obtain ⟨M2, p3, K2, k1, k2, k3, k4⟩ := hmod2 (tc (pm_up X2 17 1 0) pp ff (some y)) ((i3 120 2 (by omega)).trans h2) (fun j hj => (i3 121 j (by omega)).trans (h121 j hj))
        exact hfault X2 pp ff y M2 p3 _ _ _ i3 i2 k2 k3 hcls k1
      | none =>
        subst hee
        obtain ⟨K1, K4, hD, hrow⟩ := i4 rfl
        obtain ⟨Y1, a1, a2, a3⟩ := c_adopt2 (u := N + 1) (J := J) (wd := wd) (ww := ww) (by omega) K4 4 0 (N + 1) (pm_up (pm_up (pm_up (tc X2 pp ff none) 19 9 (nI ro)) 19 10 (nI kn)) 19 11 (nI K)) (by omega) (by omega) rfl (fun j hj => hrow j hj) (fun j hj => by omega)
        have hRB : RB kn ro (fun j => if j < K then wd j else 0) (fun j => if j < K then ww j else 0) := by
          refine ⟨⟨hk1, hk2⟩, hr2, fun k hk => ?_, by rw [sum_s4 K1 K4]; exact hD.2⟩
          dsimp only
          by_cases q : k < K
          · rw [if_pos q, if_pos q]
            obtain ⟨⟨t1, t2⟩, t3, t4⟩ := hD.1 k q
            exact ⟨t4, t2, fun z => by omega⟩
          · rw [if_neg q, if_neg q]
            exact ⟨by omega, by omega, fun _ => rfl⟩
        have hRA : RA kn ro (fun j => if j < K then wd j else 0) (fun j => if j < K then ww j else 0) Y1 := ⟨(a2 19 9 (by omega)).trans rfl, (a2 19 10 (by omega)).trans rfl, fun k hk => a3 k hk⟩
        obtain ⟨Y2, b1, b2, b3⟩ := c_count (u := N + 1) (J := J) (by omega) hRB hRA
        have hRA2 := hRA.on b2 (by omega) (by omega) (fun k => by omega) (fun k => by omega) (fun k => by omega)
        obtain ⟨Y3, nn, pl, d1, d2, d3, d4, d5, d6, d7⟩ := c_makePlan (u := N + 1) (J := J) (by omega) hRB hRA2 b3
        have eT : T75 (N + 1) ro kn K X2 pp ff none J = some (Y3 19 12, Y3, J) := by
          show bd (F_Ro_adopt_2 (N + 1) (N + 1) (nI 0) (pm_up (pm_up (pm_up (tc X2 pp ff none) 19 9 (nI ro)) 19 10 (nI kn)) 19 11 (nI K)) J) _ = _
          rw [a1, bd_s, b1, bd_s, d1, bd_s]
        have oX : On (fun c _ => 19 ≤ c ∧ c ≤ 28) (tc X2 pp ff none) Y3 := by
          refine On.trans (On.trans (On.trans ?_ (a2.mono (fun c k z => by omega))) (b2.mono (fun c k z => by omega))) (d2.mono (fun c k z => by unfold kP at z; omega))
          refine On.up (On.up (On.up (On.refl _) ?_) ?_) ?_ <;> omega
        have eY : tc Y3 pp ff none = Y3 := tc_of (oX 17 2 (by omega)) (oX 17 3 (by omega)) (oX 17 4 (by omega))
        have hbX : Tb b n X2 := hb.on i3 (by omega) (fun j => by omega)
        have hbX0 : Tb b n (tc X2 pp ff none) := ⟨hbX.1, hbX.2.1, hbX.2.2⟩
        have hbY : Tb b n Y3 := hbX0.on oX (by omega) (fun j => by omega)
        have hc := t_close2 (u := N + 1) (J := J) (f := ff) (x := nI nn) i2 hbY
        rw [eY] at hc
        have hYI : ∀ c k, ¬ (19 ≤ c ∧ c ≤ 28) → c ≠ 17 → Y3 c k = I c k := fun c k q1 q2 => by rw [oX c k q1, tc_r q2, i3 c k (by omega)]
        obtain ⟨M2, p3, K2, k1, k2, k3, k4⟩ := hmod2 (tc (pm_up Y3 17 1 0) pp ff none) ((hYI 120 2 (by omega) (by omega)).trans h2) (fun j hj => (hYI 121 j (by omega) (by omega)).trans (h121 j hj))
        obtain ⟨rfl, k5⟩ := k4 rfl
        have hMT : Mb b n (TK (tc (pm_up Y3 17 1 0) pp ff none) n) := TK_Mb hn (fun j hj => (hYI 121 j (by omega) (by omega)).trans (h121 j hj))
        have hM2 : Mb b n M2 := hMT.on k3 (by omega) (fun j => by omega)
        obtain ⟨Z0, z1, z2, z3⟩ := m_278 (u := N + 1) (J := J) (wd := wd) (ww := ww) K4 4 0 (N + 1) (pm_up (pm_up (pm_up (mc M2 p3 none) 120 12 (nI ro)) 120 13 (nI kn)) 120 14 (nI K2)) (by omega) (by omega) (fun j hj => k5 j hj) (fun j hj => by omega)
        have hMA : MA kn ro K2 (fun j => if j < K2 then wd j else 0) (fun j => if j < K2 then ww j else 0) Z0 := by
          refine ⟨⟨(z2 120 12 (by omega)).trans rfl, (z2 120 13 (by omega)).trans rfl, (z2 120 14 (by omega)).trans rfl, K4⟩, fun k hk => ?_, fun k q1 q2 => ?_, fun k hk => (z3 k hk).2⟩
          · rw [(z3 k (by omega)).1 hk]
            dsimp only
            rw [if_pos hk]
          · dsimp only
            rw [if_neg (by omega)]
        obtain ⟨Z, n2, pl2, w1, w2, w3, w5, w6, ⟨v, w7, w8⟩, w9⟩ := m_planned (u := N + 1) (J := J) (by omega) hRB hMA
        have en := Fe_u w5 d4
        subst en
        have hZ : ∀ c k, c < 120 → c ≠ 17 → Z c k = Y3 c k := fun c k q1 q2 => by
          rw [w2 c k (by unfold kMp; omega), z2 c k (by omega)]
          rw [ur, if_neg (by omega), ur, if_neg (by omega), ur, if_neg (by omega), mc_r (by omega), k3 c k (by omega), tkr (show c ≠ 120 by omega) (show c ≠ 122 by omega), tc_r q2, pm_up_ne q2]
        have hY20 : ∀ k, k < 4 → Y3 20 k = nI (if k < K2 then wd k else 0) := fun k hk => by
          rw [d2 20 k (by unfold kP; omega), b2 20 k (by omega)]
          exact (a3 k hk).1
        have oF : On kZ1 I Z := by
          refine On.trans (On.trans (On.trans (On.trans (On.trans (On.trans (On.trans (i3.mono (fun c k z => ?_)) (On_T3 (On.refl X2) (fun k => Or.inl rfl))) (oX.mono (fun c k z => Or.inr (Or.inl z)))) (On_TK (On_T3 (On.up (On.refl Y3) (Or.inl rfl)) (fun k => Or.inl rfl)) (by unfold kZ1; omega) (by unfold kZ1; omega) (fun j => by unfold kZ1; omega))) (k3.mono (fun c k z => ?_))) (On.up (On.up (On.up (On_M2 (On.refl M2) (by unfold kZ1; omega) (by unfold kZ1; omega)) (by unfold kZ1; omega)) (by unfold kZ1; omega)) (by unfold kZ1; omega))) (z2.mono (fun c k z => ?_))) (w2.mono (fun c k z => ?_))
          · unfold kZ1; omega
          · unfold kZ1; omega
          · unfold kZ1; omega
          · unfold kMp at z; unfold kZ1; omega
        refine ⟨nI n2, tc (pm_up Y3 17 1 0) pp ff none, Z, ?_, ?_, Ptape.zero ?_ ?_, ⟨K2, n2, ⟨K4, w3⟩, ⟨?_, ?_, ?_, w6, ?_⟩, fun i hi k hk => ?_, fun k hk => ?_, fun k q1 q2 => ?_⟩, oF.fr (fun c k z => kZ1_own z)⟩
        · rw [hcls, eT, bd_s, d5, hc, bd_s]
          rfl
        · rw [k1]
          unfold F_Mo_cut_244
          rw [m_bad0 k2 hM2, bd_s, if_pos rfl]
          refine z1.trans ?_
          rw [w1, bd_s, w6]
        · rw [w2 17 1 (by unfold kMp; omega), z2 17 1 (by omega)]
          show M2 17 1 = 0
          rw [k3 17 1 (by omega)]
          rfl
        · rw [w2 120 2 (by unfold kMp; omega), z2 120 2 (by omega)]
          show M2 120 2 = 0
          rw [k3 120 2 (by omega)]
          rfl
        · rw [hZ 19 11 (by omega) (by omega), d2 19 11 (by unfold kP; omega), b2 19 11 (by omega), a2 19 11 (by omega)]
          rfl
        · rw [w2 120 14 (by unfold kMp; omega), z2 120 14 (by omega)]
          rfl
        · rw [hZ 19 12 (by omega) (by omega)]
          exact d5
        · rw [hZ 19 9 (by omega) (by omega), d2 19 9 (by unfold kP; omega), b2 19 9 (by omega), a2 19 9 (by omega), w2 120 12 (by unfold kMp; omega), z2 120 12 (by omega)]
          rfl
        · rw [hZ 28 _ (by omega) (by omega), d7 i hi k hk, w9 i hi k hk]
          have := Pl_u n2 _ v 0 w7 (fun k hk => (hRB.2.2.1 k hk).1) d6 w8 i hi k hk
          rw [Nat.zero_add] at this
          rw [this]
        · rw [hZ 20 _ (by omega) (by omega), hY20 k (by omega), if_pos hk, w2 123 k (by unfold kMp; omega), (z3 k (by omega)).1 hk]
        · rw [hZ 20 _ (by omega) (by omega), hY20 k q2, if_neg (by omega)]
          rfl
  · subst he
    have hE : q_exE b n (nnP b n (nnP b n p1 (some 0)) (nnE b n p1 (some 0) 50 400)) (nnE b n (nnP b n p1 (some 0)) (nnE b n p1 (some 0) 50 400) 1 6) 10 = some 0 := by
      have a := nn_some (b := b) (n := n) (p := p1) (x := 0) (lo := 50) (hi := 400)
      rw [a.2.1]
      have a2 := nn_some (b := b) (n := n) (p := nnP b n p1 (some 0)) (x := 0) (lo := 1) (hi := 6)
      rw [a2.2.1, ex_some.2]
    rw [hE] at o4 hcls
    obtain ⟨X2, f2, k1, k2⟩ := c37S (u := N + 1) (J := J) (N := N) (ro := nnV b n p1 (some 0)) (kn := nnV b n (nnP b n p1 (some 0)) (nnE b n p1 (some 0) 50 400)) (f := nnF b n (nnP b n p1 (some 0)) (nnE b n p1 (some 0) 50 400)) (by omega) o4 hb
    rw [k1] at hcls
    obtain ⟨p3, om, hm⟩ := (hmod (tc (pm_up X2 17 1 0) _ f2 (some 0)) ((k2 120 2 (by omega)).trans h2) (fun j hj => (k2 121 j (by omega)).trans (h121 j hj))).2 rfl
    exact hfault X2 _ f2 0 _ p3 _ _ _ k2 o4 om (On.refl _) hcls hm
