/-! ===== mail: letters ===== -/
theorem st_letters {u t : Nat} {I : pm_II} {J : pm_JJ} (hu : 2000 ≤ u) (ht60 : t ≤ 1000) (ht : Ptape I) (h : P7 t I J) : ∃ v I1 J1 I2 J2, F_Ph_letters u I J = some (v, I1, J1) ∧ F_Mo_letters u I1 J1 = some (v, I2, J2) ∧ P7 (t + 1) I2 J2 ∧ Fr 7 I I2 ∧ Fr 7 J J2 ∧ Ptape I2 := by
  obtain ⟨b, n, hb, ht2, h121, hbb⟩ := ht.bn
  have hn := hb.2.2
  obtain ⟨s, cm, K, most, least, ⟨ho, hK, h1, h2, h30⟩, hc, hm, ⟨h5, h6⟩, hs, hX, hw⟩ := h
  have hL := hc.1
  have o0 : On (fun c k => c = 89 ∧ k = 5) I (pm_up I 89 5 0) := On.up (On.refl _) ⟨rfl, rfl⟩
  obtain ⟨I1, J1, pp, ff, e0, kk, dc1, dm1, i1, i2, i3, i4, i5, i6⟩ := ll_loop (u := u) (b := b) (n := n) (s := s) (by omega) hbb ho hL 39 0 0 0 u u (fun _ => 0) (fun _ => 0) (pm_up I 89 5 0) J (by omega) (by omega) (by omega) (hb.put (by omega) (by omega)) (Nat.zero_le _) (Or.inl rfl) ⟨by omega, rfl, fun j hj => absurd hj (Nat.not_lt_zero _)⟩
  have oI : On kDI I I1 := On.trans (o0.mono (fun c k z => by unfold kDI; omega)) i3
  have hb1 : Tb b n I1 := ⟨fun j hj => by rw [oI 18 j (by unfold kDI; omega)]; exact hb.1 j hj, by rw [oI 17 1 (by unfold kDI; omega)]; exact hb.2.1, hn⟩
  have hc1 : LC s cm K I1 J1 := by
    obtain ⟨a1, a2, a3, a4, a5, a6, a7⟩ := hc
    exact ⟨a1, a2, a3, a4, by rw [oI 89 6 (by unfold kDI; omega)]; exact a5, by rw [oI 89 7 (by unfold kDI; omega)]; exact a6, fun k hk => by rw [oI 90 _ (by unfold kDI; omega), oI 92 _ (by unfold kDI; omega), i4 91 _ (by unfold kDJ; omega)]; exact a7 k hk⟩
  have hop : F_Ph_letters u I J = bd (F_Ma_takeText_69 u (tc I1 pp ff e0) J1) fun r15 I15 J15 => bd (F_Bu_outdate u I15 J15) fun _ I23 J23 => bd (F_Ta_close u r15 I23 J23) fun r31 I31 J31 => some (r31, I31, J31) := by
    unfold F_Ph_letters F_Ma_takeText
    rw [t_open, bd_s, T3_o (by omega), ← i2]
  -- the model's end
  have mdl : ∀ (A : pm_II) (B : pm_JJ), On (fun c k => c < 120) I1 A → On (fun c _ => c < 120) J1 B → A 17 1 = 0 → ∃ M1 J2 p3, Om n p3 (q_fi n pp e0) ∧ Mb b n M1 ∧ F_Mo_letters u A B = F_Mo_letters_240 u (mc M1 p3 (q_fi n pp e0)) J2 ∧ (q_fi n pp e0 = none → LM (adk s dc1 dm1 kk) M1 J2 ∧ M1 120 74 = nI (adk s dc1 dm1 kk).1) ∧ On (fun c k => kMI s.1 c k ∨ c = 122 ∨ (c = 120 ∧ (k = 2 ∨ k = 3))) A M1 ∧ On (kMJ s.1) B J2 ∧ M1 120 2 = 0 ∧ M1 17 1 = 0 := by
    intro A B oA oB h17
    have hA2 : A 120 2 = nI n := by rw [oA 120 2 (by omega), oI 120 2 (by unfold kDI; omega)]; exact ht2
    have hM : Mb b n (pm_up (TK A n) 120 74 (nI s.1)) := Mb.putk (TK_Mb hn (fun j hj => by rw [oA 121 j (by omega), oI 121 j (by unfold kDI; omega)]; exact h121 j hj)) (by omega)
    have hLM : LM s (pm_up (TK A n) 120 74 (nI s.1)) B := fun k hk => by
      rw [ur, if_neg (by omega), tkr (by omega) (by omega), oA 162 k (by omega), oI 162 k (by unfold kDI; omega), oB 168 k (by omega), i4 168 k (by unfold kDJ; omega)]
      exact hm k hk
    obtain ⟨M1, J2, p3, x1, x2, x3, x4, x5, x6⟩ := i6 _ B hM hLM rfl
    have h73 : (mc (TK A n) 0 none) 120 73 = nI s.1 := by
      rw [mc_k (by omega) (by omega), tkk (by omega) (by omega), oA 120 73 (by omega), oI 120 73 (by unfold kDI; omega)]; exact hw.1
    have oT : On (fun c k => kMI s.1 c k ∨ c = 122 ∨ (c = 120 ∧ (k = 2 ∨ k = 3))) A (TK A n) := by
      intro c k hk
      by_cases q : c = 120
      · subst q
        unfold kMI at hk
        rw [tkk (by omega) (by omega)]
      · rw [tkr q (by omega)]
    refine ⟨M1, J2, p3, x1, x2, ?_, x4, On.trans (On.up oT (Or.inl (by unfold kMI; omega))) (x5.mono (fun c k z => Or.inl z)), x6, ?_, ?_⟩
    · unfold F_Mo_letters
      rw [m_take (by omega) hn hA2, bd_s, h73, M2_k (by omega) (by omega)]
      exact x3
    · rw [x5 120 2 (by unfold kMI; omega)]; rfl
    · rw [x5 17 1 (by unfold kMI; omega)]; exact h17
  have frM : ∀ {A M1 : pm_II}, On (fun c k => kMI s.1 c k ∨ c = 122 ∨ (c = 120 ∧ (k = 2 ∨ k = 3))) A M1 → Fr 7 A M1 := by
    intro A M1 o
    refine o.fr (fun c k z => ?_)
    by_cases q : c = 120
    · subst q
      by_cases q2 : k ≤ 5
      · exact Or.inl (own120 q2)
      · refine Or.inr (own120_7 k ?_ ?_) <;> (unfold kMI at z; omega)
    · by_cases q2 : c = 122
      · subst q2; exact Or.inl rfl
      · exact Or.inr (own7 (by unfold kMI at z; omega))
  have frJ1 : Fr 7 J J1 := i4.fr (fun c k z => Or.inr (own7 (by unfold kDJ at z; omega)))
  have frI1 : Fr 7 I I1 := oI.fr (fun c k z => Or.inr (own7 (by unfold kDI at z; omega)))
  have frMJ : ∀ {A B : pm_JJ}, On (kMJ s.1) A B → Fr 7 A B := fun o => o.fr (fun c k z => Or.inr (own7 (by unfold kMJ at z; omega)))
  -- nothing taken
  have keep : ∀ (v : Int32) (e : Option Nat) (f : Nat), F_Ph_letters u I J = some (v, tc (pm_up (pm_up I1 95 8 1) 17 1 0) pp f e, J1) → (∀ M1 J2 p3, Om n p3 (q_fi n pp e0) → Mb b n M1 → (q_fi n pp e0 = none → LM (adk s dc1 dm1 kk) M1 J2 ∧ M1 120 74 = nI (adk s dc1 dm1 kk).1) → F_Mo_letters_240 u (mc M1 p3 (q_fi n pp e0)) J2 = some (v, mc M1 p3 (q_fi n pp e0), J2)) → ∃ v I1 J1 I2 J2, F_Ph_letters u I J = some (v, I1, J1) ∧ F_Mo_letters u I1 J1 = some (v, I2, J2) ∧ P7 (t + 1) I2 J2 ∧ Fr 7 I I2 ∧ Fr 7 J J2 ∧ Ptape I2 := by
    intro v e f hcl hmo
    have oA : On (fun c k => c = 95 ∧ k = 8 ∨ c = 17) I1 (tc (pm_up (pm_up I1 95 8 1) 17 1 0) pp f e) := by
      intro c k hk
      rw [tc_r (by omega), ur, if_neg (by omega), ur, if_neg (by omega)]
    obtain ⟨M1, J2, p3, x1, x2, x3, x4, x5, x6, x7, x8⟩ := mdl (tc (pm_up (pm_up I1 95 8 1) 17 1 0) pp f e) J1 (oA.mono (fun c k z => by omega)) (On.refl _) rfl
    have frA : Fr 7 I (tc (pm_up (pm_up I1 95 8 1) 17 1 0) pp f e) := Fr_T3 (Fr.up (c := 17) (k := 1) (Fr.up (c := 95) (k := 8) frI1 (Or.inr rfl)) (Or.inl rfl))
    have lo : ∀ c k, c < 120 → c ≠ 17 → ¬ (c = 95 ∧ k = 8) → (mc M1 p3 (q_fi n pp e0)) c k = I1 c k := fun c k hc h17 h95 => by
      rw [mc_r (by omega), x5 c k (by unfold kMI; omega), oA c k (by omega)]
    have hi : ∀ c k, 122 < c → (c = 162 → k < s.1) → (mc M1 p3 (q_fi n pp e0)) c k = I c k := fun c k hc h162 => by
      rw [mc_r (by omega), x5 c k (by unfold kMI; omega), oA c k (by omega), oI c k (by unfold kDI; omega)]
    have hk : ∀ k, 6 ≤ k → k ≠ 74 → (mc M1 p3 (q_fi n pp e0)) 120 k = I 120 k := fun k hk h74 => by
      rw [mc_k (by omega) (by omega), x5 120 k (by unfold kMI; omega), oA 120 k (by omega), oI 120 k (by unfold kDI; omega)]
    refine ⟨v, _, J1, mc M1 p3 (q_fi n pp e0), J2, hcl, by rw [x3]; exact hmo M1 J2 p3 x1 x2 x4, ⟨s, cm, K, most, least, ⟨ho, by omega, h1, h2, h30⟩, ?_, fun k hk2 => ?_, ⟨?_, ?_⟩, Or.inl ?_, ?_, ?_⟩, Fr_M2 (Fr.trans frA (frM x5)), Fr.trans frJ1 (frMJ x6), Ptape.zero ?_ ?_⟩
    · obtain ⟨a1, a2, a3, a4, a5, a6, a7⟩ := hc1
      exact ⟨a1, a2, a3, a4, by rw [lo 89 6 (by omega) (by omega) (by omega)]; exact a5, by rw [lo 89 7 (by omega) (by omega) (by omega)]; exact a6, fun k hk => by rw [lo 90 _ (by omega) (by omega) (by omega), lo 92 _ (by omega) (by omega) (by omega), x6 91 _ (by unfold kMJ; omega)]; exact a7 k hk⟩
    · rw [hi 162 k (by omega) (fun _ => hk2), x6 168 k (by unfold kMJ; omega), i4 168 k (by unfold kDJ; omega)]
      exact hm k hk2
    · rw [lo 95 5 (by omega) (by omega) (by omega), oI 95 5 (by unfold kDI; omega)]; exact h5
    · rw [lo 95 6 (by omega) (by omega) (by omega), oI 95 6 (by unfold kDI; omega)]; exact h6
    · rw [mc_r (by omega), x5 95 8 (by unfold kMI; omega)]
      show ¬ (1 : Int32) = 0
      decide
    · obtain ⟨a1, a2, a3⟩ := hX
      exact ⟨by rw [hk 77 (by omega) (by omega)]; exact a1, fun p hp => by rw [hi 163 p (by omega) (by omega)]; exact a2 p hp, fun k hk3 => by rw [hi 165 k (by omega) (by omega), hi 166 k (by omega) (by omega), hi 167 k (by omega) (by omega)]; exact a3 k hk3⟩
    · obtain ⟨a1, a2, a3, a4⟩ := hw
      exact ⟨by rw [hk 73 (by omega) (by omega)]; exact a1, fun p hp => by rw [hi 164 p (by omega) (by omega), hi 162 (oL s p) (by omega) (fun _ => (oL_h ho hp).1)]; exact a2 p hp, by rw [hk 75 (by omega) (by omega)]; exact a3, by rw [hk 76 (by omega) (by omega)]; exact a4⟩
    · rw [mc_r (by omega)]; exact x8
    · rw [mc_k (by omega) (by omega)]; exact x7
  have hfi : Ok n pp (q_fi n pp e0) := Ok_fi i1
  have hb2 : Tb b n (pm_up I1 95 8 1) := hb1.put (by omega) (by omega)
  have h69 : F_Ma_takeText_69 u (tc I1 pp ff e0) J1 = if ¬ b2i (decide (q_fi n pp e0 = none)) = 0 then (bd (F_Ma_newcomers u (tc I1 pp ff (q_fi n pp e0)) J1) fun r87 I87 J87 => if ((tc I1 pp ff (q_fi n pp e0)) 89 6) + r87 ≤ 120 then F_Ma_takeText_101 u u 0 I87 J87 else some (-4, I87, J87)) else some (-1, tc I1 pp ff (q_fi n pp e0), J1) := by
    unfold F_Ma_takeText_69
    rw [t_finish i1 hb1, bd_s, t_isRight hfi hb1, bd_s]
  cases he : q_fi n pp e0 with
  | some z =>
    rw [he] at h69 hfi
    refine keep (-1000 - nI z) (some z) ff ?_ (fun M1 J2 p3 x1 x2 x4 => ?_)
    · rw [hop, h69, decide_eq_false (show ¬ some z = none by intro y; cases y), if_neg (by decide), bd_s]
      unfold F_Bu_outdate
      rw [bd_s, T3_o (by omega), t_close2 hfi hb2, bd_s]
      rfl
    · rw [he] at x1 ⊢
      unfold F_Mo_letters_240
      rw [m_badS x1 x2, bd_s, if_neg (by decide)]
      rfl
  | none =>
    rw [he] at h69 hfi
    have hd := i5 he
    have hdT : DR kk dc1 dm1 (tc I1 pp ff none) J1 := ⟨hd.1, by rw [tc_r (by omega)]; exact hd.2.1, fun j hj => by rw [tc_r (by omega)]; exact hd.2.2 j hj⟩
    have hcT : LC s cm K (tc I1 pp ff none) J1 := by
      obtain ⟨a1, a2, a3, a4, a5, a6, a7⟩ := hc1
      exact ⟨a1, a2, a3, a4, by rw [tc_r (by omega)]; exact a5, by rw [tc_r (by omega)]; exact a6, fun k hk => by rw [tc_r (by omega), tc_r (by omega)]; exact a7 k hk⟩
    have hle := adk_le (s := s) (dc := dc1) (dm := dm1) kk
    have h40 := hd.1
    have hnew : F_Ma_newcomers u (tc I1 pp ff none) J1 = some (nI ((adk s dc1 dm1 kk).1 - s.1), tc I1 pp ff none, J1) := by
      have := l_new (u := u) (by omega) ho hcT hdT kk 0 u (by omega) (by omega)
      have e0 : (adk s dc1 dm1 0).1 - s.1 = 0 := by show s.1 - s.1 = 0; omega
      rw [e0] at this
      exact this
    have h69' : F_Ma_takeText_69 u (tc I1 pp ff e0) J1 = if (adk s dc1 dm1 kk).1 ≤ 120 then F_Ma_takeText_101 u u 0 (tc I1 pp ff none) J1 else some (-4, tc I1 pp ff none, J1) := by
      rw [h69, if_pos (by decide), hnew, bd_s, hcT.2.2.2.2.1, nI_add, show s.1 + ((adk s dc1 dm1 kk).1 - s.1) = (adk s dc1 dm1 kk).1 by omega]
      simp only [show (120 : Int32) = nI 120 from rfl, nI_leI (show (adk s dc1 dm1 kk).1 < 2 ^ 31 by omega) (show 120 < 2 ^ 31 by omega)]
    by_cases hf : (adk s dc1 dm1 kk).1 ≤ 120
    · rw [if_pos hf] at h69'
      have hok := okl_adk (dc := dc1) (dm := dm1) ho kk (fun j hj => (hd.2.2 j hj).2.2)
      obtain ⟨I2, J2, cm2, K2, a1, a2, a3, a4, a5⟩ := l_ins (u := u) (s := s) (dc := dc1) (dm := dm1) (cm := cm) (K0 := K) (k := kk) (by omega) ho hf (by omega) kk 0 u K cm (tc I1 pp ff none) J1 (by omega) (by omega) (by omega) hdT hcT
      have a1' : F_Ma_takeText_101 u u 0 (tc I1 pp ff none) J1 = some (nI (adk s dc1 dm1 kk).1, I2, J2) := a1
      have e17 : ∀ k, I2 17 k = (tc I1 pp ff none) 17 k := fun k => a4 17 k (by unfold kLI; omega)
      have eI2 : I2 = tc I2 pp ff none := by
        have := T3_id I2
        rw [e17 2, e17 3, e17 4] at this
        exact this.symm
      have hbI2 : Tb b n (pm_up I2 95 8 1) := by
        refine Tb.put ⟨fun j hj => ?_, ?_, hn⟩ (by omega) (by omega)
        · rw [a4 18 j (by unfold kLI; omega), tc_r (by omega)]; exact hb1.1 j hj
        · rw [e17 1]; exact hb1.2.1
      have hcl : F_Ph_letters u I J = some (nI (adk s dc1 dm1 kk).1, tc (pm_up (pm_up I2 95 8 1) 17 1 0) pp ff none, J2) := by
        rw [hop, h69', a1', bd_s]
        unfold F_Bu_outdate
        rw [bd_s]
        conv => lhs; rw [eI2]
        rw [T3_o (by omega), t_close2 hfi hbI2, bd_s]
        rfl
      generalize hA : tc (pm_up (pm_up I2 95 8 1) 17 1 0) pp ff none = A at hcl
      have oA : On (fun c k => kLI c k ∨ (c = 95 ∧ k = 8) ∨ c = 17) I1 A := by
        intro c k hk
        rw [← hA, tc_r (by omega), ur, if_neg (by omega), ur, if_neg (by omega), a4 c k (fun z => hk (Or.inl z)), tc_r (by omega)]
      have hA17 : A 17 1 = 0 := by rw [← hA]; rfl
      have hA95 : A 95 8 = 1 := by rw [← hA]; rfl
      have hcA : LC (adk s dc1 dm1 kk) cm2 K2 A J2 := by
        have oA2 : On (fun c k => (c = 95 ∧ k = 8) ∨ c = 17) I2 A := by
          intro c k hk
          rw [← hA, tc_r (by omega), ur, if_neg (by omega), ur, if_neg (by omega)]
        exact a2.on oA2 (by omega) (by omega) (fun p => by omega)
      obtain ⟨M1, J3, p3, x1, x2, x3, x4, x5, x6, x7, x8⟩ := mdl A J2 (oA.mono (fun c k z => by unfold kLI at z; omega)) (a5.mono (fun c k z => by unfold kLJ at z; omega)) hA17
      rw [he] at x1 x3
      obtain ⟨y1, y2⟩ := x4 he
      have hmk : ∀ k, k ≠ 4 → k ≠ 5 → (mc M1 p3 none) 120 k = M1 120 k := fun k h4 h5 => mc_k h4 h5
      have ag : ∀ k, 6 ≤ k → k ≠ 74 → M1 120 k = I 120 k := fun k hk h74 => by
        rw [x5 120 k (by unfold kMI; omega), oA 120 k (by unfold kLI; omega), oI 120 k (by unfold kDI; omega)]
      obtain ⟨I3, f1, f2, f3, f4⟩ := m_bundled (u := u) (J := J3) (s := adk s dc1 dm1 kk) (I := pm_up (mc M1 p3 none) 120 73 (nI (adk s dc1 dm1 kk).1)) (most := most) (least := least) (by omega) hok hf h1 h2 h30 (fun k hk => by
        rw [ur, if_neg (by omega), mc_r (by omega)]; exact y1 k hk) (by rw [ur, if_pos ⟨rfl, rfl⟩]) (by rw [ur, if_neg (by omega), hmk 75 (by omega) (by omega), ag 75 (by omega) (by omega)]; exact hw.2.2.1) (by rw [ur, if_neg (by omega), hmk 76 (by omega) (by omega), ag 76 (by omega) (by omega)]; exact hw.2.2.2)
      have hmodel : F_Mo_letters u A J2 = some (nI (adk s dc1 dm1 kk).1, I3, J3) := by
        rw [x3]
        unfold F_Mo_letters_240
        have h74 : (mc M1 p3 none) 120 74 = nI (adk s dc1 dm1 kk).1 := by rw [hmk 74 (by omega) (by omega)]; exact y2
        rw [m_bad0 x1 x2, bd_s, if_pos rfl, h74, if_pos (by rw [show (120 : Int32) = nI 120 from rfl, nI_leI (by omega) (by omega)]; exact hf), f1, bd_s, f3.1]
      have lo : ∀ c k, c < 120 → I3 c k = A c k := fun c k hc => by
        rw [f4 c k (by unfold kMO kMB; omega), ur, if_neg (by omega), mc_r (by omega), x5 c k (by unfold kMI; omega)]
      have frF : Fr 7 I I3 := by
        have g1 : Fr 7 I1 A := by
          refine oA.fr (fun c k z => ?_)
          by_cases q : c = 17
          · subst q; exact Or.inl rfl
          · exact Or.inr (own7 (by unfold kLI at z; omega))
        exact Fr.trans (Fr.up (Fr_M2 (Fr.trans (Fr.trans frI1 g1) (frM x5))) (Or.inr rfl)) (f4.fr (fun c k z => k7_own (kMO_k7 z)))
      refine ⟨_, A, J2, I3, J3, hcl, hmodel, ⟨adk s dc1 dm1 kk, cm2, K2, most, least, ⟨hok, by omega, h1, h2, h30⟩, ?_, fun k hk => ?_, ⟨?_, ?_⟩, Or.inl ?_, f2, f3⟩, frF, Fr.trans (Fr.trans frJ1 (a5.fr (fun c k z => Or.inr (own7 (by unfold kLJ at z; omega))))) (frMJ x6), Ptape.zero ?_ ?_⟩
      · obtain ⟨b1, b2, b3, b4, b5, b6, b7⟩ := hcA
        exact ⟨b1, b2, b3, b4, by rw [lo 89 6 (by omega)]; exact b5, by rw [lo 89 7 (by omega)]; exact b6, fun k hk => by rw [lo 90 _ (by omega), lo 92 _ (by omega), x6 91 _ (by unfold kMJ; omega)]; exact b7 k hk⟩
      · rw [f4 162 k (by unfold kMO kMB; omega), ur, if_neg (by omega), mc_r (by omega)]; exact y1 k hk
      · rw [lo 95 5 (by omega), oA 95 5 (by unfold kLI; omega), oI 95 5 (by unfold kDI; omega)]; exact h5
      · rw [lo 95 6 (by omega), oA 95 6 (by unfold kLI; omega), oI 95 6 (by unfold kDI; omega)]; exact h6
      · rw [lo 95 8 (by omega), hA95]; decide
      · rw [lo 17 1 (by omega)]; exact hA17
      · rw [f4 120 2 (by unfold kMO kMB; omega), ur, if_neg (by omega), hmk 2 (by omega) (by omega)]; exact x7
    · rw [if_neg hf] at h69'
      refine keep (-4) none ff ?_ (fun M1 J2 p3 x1 x2 x4 => ?_)
      · rw [hop, h69', bd_s]
        unfold F_Bu_outdate
        rw [bd_s, T3_o (by omega), t_close2 hfi hb2, bd_s]
        rfl
      · obtain ⟨y1, y2⟩ := x4 he
        rw [he] at x1 ⊢
        unfold F_Mo_letters_240
        have h74 : (mc M1 p3 none) 120 74 = nI (adk s dc1 dm1 kk).1 := by rw [mc_k (by omega) (by omega)]; exact y2
        rw [m_bad0 x1 x2, bd_s, if_pos rfl, h74, if_neg (by rw [show (120 : Int32) = nI 120 from rfl, nI_leI (by omega) (by omega)]; exact hf)]
