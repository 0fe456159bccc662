/-! ===== type: set ===== -/
theorem S5_wd {I : pm_II} (h : S5 I) : ∃ wd : Nat → Nat, (∀ k, wd k ≤ 20) ∧ ∀ k, k < 26 → I 50 k = nI (wd k) := by
  refine ⟨fun k => if k < 26 then (I 50 k).toInt.toNat else 0, fun k => ?_, fun k hk => ?_⟩
  · dsimp only
    split
    · rename_i hk
      obtain ⟨_, _, w, hw, e⟩ := h k hk
      rw [e, nI_toInt (by omega)]
      omega
    · omega
  · obtain ⟨_, _, w, hw, e⟩ := h k hk
    dsimp only
    rw [if_pos hk, e, nI_toInt (by omega)]
    rfl
theorem On_T3 {S : Nat → Nat → Prop} {I X : pm_II} {a f w : Int32} (h : On S I X) (hs : ∀ k, S 17 k) : On S I (T3 X a f w) := by
  intro c k z
  by_cases e : c = 17
  · subst e; exact absurd (hs k) z
  · rw [tcr e]; exact h c k z
theorem On_M2 {S : Nat → Nat → Prop} {I X : pm_II} {a w : Int32} (h : On S I X) (h4 : S 120 4) (h5 : S 120 5) : On S I (M2 X a w) := by
  intro c k z
  by_cases e : c = 120
  · subst e
    rw [mck (fun q => z (by rw [q]; exact h4)) (fun q => z (by rw [q]; exact h5))]
    exact h 120 k z
  · rw [mcr e]; exact h c k z
theorem On_TK {S : Nat → Nat → Prop} {I X : pm_II} {n : Nat} (h : On S I X) (h2 : S 120 2) (h3 : S 120 3) (h122 : ∀ j, S 122 j) : On S I (TK X n) := by
  intro c k z
  by_cases e : c = 120
  · subst e
    rw [tkk (fun q => z (by rw [q]; exact h2)) (fun q => z (by rw [q]; exact h3))]
    exact h 120 k z
  · by_cases e2 : c = 122
    · subst e2; exact absurd (h122 k) z
    · rw [tkr e e2]; exact h c k z
def kZ5 (ga : Nat → Nat) (g c k : Nat) : Prop := (c = 17 ∨ (c = 48 ∧ (k = 8 ∨ k = 9)) ∨ c = 49 ∨ (51 ≤ c ∧ c ≤ 55) ∨ (c = 120 ∧ (k ≤ 5 ∨ k = 56)) ∨ c = 122 ∨ c = 146 ∨ c = 148) ∨ kC ga g c k ∨ kMr g c k
theorem kZ5_own {ga : Nat → Nat} {g c k : Nat} (hG : G5 ga) (h : kZ5 ga g c k) : own c k = 0 ∨ own c k = 5 := by
  have h2 : c = 17 ∨ (48 ≤ c ∧ c ≤ 88) ∨ (c = 120 ∧ k ≤ 5) ∨ (c = 120 ∧ k = 56) ∨ c = 122 ∨ (146 ≤ c ∧ c ≤ 153) := by
    rcases h with h | h | h
    · omega
    · have := kC_r hG h; omega
    · have := kMr_r h; omega
  clear h
  rcases h2 with rfl | h | ⟨rfl, h⟩ | ⟨rfl, rfl⟩ | rfl | h
  · exact Or.inl own17
  · exact Or.inr (own5 (by omega))
  · exact Or.inl (own120 h)
  · exact Or.inr (own120_5 56 (by omega) (by omega))
  · exact Or.inl ((own_c (by omega)).trans rfl)
  · exact Or.inr (own5 (by omega))
theorem L5_keep {ga : Nat → Nat} {g l : Nat} {I I2 : pm_II} (hG : G5 ga) (hl : l < g) (hg : g ≤ 16) (h : L5 ga I l) (o : On (kZ5 ga g) I I2) : L5 ga I2 l := by
  have hr := oT_r (hG.1 l (by omega))
  have hC : ∀ c k, (c = ga l ∨ c = ga l + 1) → ¬ kZ5 ga g c k := by
    intro c k hc z
    rcases z with z | z | z
    · omega
    · rcases z with ⟨r, r1, r2, r3⟩ | z
      · have := G5_ne hG (show l < 16 by omega) r2 (by omega)
        unfold kL at r3
        omega
      · omega
    · have := kMr_r z; omega
  have hM : ∀ c k, 149 ≤ c → c ≤ 153 → (c = 149 → ∃ j, j < 160 ∧ k = 160 * l + j) → (c = 153 → ∃ j, j < 12 ∧ k = 12 * l + j) → (150 ≤ c ∧ c ≤ 152 → k = l) → ¬ kZ5 ga g c k := by
    intro c k c1 c2 k1 k2 k3 z
    rcases z with z | z | z
    · omega
    · have := kC_r hG z; omega
    · rcases z with ⟨r, r1, r2, r3⟩ | z
      · unfold kR k254 k190 at r3
        rcases r3 with (⟨e, e1, e2⟩ | ⟨e, e1⟩) | ⟨e, e1, e2⟩ | ⟨e, e1⟩
        · obtain ⟨j, j1, j2⟩ := k1 e; omega
        · have := k3 (by omega); omega
        · obtain ⟨j, j1, j2⟩ := k2 e; omega
        · have := k3 (by omega); omega
      · omega
  exact h.c (fun k => o _ _ (hC _ _ (Or.inl rfl))) (fun k => o _ _ (hC _ _ (Or.inr rfl))) (fun k hk => o _ _ (hM _ _ (by omega) (by omega) (fun _ => ⟨k, hk, rfl⟩) (by omega) (by omega))) (fun k hk => o _ _ (hM _ _ (by omega) (by omega) (by omega) (fun _ => ⟨k, hk, rfl⟩) (by omega))) (o _ _ (hM _ _ (by omega) (by omega) (by omega) (by omega) (fun _ => rfl))) (o _ _ (hM _ _ (by omega) (by omega) (by omega) (by omega) (fun _ => rfl))) (o _ _ (hM _ _ (by omega) (by omega) (by omega) (by omega) (fun _ => rfl)))
theorem st_set {u : Nat} {I : pm_II} {J : pm_JJ} {ga : Nat → Nat} {pa pb : Nat} {x : Int32} (hu : 2000 ≤ u) (ht : Ptape I) (h : P5 ga I) : ∃ v I1 I2, F_Ph_set u pa pb ga x I J = some (v, I1, J) ∧ F_Mo_set u x I1 J = some (v, I2, J) ∧ Ptape I2 ∧ P5 ga I2 ∧ Fr 5 I I2 := by
  obtain ⟨b, n, hb, h2, h121, hbb⟩ := ht.bn
  have hn := hb.2.2
  have hP := h
  obtain ⟨hG, hS, g, hg, h9, h56, hL⟩ := h
  have e1 : F_Ph_set u pa pb ga x I J = cond (rgb x 20 200) (bd (F_Ta_open u I J) fun _ I19 J19 => bd (F_Ty_takeText u pa pb ga x I19 J19) fun r35 I35 J35 => bd (F_Ta_close u r35 I35 J35) fun r38 I38 J38 => some (r38, I38, J38)) (some (-1, I, J)) := by
    unfold F_Ph_set
    rw [rgb_if2]
  have e2 : ∀ I1, F_Mo_set u x I1 J = cond (rgb x 20 200) (bd (F_Mo_take u I1 J) fun _ I15 J15 => F_Mo_set_20 u u x (0 : Int32) I15 J15) (some (-1, I1, J)) := by
    intro I1
    unfold F_Mo_set
    rw [m_isB, bd_s, b2i_ifn]
  cases hx : rgb x 20 200 with
  | false =>
    refine ⟨-1, I, I, by rw [e1, hx]; rfl, by rw [e2, hx]; rfl, ht, hP, Fr.refl _ _⟩
  | true =>
    obtain ⟨m, hm1, hm2, rfl⟩ := rgb_n (lo := 20) (hi := 200) (by omega) (by omega) hx
    obtain ⟨N, rfl⟩ : ∃ z, u = z + 1 := ⟨u - 1, by omega⟩
    obtain ⟨wd, hwd, hw50⟩ := S5_wd hS
    have hb0 : Tb b n (pm_up I 48 8 0) := hb.put (by decide) (by decide)
    have hwl := wl_le (b := b) (n := n) (p := 0)
    have eR : F_Ty_readWords (N + 1) (tc I 0 0 none) J = rwT (N + 1) (F_Ty_readWords_5 (N + 1) N) (tc (pm_up (pm_up (pm_up (pm_up I 48 8 0) 52 0 (nI 0)) 53 0 (nI (wl b n 0))) 48 8 (nI (0 + 1))) (0 + wl b n 0) 0 (if wl b n 0 = 0 then some 0 else none)) J := by
      unfold F_Ty_readWords
      rw [T3_o (by decide), rw_word (w := 0) (p := 0) (by omega) (by omega) (Nat.zero_le _) hb0 rfl]
    have hok : Ok n (0 + wl b n 0) (if wl b n 0 = 0 then some 0 else none) := by
      refine ⟨by omega, fun y hy => ?_⟩
      split at hy
      · cases hy; omega
      · cases hy
    obtain ⟨X2, pp, ff, ee, W, fr, ln, r1, r2, r3, r4, r5⟩ := rw_loop (u := N + 1) (J := J) (x := nI m) hu 11 1 (0 + wl b n 0) 0 (pm_up (pm_up (pm_up (pm_up I 48 8 0) 52 0 (nI 0)) 53 0 (nI (wl b n 0))) 48 8 (nI (0 + 1))) (fun _ => 0) (fun _ => wl b n 0) (if wl b n 0 = 0 then some 0 else none) N N (by omega) (by omega) (by omega) (by omega) (((hb0.put (by decide) (by decide)).put (by decide) (by decide)).put (by decide) (by decide)) rfl (by
      intro v hv
      obtain rfl : v = 0 := by omega
      simp [ur]) hok (by
      intro he
      have hne : ¬ wl b n 0 = 0 := by
        intro z
        rw [if_pos z] at he
        cases he
      exact ⟨⟨by omega, by omega, rfl⟩, fun v _ => ⟨by show 1 ≤ wl b n 0; omega, by show wl b n 0 ≤ 12; omega, fun i hi => wl_let hi⟩, fun v hv => by omega, rfl⟩)
    have oX : On (kZ5 ga g) I X2 := by
      refine On.trans ?_ (r3.mono (fun c k z => ?_))
      · refine On.up (On.up (On.up (On.up (On.refl _) ?_) ?_) ?_) ?_ <;> exact Or.inl (by omega)
      · unfold kW at z; exact Or.inl (by omega)
    have hX : ∀ c k, ¬ kW c k → X2 c k = I c k := fun c k hc => by
      have hc2 := hc
      unfold kW at hc2
      rw [r3 c k hc, ur, if_neg (by omega), ur, if_neg (by omega), ur, if_neg (by omega), ur, if_neg (by omega)]
    have hbX : Tb b n X2 := ⟨fun j hj => by rw [hX 18 j (by unfold kW; omega)]; exact hb.1 j hj, by rw [hX 17 1 (by unfold kW; omega)]; exact hb.2.1, hn⟩
    have ho0 : Om n 0 none := (Ok_0 (Nat.zero_le _)).m
    have hMo : ∀ I1 : pm_II, I1 120 2 = nI n → (∀ j, j < n → I1 121 j = b j) → ∃ p3, Om n p3 ee ∧ F_Mo_set (N + 1) (nI m) I1 J = F_Mo_set_188 (N + 1) (nI m) (mc (TK I1 n) p3 ee) J := by
      intro I1 g1 g2
      have hm : Mb b n (TK I1 n) := TK_Mb hn g2
      have hwE : Om n (0 + wl b n 0) (wE b n 0) := by
        unfold wE
        split
        · exact ((Ok_0 (n := n) (by omega)).s (by omega)).m
        · split
          · exact ((Ok_0 (n := n) (by omega)).s (by omega)).m
          · exact (Ok_0 (by omega)).m
      obtain ⟨p3, q1, q2⟩ := r5 (TK I1 n) (0 + wl b n 0) (wE b n 0) hm hwE (wRel_1 (Nat.zero_le _))
      refine ⟨p3, q1, ?_⟩
      rw [e2, hx, cond_true, m_take (by omega) hn g1, bd_s, F_Mo_set_20, m_bad0 ho0 hm, bd_s, if_neg (by decide), if_pos rfl]
      unfold F_Mo_set_40
      rw [if_pos (by decide), if_neg (by decide)]
      have h4 : (mc (TK I1 n) 0 none) 120 4 = nI 0 := rfl
      have h71 := m_set71 (u := N + 1) (J := J) (x := nI m) (K := F_Mo_set_20 (N + 1) N) (k := 0) (p0 := 0) (y := 0) (by omega) (Nat.zero_le _) hm
      rw [h4]
      exact h71.trans q2
    have eT : F_Ph_set (N + 1) pa pb ga (nI m) I J = bd (bd (F_Ta_isRight (N + 1) (tc X2 pp ff ee) J) fun r6 I6 J6 => if ¬ r6 = 0 then ttT (N + 1) pa pb ga (nI m) I6 J6 else some (-1, I6, J6)) fun r35 I35 J35 => bd (F_Ta_close (N + 1) r35 I35 J35) fun r38 I38 J38 => some (r38, I38, J38) := by
      rw [e1, hx, cond_true, t_open, bd_s]
      unfold F_Ty_takeText
      rw [eR, r1, bd_s]
      rfl
    rw [eT]
    cases hee : ee with
    | some y =>
      subst hee
      rw [t_irS r2 hbX, bd_s, if_neg (by decide), bd_s, t_close2 r2 hbX, bd_s]
      have g1 : (tc (pm_up X2 17 1 0) pp ff (some y)) 120 2 = nI n := (hX 120 2 (by unfold kW; omega)).trans h2
      have g2 : ∀ j, j < n → (tc (pm_up X2 17 1 0) pp ff (some y)) 121 j = b j := fun j hj => (hX 121 j (by unfold kW; omega)).trans (h121 j hj)
      obtain ⟨p3, q1, q2⟩ := hMo _ g1 g2
      have oF : On (kZ5 ga g) I (mc (TK (tc (pm_up X2 17 1 0) pp ff (some y)) n) p3 (some y)) := On_M2 (On_TK (On_T3 (On.up oX (Or.inl (by omega))) (fun k => Or.inl (by omega))) (Or.inl (by omega)) (Or.inl (by omega)) (fun j => Or.inl (by omega))) (Or.inl (by omega)) (Or.inl (by omega))
      refine ⟨_, _, mc (TK (tc (pm_up X2 17 1 0) pp ff (some y)) n) p3 (some y), rfl, ?_, Ptape.zero rfl rfl, ⟨hG, fun k hk => ?_, g, hg, ?_, ?_, fun l hl => L5_keep hG hl hg (hL l hl) oF⟩, oF.fr (fun c k z => kZ5_own hG z)⟩
      · rw [q2]
        unfold F_Mo_set_188
        rw [m_badS q1 (TK_Mb hn g2), bd_s, if_neg (by decide)]
        rfl
      · show X2 49 k = X2 146 (k + 1) ∧ X2 50 k = X2 147 (k + 1) ∧ ∃ w, w ≤ 20 ∧ X2 50 k = nI w
        rw [hX 49 k (by unfold kW; omega), hX 146 _ (by unfold kW; omega), hX 50 k (by unfold kW; omega), hX 147 _ (by unfold kW; omega)]
        exact hS k hk
      · exact (hX 48 9 (by unfold kW; omega)).trans h9
      · exact (hX 120 56 (by unfold kW; omega)).trans h56
    | none =>
      subst hee
      obtain ⟨h8, hr, p, hT, hnp, h10⟩ := r4 rfl
      have hbX0 : Tb b n (tc X2 pp ff none) := ⟨hbX.1, hbX.2.1, hbX.2.2⟩
      have hCX : CW W fr ln wd (tc X2 pp ff none) := ⟨h8, hr, fun k hk => (hX 50 k (by unfold kW; omega)).trans (hw50 k hk)⟩
      have h9X : (tc X2 pp ff none) 48 9 = nI g := (hX 48 9 (by unfold kW; omega)).trans h9
      have oX0 : On (kZ5 ga g) I (tc X2 pp ff none) := On_T3 oX (fun k => Or.inl (by omega))
      rw [t_ir0 r2 hbX, bd_s, if_pos (by decide)]
      have hfin : ∀ (Y : pm_II) (v : Int32) (S : Nat → Nat → Prop), On S (tc X2 pp ff none) Y → (∀ k, ¬ S 17 k) → (∀ k, ¬ S 18 k) → (∀ k, ¬ S 120 k) → (∀ k, ¬ S 121 k) → (∀ k, ¬ S 147 k) → ∃ p3, F_Ta_close (N + 1) v Y J = some (v, tc (pm_up Y 17 1 0) pp ff none, J) ∧ F_Mo_set (N + 1) (nI m) (tc (pm_up Y 17 1 0) pp ff none) J = F_Mo_laid (N + 1) (nI m) (mc (TK (tc (pm_up Y 17 1 0) pp ff none) n) p3 none) J ∧ Mb b n (mc (TK (tc (pm_up Y 17 1 0) pp ff none) n) p3 none) ∧ MW wd (mc (TK (tc (pm_up Y 17 1 0) pp ff none) n) p3 none) := by
        intro Y v S oY s1 s2 s3 s4 s5
        have eY : tc Y pp ff none = Y := tc_of (oY 17 2 (s1 2)) (oY 17 3 (s1 3)) (oY 17 4 (s1 4))
        have hbY : Tb b n Y := hbX0.on oY (s1 1) s2
        have hc := t_close2 (u := N + 1) (J := J) (f := ff) (x := v) r2 hbY
        rw [eY] at hc
        have g1 : (tc (pm_up Y 17 1 0) pp ff none) 120 2 = nI n := ((oY 120 2 (s3 2)).trans (hX 120 2 (by unfold kW; omega))).trans h2
        have g2 : ∀ j, j < n → (tc (pm_up Y 17 1 0) pp ff none) 121 j = b j := fun j hj => ((oY 121 j (s4 j)).trans (hX 121 j (by unfold kW; omega))).trans (h121 j hj)
        obtain ⟨p3, q1, q2⟩ := hMo _ g1 g2
        have hm := TK_Mb (b := b) hn g2
        refine ⟨p3, hc, ?_, ⟨hm.1, hm.2.1, hm.2.2⟩, fun k hk => ?_⟩
        · rw [q2]
          unfold F_Mo_set_188
          rw [m_bad0 q1 hm, bd_s, if_pos rfl]
          cases F_Mo_laid (N + 1) (nI m) (mc (TK (tc (pm_up Y 17 1 0) pp ff none) n) p3 none) J <;> rfl
        · show Y 147 (k + 1) = _
          rw [oY 147 _ (s5 _)]
          show X2 147 (k + 1) = _
          rw [hX 147 _ (by unfold kW; omega), ← (hS k hk).2.1]
          exact hw50 k hk
      rcases c_text (u := N + 1) (J := J) (pa := pa) (pb := pb) (wd := wd) (m := m) (g := g) (by omega) hG hT hnp h10 hwd hm2 hbX0 hCX hg h9X with ⟨Y, y1, y2, y3⟩ | ⟨Y, k, ls, y1, y2, y3, y4, y5, y6, y7, y8⟩
      · obtain ⟨p3, f1, f2, f3, f4⟩ := hfin Y 0 _ y2 (fun k => by unfold kA; omega) (fun k => by unfold kA; omega) (fun k => by unfold kA; omega) (fun k => by unfold kA; omega) (fun k => by unfold kA; omega)
        have hY : ∀ c k, ¬ kW c k → ¬ kA c k → c ≠ 17 → Y c k = I c k := fun c k a1 a2 a3 => by rw [y2 c k a2, tc_r a3, hX c k a1]
        have h56Y : (mc (TK (tc (pm_up Y 17 1 0) pp ff none) n) p3 none) 120 56 = nI g := (hY 120 56 (by unfold kW; omega) (by unfold kA; omega) (by omega)).trans h56
        have hO : OutN b n W m g (wwf b wd fr ln) (fun k => (mc (TK (tc (pm_up Y 17 1 0) pp ff none) n) p3 none) 146 (k + 1)) := by
          have e : enb (cl b n) (fun k => (mc (TK (tc (pm_up Y 17 1 0) pp ff none) n) p3 none) 146 (k + 1)) = enb (cl b n) ((tc X2 pp ff none) 49) := enb_c (fun k hk => by
            show Y 146 (k + 1) = X2 49 k
            rw [hY 146 _ (by unfold kW; omega) (by unfold kA; omega) (by omega), hX 49 k (by unfold kW; omega)]
            exact (hS k hk).1.symm)
          unfold OutN at y3 ⊢
          rw [e]
          exact y3
        obtain ⟨Z, z1, z2, z3⟩ := m_textN (u := N + 1) (J := J) (wd := wd) (m := m) (g := g) (by omega) hT hnp h10 hwd hm2 f3 f4 hg h56Y hO
        have oF : On (kZ5 ga g) I Z := On.trans (On_M2 (On_TK (On_T3 (On.up (On.trans oX0 (y2.mono (fun c k z => Or.inl (by unfold kA at z; omega)))) (Or.inl (by omega))) (fun k => Or.inl (by omega))) (Or.inl (by omega)) (Or.inl (by omega)) (fun j => Or.inl (by omega))) (Or.inl (by omega)) (Or.inl (by omega))) (z2.mono (fun c k z => by
          rcases z with z | z
          · exact Or.inl (by omega)
          · exact Or.inr (Or.inr z)))
        have hkB : ∀ c k, kB g c k → (148 ≤ c ∧ c ≤ 153) ∨ (c = 120 ∧ k = 56) := fun c k z => by
          rcases z with z | z
          · omega
          · have := kMr_r z; omega
        refine ⟨0, _, Z, by rw [y1, bd_s, f1, bd_s], f2.trans z1, Ptape.zero ?_ ?_, ⟨hG, fun k hk => ?_, g, hg, ?_, z3, fun l hl => L5_keep hG hl hg (hL l hl) oF⟩, oF.fr (fun c k z => kZ5_own hG z)⟩
        · rw [z2 17 1 (fun z => by have := hkB _ _ z; omega)]; rfl
        · rw [z2 120 2 (fun z => by have := hkB _ _ z; omega)]; rfl
        · rw [z2 49 k (fun z => by have := hkB _ _ z; omega), z2 50 k (fun z => by have := hkB _ _ z; omega), z2 146 _ (fun z => by have := hkB _ _ z; omega), z2 147 _ (fun z => by have := hkB _ _ z; omega)]
          show Y 49 k = Y 146 (k + 1) ∧ Y 50 k = Y 147 (k + 1) ∧ ∃ w, w ≤ 20 ∧ Y 50 k = nI w
          rw [hY 49 k (by unfold kW; omega) (by unfold kA; omega) (by omega), hY 146 _ (by unfold kW; omega) (by unfold kA; omega) (by omega), hY 50 k (by unfold kW; omega) (by unfold kA; omega) (by omega), hY 147 _ (by unfold kW; omega) (by unfold kA; omega) (by omega)]
          exact hS k hk
        · rw [z2 48 9 (fun z => by have := hkB _ _ z; omega)]
          exact (hY 48 9 (by unfold kW; omega) (by unfold kA; omega) (by omega)).trans h9
      · have hSr : ∀ c j, (kA c j ∨ kC ga g c j ∨ c = 49) → (48 ≤ c ∧ c ≤ 88 ∧ c ≠ 50) := fun c j z => by
          rcases z with z | z | z
          · unfold kA at z; omega
          · have := kC_r hG z; omega
          · omega
        obtain ⟨p3, f1, f2, f3, f4⟩ := hfin Y (nI k) _ y2 (fun k z => by have := hSr _ _ z; omega) (fun k z => by have := hSr _ _ z; omega) (fun k z => by have := hSr _ _ z; omega) (fun k z => by have := hSr _ _ z; omega) (fun k z => by have := hSr _ _ z; omega)
        have hY : ∀ c k, ¬ (48 ≤ c ∧ c ≤ 88 ∧ c ≠ 50) → c ≠ 17 → Y c k = I c k := fun c k a1 a3 => by rw [y2 c k (fun z => a1 (hSr _ _ z)), tc_r a3, hX c k (by unfold kW; omega)]
        have h56Y : (mc (TK (tc (pm_up Y 17 1 0) pp ff none) n) p3 none) 120 56 = nI g := (hY 120 56 (by omega) (by omega)).trans h56
        have hE : enb (cl b n) (fun k => (mc (TK (tc (pm_up Y 17 1 0) pp ff none) n) p3 none) 146 (k + 1)) = true := by
          rw [← y3]
          exact enb_c (fun k hk => by
            show Y 146 (k + 1) = X2 49 k
            rw [hY 146 _ (by omega) (by omega), hX 49 k (by unfold kW; omega)]
            exact (hS k hk).1.symm)
        obtain ⟨Z, z1, z2, z3, z4, z5⟩ := m_textY (u := N + 1) (J := J) (wd := wd) (m := m) (g := g) (by omega) hT hnp h10 hwd hm2 f3 f4 h56Y hE y4 y5
        have oF : On (kZ5 ga g) I Z := On.trans (On_M2 (On_TK (On_T3 (On.up (On.trans oX0 (y2.mono (fun c k z => by
          rcases z with z | z | z
          · exact Or.inl (by unfold kA at z; omega)
          · exact Or.inr (Or.inl z)
          · exact Or.inl (by omega)))) (Or.inl (by omega))) (fun k => Or.inl (by omega))) (Or.inl (by omega)) (Or.inl (by omega)) (fun j => Or.inl (by omega))) (Or.inl (by omega)) (Or.inl (by omega))) (z2.mono (fun c k z => by
          rcases z with (z | z) | z
          · exact Or.inl (by omega)
          · exact Or.inr (Or.inr z)
          · exact Or.inl (by omega)))
        have hkB : ∀ c k, (kB g c k ∨ c = 146) → (146 ≤ c ∧ c ≤ 153 ∧ c ≠ 147) ∨ (c = 120 ∧ k = 56) := fun c k z => by
          rcases z with (z | z) | z
          · omega
          · have := kMr_r z; omega
          · omega
        refine ⟨nI k, _, Z, by rw [y1, bd_s, f1, bd_s], f2.trans z1, Ptape.zero ?_ ?_, ⟨hG, fun j hj => ?_, g + k, y5, ?_, z3, fun l hl => ?_⟩, oF.fr (fun c k z => kZ5_own hG z)⟩
        · rw [z2 17 1 (fun z => by have := hkB _ _ z; omega)]; rfl
        · rw [z2 120 2 (fun z => by have := hkB _ _ z; omega)]; rfl
        · rw [z4 j hj, z2 49 j (fun z => by have := hkB _ _ z; omega), z2 50 j (fun z => by have := hkB _ _ z; omega), z2 147 _ (fun z => by have := hkB _ _ z; omega)]
          show Y 49 j = Y 146 (j + 1) - nI (cl b n j) ∧ Y 50 j = Y 147 (j + 1) ∧ ∃ w, w ≤ 20 ∧ Y 50 j = nI w
          rw [y7 j hj, hY 146 _ (by omega) (by omega), hY 50 j (by omega) (by omega), hY 147 _ (by omega) (by omega)]
          have e49 : (tc X2 pp ff none) 49 j = I 49 j := hX 49 j (by unfold kW; omega)
          rw [e49, (hS j hj).1]
          exact ⟨rfl, (hS j hj).2⟩
        · rw [z2 48 9 (fun z => by have := hkB _ _ z; omega)]
          exact y6
        · by_cases q : l < g
          · exact L5_keep hG q hg (hL l q) oF
          · have hl2 := y4.2.2.2 (l - g) (by omega)
            have a1 := y8 (l - g) (by omega)
            have a2 := z5 (l - g) (by omega)
            rw [show g + (l - g) = l by omega] at a1 a2
            have hr := oT_r (hG.1 l (by omega))
            have hZY : ∀ c j, c = ga l ∨ c = ga l + 1 → Z c j = Y c j := fun c j hc => by
              rw [z2 c j (fun z => by have := hkB _ _ z; omega)]
              show (M2 _ _ _) c j = _
              rw [mcr (by omega), tkr (by omega) (by omega), tc_r (by omega), pm_up_ne (by omega)]
            exact (mkLR hT hl2.1 hl2.2.1 a1 a2).c (fun j => hZY _ j (Or.inl rfl)) (fun j => hZY _ j (Or.inr rfl)) (fun _ _ => rfl) (fun _ _ => rfl) rfl rfl rfl
