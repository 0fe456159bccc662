/-! ===== type: a line laid by the model ===== -/
section MLine
variable {u : Nat} {J : pm_JJ} {b : Nat → Int32} {n p W : Nat} {fr ln wd ww : Nat → Nat}
def MW (wd : Nat → Nat) (Y : pm_II) : Prop := ∀ k, k < 26 → Y 147 (k + 1) = nI (wd k)
theorem Txt_end {v : Nat} (hT : TP b W fr ln p) (h10 : b p = 10) (hv : v < W) : (v + 1 < W → b (fr v + ln v) = 32) ∧ (v + 1 = W → b (fr v + ln v) = 10) := by
  refine ⟨fun z => (hT.2.2.1 v z).2, fun z => ?_⟩
  have := hT.2.2.2
  rw [show W - 1 = v by omega] at this
  rw [this]
  exact h10
theorem Txt_end2 {v : Nat} (hT : TP b W fr ln p) (h10 : b p = 10) (hv : v < W) : b (fr v + ln v) = 32 ∨ b (fr v + ln v) = 10 := by
  by_cases c : v + 1 < W
  · exact Or.inl ((Txt_end hT h10 hv).1 c)
  · exact Or.inr ((Txt_end hT h10 hv).2 (by omega))
theorem m_ww4 {v : Nat} {Y : pm_II} (hT : TP b W fr ln p) (hn : n = p + 1) (h10 : b p = 10) (hv : v < W) (hb : Mb b n Y) (hw : MW wd Y) : ∀ (d i N : Nat), i + d = ln v → d < N → F_Mo_wordWidth_4 u N (nI (wsm b wd (fr v) i)) (nI (fr v + i)) Y J = some (nI (wsm b wd (fr v) (ln v)), Y, J) := by
  intro d
  have hle := TP_le hT hv
  have hn16 := hb.2.2
  obtain ⟨hl1, hl2, hl3⟩ := hT.2.1 v hv
  induction d with
  | zero =>
    intro i N hi hN
    obtain ⟨N, rfl⟩ : ∃ z, N = z + 1 := ⟨N - 1, by omega⟩
    obtain rfl : i = ln v := by omega
    have hns : ¬ (97 ≤ b (fr v + ln v) ∧ b (fr v + ln v) ≤ 122) := by
      rcases Txt_end2 hT h10 hv with z | z <;> (rw [z]; decide)
    rw [F_Mo_wordWidth_4, hb.2.1, if_neg (by rw [nI_leI (by omega) (by omega)]; omega), vqT (show fr v + ln v < 1600 by omega) (by omega), nI_clamp (by omega), hb.1 _ (by omega), m_isSmall, bd_s, decide_eq_false hns, b2i_if0]
    rfl
  | succ d ih =>
    intro i N hi hN
    obtain ⟨N, rfl⟩ : ∃ z, N = z + 1 := ⟨N - 1, by omega⟩
    have hlt := hl3 i (by omega)
    obtain ⟨e1, e2⟩ := ltr_nI hlt
    have hs : (97 ≤ b (fr v + i) ∧ b (fr v + i) ≤ 122) := hlt
    have hy : Y 122 (fr v + i) = b (fr v + i) := hb.1 _ (by omega)
    have := ih (i + 1) N (by omega) (by omega)
    have e3 : wsm b wd (fr v) (i + 1) = wsm b wd (fr v) i + wd (lx b (fr v + i)) := rfl
    rw [F_Mo_wordWidth_4, hb.2.1, if_neg (by rw [nI_leI (by omega) (by omega)]; omega), vqT (show fr v + i < 1600 by omega) (by omega), nI_clamp (by omega), hy, m_isSmall, bd_s, decide_eq_true hs, b2i_if0, hy, e1, show (96 : Int32) = nI 96 from rfl, pk_sub (by omega), show 97 + lx b (fr v + i) - 96 = lx b (fr v + i) + 1 by omega, vqT (show lx b (fr v + i) + 1 < 27 by omega) (by omega), nI_clamp (by omega), hw _ e2, nI_add, nI_io1, nI_add, ← e3]
    exact this
theorem m_ww {v : Nat} {Y : pm_II} (hu : 40 ≤ u) (hT : TP b W fr ln p) (hn : n = p + 1) (h10 : b p = 10) (hv : v < W) (hb : Mb b n Y) (hw : MW wd Y) : F_Mo_wordWidth u (nI (fr v)) Y J = some (nI (wsm b wd (fr v) (ln v)), Y, J) := by
  have := m_ww4 (u := u) (J := J) hT hn h10 hv hb hw (ln v) 0 u (by omega) (by have := (hT.2.1 v hv).2.1; omega)
  exact this
theorem m_l98 {v : Nat} {Y : pm_II} {K : Int32 → Int32 → Int32 → Int32 → Int32 → Int32 → pm_II → pm_JJ → Option (Int32 × pm_II × pm_JJ)} {x1 x2 x3 x4 x5 : Int32} (hT : TP b W fr ln p) (hn : n = p + 1) (h10 : b p = 10) (hv : v < W) (hb : Mb b n Y) : ∀ (d i N : Nat), i + d = ln v → d < N → F_Mo_lineFrom_98 u K N x1 x2 x3 x4 x5 (nI (fr v + i)) Y J = K x1 x2 x3 x4 x5 (nI (fr v + ln v)) Y J := by
  intro d
  have hle := TP_le hT hv
  have hn16 := hb.2.2
  obtain ⟨hl1, hl2, hl3⟩ := hT.2.1 v hv
  induction d with
  | zero =>
    intro i N hi hN
    obtain ⟨N, rfl⟩ : ∃ z, N = z + 1 := ⟨N - 1, by omega⟩
    obtain rfl : i = ln v := by omega
    rw [F_Mo_lineFrom_98, vqT (show fr v + ln v < 1600 by omega) (by omega), nI_clamp (by omega), hb.1 _ (by omega), cond_true, cond_true]
    rcases Txt_end2 hT h10 hv with z | z
    · rw [z, if_neg (by decide), if_pos rfl]
    · rw [z, if_pos rfl]
  | succ d ih =>
    intro i N hi hN
    obtain ⟨N, rfl⟩ : ∃ z, N = z + 1 := ⟨N - 1, by omega⟩
    have hlt := hl3 i (by omega)
    have := ih (i + 1) N (by omega) (by omega)
    rw [F_Mo_lineFrom_98, vqT (show fr v + i < 1600 by omega) (by omega), nI_clamp (by omega), hb.1 _ (by omega), cond_true, cond_true, if_neg (ltr_ne hlt).2.1, if_neg (ltr_ne hlt).1, nI_io1, nI_add]
    exact this
theorem m_l18 {v : Nat} {Y : pm_II} {x1 x2 x3 x4 x5 : Int32} (hT : TP b W fr ln p) (hn : n = p + 1) (h10 : b p = 10) (hv : v < W) (hb : Mb b n Y) : ∀ (d i N : Nat), i + d = ln v → d < N → F_Mo_lineFrom_18 u N x1 x2 x3 x4 x5 (nI (fr v + i)) Y J = F_Mo_lineFrom_48 u u x1 x2 x3 x4 x5 (nI (fr v + ln v)) Y J := by
  intro d
  have hle := TP_le hT hv
  have hn16 := hb.2.2
  obtain ⟨hl1, hl2, hl3⟩ := hT.2.1 v hv
  induction d with
  | zero =>
    intro i N hi hN
    obtain ⟨N, rfl⟩ : ∃ z, N = z + 1 := ⟨N - 1, by omega⟩
    obtain rfl : i = ln v := by omega
    rw [F_Mo_lineFrom_18, vqT (show fr v + ln v < 1600 by omega) (by omega), nI_clamp (by omega), hb.1 _ (by omega), cond_true, cond_true]
    rcases Txt_end2 hT h10 hv with z | z
    · rw [z, if_neg (by decide), if_pos rfl]
    · rw [z, if_pos rfl]
  | succ d ih =>
    intro i N hi hN
    obtain ⟨N, rfl⟩ : ∃ z, N = z + 1 := ⟨N - 1, by omega⟩
    have hlt := hl3 i (by omega)
    have := ih (i + 1) N (by omega) (by omega)
    rw [F_Mo_lineFrom_18, vqT (show fr v + i < 1600 by omega) (by omega), nI_clamp (by omega), hb.1 _ (by omega), cond_true, cond_true, if_neg (ltr_ne hlt).2.1, if_neg (ltr_ne hlt).1, nI_io1, nI_add]
    exact this
theorem m_l48 {s t m : Nat} {Y : pm_II} {x1 x3 : Int32} (hu : 40 ≤ u) (hT : TP b W fr ln p) (hn : n = p + 1) (h10 : b p = 10) (hb : Mb b n Y) (hw : MW wd Y) (hww : ∀ v, v < W → ww v = wsm b wd (fr v) (ln v)) (hw240 : ∀ v, ww v ≤ 1000) (hm : m ≤ 200) (h : Ln1 ww m W s t) : ∀ (d j N : Nat), s + j + d + 1 = t → d < N → F_Mo_lineFrom_48 u N x1 (nI m) x3 (nI (lwd ww s j)) (nI (j + 1)) (nI (fr (s + j) + ln (s + j))) Y J = F_Mo_lineFrom_128 u x1 (nI m) x3 (nI (lwd ww s (t - s - 1))) (nI (t - s)) (nI (fr (t - 1) + ln (t - 1))) Y J := by
  intro d
  obtain ⟨h1, h2, h3, h4⟩ := h
  have hn16 := hb.2.2
  have hW := hT.1.2.1
  induction d with
  | zero =>
    intro j N hj hN
    obtain ⟨N, rfl⟩ : ∃ z, N = z + 1 := ⟨N - 1, by omega⟩
    have hle := TP_le hT (show s + j < W by omega)
    have e1 : t - s - 1 = j := by omega
    have e2 : t - 1 = s + j := by omega
    rw [e1] at h3 h4
    rw [F_Mo_lineFrom_48, vqT (show fr (s + j) + ln (s + j) < 1600 by omega) (by omega), nI_clamp (by omega), hb.1 _ (by omega), cond_true, e1, e2, show t - s = j + 1 by omega]
    by_cases c : t < W
    · obtain ⟨q1, q2⟩ := hT.2.2.1 (s + j) (by omega)
      have ht : s + j + 1 = t := by omega
      rw [ht] at q1
      have h5 := hw240 t
      rw [q2, if_neg (by decide), nI_1, ← q1, m_ww hu hT hn h10 c hb hw, bd_s, ← hww t c, show (3 : Int32) = nI 3 from rfl, nI_add, nI_add, if_pos (by rw [nI_ltI (by omega) (by omega)]; exact h4 c)]
    · have q := (Txt_end hT h10 (show s + j < W by omega)).2 (by omega)
      rw [q, if_pos (by decide)]
  | succ d ih =>
    intro j N hj hN
    obtain ⟨N, rfl⟩ : ∃ z, N = z + 1 := ⟨N - 1, by omega⟩
    have hle := TP_le hT (show s + j < W by omega)
    have hle2 := TP_le hT (show s + j + 1 < W by omega)
    obtain ⟨q1, q2⟩ := hT.2.2.1 (s + j) (by omega)
    have h5 := hw240 (s + j + 1)
    have e : lwd ww s (j + 1) = lwd ww s j + 3 + ww (s + j + 1) := rfl
    have h6 : lwd ww s (j + 1) ≤ lwd ww s (t - s - 1) := lwd_mono2 (by omega)
    have := ih (j + 1) N (by omega) (by omega)
    rw [F_Mo_lineFrom_48, vqT (show fr (s + j) + ln (s + j) < 1600 by omega) (by omega), nI_clamp (by omega), hb.1 _ (by omega), cond_true, q2, if_neg (by decide), nI_io1, nI_1, nI_add, ← q1, m_ww hu hT hn h10 (by omega) hb hw, bd_s, ← hww _ (by omega), show (3 : Int32) = nI 3 from rfl, nI_add, nI_add, if_neg (by rw [nI_ltI (by omega) (by omega)]; omega), m_ww hu hT hn h10 (by omega) hb hw, bd_s, ← hww _ (by omega), nI_add, nI_add, nI_add]
    have hs := m_l98 (u := u) (J := J) (K := F_Mo_lineFrom_48 u N) (x1 := x1) (x2 := nI m) (x3 := x3) (x4 := nI (lwd ww s j + (3 + ww (s + j + 1)))) (x5 := nI (j + 1 + 1)) hT hn h10 (show s + j + 1 < W by omega) hb (ln (s + j + 1)) 0 u (by omega) (by have := (hT.2.1 (s + j + 1) (by omega)).2.1; omega)
    simp only [Nat.add_zero] at hs
    rw [← q1, hs, show lwd ww s j + (3 + ww (s + j + 1)) = lwd ww s (j + 1) by omega]
    exact this
def k190 (g c k : Nat) : Prop := c = 153 ∧ 12 * g ≤ k ∧ k < 12 * g + 12
theorem m_l190 {x1 x6 : Int32} {g c f : Nat} (hg : g < 16) (hc : c ≤ 11) (hf : f ≤ 1000) : ∀ (d q N : Nat) (Y : pm_II), q + d = c → d < N → (∀ j, j < q → Y 153 (12 * g + j) = nI (spw (f / c) (f % c) j)) → ∃ Z, F_Mo_lineFrom_190 u N x1 (nI g) (nI (c + 1)) x6 (nI f) (nI q) Y J = F_Mo_lineFrom_254 u u (nI g) x6 x1 (pm_up Z 150 g 0) J ∧ On (k190 g) Y Z ∧ ∀ j, j < c → Z 153 (12 * g + j) = nI (spw (f / c) (f % c) j) := by
  intro d
  have e1 : nI (c + 1) - (1 : Int32) = nI c := by rw [nl_1, pk_sub (by omega)]; rfl
  induction d with
  | zero =>
    intro q N Y hq hN h0
    obtain ⟨N, rfl⟩ : ∃ z, N = z + 1 := ⟨N - 1, by omega⟩
    obtain rfl : q = c := by omega
    refine ⟨Y, ?_, On.refl _, h0⟩
    rw [F_Mo_lineFrom_190, e1, if_pos (by rw [nI_leI (by omega) (by omega)]; omega), vqT (show g < 17 by omega) (by omega), nI_clamp (by omega), cond_true]
  | succ d ih =>
    intro q N Y hq hN h0
    obtain ⟨N, rfl⟩ : ∃ z, N = z + 1 := ⟨N - 1, by omega⟩
    have hd := Nat.div_le_self f c
    obtain ⟨Z, z1, z2, z3⟩ := ih (q + 1) N (pm_up Y 153 (12 * g + q) (nI (spw (f / c) (f % c) q))) (by omega) (by omega) (by
      intro j hj
      rw [ur]
      by_cases z : j = q
      · rw [if_pos ⟨rfl, by omega⟩, z]
      · rw [if_neg (fun y => z (by omega))]
        exact h0 j (by omega))
    refine ⟨Z, ?_, On.trans (On.up (On.refl _) ⟨rfl, by omega, by omega⟩) z2, z3⟩
    have hne : ¬ nI c = 0 := by rw [i0_iff (by omega)]; omega
    rw [← z1, F_Mo_lineFrom_190, e1, if_neg (by rw [nI_leI (by omega) (by omega)]; omega), if_pos hne, if_pos hne, pk_rem (by omega) (by omega) (by omega), pk_div (by omega) (by omega) (by omega), show (12 : Int32) = nI 12 from rfl, pk_mul, nI_add, vqT (show 12 * g + q < 204 by omega) (by omega), nI_clamp (by omega), show (3 : Int32) = nI 3 from rfl, nI_add, nI_io1, nI_add, show (0 : Int32) = nI 0 from rfl, nl_1, nI_add, nI_add]
    have hml := Nat.mod_lt f (show 0 < c by omega)
    simp (disch := omega) only [nI_leI]
    unfold spw
    by_cases z : f % c ≤ q
    · rw [if_pos z, if_neg (by omega)]
      rfl
    · rw [if_neg z, if_pos (by omega)]
      rfl
def k254 (g c k : Nat) : Prop := (c = 149 ∧ 160 * g ≤ k ∧ k < 160 * g + 160) ∨ (c = 150 ∧ k = g)
theorem m_l254 {f0 T g : Nat} (hg : g < 16) (hT155 : T ≤ 155) (hpos : ∀ j, j < T → ltr (b (f0 + j)) ∨ b (f0 + j) = 32) (hT : f0 + T < n) : ∀ (d k N : Nat) (Y : pm_II), k + d = T → d < N → Mb b n Y → Y 150 g = nI k → (∀ j, j < k → Y 149 (160 * g + j) = nI (xf b f0 j)) → ∃ Z, F_Mo_lineFrom_254 u N (nI g) (nI (f0 + T)) (nI (f0 + k)) Y J = some (nI (f0 + T + 1), Z, J) ∧ On (k254 g) Y Z ∧ Z 150 g = nI T ∧ ∀ j, j < T → Z 149 (160 * g + j) = nI (xf b f0 j) := by
  intro d
  induction d with
  | zero =>
    intro k N Y hk hN hb h150 h149
    obtain ⟨N, rfl⟩ : ∃ z, N = z + 1 := ⟨N - 1, by omega⟩
    obtain rfl : k = T := by omega
    have hn16 := hb.2.2
    refine ⟨Y, ?_, On.refl _, h150, h149⟩
    rw [F_Mo_lineFrom_254, if_pos (by rw [nI_leI (by omega) (by omega)]; omega), nI_1]
  | succ d ih =>
    intro k N Y hk hN hb h150 h149
    obtain ⟨N, rfl⟩ : ∃ z, N = z + 1 := ⟨N - 1, by omega⟩
    have hn16 := hb.2.2
    have hb2 : Mb b n (pm_up (pm_up Y 149 (160 * g + k) (nI (xf b f0 k))) 150 g (nI (k + 1))) := (hb.put (by decide) (by decide)).put (by decide) (by decide)
    obtain ⟨Z, z1, z2, z3, z4⟩ := ih (k + 1) N (pm_up (pm_up Y 149 (160 * g + k) (nI (xf b f0 k))) 150 g (nI (k + 1))) (by omega) (by omega) hb2 (by rw [ur, if_pos ⟨rfl, rfl⟩]) (by
      intro j hj
      rw [ur, if_neg (by omega), ur]
      by_cases z : j = k
      · rw [if_pos ⟨rfl, by omega⟩, z]
      · rw [if_neg (fun y => z (by omega))]
        exact h149 j (by omega))
    refine ⟨Z, ?_, On.trans (On.up (On.up (On.refl _) (Or.inl ⟨rfl, by omega, by omega⟩)) (Or.inr ⟨rfl, rfl⟩)) z2, z3, z4⟩
    have h303 : F_Mo_lineFrom_303 u (F_Mo_lineFrom_254 u N) (nI g) (nI (f0 + T)) (nI (f0 + k)) (nI (160 * g + k)) (nI (xf b f0 k)) Y J = some (nI (f0 + T + 1), Z, J) := by
      unfold F_Mo_lineFrom_303
      rw [vqT (show 160 * g + k < 2624 by omega) (by omega), vqT (show g < 17 by omega) (by omega), nI_clamp (by omega), nI_clamp (by omega), h150, nI_1, nI_io1, nI_add]
      exact z1
    rw [F_Mo_lineFrom_254, if_neg (by rw [nI_leI (by omega) (by omega)]; omega), vqT (show g < 17 by omega) (by omega), vqT (show f0 + k < 1600 by omega) (by omega), nI_clamp (by omega), nI_clamp (by omega), h150, hb.1 _ (by omega), show (160 : Int32) = nI 160 from rfl, pk_mul, nI_add, cond_true, cond_true, cond_true]
    rcases hpos k (by omega) with c | c
    · obtain ⟨e1, e2⟩ := ltr_nI c
      have e3 : xf b f0 k = lx b (f0 + k) + 1 := xk_l c
      rw [if_pos (ltr_ne c).1, e1, show (96 : Int32) = nI 96 from rfl, pk_sub (by omega), show 97 + lx b (f0 + k) - 96 = lx b (f0 + k) + 1 by omega, ← e3]
      exact h303
    · have e3 : xf b f0 k = 0 := xk_b c
      rw [c, if_neg (by decide), show (0 : Int32) = nI 0 from rfl, ← e3]
      exact h303
/-- what a line's row may hold -/
def kR (g c k : Nat) : Prop := k254 g c k ∨ k190 g c k ∨ ((c = 151 ∨ c = 152) ∧ k = g)
def fr2 (last : Bool) (c m l : Nat) : Nat := if c = 0 then 0 else fre last m l
theorem m_line1 {s t m g : Nat} {Y : pm_II} (hu : 200 ≤ u) (hT : TP b W fr ln p) (hn : n = p + 1) (h10 : b p = 10) (hb : Mb b n Y) (hw : MW wd Y) (hww : ∀ v, v < W → ww v = wsm b wd (fr v) (ln v)) (hw240 : ∀ v, ww v ≤ 1000) (hm : m ≤ 200) (h : Ln1 ww m W s t) (hg : g < 16) (h56 : Y 120 56 = nI g) : ∃ Z, F_Mo_lineFrom u (nI (fr s)) (nI m) Y J = some (nI (fr (t - 1) + ln (t - 1) + 1), Z, J) ∧ On (kR g) Y Z ∧ Z 150 g = nI (fr (t - 1) + ln (t - 1) - fr s) ∧ Z 151 g = nI (t - s) ∧ Z 152 g = nI (lwd ww s (t - s - 1) + fr2 (decide (t = W)) (t - s - 1) m (lwd ww s (t - s - 1))) ∧ (∀ j, j < t - s - 1 → Z 153 (12 * g + j) = nI (spw (fr2 (decide (t = W)) (t - s - 1) m (lwd ww s (t - s - 1)) / (t - s - 1)) (fr2 (decide (t = W)) (t - s - 1) m (lwd ww s (t - s - 1)) % (t - s - 1)) j)) ∧ ∀ j, j < fr (t - 1) + ln (t - 1) - fr s → Z 149 (160 * g + j) = nI (xf b (fr s) j) := by
  have hLn := h
  obtain ⟨h1, h2, h3, h4⟩ := h
  have hn16 := hb.2.2
  have hW := hT.1.2.1
  have h155 := TP_155 hT (show s ≤ t - 1 by omega) (by omega)
  have hle := TP_le hT (show t - 1 < W by omega)
  have hl1 := (hT.2.1 (t - 1) (by omega)).1
  have hfl : fr2 (decide (t = W)) (t - s - 1) m (lwd ww s (t - s - 1)) ≤ 200 := by
    unfold fr2 fre
    split
    · omega
    · cases decide (t = W)
      · show m - _ ≤ 200
        omega
      · show 0 ≤ 200
        omega
  obtain ⟨Z, z1, z2, z3⟩ := m_l190 (u := u) (J := J) (x1 := nI (fr s)) (x6 := nI (fr (t - 1) + ln (t - 1))) (g := g) (c := t - s - 1) (f := fr2 (decide (t = W)) (t - s - 1) m (lwd ww s (t - s - 1))) hg (by omega) (by omega) (t - s - 1) 0 u (pm_up (pm_up Y 151 g (nI (t - s))) 152 g (nI (lwd ww s (t - s - 1) + fr2 (decide (t = W)) (t - s - 1) m (lwd ww s (t - s - 1))))) (by omega) (by omega) (fun j hj => absurd hj (Nat.not_lt_zero _))
  have hbY : Mb b n (pm_up (pm_up Y 151 g (nI (t - s))) 152 g (nI (lwd ww s (t - s - 1) + fr2 (decide (t = W)) (t - s - 1) m (lwd ww s (t - s - 1))))) := (hb.put (by decide) (by decide)).put (by decide) (by decide)
  have hbZ : Mb b n (pm_up Z 150 g 0) := (hbY.on z2 (by unfold k190; omega) (fun j => by unfold k190; omega)).put (by decide) (by decide)
  obtain ⟨V, v1, v2, v3, v4⟩ := m_l254 (u := u) (J := J) (b := b) (n := n) (f0 := fr s) (T := fr (t - 1) + ln (t - 1) - fr s) hg h155.2 (fun j hj => TP_pos hT (t - 1) (by omega) _ (by omega)) (by omega) (fr (t - 1) + ln (t - 1) - fr s) 0 u (pm_up Z 150 g 0) (by omega) (by omega) hbZ (by rw [ur, if_pos ⟨rfl, rfl⟩]; rfl) (fun j hj => absurd hj (Nat.not_lt_zero _))
  rw [show fr s + (fr (t - 1) + ln (t - 1) - fr s) = fr (t - 1) + ln (t - 1) by omega, Nat.add_zero] at v1
  have o1 : On (kR g) Y (pm_up (pm_up Y 151 g (nI (t - s))) 152 g (nI (lwd ww s (t - s - 1) + fr2 (decide (t = W)) (t - s - 1) m (lwd ww s (t - s - 1))))) := On.up (On.up (On.refl _) (Or.inr (Or.inr ⟨Or.inl rfl, rfl⟩))) (Or.inr (Or.inr ⟨Or.inr rfl, rfl⟩))
  have o2 : On (kR g) Z (pm_up Z 150 g 0) := On.up (On.refl _) (Or.inl (Or.inr ⟨rfl, rfl⟩))
  refine ⟨V, ?_, On.trans (On.trans (On.trans o1 (z2.mono (fun c k z => Or.inr (Or.inl z)))) o2) (v2.mono (fun c k z => Or.inl z)), v3, ?_, ?_, fun j hj => ?_, v4⟩
  · unfold F_Mo_lineFrom
    have hln := (hT.2.1 s (by omega)).2.1
    have h18 := m_l18 (u := u) (J := J) (x1 := nI (fr s)) (x2 := nI m) (x3 := nI g) (x4 := nI (ww s)) (x5 := (1 : Int32)) hT hn h10 (show s < W by omega) hb (ln s) 0 u (by omega) (by omega)
    have h48 := m_l48 (u := u) (J := J) (x1 := nI (fr s)) (x3 := nI g) (by omega) hT hn h10 hb hw hww hw240 hm hLn (t - s - 1) 0 u (by omega) (by omega)
    simp only [Nat.add_zero] at h18 h48
    have e0 : nI (lwd ww s 0) = nI (ww s) := rfl
    have e1 : nI (0 + 1) = (1 : Int32) := rfl
    rw [e0, e1] at h48
    rw [m_ww (by omega) hT hn h10 (show s < W by omega) hb hw, bd_s, ← hww s (by omega), h56, h18, h48]
    unfold F_Mo_lineFrom_128
    rw [vqT (show fr (t - 1) + ln (t - 1) < 1600 by omega) (by omega), nI_clamp (by omega), hb.1 _ (by omega), cond_true]
    have h166 : F_Mo_lineFrom_166 u (nI (fr s)) (nI g) (nI (lwd ww s (t - s - 1))) (nI (t - s)) (nI (fr (t - 1) + ln (t - 1))) (nI (fr2 (decide (t = W)) (t - s - 1) m (lwd ww s (t - s - 1)))) Y J = some (nI (fr (t - 1) + ln (t - 1) + 1), V, J) := by
      unfold F_Mo_lineFrom_166
      rw [vqT (show g < 17 by omega) (by omega), nI_clamp (by omega), nI_add, cond_true, cond_true]
      rw [← v1, ← z1, show t - s - 1 + 1 = t - s by omega]
      rfl
    rw [← h166]
    unfold F_Mo_lineFrom_145
    by_cases c : t = W
    · have q := (Txt_end hT h10 (show t - 1 < W by omega)).2 (by omega)
      have ef : fr2 (decide (t = W)) (t - s - 1) m (lwd ww s (t - s - 1)) = 0 := by
        unfold fr2 fre
        rw [decide_eq_true c]
        split <;> rfl
      rw [q, if_neg (by decide), if_pos (by decide), ef]
      rfl
    · have q := (Txt_end hT h10 (show t - 1 < W by omega)).1 (by omega)
      rw [q, if_pos (by decide), if_neg (by decide)]
      by_cases c2 : t - s = 1
      · have ef : fr2 (decide (t = W)) (t - s - 1) m (lwd ww s (t - s - 1)) = 0 := by
          unfold fr2
          rw [if_pos (by omega)]
        rw [c2, if_neg (by decide), show 1 - 1 = 0 by omega]
        rw [c2] at ef
        rw [ef]
        rfl
      · have ef : fr2 (decide (t = W)) (t - s - 1) m (lwd ww s (t - s - 1)) = m - lwd ww s (t - s - 1) := by
          unfold fr2 fre
          rw [if_neg (by omega), decide_eq_false c]
          rfl
        rw [if_pos (by rw [nl_1, nI_eq (by omega) (by omega)]; exact c2), pk_sub h3, ef]
  · rw [v2 151 g (by unfold k254; omega), ur, if_neg (by omega), z2 151 g (by unfold k190; omega), ur, if_neg (by omega), ur, if_pos ⟨rfl, rfl⟩]
  · rw [v2 152 g (by unfold k254; omega), ur, if_neg (by omega), z2 152 g (by unfold k190; omega), ur, if_pos ⟨rfl, rfl⟩]
  · rw [v2 153 _ (by unfold k254; omega), ur, if_neg (by omega)]
    exact z3 j hj
end MLine
