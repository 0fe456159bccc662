/-! ===== type: the lines of a text, class and model ===== -/
section Lines
variable {u : Nat} {J : pm_JJ} {b : Nat → Int32} {n p W pa pb : Nat} {fr ln wd ww : Nat → Nat} {ga : Nat → Nat}
/-- a line laid by the class, by the model -/
def LD (b : Nat → Int32) (fr ln ww : Nat → Nat) (W m a s t : Nat) (X : pm_II) : Prop := ∃ each ones, (0 < t - s - 1 → each = fre (decide (t = W)) m (lwd ww s (t - s - 1)) / (t - s - 1) ∧ ones = fre (decide (t = W)) m (lwd ww s (t - s - 1)) % (t - s - 1)) ∧ each ≤ 200 ∧ LB (xf b (fr s)) (spw each ones) a (fr (t - 1) + ln (t - 1) - fr s) (t - s) (t - s - 1) (wS ww each ones s (t - s - 1)) X
def MD (b : Nat → Int32) (fr ln ww : Nat → Nat) (W m r s t : Nat) (Z : pm_II) : Prop := Z 150 r = nI (fr (t - 1) + ln (t - 1) - fr s) ∧ Z 151 r = nI (t - s) ∧ Z 152 r = nI (lwd ww s (t - s - 1) + fr2 (decide (t = W)) (t - s - 1) m (lwd ww s (t - s - 1))) ∧ (∀ j, j < t - s - 1 → Z 153 (12 * r + j) = nI (spw (fr2 (decide (t = W)) (t - s - 1) m (lwd ww s (t - s - 1)) / (t - s - 1)) (fr2 (decide (t = W)) (t - s - 1) m (lwd ww s (t - s - 1)) % (t - s - 1)) j)) ∧ ∀ j, j < fr (t - 1) + ln (t - 1) - fr s → Z 149 (160 * r + j) = nI (xf b (fr s) j)
theorem LD.on {S : Nat → Nat → Prop} {X Y : pm_II} {m a s t : Nat} (h : LD b fr ln ww W m a s t X) (o : On S X Y) (h1 : ∀ j, ¬ S a j) (h2 : ∀ j, ¬ S (a + 1) j) : LD b fr ln ww W m a s t Y := by
  obtain ⟨e, o2, a1, a2, a3⟩ := h
  exact ⟨e, o2, a1, a2, a3.on o h1 h2⟩
theorem MD.on {Y Z : pm_II} {m r r2 s t : Nat} (hT : TP b W fr ln p) (hst : s < t) (ht : t ≤ W) (h : MD b fr ln ww W m r s t Y) (o : On (kR r2) Y Z) (hr : r ≠ r2) : MD b fr ln ww W m r s t Z := by
  obtain ⟨a1, a2, a3, a4, a5⟩ := h
  have h155 := TP_155 hT (show s ≤ t - 1 by omega) (by omega)
  have hW := hT.1.2.1
  refine ⟨?_, ?_, ?_, fun j hj => ?_, fun j hj => ?_⟩
  · rw [o _ _ (by unfold kR k254 k190; omega)]; exact a1
  · rw [o _ _ (by unfold kR k254 k190; omega)]; exact a2
  · rw [o _ _ (by unfold kR k254 k190; omega)]; exact a3
  · rw [o _ _ (by unfold kR k254 k190; omega)]; exact a4 j hj
  · rw [o _ _ (by unfold kR k254 k190; omega)]; exact a5 j hj
theorem zc_mono (x : Nat → Nat) : ∀ d k, zc x k ≤ zc x (k + d)
  | 0, _ => Nat.le_refl _
  | d + 1, k => by
    have h1 := zc_mono x d k
    have e : zc x (k + (d + 1)) = zc x (k + d) + (if x (k + d) = 0 then 1 else 0) := rfl
    omega
theorem mkLR {X Z : pm_II} {m a r s t : Nat} (hT : TP b W fr ln p) (hst : s < t) (ht : t ≤ W) (hX : LD b fr ln ww W m a s t X) (hZ : MD b fr ln ww W m r s t Z) : LR (X a) (X (a + 1)) (fun k => Z 149 (160 * r + k)) (fun q => Z 153 (12 * r + q)) (Z 150 r) (Z 151 r) (Z 152 r) := by
  obtain ⟨each, ones, a1, a2, ⟨⟨b1, b2, b3, b4⟩, ⟨b5, b6⟩, b7, b8⟩⟩ := hX
  obtain ⟨c1, c2, c3, c4, c5⟩ := hZ
  have h155 := TP_155 hT (show s ≤ t - 1 by omega) (by omega)
  have hl1 := (hT.2.1 (t - 1) (by omega)).1
  have hW := hT.1.2.1
  have hz := zc_le (xf b (fr s)) (fr (t - 1) + ln (t - 1) - fr s)
  have hTw : t - s ≤ fr (t - 1) + ln (t - 1) - fr s := by
    have h1 : ∀ d v, v + d < W → fr v + d ≤ fr (v + d) := by
      intro d
      induction d with
      | zero => intro v _; exact Nat.le_refl _
      | succ d ih =>
        intro v hv
        have h2 := ih v (by omega)
        have h3 := (hT.2.2.1 (v + d) (by omega)).1
        rw [show v + (d + 1) = v + d + 1 by omega]
        omega
    have h4 := h1 (t - 1 - s) s (by omega)
    rw [show s + (t - 1 - s) = t - 1 by omega] at h4
    omega
  have hwid : wS ww each ones s (t - s - 1) = lwd ww s (t - s - 1) + fr2 (decide (t = W)) (t - s - 1) m (lwd ww s (t - s - 1)) := by
    rw [wS_eq]
    unfold fr2
    by_cases c : t - s - 1 = 0
    · rw [c, if_pos rfl, Nat.zero_mul]
      omega
    · obtain ⟨d1, d2⟩ := a1 (by omega)
      rw [if_neg c]
      have hm := Nat.mod_lt (fre (decide (t = W)) m (lwd ww s (t - s - 1))) (show 0 < t - s - 1 by omega)
      have hdm := Nat.div_add_mod (fre (decide (t = W)) m (lwd ww s (t - s - 1))) (t - s - 1)
      rw [← d2] at hm
      rw [show min (t - s - 1) ones = ones by omega]
      rw [← d1, ← d2] at hdm
      omega
  refine ⟨fr (t - 1) + ln (t - 1) - fr s, t - s, xf b (fr s), spw each ones, ⟨by omega, by omega, hTw, h155.2⟩, ⟨c1, c2, b1, ?_, b3, ?_⟩, ⟨?_, ?_⟩, fun q hq => ⟨?_, ?_⟩, fun k hk => ⟨?_, c5 k hk, fun z => ⟨?_, ?_⟩, fun z => ?_⟩⟩
  · rw [b2, c3, hwid]
  · rw [b4, show fr (t - 1) + ln (t - 1) - fr s + 1 - (t - s) = fr (t - 1) + ln (t - 1) - fr s - (t - s - 1) by omega]
  · rw [b5]
    by_cases c : t - s = 1
    · rw [if_pos c, if_pos (by omega)]
    · rw [if_neg c, if_neg (by omega)]
  · rw [b6]
    by_cases c : t - s = 1
    · rw [if_pos c, if_pos (by omega)]
    · rw [if_neg c, if_neg (by omega), show t - s - 1 - 1 = t - s - 2 by omega]
  · have := c4 q (by omega)
    obtain ⟨d1, d2⟩ := a1 (by omega)
    unfold fr2 at this
    rw [if_neg (by omega), ← d1, ← d2] at this
    exact this
  · unfold spw
    split <;> omega
  · unfold xf
    rcases TP_pos hT (t - 1) (by omega) (fr s + k) (by omega) with c | c
    · rw [xk_l c]
      have := (ltr_nI c).2
      omega
    · rw [xk_b c]
      omega
  · have h1 := zc_mono (xf b (fr s)) (fr (t - 1) + ln (t - 1) - fr s - (k + 1)) (k + 1)
    rw [show k + 1 + (fr (t - 1) + ln (t - 1) - fr s - (k + 1)) = fr (t - 1) + ln (t - 1) - fr s by omega, b7] at h1
    have h2 : zc (xf b (fr s)) (k + 1) = zc (xf b (fr s)) k + 1 := by rw [zc, if_pos z]
    omega
  · rw [b8 k hk]
    unfold mrk
    rw [if_pos z]
  · rw [b8 k hk]
    unfold mrk
    rw [if_neg z]
theorem G5_ne (h : G5 ga) {l r : Nat} (hl : l < 16) (hr : r < 16) (hne : l ≠ r) : ga l ≠ ga r ∧ ga l ≠ ga r + 1 ∧ ga l + 1 ≠ ga r := by
  obtain ⟨i, hi, e1⟩ := h.1 l hl
  obtain ⟨j, hj, e2⟩ := h.1 r hr
  have := fun z => hne (h.2 l r hl hr z)
  refine ⟨this, by omega, by omega⟩
theorem Brk.mono {m k : Nat} {ls : Nat → Nat} (h : Brk ww m W ls k) : ∀ d i, i + d ≤ k → ls i + d ≤ ls (i + d)
  | 0, _, _ => Nat.le_refl _
  | d + 1, i, hi => by
    have h1 := Brk.mono h d i (by omega)
    have h2 := (h.2.2.2 (i + d) (by omega)).1
    rw [show i + (d + 1) = i + d + 1 by omega]
    omega
theorem Brk.last {m k i : Nat} {ls : Nat → Nat} (h : Brk ww m W ls k) (hi : i < k) : decide (i = k - 1) = decide (ls (i + 1) = W) := by
  have h1 := h.mono (k - (i + 1)) (i + 1) (by omega)
  rw [show i + 1 + (k - (i + 1)) = k by omega, h.2.2.1] at h1
  by_cases c : i = k - 1
  · have : ls (i + 1) = W := by rw [← h.2.2.1]; congr 1; omega
    rw [decide_eq_true c, decide_eq_true this]
  · have : ¬ ls (i + 1) = W := by omega
    rw [decide_eq_false c, decide_eq_false this]
/-- what the class writes as it lays lines from g on -/
def kC (ga : Nat → Nat) (g c k : Nat) : Prop := (∃ l, g ≤ l ∧ l < 16 ∧ kL (ga l) c k) ∨ (c = 48 ∧ k = 9)
theorem kC_r (hg : G5 ga) {g c k : Nat} (h : kC ga g c k) : (57 ≤ c ∧ c ≤ 88) ∨ (c = 48 ∧ k = 9) := by
  rcases h with ⟨l, h1, h2, h3⟩ | h
  · have := oT_r (hg.1 l h2)
    unfold kL at h3
    omega
  · exact Or.inr h
theorem c_lines {g k m : Nat} {ls : Nat → Nat} (hu : 40 ≤ u) (hG : G5 ga) (hT : TP b W fr ln p) (hn : n = p + 1) (hm : m ≤ 200) (hB : Brk ww m W ls k) (hgk : g + k ≤ 16) : ∀ (d i N : Nat) (X : pm_II), i + d = k → d < N → Tb b n X → CW W fr ln wd X → (∀ v, v < W → X 54 v = nI (ww v)) → X 48 9 = nI (g + i) → (∀ j, j ≤ k → X 55 j = nI (ls j)) → (∀ j, j < i → LD b fr ln ww W m (ga (g + j)) (ls j) (ls (j + 1)) X) → ∃ Y, F_Ty_takeText_58 u pa pb ga N (nI m) (nI k) (nI i) X J = F_Ty_takeText_94 u pa pb ga u (nI k) (0 : Int32) Y J ∧ On (kC ga g) X Y ∧ Y 48 9 = nI (g + k) ∧ ∀ j, j < k → LD b fr ln ww W m (ga (g + j)) (ls j) (ls (j + 1)) Y := by
  intro d
  have hk1 := hB.1
  have hkW := hB.k
  have hW := hT.1.2.1
  induction d with
  | zero =>
    intro i N X hi hN hb hC h54 h9 h55 hD
    obtain ⟨N, rfl⟩ : ∃ z, N = z + 1 := ⟨N - 1, by omega⟩
    obtain rfl : i = k := by omega
    refine ⟨X, ?_, On.refl _, h9, hD⟩
    rw [F_Ty_takeText_58, if_pos (by rw [nI_leI (by omega) (by omega)]; omega)]
  | succ d ih =>
    intro i N X hi hN hb hC h54 h9 h55 hD
    obtain ⟨N, rfl⟩ : ∃ z, N = z + 1 := ⟨N - 1, by omega⟩
    obtain ⟨q1, q2, q3, q4⟩ := hB.2.2.2 i (by omega)
    obtain ⟨Y, each, ones, y1, y2, y3, y4, y5, y6⟩ := c_layLine (u := u) (J := J) (pa := pa) (pb := pb) (ga := ga) (wd := wd) (ww := ww) (i := i) (g := g + i) (last := decide (ls (i + 1) = W)) hu hT hn (by omega) q1 q2 q3 hm (oT_r (hG.1 _ (by omega))) (by omega) hb hC h54 h9 (h55 i (by omega)) (h55 (i + 1) (by omega))
    have hr := oT_r (hG.1 (g + i) (by omega))
    have oS : On (kC ga g) X Y := y2.mono (fun c k z => by
      rcases z with z | z
      · exact Or.inl ⟨g + i, by omega, by omega, z⟩
      · exact Or.inr z)
    have hbY : Tb b n Y := hb.on y2 (by unfold kL; omega) (fun j => by unfold kL; omega)
    have hCY : CW W fr ln wd Y := hC.on y2 (by unfold kL; omega) (fun j => by unfold kL; omega) (fun j => by unfold kL; omega) (fun j => by unfold kL; omega)
    obtain ⟨Z, z1, z2, z3, z4⟩ := ih (i + 1) N Y (by omega) (by omega) hbY hCY (fun v hv => by rw [y2 54 v (by unfold kL; omega)]; exact h54 v hv) y3 (fun j hj => by rw [y2 55 j (by unfold kL; omega)]; exact h55 j hj) (fun j hj => by
      by_cases q : j = i
      · subst q
        exact ⟨each, ones, y4, y5, y6⟩
      · have hne := G5_ne hG (show g + j < 16 by omega) (show g + i < 16 by omega) (by omega)
        have hrj := oT_r (hG.1 (g + j) (by omega))
        exact (hD j (by omega)).on y2 (fun x => by unfold kL; omega) (fun x => by unfold kL; omega))
    refine ⟨Z, ?_, On.trans oS z2, z3, z4⟩
    have h81 : ∀ t : Bool, t = decide (ls (i + 1) = W) → F_Ty_takeText_81 u pa pb ga (F_Ty_takeText_58 u pa pb ga N) (nI m) (nI k) (nI i) (nI i) (b2i t) X J = F_Ty_takeText_94 u pa pb ga u (nI k) (0 : Int32) Z J := by
      intro t ht
      unfold F_Ty_takeText_81
      rw [ht, y1, bd_s, nI_io1, nI_add]
      exact z1
    have hl := hB.last (show i < k by omega)
    rw [F_Ty_takeText_58, if_neg (by rw [nI_leI (by omega) (by omega)]; omega), nl_1, pk_sub (by omega)]
    by_cases c : i = k - 1
    · rw [if_neg (by rw [nI_eq (by omega) (by omega)]; omega)]
      exact h81 true (by rw [← hl, decide_eq_true c])
    · rw [if_pos (by rw [nI_eq (by omega) (by omega)]; exact c)]
      exact h81 false (by rw [← hl, decide_eq_false c])
/-- a word's place, or the text's end -/
def ps (fr : Nat → Nat) (W n t : Nat) : Nat := if t < W then fr t else n
theorem ps_n {t : Nat} (hT : TP b W fr ln p) (hn : n = p + 1) (h1 : 1 ≤ t) (ht : t ≤ W) : fr (t - 1) + ln (t - 1) + 1 = ps fr W n t := by
  unfold ps
  by_cases c : t < W
  · rw [if_pos c]
    have := (hT.2.2.1 (t - 1) (by omega)).1
    rw [show t - 1 + 1 = t by omega] at this
    exact this.symm
  · rw [if_neg c]
    have := hT.2.2.2
    rw [show t = W by omega]
    omega
def kMr (g c k : Nat) : Prop := (∃ l, g ≤ l ∧ l < 16 ∧ kR l c k) ∨ (c = 120 ∧ k = 56)
theorem kMr_r {g c k : Nat} (h : kMr g c k) : (149 ≤ c ∧ c ≤ 153) ∨ (c = 120 ∧ k = 56) := by
  rcases h with ⟨l, h1, h2, h3⟩ | h
  · unfold kR k254 k190 at h3; omega
  · exact Or.inr h
theorem m_lines1 {s t m g g0 N : Nat} {Y : pm_II} (hu : 200 ≤ u) (hT : TP b W fr ln p) (hn : n = p + 1) (h10 : b p = 10) (hb : Mb b n Y) (hw : MW wd Y) (hww : ∀ v, v < W → ww v = wsm b wd (fr v) (ln v)) (hw240 : ∀ v, ww v ≤ 1000) (hm : m ≤ 200) (h : Ln1 ww m W s t) (hg : g < 16) (h56 : Y 120 56 = nI g) : ∃ Z, F_Mo_laid_105 u (N + 1) (nI m) (nI g0) (nI (fr s)) Y J = F_Mo_laid_105 u N (nI m) (nI g0) (nI (ps fr W n t)) Z J ∧ On (fun c k => kR g c k ∨ (c = 120 ∧ k = 56)) Y Z ∧ Z 120 56 = nI (g + 1) ∧ MD b fr ln ww W m g s t Z := by
  obtain ⟨Z, z1, z2, z3, z4, z5, z6, z7⟩ := m_line1 (u := u) (J := J) hu hT hn h10 hb hw hww hw240 hm h hg h56
  have hn16 := hb.2.2
  have hle := TP_le hT (show s < W by have := h.1; have := h.2.1; omega)
  have hws : ww s ≤ m := Nat.le_trans (lwd_w (ww := ww) (s := s) 0) (Nat.le_trans (lwd_mono2 (Nat.zero_le _)) h.2.2.1)
  refine ⟨pm_up Z 120 56 (nI (g + 1)), ?_, On.up (z2.mono (fun c k z => Or.inl z)) (Or.inr ⟨rfl, rfl⟩), rfl, z3, z4, z5, z6, z7⟩
  have hZ56 : Z 120 56 = nI g := by rw [z2 120 56 (by unfold kR k254 k190; omega)]; exact h56
  rw [F_Mo_laid_105, hb.2.1, if_neg (by rw [nI_leI (by omega) (by omega)]; omega), h56, if_neg (by rw [show (16 : Int32) = nI 16 from rfl, nI_eq (by omega) (by omega)]; omega), m_ww (by omega) hT hn h10 (by have := h.1; have := h.2.1; omega) hb hw, bd_s, ← hww s (by have := h.1; have := h.2.1; omega), if_pos (by rw [nI_leI (by omega) (by omega)]; exact hws), z1, bd_s, hZ56, nI_1, ps_n hT hn (by have := h.1; omega) h.2.1]
theorem m_lines {m g k : Nat} {ls : Nat → Nat} (hu : 200 ≤ u) (hT : TP b W fr ln p) (hn : n = p + 1) (h10 : b p = 10) (hww : ∀ v, v < W → ww v = wsm b wd (fr v) (ln v)) (hw240 : ∀ v, ww v ≤ 1000) (hm : m ≤ 200) (hB : Brk ww m W ls k) (hgk : g + k ≤ 16) : ∀ (d i N : Nat) (Y : pm_II), i + d = k → d < N → Mb b n Y → MW wd Y → Y 120 56 = nI (g + i) → (∀ j, j < i → MD b fr ln ww W m (g + j) (ls j) (ls (j + 1)) Y) → ∃ Z, F_Mo_laid_105 u N (nI m) (nI g) (nI (ps fr W n (ls i))) Y J = F_Mo_laid_161 u u (nI g) (1 : Int32) Z J ∧ On (kMr g) Y Z ∧ Z 120 56 = nI (g + k) ∧ ∀ j, j < k → MD b fr ln ww W m (g + j) (ls j) (ls (j + 1)) Z := by
  intro d
  have hkW := hB.k
  have hW := hT.1.2.1
  induction d with
  | zero =>
    intro i N Y hi hN hb hw h56 hD
    obtain ⟨N, rfl⟩ : ∃ z, N = z + 1 := ⟨N - 1, by omega⟩
    obtain rfl : i = k := by omega
    have hn16 := hb.2.2
    refine ⟨Y, ?_, On.refl _, h56, hD⟩
    have e : ps fr W n (ls i) = n := by unfold ps; rw [hB.2.2.1, if_neg (Nat.lt_irrefl _)]
    rw [F_Mo_laid_105, hb.2.1, e, if_pos (by rw [nI_leI (by omega) (by omega)]; omega)]
  | succ d ih =>
    intro i N Y hi hN hb hw h56 hD
    obtain ⟨N, rfl⟩ : ∃ z, N = z + 1 := ⟨N - 1, by omega⟩
    have hL := hB.2.2.2 i (by omega)
    obtain ⟨Z, z1, z2, z3, z4⟩ := m_lines1 (u := u) (J := J) (g0 := g) (N := N) hu hT hn h10 hb hw hww hw240 hm hL (show g + i < 16 by omega) h56
    have oS : On (kMr g) Y Z := z2.mono (fun c k z => by
      rcases z with z | z
      · exact Or.inl ⟨g + i, by omega, by omega, z⟩
      · exact Or.inr z)
    have hbZ : Mb b n Z := hb.on oS (fun z => by have := kMr_r z; omega) (fun j z => by have := kMr_r z; omega)
    have hwZ : MW wd Z := fun k hk => by rw [oS 147 _ (fun z => by have := kMr_r z; omega)]; exact hw k hk
    obtain ⟨V, v1, v2, v3, v4⟩ := ih (i + 1) N Z (by omega) (by omega) hbZ hwZ z3 (fun j hj => by
      by_cases q : j = i
      · subst q; exact z4
      · have hLj := hB.2.2.2 j (by omega)
        have h1 := hD j (by omega)
        obtain ⟨a1, a2, a3, a4, a5⟩ := h1
        have h155 := TP_155 hT (show ls j ≤ ls (j + 1) - 1 by have := hLj.1; omega) (by have := hLj.1; have := hLj.2.1; omega)
        have hl1 := hLj.2.1
        refine ⟨?_, ?_, ?_, fun x hx => ?_, fun x hx => ?_⟩
        · rw [z2 _ _ (by unfold kR k254 k190; omega)]; exact a1
        · rw [z2 _ _ (by unfold kR k254 k190; omega)]; exact a2
        · rw [z2 _ _ (by unfold kR k254 k190; omega)]; exact a3
        · rw [z2 _ _ (by unfold kR k254 k190; omega)]; exact a4 x hx
        · rw [z2 _ _ (by unfold kR k254 k190; omega)]; exact a5 x hx)
    refine ⟨V, ?_, On.trans oS v2, v3, v4⟩
    have e : ps fr W n (ls i) = fr (ls i) := by unfold ps; rw [if_pos (by have := hL.1; have := hL.2.1; omega)]
    rw [e, z1]
    exact v1
/-- too many lines -/
theorem m_linesF {m g k : Nat} {ls : Nat → Nat} (hu : 200 ≤ u) (hT : TP b W fr ln p) (hn : n = p + 1) (h10 : b p = 10) (hww : ∀ v, v < W → ww v = wsm b wd (fr v) (ln v)) (hw240 : ∀ v, ww v ≤ 1000) (hm : m ≤ 200) (hB : Brk ww m W ls k) (hg : g ≤ 16) (hgk : 16 < g + k) : ∀ (d i N : Nat) (Y : pm_II), g + i + d = 16 → d < N → Mb b n Y → MW wd Y → Y 120 56 = nI (g + i) → ∃ Z, F_Mo_laid_105 u N (nI m) (nI g) (nI (ps fr W n (ls i))) Y J = some ((0 : Int32), pm_up Z 120 56 (nI g), J) ∧ On (kMr g) Y Z := by
  intro d
  have hkW := hB.k
  have hW := hT.1.2.1
  induction d with
  | zero =>
    intro i N Y hi hN hb hw h56
    obtain ⟨N, rfl⟩ : ∃ z, N = z + 1 := ⟨N - 1, by omega⟩
    have hn16 := hb.2.2
    have hL := hB.2.2.2 i (by omega)
    have hle := TP_le hT (show ls i < W by have := hL.1; have := hL.2.1; omega)
    have e : ps fr W n (ls i) = fr (ls i) := by unfold ps; rw [if_pos (by have := hL.1; have := hL.2.1; omega)]
    refine ⟨Y, ?_, On.refl _⟩
    rw [F_Mo_laid_105, hb.2.1, e, if_neg (by rw [nI_leI (by omega) (by omega)]; omega), h56, if_pos (by rw [show (16 : Int32) = nI 16 from rfl]; congr 1)]
    rfl
  | succ d ih =>
    intro i N Y hi hN hb hw h56
    obtain ⟨N, rfl⟩ : ∃ z, N = z + 1 := ⟨N - 1, by omega⟩
    have hL := hB.2.2.2 i (by omega)
    obtain ⟨Z, z1, z2, z3, z4⟩ := m_lines1 (u := u) (J := J) (g0 := g) (N := N) hu hT hn h10 hb hw hww hw240 hm hL (show g + i < 16 by omega) h56
    have oS : On (kMr g) Y Z := z2.mono (fun c k z => by
      rcases z with z | z
      · exact Or.inl ⟨g + i, by omega, by omega, z⟩
      · exact Or.inr z)
    have hbZ : Mb b n Z := hb.on oS (fun z => by have := kMr_r z; omega) (fun j z => by have := kMr_r z; omega)
    have hwZ : MW wd Z := fun k hk => by rw [oS 147 _ (fun z => by have := kMr_r z; omega)]; exact hw k hk
    obtain ⟨V, v1, v2⟩ := ih (i + 1) N Z (by omega) (by omega) hbZ hwZ z3
    refine ⟨V, ?_, On.trans oS v2⟩
    have e : ps fr W n (ls i) = fr (ls i) := by unfold ps; rw [if_pos (by have := hL.1; have := hL.2.1; omega)]
    rw [e, z1]
    exact v1
/-- where a line ends -/
theorem ln_ex {m s : Nat} (hs : s < W) (hm : ww s ≤ m) : ∃ t, Ln1 ww m W s t := by
  have h1 : ∀ d t, t + d = W → s < t → lwd ww s (t - s - 1) ≤ m → ∃ t, Ln1 ww m W s t := by
    intro d
    induction d with
    | zero =>
      intro t ht hst hl
      exact ⟨t, hst, by omega, hl, fun z => by omega⟩
    | succ d ih =>
      intro t ht hst hl
      by_cases c : m < lwd ww s (t - s - 1) + 3 + ww t
      · exact ⟨t, hst, by omega, hl, fun _ => c⟩
      · refine ih (t + 1) (by omega) (by omega) ?_
        have e : lwd ww s (t + 1 - s - 1) = lwd ww s (t - s - 1) + 3 + ww t := by
          rw [show t + 1 - s - 1 = (t - s - 1) + 1 by omega, lwd, show s + (t - s - 1) + 1 = t by omega]
        rw [e]
        omega
  exact h1 (W - (s + 1)) (s + 1) (by omega) (by omega) (by rw [show s + 1 - s - 1 = 0 by omega]; exact hm)
/-- a word that is too wide -/
theorem m_linesU {m g0 v : Nat} (hu : 200 ≤ u) (hT : TP b W fr ln p) (hn : n = p + 1) (h10 : b p = 10) (hww : ∀ v, v < W → ww v = wsm b wd (fr v) (ln v)) (hw240 : ∀ v, ww v ≤ 1000) (hm : m ≤ 200) (hv : v < W) (hvm : m < ww v) : ∀ (N : Nat) (s g : Nat) (Y : pm_II), s ≤ v → v - s < N → g0 ≤ g → g ≤ 16 → Mb b n Y → MW wd Y → Y 120 56 = nI g → ∃ Z, F_Mo_laid_105 u N (nI m) (nI g0) (nI (fr s)) Y J = some ((0 : Int32), pm_up Z 120 56 (nI g0), J) ∧ On (kMr g0) Y Z := by
  intro N
  have hW := hT.1.2.1
  induction N with
  | zero => intro s g Y hs hN; omega
  | succ N ih =>
    intro s g Y hs hN hg hg16 hb hw h56
    have hn16 := hb.2.2
    have hle := TP_le hT (show s < W by omega)
    have hw1 := hw240 s
    by_cases c : g = 16
    · refine ⟨Y, ?_, On.refl _⟩
      rw [F_Mo_laid_105, hb.2.1, if_neg (by rw [nI_leI (by omega) (by omega)]; omega), h56, if_pos (by rw [c]; rfl)]
      rfl
    · by_cases c2 : ww s ≤ m
      · obtain ⟨t, hL⟩ := ln_ex (W := W) (show s < W by omega) c2
        have hvt : t ≤ v := by
          have h1 := hL.1
          have h2 := hL.2.2.1
          by_cases q : t ≤ v
          · exact q
          · have h3 := lwd_w (ww := ww) (s := s) (v - s)
            have h4 := lwd_mono2 (ww := ww) (s := s) (show v - s ≤ t - s - 1 by omega)
            rw [show s + (v - s) = v by omega] at h3
            omega
        obtain ⟨Z, z1, z2, z3, z4⟩ := m_lines1 (u := u) (J := J) (g0 := g0) (N := N) hu hT hn h10 hb hw hww hw240 hm hL (show g < 16 by omega) h56
        have oS : On (kMr g0) Y Z := z2.mono (fun c k z => by
          rcases z with z | z
          · exact Or.inl ⟨g, hg, by omega, z⟩
          · exact Or.inr z)
        have hbZ : Mb b n Z := hb.on oS (fun z => by have := kMr_r z; omega) (fun j z => by have := kMr_r z; omega)
        have hwZ : MW wd Z := fun k hk => by rw [oS 147 _ (fun z => by have := kMr_r z; omega)]; exact hw k hk
        have e : ps fr W n t = fr t := by unfold ps; rw [if_pos (by omega)]
        obtain ⟨V, v1, v2⟩ := ih t (g + 1) Z hvt (by have := hL.1; omega) (by omega) (by omega) hbZ hwZ z3
        refine ⟨V, ?_, On.trans oS v2⟩
        rw [z1, e]
        exact v1
      · refine ⟨Y, ?_, On.refl _⟩
        rw [F_Mo_laid_105, hb.2.1, if_neg (by rw [nI_leI (by omega) (by omega)]; omega), h56, if_neg (by rw [show (16 : Int32) = nI 16 from rfl, nI_eq (by omega) (by omega)]; exact c), m_ww (by omega) hT hn h10 (by omega) hb hw, bd_s, ← hww s (by omega), if_neg (by rw [nI_leI (by omega) (by omega)]; exact c2)]
        rfl
end Lines
